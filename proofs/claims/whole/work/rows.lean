section
/-- a private method of a class that the tables say can be made, by its rows of tables_1 -/
def lw_okq (q : MethodName × Nat) : Prop := (q.1.cls ≠ "java/lang/invoke/MethodHandle" ∧ q.1.cls ≠ "java/lang/invoke/VarHandle") ∧ Cond.instantiable q.1.cls q.2 ∈ tables_1 ∧ Cond.privateMethod q.1 ∈ tables_1 ∧ Cond.instanceMethod q.1 ∈ tables_1
theorem lw_p0 : lw_okq (⟨"DrainedForAThird$Fen", "rowOf", "(I)[I"⟩, 13) := ⟨⟨by decide +kernel, by decide +kernel⟩, List.mem_of_getElem? (i := 23) (by decide +kernel), List.mem_of_getElem? (i := 192) (by decide +kernel), List.mem_of_getElem? (i := 193) (by decide +kernel)⟩
theorem lw_p1 : lw_okq (⟨"DrainedForAThird$Fen", "draws", "(II)I"⟩, 13) := ⟨⟨by decide +kernel, by decide +kernel⟩, List.mem_of_getElem? (i := 23) (by decide +kernel), List.mem_of_getElem? (i := 220) (by decide +kernel), List.mem_of_getElem? (i := 221) (by decide +kernel)⟩
theorem lw_p2 : lw_okq (⟨"DrainedForAThird", "ruleOf", "(LDrainedForAThird$Fen;)LDrainedForAThird$Text;"⟩, 9) := ⟨⟨by decide +kernel, by decide +kernel⟩, List.mem_of_getElem? (i := 15) (by decide +kernel), List.mem_of_getElem? (i := 227) (by decide +kernel), List.mem_of_getElem? (i := 228) (by decide +kernel)⟩
theorem lw_p3 : lw_okq (⟨"DrainedForAThird$Fen", "named", "(III)I"⟩, 13) := ⟨⟨by decide +kernel, by decide +kernel⟩, List.mem_of_getElem? (i := 23) (by decide +kernel), List.mem_of_getElem? (i := 243) (by decide +kernel), List.mem_of_getElem? (i := 244) (by decide +kernel)⟩
theorem lw_p4 : lw_okq (⟨"DrainedForAThird$Reader", "next", "()V"⟩, 9) := ⟨⟨by decide +kernel, by decide +kernel⟩, List.mem_of_getElem? (i := 92) (by decide +kernel), List.mem_of_getElem? (i := 278) (by decide +kernel), List.mem_of_getElem? (i := 279) (by decide +kernel)⟩
theorem lw_p5 : lw_okq (⟨"DrainedForAThird$Reader", "nextWord", "()V"⟩, 9) := ⟨⟨by decide +kernel, by decide +kernel⟩, List.mem_of_getElem? (i := 92) (by decide +kernel), List.mem_of_getElem? (i := 285) (by decide +kernel), List.mem_of_getElem? (i := 286) (by decide +kernel)⟩
theorem lw_p6 : lw_okq (⟨"DrainedForAThird$Reader", "nextNumber", "()V"⟩, 9) := ⟨⟨by decide +kernel, by decide +kernel⟩, List.mem_of_getElem? (i := 92) (by decide +kernel), List.mem_of_getElem? (i := 355) (by decide +kernel), List.mem_of_getElem? (i := 356) (by decide +kernel)⟩
theorem lw_p7 : lw_okq (⟨"DrainedForAThird$Reader", "readPart", "(I)[I"⟩, 9) := ⟨⟨by decide +kernel, by decide +kernel⟩, List.mem_of_getElem? (i := 92) (by decide +kernel), List.mem_of_getElem? (i := 362) (by decide +kernel), List.mem_of_getElem? (i := 363) (by decide +kernel)⟩
theorem lw_p8 : lw_okq (⟨"DrainedForAThird$Reader", "expect", "(I)V"⟩, 9) := ⟨⟨by decide +kernel, by decide +kernel⟩, List.mem_of_getElem? (i := 92) (by decide +kernel), List.mem_of_getElem? (i := 366) (by decide +kernel), List.mem_of_getElem? (i := 367) (by decide +kernel)⟩
theorem lw_p9 : lw_okq (⟨"DrainedForAThird$Reader", "fail", "()V"⟩, 9) := ⟨⟨by decide +kernel, by decide +kernel⟩, List.mem_of_getElem? (i := 92) (by decide +kernel), List.mem_of_getElem? (i := 370) (by decide +kernel), List.mem_of_getElem? (i := 371) (by decide +kernel)⟩
theorem lw_p10 : lw_okq (⟨"DrainedForAThird$Reader", "readEither", "(I)V"⟩, 9) := ⟨⟨by decide +kernel, by decide +kernel⟩, List.mem_of_getElem? (i := 92) (by decide +kernel), List.mem_of_getElem? (i := 374) (by decide +kernel), List.mem_of_getElem? (i := 375) (by decide +kernel)⟩
theorem lw_p11 : lw_okq (⟨"DrainedForAThird$Reader", "readBoth", "(I)V"⟩, 9) := ⟨⟨by decide +kernel, by decide +kernel⟩, List.mem_of_getElem? (i := 92) (by decide +kernel), List.mem_of_getElem? (i := 378) (by decide +kernel), List.mem_of_getElem? (i := 379) (by decide +kernel)⟩
theorem lw_p12 : lw_okq (⟨"DrainedForAThird$Reader", "readNot", "(I)V"⟩, 9) := ⟨⟨by decide +kernel, by decide +kernel⟩, List.mem_of_getElem? (i := 92) (by decide +kernel), List.mem_of_getElem? (i := 382) (by decide +kernel), List.mem_of_getElem? (i := 383) (by decide +kernel)⟩
theorem lw_p13 : lw_okq (⟨"DrainedForAThird$Reader", "emit", "(I)V"⟩, 9) := ⟨⟨by decide +kernel, by decide +kernel⟩, List.mem_of_getElem? (i := 92) (by decide +kernel), List.mem_of_getElem? (i := 386) (by decide +kernel), List.mem_of_getElem? (i := 387) (by decide +kernel)⟩
theorem lw_p14 : lw_okq (⟨"DrainedForAThird$Reader", "readSum", "(I)V"⟩, 9) := ⟨⟨by decide +kernel, by decide +kernel⟩, List.mem_of_getElem? (i := 92) (by decide +kernel), List.mem_of_getElem? (i := 390) (by decide +kernel), List.mem_of_getElem? (i := 391) (by decide +kernel)⟩
theorem lw_p15 : lw_okq (⟨"DrainedForAThird$Reader", "readTerm", "(I)V"⟩, 9) := ⟨⟨by decide +kernel, by decide +kernel⟩, List.mem_of_getElem? (i := 92) (by decide +kernel), List.mem_of_getElem? (i := 394) (by decide +kernel), List.mem_of_getElem? (i := 395) (by decide +kernel)⟩
def lw_privs_1 : List (MethodName × Nat) := [(⟨"DrainedForAThird$Fen", "rowOf", "(I)[I"⟩, 13), (⟨"DrainedForAThird$Fen", "draws", "(II)I"⟩, 13), (⟨"DrainedForAThird", "ruleOf", "(LDrainedForAThird$Fen;)LDrainedForAThird$Text;"⟩, 9), (⟨"DrainedForAThird$Fen", "named", "(III)I"⟩, 13), (⟨"DrainedForAThird$Reader", "next", "()V"⟩, 9), (⟨"DrainedForAThird$Reader", "nextWord", "()V"⟩, 9), (⟨"DrainedForAThird$Reader", "nextNumber", "()V"⟩, 9), (⟨"DrainedForAThird$Reader", "readPart", "(I)[I"⟩, 9), (⟨"DrainedForAThird$Reader", "expect", "(I)V"⟩, 9), (⟨"DrainedForAThird$Reader", "fail", "()V"⟩, 9), (⟨"DrainedForAThird$Reader", "readEither", "(I)V"⟩, 9), (⟨"DrainedForAThird$Reader", "readBoth", "(I)V"⟩, 9), (⟨"DrainedForAThird$Reader", "readNot", "(I)V"⟩, 9), (⟨"DrainedForAThird$Reader", "emit", "(I)V"⟩, 9), (⟨"DrainedForAThird$Reader", "readSum", "(I)V"⟩, 9), (⟨"DrainedForAThird$Reader", "readTerm", "(I)V"⟩, 9)]
theorem lw_r1 : ∀ q ∈ lw_privs_1, lw_okq q := List.forall_mem_cons.mpr ⟨lw_p0, List.forall_mem_cons.mpr ⟨lw_p1, List.forall_mem_cons.mpr ⟨lw_p2, List.forall_mem_cons.mpr ⟨lw_p3, List.forall_mem_cons.mpr ⟨lw_p4, List.forall_mem_cons.mpr ⟨lw_p5, List.forall_mem_cons.mpr ⟨lw_p6, List.forall_mem_cons.mpr ⟨lw_p7, List.forall_mem_cons.mpr ⟨lw_p8, List.forall_mem_cons.mpr ⟨lw_p9, List.forall_mem_cons.mpr ⟨lw_p10, List.forall_mem_cons.mpr ⟨lw_p11, List.forall_mem_cons.mpr ⟨lw_p12, List.forall_mem_cons.mpr ⟨lw_p13, List.forall_mem_cons.mpr ⟨lw_p14, List.forall_mem_cons.mpr ⟨lw_p15, fun _ h => absurd h List.not_mem_nil⟩⟩⟩⟩⟩⟩⟩⟩⟩⟩⟩⟩⟩⟩⟩⟩
theorem lw_p16 : lw_okq (⟨"DrainedForAThird$Reader", "readOne", "(I)V"⟩, 9) := ⟨⟨by decide +kernel, by decide +kernel⟩, List.mem_of_getElem? (i := 92) (by decide +kernel), List.mem_of_getElem? (i := 398) (by decide +kernel), List.mem_of_getElem? (i := 399) (by decide +kernel)⟩
theorem lw_p17 : lw_okq (⟨"DrainedForAThird$Fen", "rain", "(LDrainedForAThird$Text;)V"⟩, 13) := ⟨⟨by decide +kernel, by decide +kernel⟩, List.mem_of_getElem? (i := 23) (by decide +kernel), List.mem_of_getElem? (i := 429) (by decide +kernel), List.mem_of_getElem? (i := 430) (by decide +kernel)⟩
theorem lw_p18 : lw_okq (⟨"DrainedForAThird$Fen", "pour", "(II)V"⟩, 13) := ⟨⟨by decide +kernel, by decide +kernel⟩, List.mem_of_getElem? (i := 23) (by decide +kernel), List.mem_of_getElem? (i := 433) (by decide +kernel), List.mem_of_getElem? (i := 434) (by decide +kernel)⟩
theorem lw_p19 : lw_okq (⟨"DrainedForAThird$Fen", "flow", "()V"⟩, 13) := ⟨⟨by decide +kernel, by decide +kernel⟩, List.mem_of_getElem? (i := 23) (by decide +kernel), List.mem_of_getElem? (i := 437) (by decide +kernel), List.mem_of_getElem? (i := 438) (by decide +kernel)⟩
theorem lw_p20 : lw_okq (⟨"DrainedForAThird$Fen", "heldCells", "()I"⟩, 13) := ⟨⟨by decide +kernel, by decide +kernel⟩, List.mem_of_getElem? (i := 23) (by decide +kernel), List.mem_of_getElem? (i := 441) (by decide +kernel), List.mem_of_getElem? (i := 442) (by decide +kernel)⟩
theorem lw_p21 : lw_okq (⟨"DrainedForAThird$Fen", "meetRiver", "(Z)V"⟩, 13) := ⟨⟨by decide +kernel, by decide +kernel⟩, List.mem_of_getElem? (i := 23) (by decide +kernel), List.mem_of_getElem? (i := 452) (by decide +kernel), List.mem_of_getElem? (i := 453) (by decide +kernel)⟩
theorem lw_p22 : lw_okq (⟨"DrainedForAThird$Fen", "drain", "(LDrainedForAThird$Text;)V"⟩, 13) := ⟨⟨by decide +kernel, by decide +kernel⟩, List.mem_of_getElem? (i := 23) (by decide +kernel), List.mem_of_getElem? (i := 456) (by decide +kernel), List.mem_of_getElem? (i := 457) (by decide +kernel)⟩
theorem lw_p23 : lw_okq (⟨"DrainedForAThird$Fen", "drawFrom", "(II)V"⟩, 13) := ⟨⟨by decide +kernel, by decide +kernel⟩, List.mem_of_getElem? (i := 23) (by decide +kernel), List.mem_of_getElem? (i := 460) (by decide +kernel), List.mem_of_getElem? (i := 461) (by decide +kernel)⟩
theorem lw_p24 : lw_okq (⟨"DrainedForAThird$Fen", "shrink", "(LDrainedForAThird$Text;)V"⟩, 13) := ⟨⟨by decide +kernel, by decide +kernel⟩, List.mem_of_getElem? (i := 23) (by decide +kernel), List.mem_of_getElem? (i := 468) (by decide +kernel), List.mem_of_getElem? (i := 469) (by decide +kernel)⟩
theorem lw_p25 : lw_okq (⟨"DrainedForAThird", "thinkYears", "(I)V"⟩, 9) := ⟨⟨by decide +kernel, by decide +kernel⟩, List.mem_of_getElem? (i := 15) (by decide +kernel), List.mem_of_getElem? (i := 492) (by decide +kernel), List.mem_of_getElem? (i := 493) (by decide +kernel)⟩
theorem lw_p26 : lw_okq (⟨"DrainedForAThird", "think", "()V"⟩, 9) := ⟨⟨by decide +kernel, by decide +kernel⟩, List.mem_of_getElem? (i := 15) (by decide +kernel), List.mem_of_getElem? (i := 496) (by decide +kernel), List.mem_of_getElem? (i := 497) (by decide +kernel)⟩
theorem lw_p27 : lw_okq (⟨"DrainedForAThird", "judged", "(I)I"⟩, 9) := ⟨⟨by decide +kernel, by decide +kernel⟩, List.mem_of_getElem? (i := 15) (by decide +kernel), List.mem_of_getElem? (i := 505) (by decide +kernel), List.mem_of_getElem? (i := 506) (by decide +kernel)⟩
theorem lw_p28 : lw_okq (⟨"DrainedForAThird", "mostDry", "(I)I"⟩, 9) := ⟨⟨by decide +kernel, by decide +kernel⟩, List.mem_of_getElem? (i := 15) (by decide +kernel), List.mem_of_getElem? (i := 509) (by decide +kernel), List.mem_of_getElem? (i := 510) (by decide +kernel)⟩
theorem lw_p29 : lw_okq (⟨"DrainedForAThird", "firstDried", "(II)I"⟩, 9) := ⟨⟨by decide +kernel, by decide +kernel⟩, List.mem_of_getElem? (i := 15) (by decide +kernel), List.mem_of_getElem? (i := 514) (by decide +kernel), List.mem_of_getElem? (i := 515) (by decide +kernel)⟩
theorem lw_p30 : lw_okq (⟨"DrainedForAThird", "keptYears", "(I)I"⟩, 9) := ⟨⟨by decide +kernel, by decide +kernel⟩, List.mem_of_getElem? (i := 15) (by decide +kernel), List.mem_of_getElem? (i := 518) (by decide +kernel), List.mem_of_getElem? (i := 519) (by decide +kernel)⟩
theorem lw_p31 : lw_okq (⟨"DrainedForAThird", "dryBehind", "(I)I"⟩, 9) := ⟨⟨by decide +kernel, by decide +kernel⟩, List.mem_of_getElem? (i := 15) (by decide +kernel), List.mem_of_getElem? (i := 530) (by decide +kernel), List.mem_of_getElem? (i := 531) (by decide +kernel)⟩
def lw_privs_2 : List (MethodName × Nat) := [(⟨"DrainedForAThird$Reader", "readOne", "(I)V"⟩, 9), (⟨"DrainedForAThird$Fen", "rain", "(LDrainedForAThird$Text;)V"⟩, 13), (⟨"DrainedForAThird$Fen", "pour", "(II)V"⟩, 13), (⟨"DrainedForAThird$Fen", "flow", "()V"⟩, 13), (⟨"DrainedForAThird$Fen", "heldCells", "()I"⟩, 13), (⟨"DrainedForAThird$Fen", "meetRiver", "(Z)V"⟩, 13), (⟨"DrainedForAThird$Fen", "drain", "(LDrainedForAThird$Text;)V"⟩, 13), (⟨"DrainedForAThird$Fen", "drawFrom", "(II)V"⟩, 13), (⟨"DrainedForAThird$Fen", "shrink", "(LDrainedForAThird$Text;)V"⟩, 13), (⟨"DrainedForAThird", "thinkYears", "(I)V"⟩, 9), (⟨"DrainedForAThird", "think", "()V"⟩, 9), (⟨"DrainedForAThird", "judged", "(I)I"⟩, 9), (⟨"DrainedForAThird", "mostDry", "(I)I"⟩, 9), (⟨"DrainedForAThird", "firstDried", "(II)I"⟩, 9), (⟨"DrainedForAThird", "keptYears", "(I)I"⟩, 9), (⟨"DrainedForAThird", "dryBehind", "(I)I"⟩, 9)]
theorem lw_r2 : ∀ q ∈ lw_privs_2, lw_okq q := List.forall_mem_cons.mpr ⟨lw_p16, List.forall_mem_cons.mpr ⟨lw_p17, List.forall_mem_cons.mpr ⟨lw_p18, List.forall_mem_cons.mpr ⟨lw_p19, List.forall_mem_cons.mpr ⟨lw_p20, List.forall_mem_cons.mpr ⟨lw_p21, List.forall_mem_cons.mpr ⟨lw_p22, List.forall_mem_cons.mpr ⟨lw_p23, List.forall_mem_cons.mpr ⟨lw_p24, List.forall_mem_cons.mpr ⟨lw_p25, List.forall_mem_cons.mpr ⟨lw_p26, List.forall_mem_cons.mpr ⟨lw_p27, List.forall_mem_cons.mpr ⟨lw_p28, List.forall_mem_cons.mpr ⟨lw_p29, List.forall_mem_cons.mpr ⟨lw_p30, List.forall_mem_cons.mpr ⟨lw_p31, fun _ h => absurd h List.not_mem_nil⟩⟩⟩⟩⟩⟩⟩⟩⟩⟩⟩⟩⟩⟩⟩⟩
theorem lw_p32 : lw_okq (⟨"DrainedForAThird", "dryWithout", "(II)I"⟩, 9) := ⟨⟨by decide +kernel, by decide +kernel⟩, List.mem_of_getElem? (i := 15) (by decide +kernel), List.mem_of_getElem? (i := 539) (by decide +kernel), List.mem_of_getElem? (i := 540) (by decide +kernel)⟩
theorem lw_p33 : lw_okq (⟨"DrainedForAThird", "isOfTells", "(I)Z"⟩, 9) := ⟨⟨by decide +kernel, by decide +kernel⟩, List.mem_of_getElem? (i := 15) (by decide +kernel), List.mem_of_getElem? (i := 559) (by decide +kernel), List.mem_of_getElem? (i := 560) (by decide +kernel)⟩
theorem lw_p34 : lw_okq (⟨"DrainedForAThird", "firstOther", "(IIII)I"⟩, 9) := ⟨⟨by decide +kernel, by decide +kernel⟩, List.mem_of_getElem? (i := 15) (by decide +kernel), List.mem_of_getElem? (i := 572) (by decide +kernel), List.mem_of_getElem? (i := 573) (by decide +kernel)⟩
theorem lw_p35 : lw_okq (⟨"DrainedForAThird", "fitting", "(IIII)I"⟩, 9) := ⟨⟨by decide +kernel, by decide +kernel⟩, List.mem_of_getElem? (i := 15) (by decide +kernel), List.mem_of_getElem? (i := 585) (by decide +kernel), List.mem_of_getElem? (i := 586) (by decide +kernel)⟩
theorem lw_p36 : lw_okq (⟨"DrainedForAThird", "fittingRivers", "(I)I"⟩, 9) := ⟨⟨by decide +kernel, by decide +kernel⟩, List.mem_of_getElem? (i := 15) (by decide +kernel), List.mem_of_getElem? (i := 589) (by decide +kernel), List.mem_of_getElem? (i := 590) (by decide +kernel)⟩
theorem lw_p37 : lw_okq (⟨"DrainedForAThird", "highestFittingRiver", "(I)I"⟩, 9) := ⟨⟨by decide +kernel, by decide +kernel⟩, List.mem_of_getElem? (i := 15) (by decide +kernel), List.mem_of_getElem? (i := 593) (by decide +kernel), List.mem_of_getElem? (i := 594) (by decide +kernel)⟩
theorem lw_p38 : lw_okq (⟨"DrainedForAThird", "dryDrawn", "(II)I"⟩, 9) := ⟨⟨by decide +kernel, by decide +kernel⟩, List.mem_of_getElem? (i := 15) (by decide +kernel), List.mem_of_getElem? (i := 619) (by decide +kernel), List.mem_of_getElem? (i := 620) (by decide +kernel)⟩
theorem lw_p39 : lw_okq (⟨"DrainedForAThird", "comes", "(II)Z"⟩, 9) := ⟨⟨by decide +kernel, by decide +kernel⟩, List.mem_of_getElem? (i := 15) (by decide +kernel), List.mem_of_getElem? (i := 687) (by decide +kernel), List.mem_of_getElem? (i := 688) (by decide +kernel)⟩
theorem lw_p40 : lw_okq (⟨"DrainedForAThirdModel", "spell", "(IIIIIIIII)V"⟩, 45) := ⟨⟨by decide +kernel, by decide +kernel⟩, List.mem_of_getElem? (i := 700) (by decide +kernel), List.mem_of_getElem? (i := 706) (by decide +kernel), List.mem_of_getElem? (i := 707) (by decide +kernel)⟩
theorem lw_p41 : lw_okq (⟨"DrainedForAThirdModel", "isOf", "(II)Z"⟩, 45) := ⟨⟨by decide +kernel, by decide +kernel⟩, List.mem_of_getElem? (i := 700) (by decide +kernel), List.mem_of_getElem? (i := 854) (by decide +kernel), List.mem_of_getElem? (i := 855) (by decide +kernel)⟩
theorem lw_p42 : lw_okq (⟨"DrainedForAThirdModel", "isWork", "(I)Z"⟩, 45) := ⟨⟨by decide +kernel, by decide +kernel⟩, List.mem_of_getElem? (i := 700) (by decide +kernel), List.mem_of_getElem? (i := 862) (by decide +kernel), List.mem_of_getElem? (i := 863) (by decide +kernel)⟩
theorem lw_p43 : lw_okq (⟨"DrainedForAThirdModel", "drawsOf", "(II)I"⟩, 45) := ⟨⟨by decide +kernel, by decide +kernel⟩, List.mem_of_getElem? (i := 700) (by decide +kernel), List.mem_of_getElem? (i := 874) (by decide +kernel), List.mem_of_getElem? (i := 875) (by decide +kernel)⟩
theorem lw_p44 : lw_okq (⟨"DrainedForAThirdModel", "costsOf", "(I)I"⟩, 45) := ⟨⟨by decide +kernel, by decide +kernel⟩, List.mem_of_getElem? (i := 700) (by decide +kernel), List.mem_of_getElem? (i := 878) (by decide +kernel), List.mem_of_getElem? (i := 879) (by decide +kernel)⟩
theorem lw_p45 : lw_okq (⟨"DrainedForAThirdModel", "says", "(III)I"⟩, 45) := ⟨⟨by decide +kernel, by decide +kernel⟩, List.mem_of_getElem? (i := 700) (by decide +kernel), List.mem_of_getElem? (i := 882) (by decide +kernel), List.mem_of_getElem? (i := 883) (by decide +kernel)⟩
theorem lw_p46 : lw_okq (⟨"DrainedForAThirdModel", "read", "(II)I"⟩, 45) := ⟨⟨by decide +kernel, by decide +kernel⟩, List.mem_of_getElem? (i := 700) (by decide +kernel), List.mem_of_getElem? (i := 886) (by decide +kernel), List.mem_of_getElem? (i := 887) (by decide +kernel)⟩
theorem lw_p47 : lw_okq (⟨"DrainedForAThirdModel", "next", "()V"⟩, 45) := ⟨⟨by decide +kernel, by decide +kernel⟩, List.mem_of_getElem? (i := 700) (by decide +kernel), List.mem_of_getElem? (i := 890) (by decide +kernel), List.mem_of_getElem? (i := 891) (by decide +kernel)⟩
def lw_privs_3 : List (MethodName × Nat) := [(⟨"DrainedForAThird", "dryWithout", "(II)I"⟩, 9), (⟨"DrainedForAThird", "isOfTells", "(I)Z"⟩, 9), (⟨"DrainedForAThird", "firstOther", "(IIII)I"⟩, 9), (⟨"DrainedForAThird", "fitting", "(IIII)I"⟩, 9), (⟨"DrainedForAThird", "fittingRivers", "(I)I"⟩, 9), (⟨"DrainedForAThird", "highestFittingRiver", "(I)I"⟩, 9), (⟨"DrainedForAThird", "dryDrawn", "(II)I"⟩, 9), (⟨"DrainedForAThird", "comes", "(II)Z"⟩, 9), (⟨"DrainedForAThirdModel", "spell", "(IIIIIIIII)V"⟩, 45), (⟨"DrainedForAThirdModel", "isOf", "(II)Z"⟩, 45), (⟨"DrainedForAThirdModel", "isWork", "(I)Z"⟩, 45), (⟨"DrainedForAThirdModel", "drawsOf", "(II)I"⟩, 45), (⟨"DrainedForAThirdModel", "costsOf", "(I)I"⟩, 45), (⟨"DrainedForAThirdModel", "says", "(III)I"⟩, 45), (⟨"DrainedForAThirdModel", "read", "(II)I"⟩, 45), (⟨"DrainedForAThirdModel", "next", "()V"⟩, 45)]
theorem lw_r3 : ∀ q ∈ lw_privs_3, lw_okq q := List.forall_mem_cons.mpr ⟨lw_p32, List.forall_mem_cons.mpr ⟨lw_p33, List.forall_mem_cons.mpr ⟨lw_p34, List.forall_mem_cons.mpr ⟨lw_p35, List.forall_mem_cons.mpr ⟨lw_p36, List.forall_mem_cons.mpr ⟨lw_p37, List.forall_mem_cons.mpr ⟨lw_p38, List.forall_mem_cons.mpr ⟨lw_p39, List.forall_mem_cons.mpr ⟨lw_p40, List.forall_mem_cons.mpr ⟨lw_p41, List.forall_mem_cons.mpr ⟨lw_p42, List.forall_mem_cons.mpr ⟨lw_p43, List.forall_mem_cons.mpr ⟨lw_p44, List.forall_mem_cons.mpr ⟨lw_p45, List.forall_mem_cons.mpr ⟨lw_p46, List.forall_mem_cons.mpr ⟨lw_p47, fun _ h => absurd h List.not_mem_nil⟩⟩⟩⟩⟩⟩⟩⟩⟩⟩⟩⟩⟩⟩⟩⟩
theorem lw_p48 : lw_okq (⟨"DrainedForAThirdModel", "byteAt", "(I)I"⟩, 45) := ⟨⟨by decide +kernel, by decide +kernel⟩, List.mem_of_getElem? (i := 700) (by decide +kernel), List.mem_of_getElem? (i := 894) (by decide +kernel), List.mem_of_getElem? (i := 895) (by decide +kernel)⟩
theorem lw_p49 : lw_okq (⟨"DrainedForAThirdModel", "isWord", "(IIIIIIII)Z"⟩, 45) := ⟨⟨by decide +kernel, by decide +kernel⟩, List.mem_of_getElem? (i := 700) (by decide +kernel), List.mem_of_getElem? (i := 902) (by decide +kernel), List.mem_of_getElem? (i := 903) (by decide +kernel)⟩
theorem lw_p50 : lw_okq (⟨"DrainedForAThirdModel", "isLetter", "(II)Z"⟩, 45) := ⟨⟨by decide +kernel, by decide +kernel⟩, List.mem_of_getElem? (i := 700) (by decide +kernel), List.mem_of_getElem? (i := 906) (by decide +kernel), List.mem_of_getElem? (i := 907) (by decide +kernel)⟩
theorem lw_p51 : lw_okq (⟨"DrainedForAThirdModel", "part", "(Z)I"⟩, 45) := ⟨⟨by decide +kernel, by decide +kernel⟩, List.mem_of_getElem? (i := 700) (by decide +kernel), List.mem_of_getElem? (i := 910) (by decide +kernel), List.mem_of_getElem? (i := 911) (by decide +kernel)⟩
theorem lw_p52 : lw_okq (⟨"DrainedForAThirdModel", "fail", "()V"⟩, 45) := ⟨⟨by decide +kernel, by decide +kernel⟩, List.mem_of_getElem? (i := 700) (by decide +kernel), List.mem_of_getElem? (i := 914) (by decide +kernel), List.mem_of_getElem? (i := 915) (by decide +kernel)⟩
theorem lw_p53 : lw_okq (⟨"DrainedForAThirdModel", "either0", "()I"⟩, 45) := ⟨⟨by decide +kernel, by decide +kernel⟩, List.mem_of_getElem? (i := 700) (by decide +kernel), List.mem_of_getElem? (i := 918) (by decide +kernel), List.mem_of_getElem? (i := 919) (by decide +kernel)⟩
theorem lw_p54 : lw_okq (⟨"DrainedForAThirdModel", "both0", "()I"⟩, 45) := ⟨⟨by decide +kernel, by decide +kernel⟩, List.mem_of_getElem? (i := 700) (by decide +kernel), List.mem_of_getElem? (i := 922) (by decide +kernel), List.mem_of_getElem? (i := 923) (by decide +kernel)⟩
theorem lw_p55 : lw_okq (⟨"DrainedForAThirdModel", "not0", "()I"⟩, 45) := ⟨⟨by decide +kernel, by decide +kernel⟩, List.mem_of_getElem? (i := 700) (by decide +kernel), List.mem_of_getElem? (i := 926) (by decide +kernel), List.mem_of_getElem? (i := 927) (by decide +kernel)⟩
theorem lw_p56 : lw_okq (⟨"DrainedForAThirdModel", "opens", "()Z"⟩, 45) := ⟨⟨by decide +kernel, by decide +kernel⟩, List.mem_of_getElem? (i := 700) (by decide +kernel), List.mem_of_getElem? (i := 930) (by decide +kernel), List.mem_of_getElem? (i := 931) (by decide +kernel)⟩
theorem lw_p57 : lw_okq (⟨"DrainedForAThirdModel", "not1", "()I"⟩, 45) := ⟨⟨by decide +kernel, by decide +kernel⟩, List.mem_of_getElem? (i := 700) (by decide +kernel), List.mem_of_getElem? (i := 934) (by decide +kernel), List.mem_of_getElem? (i := 935) (by decide +kernel)⟩
theorem lw_p58 : lw_okq (⟨"DrainedForAThirdModel", "not2", "()I"⟩, 45) := ⟨⟨by decide +kernel, by decide +kernel⟩, List.mem_of_getElem? (i := 700) (by decide +kernel), List.mem_of_getElem? (i := 938) (by decide +kernel), List.mem_of_getElem? (i := 939) (by decide +kernel)⟩
theorem lw_p59 : lw_okq (⟨"DrainedForAThirdModel", "not3", "()I"⟩, 45) := ⟨⟨by decide +kernel, by decide +kernel⟩, List.mem_of_getElem? (i := 700) (by decide +kernel), List.mem_of_getElem? (i := 942) (by decide +kernel), List.mem_of_getElem? (i := 943) (by decide +kernel)⟩
theorem lw_p60 : lw_okq (⟨"DrainedForAThirdModel", "not4", "()I"⟩, 45) := ⟨⟨by decide +kernel, by decide +kernel⟩, List.mem_of_getElem? (i := 700) (by decide +kernel), List.mem_of_getElem? (i := 946) (by decide +kernel), List.mem_of_getElem? (i := 947) (by decide +kernel)⟩
theorem lw_p61 : lw_okq (⟨"DrainedForAThirdModel", "not5", "()I"⟩, 45) := ⟨⟨by decide +kernel, by decide +kernel⟩, List.mem_of_getElem? (i := 700) (by decide +kernel), List.mem_of_getElem? (i := 950) (by decide +kernel), List.mem_of_getElem? (i := 951) (by decide +kernel)⟩
theorem lw_p62 : lw_okq (⟨"DrainedForAThirdModel", "added5", "()I"⟩, 45) := ⟨⟨by decide +kernel, by decide +kernel⟩, List.mem_of_getElem? (i := 700) (by decide +kernel), List.mem_of_getElem? (i := 954) (by decide +kernel), List.mem_of_getElem? (i := 955) (by decide +kernel)⟩
theorem lw_p63 : lw_okq (⟨"DrainedForAThirdModel", "term5", "()I"⟩, 45) := ⟨⟨by decide +kernel, by decide +kernel⟩, List.mem_of_getElem? (i := 700) (by decide +kernel), List.mem_of_getElem? (i := 958) (by decide +kernel), List.mem_of_getElem? (i := 959) (by decide +kernel)⟩
def lw_privs_4 : List (MethodName × Nat) := [(⟨"DrainedForAThirdModel", "byteAt", "(I)I"⟩, 45), (⟨"DrainedForAThirdModel", "isWord", "(IIIIIIII)Z"⟩, 45), (⟨"DrainedForAThirdModel", "isLetter", "(II)Z"⟩, 45), (⟨"DrainedForAThirdModel", "part", "(Z)I"⟩, 45), (⟨"DrainedForAThirdModel", "fail", "()V"⟩, 45), (⟨"DrainedForAThirdModel", "either0", "()I"⟩, 45), (⟨"DrainedForAThirdModel", "both0", "()I"⟩, 45), (⟨"DrainedForAThirdModel", "not0", "()I"⟩, 45), (⟨"DrainedForAThirdModel", "opens", "()Z"⟩, 45), (⟨"DrainedForAThirdModel", "not1", "()I"⟩, 45), (⟨"DrainedForAThirdModel", "not2", "()I"⟩, 45), (⟨"DrainedForAThirdModel", "not3", "()I"⟩, 45), (⟨"DrainedForAThirdModel", "not4", "()I"⟩, 45), (⟨"DrainedForAThirdModel", "not5", "()I"⟩, 45), (⟨"DrainedForAThirdModel", "added5", "()I"⟩, 45), (⟨"DrainedForAThirdModel", "term5", "()I"⟩, 45)]
theorem lw_r4 : ∀ q ∈ lw_privs_4, lw_okq q := List.forall_mem_cons.mpr ⟨lw_p48, List.forall_mem_cons.mpr ⟨lw_p49, List.forall_mem_cons.mpr ⟨lw_p50, List.forall_mem_cons.mpr ⟨lw_p51, List.forall_mem_cons.mpr ⟨lw_p52, List.forall_mem_cons.mpr ⟨lw_p53, List.forall_mem_cons.mpr ⟨lw_p54, List.forall_mem_cons.mpr ⟨lw_p55, List.forall_mem_cons.mpr ⟨lw_p56, List.forall_mem_cons.mpr ⟨lw_p57, List.forall_mem_cons.mpr ⟨lw_p58, List.forall_mem_cons.mpr ⟨lw_p59, List.forall_mem_cons.mpr ⟨lw_p60, List.forall_mem_cons.mpr ⟨lw_p61, List.forall_mem_cons.mpr ⟨lw_p62, List.forall_mem_cons.mpr ⟨lw_p63, fun _ h => absurd h List.not_mem_nil⟩⟩⟩⟩⟩⟩⟩⟩⟩⟩⟩⟩⟩⟩⟩⟩
theorem lw_p64 : lw_okq (⟨"DrainedForAThirdModel", "atom5", "()I"⟩, 45) := ⟨⟨by decide +kernel, by decide +kernel⟩, List.mem_of_getElem? (i := 700) (by decide +kernel), List.mem_of_getElem? (i := 962) (by decide +kernel), List.mem_of_getElem? (i := 963) (by decide +kernel)⟩
theorem lw_p65 : lw_okq (⟨"DrainedForAThirdModel", "isSign", "(I)Z"⟩, 45) := ⟨⟨by decide +kernel, by decide +kernel⟩, List.mem_of_getElem? (i := 700) (by decide +kernel), List.mem_of_getElem? (i := 966) (by decide +kernel), List.mem_of_getElem? (i := 967) (by decide +kernel)⟩
theorem lw_p66 : lw_okq (⟨"DrainedForAThirdModel", "name", "()I"⟩, 45) := ⟨⟨by decide +kernel, by decide +kernel⟩, List.mem_of_getElem? (i := 700) (by decide +kernel), List.mem_of_getElem? (i := 970) (by decide +kernel), List.mem_of_getElem? (i := 971) (by decide +kernel)⟩
theorem lw_p67 : lw_okq (⟨"DrainedForAThirdModel", "added4", "()I"⟩, 45) := ⟨⟨by decide +kernel, by decide +kernel⟩, List.mem_of_getElem? (i := 700) (by decide +kernel), List.mem_of_getElem? (i := 976) (by decide +kernel), List.mem_of_getElem? (i := 977) (by decide +kernel)⟩
theorem lw_p68 : lw_okq (⟨"DrainedForAThirdModel", "term4", "()I"⟩, 45) := ⟨⟨by decide +kernel, by decide +kernel⟩, List.mem_of_getElem? (i := 700) (by decide +kernel), List.mem_of_getElem? (i := 980) (by decide +kernel), List.mem_of_getElem? (i := 981) (by decide +kernel)⟩
theorem lw_p69 : lw_okq (⟨"DrainedForAThirdModel", "atom4", "()I"⟩, 45) := ⟨⟨by decide +kernel, by decide +kernel⟩, List.mem_of_getElem? (i := 700) (by decide +kernel), List.mem_of_getElem? (i := 984) (by decide +kernel), List.mem_of_getElem? (i := 985) (by decide +kernel)⟩
theorem lw_p70 : lw_okq (⟨"DrainedForAThirdModel", "either5", "()I"⟩, 45) := ⟨⟨by decide +kernel, by decide +kernel⟩, List.mem_of_getElem? (i := 700) (by decide +kernel), List.mem_of_getElem? (i := 988) (by decide +kernel), List.mem_of_getElem? (i := 989) (by decide +kernel)⟩
theorem lw_p71 : lw_okq (⟨"DrainedForAThirdModel", "both5", "()I"⟩, 45) := ⟨⟨by decide +kernel, by decide +kernel⟩, List.mem_of_getElem? (i := 700) (by decide +kernel), List.mem_of_getElem? (i := 992) (by decide +kernel), List.mem_of_getElem? (i := 993) (by decide +kernel)⟩
theorem lw_p72 : lw_okq (⟨"DrainedForAThirdModel", "added3", "()I"⟩, 45) := ⟨⟨by decide +kernel, by decide +kernel⟩, List.mem_of_getElem? (i := 700) (by decide +kernel), List.mem_of_getElem? (i := 996) (by decide +kernel), List.mem_of_getElem? (i := 997) (by decide +kernel)⟩
theorem lw_p73 : lw_okq (⟨"DrainedForAThirdModel", "term3", "()I"⟩, 45) := ⟨⟨by decide +kernel, by decide +kernel⟩, List.mem_of_getElem? (i := 700) (by decide +kernel), List.mem_of_getElem? (i := 1000) (by decide +kernel), List.mem_of_getElem? (i := 1001) (by decide +kernel)⟩
theorem lw_p74 : lw_okq (⟨"DrainedForAThirdModel", "atom3", "()I"⟩, 45) := ⟨⟨by decide +kernel, by decide +kernel⟩, List.mem_of_getElem? (i := 700) (by decide +kernel), List.mem_of_getElem? (i := 1004) (by decide +kernel), List.mem_of_getElem? (i := 1005) (by decide +kernel)⟩
theorem lw_p75 : lw_okq (⟨"DrainedForAThirdModel", "either4", "()I"⟩, 45) := ⟨⟨by decide +kernel, by decide +kernel⟩, List.mem_of_getElem? (i := 700) (by decide +kernel), List.mem_of_getElem? (i := 1008) (by decide +kernel), List.mem_of_getElem? (i := 1009) (by decide +kernel)⟩
theorem lw_p76 : lw_okq (⟨"DrainedForAThirdModel", "both4", "()I"⟩, 45) := ⟨⟨by decide +kernel, by decide +kernel⟩, List.mem_of_getElem? (i := 700) (by decide +kernel), List.mem_of_getElem? (i := 1012) (by decide +kernel), List.mem_of_getElem? (i := 1013) (by decide +kernel)⟩
theorem lw_p77 : lw_okq (⟨"DrainedForAThirdModel", "added2", "()I"⟩, 45) := ⟨⟨by decide +kernel, by decide +kernel⟩, List.mem_of_getElem? (i := 700) (by decide +kernel), List.mem_of_getElem? (i := 1016) (by decide +kernel), List.mem_of_getElem? (i := 1017) (by decide +kernel)⟩
theorem lw_p78 : lw_okq (⟨"DrainedForAThirdModel", "term2", "()I"⟩, 45) := ⟨⟨by decide +kernel, by decide +kernel⟩, List.mem_of_getElem? (i := 700) (by decide +kernel), List.mem_of_getElem? (i := 1020) (by decide +kernel), List.mem_of_getElem? (i := 1021) (by decide +kernel)⟩
theorem lw_p79 : lw_okq (⟨"DrainedForAThirdModel", "atom2", "()I"⟩, 45) := ⟨⟨by decide +kernel, by decide +kernel⟩, List.mem_of_getElem? (i := 700) (by decide +kernel), List.mem_of_getElem? (i := 1024) (by decide +kernel), List.mem_of_getElem? (i := 1025) (by decide +kernel)⟩
def lw_privs_5 : List (MethodName × Nat) := [(⟨"DrainedForAThirdModel", "atom5", "()I"⟩, 45), (⟨"DrainedForAThirdModel", "isSign", "(I)Z"⟩, 45), (⟨"DrainedForAThirdModel", "name", "()I"⟩, 45), (⟨"DrainedForAThirdModel", "added4", "()I"⟩, 45), (⟨"DrainedForAThirdModel", "term4", "()I"⟩, 45), (⟨"DrainedForAThirdModel", "atom4", "()I"⟩, 45), (⟨"DrainedForAThirdModel", "either5", "()I"⟩, 45), (⟨"DrainedForAThirdModel", "both5", "()I"⟩, 45), (⟨"DrainedForAThirdModel", "added3", "()I"⟩, 45), (⟨"DrainedForAThirdModel", "term3", "()I"⟩, 45), (⟨"DrainedForAThirdModel", "atom3", "()I"⟩, 45), (⟨"DrainedForAThirdModel", "either4", "()I"⟩, 45), (⟨"DrainedForAThirdModel", "both4", "()I"⟩, 45), (⟨"DrainedForAThirdModel", "added2", "()I"⟩, 45), (⟨"DrainedForAThirdModel", "term2", "()I"⟩, 45), (⟨"DrainedForAThirdModel", "atom2", "()I"⟩, 45)]
theorem lw_r5 : ∀ q ∈ lw_privs_5, lw_okq q := List.forall_mem_cons.mpr ⟨lw_p64, List.forall_mem_cons.mpr ⟨lw_p65, List.forall_mem_cons.mpr ⟨lw_p66, List.forall_mem_cons.mpr ⟨lw_p67, List.forall_mem_cons.mpr ⟨lw_p68, List.forall_mem_cons.mpr ⟨lw_p69, List.forall_mem_cons.mpr ⟨lw_p70, List.forall_mem_cons.mpr ⟨lw_p71, List.forall_mem_cons.mpr ⟨lw_p72, List.forall_mem_cons.mpr ⟨lw_p73, List.forall_mem_cons.mpr ⟨lw_p74, List.forall_mem_cons.mpr ⟨lw_p75, List.forall_mem_cons.mpr ⟨lw_p76, List.forall_mem_cons.mpr ⟨lw_p77, List.forall_mem_cons.mpr ⟨lw_p78, List.forall_mem_cons.mpr ⟨lw_p79, fun _ h => absurd h List.not_mem_nil⟩⟩⟩⟩⟩⟩⟩⟩⟩⟩⟩⟩⟩⟩⟩⟩
theorem lw_p80 : lw_okq (⟨"DrainedForAThirdModel", "either3", "()I"⟩, 45) := ⟨⟨by decide +kernel, by decide +kernel⟩, List.mem_of_getElem? (i := 700) (by decide +kernel), List.mem_of_getElem? (i := 1028) (by decide +kernel), List.mem_of_getElem? (i := 1029) (by decide +kernel)⟩
theorem lw_p81 : lw_okq (⟨"DrainedForAThirdModel", "both3", "()I"⟩, 45) := ⟨⟨by decide +kernel, by decide +kernel⟩, List.mem_of_getElem? (i := 700) (by decide +kernel), List.mem_of_getElem? (i := 1032) (by decide +kernel), List.mem_of_getElem? (i := 1033) (by decide +kernel)⟩
theorem lw_p82 : lw_okq (⟨"DrainedForAThirdModel", "added1", "()I"⟩, 45) := ⟨⟨by decide +kernel, by decide +kernel⟩, List.mem_of_getElem? (i := 700) (by decide +kernel), List.mem_of_getElem? (i := 1036) (by decide +kernel), List.mem_of_getElem? (i := 1037) (by decide +kernel)⟩
theorem lw_p83 : lw_okq (⟨"DrainedForAThirdModel", "term1", "()I"⟩, 45) := ⟨⟨by decide +kernel, by decide +kernel⟩, List.mem_of_getElem? (i := 700) (by decide +kernel), List.mem_of_getElem? (i := 1040) (by decide +kernel), List.mem_of_getElem? (i := 1041) (by decide +kernel)⟩
theorem lw_p84 : lw_okq (⟨"DrainedForAThirdModel", "atom1", "()I"⟩, 45) := ⟨⟨by decide +kernel, by decide +kernel⟩, List.mem_of_getElem? (i := 700) (by decide +kernel), List.mem_of_getElem? (i := 1044) (by decide +kernel), List.mem_of_getElem? (i := 1045) (by decide +kernel)⟩
theorem lw_p85 : lw_okq (⟨"DrainedForAThirdModel", "either2", "()I"⟩, 45) := ⟨⟨by decide +kernel, by decide +kernel⟩, List.mem_of_getElem? (i := 700) (by decide +kernel), List.mem_of_getElem? (i := 1048) (by decide +kernel), List.mem_of_getElem? (i := 1049) (by decide +kernel)⟩
theorem lw_p86 : lw_okq (⟨"DrainedForAThirdModel", "both2", "()I"⟩, 45) := ⟨⟨by decide +kernel, by decide +kernel⟩, List.mem_of_getElem? (i := 700) (by decide +kernel), List.mem_of_getElem? (i := 1052) (by decide +kernel), List.mem_of_getElem? (i := 1053) (by decide +kernel)⟩
theorem lw_p87 : lw_okq (⟨"DrainedForAThirdModel", "added0", "()I"⟩, 45) := ⟨⟨by decide +kernel, by decide +kernel⟩, List.mem_of_getElem? (i := 700) (by decide +kernel), List.mem_of_getElem? (i := 1056) (by decide +kernel), List.mem_of_getElem? (i := 1057) (by decide +kernel)⟩
theorem lw_p88 : lw_okq (⟨"DrainedForAThirdModel", "term0", "()I"⟩, 45) := ⟨⟨by decide +kernel, by decide +kernel⟩, List.mem_of_getElem? (i := 700) (by decide +kernel), List.mem_of_getElem? (i := 1060) (by decide +kernel), List.mem_of_getElem? (i := 1061) (by decide +kernel)⟩
theorem lw_p89 : lw_okq (⟨"DrainedForAThirdModel", "atom0", "()I"⟩, 45) := ⟨⟨by decide +kernel, by decide +kernel⟩, List.mem_of_getElem? (i := 700) (by decide +kernel), List.mem_of_getElem? (i := 1064) (by decide +kernel), List.mem_of_getElem? (i := 1065) (by decide +kernel)⟩
theorem lw_p90 : lw_okq (⟨"DrainedForAThirdModel", "either1", "()I"⟩, 45) := ⟨⟨by decide +kernel, by decide +kernel⟩, List.mem_of_getElem? (i := 700) (by decide +kernel), List.mem_of_getElem? (i := 1068) (by decide +kernel), List.mem_of_getElem? (i := 1069) (by decide +kernel)⟩
theorem lw_p91 : lw_okq (⟨"DrainedForAThirdModel", "both1", "()I"⟩, 45) := ⟨⟨by decide +kernel, by decide +kernel⟩, List.mem_of_getElem? (i := 700) (by decide +kernel), List.mem_of_getElem? (i := 1072) (by decide +kernel), List.mem_of_getElem? (i := 1073) (by decide +kernel)⟩
theorem lw_p92 : lw_okq (⟨"DrainedForAThirdModel", "lays", "(III)V"⟩, 45) := ⟨⟨by decide +kernel, by decide +kernel⟩, List.mem_of_getElem? (i := 700) (by decide +kernel), List.mem_of_getElem? (i := 1079) (by decide +kernel), List.mem_of_getElem? (i := 1080) (by decide +kernel)⟩
theorem lw_p93 : lw_okq (⟨"DrainedForAThirdModel", "comes", "(III)V"⟩, 45) := ⟨⟨by decide +kernel, by decide +kernel⟩, List.mem_of_getElem? (i := 700) (by decide +kernel), List.mem_of_getElem? (i := 1089) (by decide +kernel), List.mem_of_getElem? (i := 1090) (by decide +kernel)⟩
theorem lw_p94 : lw_okq (⟨"DrainedForAThirdModel", "standOn", "(I)I"⟩, 45) := ⟨⟨by decide +kernel, by decide +kernel⟩, List.mem_of_getElem? (i := 700) (by decide +kernel), List.mem_of_getElem? (i := 1111) (by decide +kernel), List.mem_of_getElem? (i := 1112) (by decide +kernel)⟩
theorem lw_p95 : lw_okq (⟨"DrainedForAThirdModel", "lives", "()V"⟩, 45) := ⟨⟨by decide +kernel, by decide +kernel⟩, List.mem_of_getElem? (i := 700) (by decide +kernel), List.mem_of_getElem? (i := 1119) (by decide +kernel), List.mem_of_getElem? (i := 1120) (by decide +kernel)⟩
def lw_privs_6 : List (MethodName × Nat) := [(⟨"DrainedForAThirdModel", "either3", "()I"⟩, 45), (⟨"DrainedForAThirdModel", "both3", "()I"⟩, 45), (⟨"DrainedForAThirdModel", "added1", "()I"⟩, 45), (⟨"DrainedForAThirdModel", "term1", "()I"⟩, 45), (⟨"DrainedForAThirdModel", "atom1", "()I"⟩, 45), (⟨"DrainedForAThirdModel", "either2", "()I"⟩, 45), (⟨"DrainedForAThirdModel", "both2", "()I"⟩, 45), (⟨"DrainedForAThirdModel", "added0", "()I"⟩, 45), (⟨"DrainedForAThirdModel", "term0", "()I"⟩, 45), (⟨"DrainedForAThirdModel", "atom0", "()I"⟩, 45), (⟨"DrainedForAThirdModel", "either1", "()I"⟩, 45), (⟨"DrainedForAThirdModel", "both1", "()I"⟩, 45), (⟨"DrainedForAThirdModel", "lays", "(III)V"⟩, 45), (⟨"DrainedForAThirdModel", "comes", "(III)V"⟩, 45), (⟨"DrainedForAThirdModel", "standOn", "(I)I"⟩, 45), (⟨"DrainedForAThirdModel", "lives", "()V"⟩, 45)]
theorem lw_r6 : ∀ q ∈ lw_privs_6, lw_okq q := List.forall_mem_cons.mpr ⟨lw_p80, List.forall_mem_cons.mpr ⟨lw_p81, List.forall_mem_cons.mpr ⟨lw_p82, List.forall_mem_cons.mpr ⟨lw_p83, List.forall_mem_cons.mpr ⟨lw_p84, List.forall_mem_cons.mpr ⟨lw_p85, List.forall_mem_cons.mpr ⟨lw_p86, List.forall_mem_cons.mpr ⟨lw_p87, List.forall_mem_cons.mpr ⟨lw_p88, List.forall_mem_cons.mpr ⟨lw_p89, List.forall_mem_cons.mpr ⟨lw_p90, List.forall_mem_cons.mpr ⟨lw_p91, List.forall_mem_cons.mpr ⟨lw_p92, List.forall_mem_cons.mpr ⟨lw_p93, List.forall_mem_cons.mpr ⟨lw_p94, List.forall_mem_cons.mpr ⟨lw_p95, fun _ h => absurd h List.not_mem_nil⟩⟩⟩⟩⟩⟩⟩⟩⟩⟩⟩⟩⟩⟩⟩⟩
theorem lw_p96 : lw_okq (⟨"DrainedForAThirdModel", "adds", "(II)V"⟩, 45) := ⟨⟨by decide +kernel, by decide +kernel⟩, List.mem_of_getElem? (i := 700) (by decide +kernel), List.mem_of_getElem? (i := 1123) (by decide +kernel), List.mem_of_getElem? (i := 1124) (by decide +kernel)⟩
theorem lw_p97 : lw_okq (⟨"DrainedForAThirdModel", "levelOf", "(I)I"⟩, 45) := ⟨⟨by decide +kernel, by decide +kernel⟩, List.mem_of_getElem? (i := 700) (by decide +kernel), List.mem_of_getElem? (i := 1127) (by decide +kernel), List.mem_of_getElem? (i := 1128) (by decide +kernel)⟩
theorem lw_p98 : lw_okq (⟨"DrainedForAThirdModel", "isHeld", "(I)Z"⟩, 45) := ⟨⟨by decide +kernel, by decide +kernel⟩, List.mem_of_getElem? (i := 700) (by decide +kernel), List.mem_of_getElem? (i := 1131) (by decide +kernel), List.mem_of_getElem? (i := 1132) (by decide +kernel)⟩
theorem lw_p99 : lw_okq (⟨"DrainedForAThirdModel", "draws", "(II)V"⟩, 45) := ⟨⟨by decide +kernel, by decide +kernel⟩, List.mem_of_getElem? (i := 700) (by decide +kernel), List.mem_of_getElem? (i := 1135) (by decide +kernel), List.mem_of_getElem? (i := 1136) (by decide +kernel)⟩
theorem lw_p100 : lw_okq (⟨"DrainedForAThirdModel", "drySet", "()I"⟩, 45) := ⟨⟨by decide +kernel, by decide +kernel⟩, List.mem_of_getElem? (i := 700) (by decide +kernel), List.mem_of_getElem? (i := 1139) (by decide +kernel), List.mem_of_getElem? (i := 1140) (by decide +kernel)⟩
theorem lw_p101 : lw_okq (⟨"DrainedForAThirdModel", "runs", "(IZI)V"⟩, 45) := ⟨⟨by decide +kernel, by decide +kernel⟩, List.mem_of_getElem? (i := 700) (by decide +kernel), List.mem_of_getElem? (i := 1153) (by decide +kernel), List.mem_of_getElem? (i := 1154) (by decide +kernel)⟩
theorem lw_p102 : lw_okq (⟨"DrainedForAThirdModel", "judged", "(I)I"⟩, 45) := ⟨⟨by decide +kernel, by decide +kernel⟩, List.mem_of_getElem? (i := 700) (by decide +kernel), List.mem_of_getElem? (i := 1158) (by decide +kernel), List.mem_of_getElem? (i := 1159) (by decide +kernel)⟩
theorem lw_p103 : lw_okq (⟨"DrainedForAThirdModel", "kept", "(I)I"⟩, 45) := ⟨⟨by decide +kernel, by decide +kernel⟩, List.mem_of_getElem? (i := 700) (by decide +kernel), List.mem_of_getElem? (i := 1162) (by decide +kernel), List.mem_of_getElem? (i := 1163) (by decide +kernel)⟩
theorem lw_p104 : lw_okq (⟨"DrainedForAThirdModel", "dryBehind", "(I)I"⟩, 45) := ⟨⟨by decide +kernel, by decide +kernel⟩, List.mem_of_getElem? (i := 700) (by decide +kernel), List.mem_of_getElem? (i := 1176) (by decide +kernel), List.mem_of_getElem? (i := 1177) (by decide +kernel)⟩
theorem lw_p105 : lw_okq (⟨"DrainedForAThirdModel", "dryWithout", "(II)I"⟩, 45) := ⟨⟨by decide +kernel, by decide +kernel⟩, List.mem_of_getElem? (i := 700) (by decide +kernel), List.mem_of_getElem? (i := 1184) (by decide +kernel), List.mem_of_getElem? (i := 1185) (by decide +kernel)⟩
theorem lw_p106 : lw_okq (⟨"DrainedForAThirdModel", "firstOther", "(I)I"⟩, 45) := ⟨⟨by decide +kernel, by decide +kernel⟩, List.mem_of_getElem? (i := 700) (by decide +kernel), List.mem_of_getElem? (i := 1204) (by decide +kernel), List.mem_of_getElem? (i := 1205) (by decide +kernel)⟩
theorem lw_p107 : lw_okq (⟨"DrainedForAThirdModel", "dryBy", "(II)I"⟩, 45) := ⟨⟨by decide +kernel, by decide +kernel⟩, List.mem_of_getElem? (i := 700) (by decide +kernel), List.mem_of_getElem? (i := 1222) (by decide +kernel), List.mem_of_getElem? (i := 1223) (by decide +kernel)⟩
def lw_privs_7 : List (MethodName × Nat) := [(⟨"DrainedForAThirdModel", "adds", "(II)V"⟩, 45), (⟨"DrainedForAThirdModel", "levelOf", "(I)I"⟩, 45), (⟨"DrainedForAThirdModel", "isHeld", "(I)Z"⟩, 45), (⟨"DrainedForAThirdModel", "draws", "(II)V"⟩, 45), (⟨"DrainedForAThirdModel", "drySet", "()I"⟩, 45), (⟨"DrainedForAThirdModel", "runs", "(IZI)V"⟩, 45), (⟨"DrainedForAThirdModel", "judged", "(I)I"⟩, 45), (⟨"DrainedForAThirdModel", "kept", "(I)I"⟩, 45), (⟨"DrainedForAThirdModel", "dryBehind", "(I)I"⟩, 45), (⟨"DrainedForAThirdModel", "dryWithout", "(II)I"⟩, 45), (⟨"DrainedForAThirdModel", "firstOther", "(I)I"⟩, 45), (⟨"DrainedForAThirdModel", "dryBy", "(II)I"⟩, 45)]
theorem lw_r7 : ∀ q ∈ lw_privs_7, lw_okq q := List.forall_mem_cons.mpr ⟨lw_p96, List.forall_mem_cons.mpr ⟨lw_p97, List.forall_mem_cons.mpr ⟨lw_p98, List.forall_mem_cons.mpr ⟨lw_p99, List.forall_mem_cons.mpr ⟨lw_p100, List.forall_mem_cons.mpr ⟨lw_p101, List.forall_mem_cons.mpr ⟨lw_p102, List.forall_mem_cons.mpr ⟨lw_p103, List.forall_mem_cons.mpr ⟨lw_p104, List.forall_mem_cons.mpr ⟨lw_p105, List.forall_mem_cons.mpr ⟨lw_p106, List.forall_mem_cons.mpr ⟨lw_p107, fun _ h => absurd h List.not_mem_nil⟩⟩⟩⟩⟩⟩⟩⟩⟩⟩⟩⟩
def lw_privs : List (MethodName × Nat) := lw_privs_1 ++ (lw_privs_2 ++ (lw_privs_3 ++ (lw_privs_4 ++ (lw_privs_5 ++ (lw_privs_6 ++ (lw_privs_7))))))
def lw_tbl : List Cond := k2_sels lw_privs ++ tables_1
theorem lw_privs_ok : ∀ q ∈ lw_privs, lw_okq q := by
  show ∀ q ∈ lw_privs_1 ++ (lw_privs_2 ++ (lw_privs_3 ++ (lw_privs_4 ++ (lw_privs_5 ++ (lw_privs_6 ++ (lw_privs_7)))))), lw_okq q
  exact List.forall_mem_append.mpr ⟨lw_r1, List.forall_mem_append.mpr ⟨lw_r2, List.forall_mem_append.mpr ⟨lw_r3, List.forall_mem_append.mpr ⟨lw_r4, List.forall_mem_append.mpr ⟨lw_r5, List.forall_mem_append.mpr ⟨lw_r6, lw_r7⟩⟩⟩⟩⟩⟩
def RX0 : String := "DrainedForAThird$Fen"
def TX0 : u_T := fun k => match k with
  | 0 => ("DrainedForAThird$Fen", "height", "[I", true)
  | 1 => ("DrainedForAThird$Fen", "peat", "[I", true)
  | 2 => ("DrainedForAThird$Fen", "water", "[I", true)
  | 3 => ("DrainedForAThird$Fen", "kind", "[I", true)
  | 4 => ("DrainedForAThird$Fen", "number", "[I", true)
  | 5 => ("DrainedForAThird$Fen", "place", "[I", true)
  | 6 => ("DrainedForAThird$Fen", "going", "[I", true)
  | 7 => ("DrainedForAThird$Fen", "stack", "[I", true)
  | 8 => ("DrainedForAThird$Fen", "river", "I", false)
  | 9 => ("DrainedForAThird$Fen", "year", "I", false)
  | 10 => ("DrainedForAThird$Fen", "paid", "I", false)
  | 11 => ("DrainedForAThird$Fen", "works", "I", false)
  | _ => ("DrainedForAThird$Fen", "rule", "I", false)
def tyX0 : Nat → FieldType := fun k => match k with
  | 0 => .array .int
  | 1 => .array .int
  | 2 => .array .int
  | 3 => .array .int
  | 4 => .array .int
  | 5 => .array .int
  | 6 => .array .int
  | 7 => .array .int
  | 8 => .int
  | 9 => .int
  | 10 => .int
  | 11 => .int
  | _ => .int
theorem nmX0 : ∀ a, a < 13 → ∀ b, b < 13 → a ≠ b → (TX0 a).2.1 ≠ (TX0 b).2.1 := by decide +kernel
theorem tyX0_ok : ∀ k, k < 13 → parseFieldDescriptor (TX0 k).2.2.1 = some (tyX0 k) := by decide +kernel
abbrev cX0_init : ByteArray := prog_2_method_1_code
def yX0_init : MethodName := ⟨RX0, "<init>", "()V"⟩
abbrev cX0_take : ByteArray := prog_2_method_2_code
def yX0_take : MethodName := ⟨RX0, "take", "(LDrainedForAThird$Fen;)V"⟩
abbrev cX0_add : ByteArray := prog_2_method_3_code
def yX0_add : MethodName := ⟨RX0, "add", "(III)V"⟩
abbrev cX0_most : ByteArray := prog_2_method_4_code
def yX0_most : MethodName := ⟨RX0, "most", "(I)I"⟩
abbrev cX0_has : ByteArray := prog_2_method_5_code
def yX0_has : MethodName := ⟨RX0, "has", "(II)Z"⟩
abbrev cX0_rowOf : ByteArray := prog_2_method_6_code
def yX0_rowOf : MethodName := ⟨RX0, "rowOf", "(I)[I"⟩
abbrev cX0_get : ByteArray := prog_2_method_7_code
def yX0_get : MethodName := ⟨RX0, "get", "(II)I"⟩
abbrev cX0_put : ByteArray := prog_2_method_8_code
def yX0_put : MethodName := ⟨RX0, "put", "(III)V"⟩
abbrev cX0_goes : ByteArray := prog_2_method_9_code
def yX0_goes : MethodName := ⟨RX0, "goes", "(I)Z"⟩
abbrev cX0_goingWorks : ByteArray := prog_2_method_10_code
def yX0_goingWorks : MethodName := ⟨RX0, "goingWorks", "()I"⟩
abbrev cX0_dryCells : ByteArray := prog_2_method_11_code
def yX0_dryCells : MethodName := ⟨RX0, "dryCells", "()I"⟩
abbrev cX0_isUnder : ByteArray := prog_2_method_12_code
def yX0_isUnder : MethodName := ⟨RX0, "isUnder", "(II)Z"⟩
abbrev cX0_spreads : ByteArray := prog_2_method_13_code
def yX0_spreads : MethodName := ⟨RX0, "spreads", "(I)Z"⟩
abbrev cX0_holds : ByteArray := prog_2_method_14_code
def yX0_holds : MethodName := ⟨RX0, "holds", "(I)Z"⟩
abbrev cX0_draws : ByteArray := prog_2_method_15_code
def yX0_draws : MethodName := ⟨RX0, "draws", "(II)I"⟩
abbrev cX0_drawsOfOwn : ByteArray := prog_2_method_16_code
def yX0_drawsOfOwn : MethodName := ⟨RX0, "drawsOfOwn", "(I)I"⟩
abbrev cX0_costs : ByteArray := prog_2_method_17_code
def yX0_costs : MethodName := ⟨RX0, "costs", "(LDrainedForAThird$Text;I)I"⟩
abbrev cX0_passYear : ByteArray := prog_2_method_18_code
def yX0_passYear : MethodName := ⟨RX0, "passYear", "(LDrainedForAThird$Text;)V"⟩
abbrev cX0_pour : ByteArray := prog_2_method_19_code
def yX0_pour : MethodName := ⟨RX0, "pour", "(II)V"⟩
abbrev cX0_pourOnAll : ByteArray := prog_2_method_20_code
def yX0_pourOnAll : MethodName := ⟨RX0, "pourOnAll", "(I)V"⟩
abbrev cX0_rain : ByteArray := prog_2_method_21_code
def yX0_rain : MethodName := ⟨RX0, "rain", "(LDrainedForAThird$Text;)V"⟩
abbrev cX0_heldCells : ByteArray := prog_2_method_22_code
def yX0_heldCells : MethodName := ⟨RX0, "heldCells", "()I"⟩
abbrev cX0_flow : ByteArray := prog_2_method_23_code
def yX0_flow : MethodName := ⟨RX0, "flow", "()V"⟩
abbrev cX0_meetRiver : ByteArray := prog_2_method_24_code
def yX0_meetRiver : MethodName := ⟨RX0, "meetRiver", "(Z)V"⟩
abbrev cX0_drain : ByteArray := prog_2_method_25_code
def yX0_drain : MethodName := ⟨RX0, "drain", "(LDrainedForAThird$Text;)V"⟩
abbrev cX0_drawFrom : ByteArray := prog_2_method_26_code
def yX0_drawFrom : MethodName := ⟨RX0, "drawFrom", "(II)V"⟩
abbrev cX0_shrink : ByteArray := prog_2_method_27_code
def yX0_shrink : MethodName := ⟨RX0, "shrink", "(LDrainedForAThird$Text;)V"⟩
abbrev cX0_says : ByteArray := prog_2_method_28_code
def yX0_says : MethodName := ⟨RX0, "says", "(LDrainedForAThird$Text;III)I"⟩
abbrev cX0_named : ByteArray := prog_2_method_29_code
def yX0_named : MethodName := ⟨RX0, "named", "(III)I"⟩
def RX1 : String := "DrainedForAThird$Reader"
def TX1 : u_T := fun k => match k with
  | 0 => ("DrainedForAThird$Reader", "tape", "[I", true)
  | 1 => ("DrainedForAThird$Reader", "size", "I", false)
  | 2 => ("DrainedForAThird$Reader", "at", "I", false)
  | 3 => ("DrainedForAThird$Reader", "token", "I", false)
  | 4 => ("DrainedForAThird$Reader", "place", "I", false)
  | 5 => ("DrainedForAThird$Reader", "amount", "I", false)
  | 6 => ("DrainedForAThird$Reader", "fault", "I", false)
  | 7 => ("DrainedForAThird$Reader", "code", "[I", true)
  | _ => ("DrainedForAThird$Reader", "length", "I", false)
def tyX1 : Nat → FieldType := fun k => match k with
  | 0 => .array .int
  | 1 => .int
  | 2 => .int
  | 3 => .int
  | 4 => .int
  | 5 => .int
  | 6 => .int
  | 7 => .array .int
  | _ => .int
theorem nmX1 : ∀ a, a < 9 → ∀ b, b < 9 → a ≠ b → (TX1 a).2.1 ≠ (TX1 b).2.1 := by decide +kernel
theorem tyX1_ok : ∀ k, k < 9 → parseFieldDescriptor (TX1 k).2.2.1 = some (tyX1 k) := by decide +kernel
abbrev cX1_init : ByteArray := prog_3_method_1_code
def yX1_init : MethodName := ⟨RX1, "<init>", "()V"⟩
abbrev cX1_put : ByteArray := prog_3_method_2_code
def yX1_put : MethodName := ⟨RX1, "put", "(I)Z"⟩
abbrev cX1_size : ByteArray := prog_3_method_3_code
def yX1_size : MethodName := ⟨RX1, "size", "()I"⟩
abbrev cX1_fault : ByteArray := prog_3_method_4_code
def yX1_fault : MethodName := ⟨RX1, "fault", "()I"⟩
abbrev cX1_read : ByteArray := prog_3_method_5_code
def yX1_read : MethodName := ⟨RX1, "read", "()LDrainedForAThird$Text;"⟩
abbrev cX1_next : ByteArray := prog_3_method_6_code
def yX1_next : MethodName := ⟨RX1, "next", "()V"⟩
abbrev cX1_nextWord : ByteArray := prog_3_method_7_code
def yX1_nextWord : MethodName := ⟨RX1, "nextWord", "()V"⟩
abbrev cX1_nextNumber : ByteArray := prog_3_method_8_code
def yX1_nextNumber : MethodName := ⟨RX1, "nextNumber", "()V"⟩
abbrev cX1_isLetter : ByteArray := prog_3_method_9_code
def yX1_isLetter : MethodName := ⟨RX1, "isLetter", "(I)Z"⟩
abbrev cX1_isDigit : ByteArray := prog_3_method_10_code
def yX1_isDigit : MethodName := ⟨RX1, "isDigit", "(I)Z"⟩
abbrev cX1_isSign : ByteArray := prog_3_method_11_code
def yX1_isSign : MethodName := ⟨RX1, "isSign", "(I)Z"⟩
abbrev cX1_wordOf : ByteArray := prog_3_method_12_code
def yX1_wordOf : MethodName := ⟨RX1, "wordOf", "(I)Ljava/lang/String;"⟩
abbrev cX1_fail : ByteArray := prog_3_method_13_code
def yX1_fail : MethodName := ⟨RX1, "fail", "()V"⟩
abbrev cX1_expect : ByteArray := prog_3_method_14_code
def yX1_expect : MethodName := ⟨RX1, "expect", "(I)V"⟩
abbrev cX1_emit : ByteArray := prog_3_method_15_code
def yX1_emit : MethodName := ⟨RX1, "emit", "(I)V"⟩
abbrev cX1_readPart : ByteArray := prog_3_method_16_code
def yX1_readPart : MethodName := ⟨RX1, "readPart", "(I)[I"⟩
abbrev cX1_readEither : ByteArray := prog_3_method_17_code
def yX1_readEither : MethodName := ⟨RX1, "readEither", "(I)V"⟩
abbrev cX1_readBoth : ByteArray := prog_3_method_18_code
def yX1_readBoth : MethodName := ⟨RX1, "readBoth", "(I)V"⟩
abbrev cX1_readNot : ByteArray := prog_3_method_19_code
def yX1_readNot : MethodName := ⟨RX1, "readNot", "(I)V"⟩
abbrev cX1_readSum : ByteArray := prog_3_method_20_code
def yX1_readSum : MethodName := ⟨RX1, "readSum", "(I)V"⟩
abbrev cX1_readTerm : ByteArray := prog_3_method_21_code
def yX1_readTerm : MethodName := ⟨RX1, "readTerm", "(I)V"⟩
abbrev cX1_readOne : ByteArray := prog_3_method_22_code
def yX1_readOne : MethodName := ⟨RX1, "readOne", "(I)V"⟩
def RX2 : String := "DrainedForAThird$Sheets"
def TX2 : u_T := fun k => match k with
  | 0 => ("DrainedForAThird$Sheets", "items", "[[I", true)
  | 1 => ("DrainedForAThird$Sheets", "sorts", "[I", true)
  | _ => ("DrainedForAThird$Sheets", "sizes", "[I", true)
def tyX2 : Nat → FieldType := fun k => match k with
  | 0 => .array (.array .int)
  | 1 => .array .int
  | _ => .array .int
theorem nmX2 : ∀ a, a < 3 → ∀ b, b < 3 → a ≠ b → (TX2 a).2.1 ≠ (TX2 b).2.1 := by decide +kernel
theorem tyX2_ok : ∀ k, k < 3 → parseFieldDescriptor (TX2 k).2.2.1 = some (tyX2 k) := by decide +kernel
abbrev cX2_init : ByteArray := prog_4_method_1_code
def yX2_init : MethodName := ⟨RX2, "<init>", "()V"⟩
abbrev cX2_has : ByteArray := prog_4_method_2_code
def yX2_has : MethodName := ⟨RX2, "has", "(I)Z"⟩
abbrev cX2_isMissing : ByteArray := prog_4_method_3_code
def yX2_isMissing : MethodName := ⟨RX2, "isMissing", "(I)Z"⟩
abbrev cX2_sort : ByteArray := prog_4_method_4_code
def yX2_sort : MethodName := ⟨RX2, "sort", "(I)I"⟩
abbrev cX2_size : ByteArray := prog_4_method_5_code
def yX2_size : MethodName := ⟨RX2, "size", "(I)I"⟩
abbrev cX2_hasItem : ByteArray := prog_4_method_6_code
def yX2_hasItem : MethodName := ⟨RX2, "hasItem", "(II)Z"⟩
abbrev cX2_hasItems : ByteArray := prog_4_method_7_code
def yX2_hasItems : MethodName := ⟨RX2, "hasItems", "(III)Z"⟩
abbrev cX2_drop : ByteArray := prog_4_method_8_code
def yX2_drop : MethodName := ⟨RX2, "drop", "(I)V"⟩
abbrev cX2_make : ByteArray := prog_4_method_9_code
def yX2_make : MethodName := ⟨RX2, "make", "(III)V"⟩
abbrev cX2_at : ByteArray := prog_4_method_10_code
def yX2_at : MethodName := ⟨RX2, "at", "(II)I"⟩
abbrev cX2_put : ByteArray := prog_4_method_11_code
def yX2_put : MethodName := ⟨RX2, "put", "(III)V"⟩
abbrev cX2_move : ByteArray := prog_4_method_12_code
def yX2_move : MethodName := ⟨RX2, "move", "(IIIII)V"⟩
abbrev cX2_narrowed : ByteArray := prog_4_method_13_code
def yX2_narrowed : MethodName := ⟨RX2, "narrowed", "(II)I"⟩
def RX3 : String := "DrainedForAThird$Text"
def TX3 : u_T := fun k => match k with
  | 0 => ("DrainedForAThird$Text", "rains", "[I", true)
  | 1 => ("DrainedForAThird$Text", "shrinks", "[I", true)
  | _ => ("DrainedForAThird$Text", "calls", "[I", true)
def tyX3 : Nat → FieldType := fun k => match k with
  | 0 => .array .int
  | 1 => .array .int
  | _ => .array .int
theorem nmX3 : ∀ a, a < 3 → ∀ b, b < 3 → a ≠ b → (TX3 a).2.1 ≠ (TX3 b).2.1 := by decide +kernel
theorem tyX3_ok : ∀ k, k < 3 → parseFieldDescriptor (TX3 k).2.2.1 = some (tyX3 k) := by decide +kernel
abbrev cX3_init : ByteArray := prog_5_method_1_code
def yX3_init : MethodName := ⟨RX3, "<init>", "([I[I[I)V"⟩
abbrev cX3_codeOf : ByteArray := prog_5_method_2_code
def yX3_codeOf : MethodName := ⟨RX3, "codeOf", "(I)[I"⟩
abbrev cX3_turned : ByteArray := prog_5_method_3_code
def yX3_turned : MethodName := ⟨RX3, "turned", "(II)I"⟩
abbrev cX3_joined : ByteArray := prog_5_method_4_code
def yX3_joined : MethodName := ⟨RX3, "joined", "(III)I"⟩
def RX4 : String := "DrainedForAThird"
def TX4 : u_T := fun k => match k with
  | 0 => ("DrainedForAThird", "now", "LDrainedForAThird$Fen;", true)
  | 1 => ("DrainedForAThird", "thought", "LDrainedForAThird$Fen;", true)
  | 2 => ("DrainedForAThird", "kept", "LDrainedForAThird$Fen;", true)
  | 3 => ("DrainedForAThird", "isKept", "Z", false)
  | 4 => ("DrainedForAThird", "texts", "[LDrainedForAThird$Text;", true)
  | 5 => ("DrainedForAThird", "textCount", "I", false)
  | 6 => ("DrainedForAThird", "reader", "LDrainedForAThird$Reader;", true)
  | 7 => ("DrainedForAThird", "sheets", "LDrainedForAThird$Sheets;", true)
  | _ => ("DrainedForAThird", "dried", "[I", true)
def tyX4 : Nat → FieldType := fun k => match k with
  | 0 => .object "DrainedForAThird$Fen"
  | 1 => .object "DrainedForAThird$Fen"
  | 2 => .object "DrainedForAThird$Fen"
  | 3 => .boolean
  | 4 => .array (.object "DrainedForAThird$Text")
  | 5 => .int
  | 6 => .object "DrainedForAThird$Reader"
  | 7 => .object "DrainedForAThird$Sheets"
  | _ => .array .int
theorem nmX4 : ∀ a, a < 9 → ∀ b, b < 9 → a ≠ b → (TX4 a).2.1 ≠ (TX4 b).2.1 := by decide +kernel
theorem tyX4_ok : ∀ k, k < 9 → parseFieldDescriptor (TX4 k).2.2.1 = some (tyX4 k) := by decide +kernel
abbrev cX4_init : ByteArray := prog_1_method_1_code
def yX4_init : MethodName := ⟨RX4, "<init>", "()V"⟩
abbrev cX4_set : ByteArray := prog_1_method_2_code
def yX4_set : MethodName := ⟨RX4, "set", "(III)I"⟩
abbrev cX4_work : ByteArray := prog_1_method_3_code
def yX4_work : MethodName := ⟨RX4, "work", "(III)I"⟩
abbrev cX4_told : ByteArray := prog_1_method_4_code
def yX4_told : MethodName := ⟨RX4, "told", "(II)I"⟩
abbrev cX4_feed : ByteArray := prog_1_method_5_code
def yX4_feed : MethodName := ⟨RX4, "feed", "(I)I"⟩
abbrev cX4_text : ByteArray := prog_1_method_6_code
def yX4_text : MethodName := ⟨RX4, "text", "()I"⟩
abbrev cX4_force : ByteArray := prog_1_method_7_code
def yX4_force : MethodName := ⟨RX4, "force", "(I)I"⟩
abbrev cX4_asks : ByteArray := prog_1_method_8_code
def yX4_asks : MethodName := ⟨RX4, "asks", "(II)I"⟩
abbrev cX4_year : ByteArray := prog_1_method_9_code
def yX4_year : MethodName := ⟨RX4, "year", "()I"⟩
abbrev cX4_run : ByteArray := prog_1_method_10_code
def yX4_run : MethodName := ⟨RX4, "run", "(II)I"⟩
abbrev cX4_first : ByteArray := prog_1_method_11_code
def yX4_first : MethodName := ⟨RX4, "first", "(II)I"⟩
abbrev cX4_where : ByteArray := prog_1_method_12_code
def yX4_where : MethodName := ⟨RX4, "where", "(III)I"⟩
abbrev cX4_idle : ByteArray := prog_1_method_13_code
def yX4_idle : MethodName := ⟨RX4, "idle", "(I)I"⟩
abbrev cX4_low : ByteArray := prog_1_method_14_code
def yX4_low : MethodName := ⟨RX4, "low", "(II)I"⟩
abbrev cX4_floods : ByteArray := prog_1_method_15_code
def yX4_floods : MethodName := ⟨RX4, "floods", "(II)I"⟩
abbrev cX4_tells : ByteArray := prog_1_method_16_code
def yX4_tells : MethodName := ⟨RX4, "tells", "(II)I"⟩
abbrev cX4_film : ByteArray := prog_1_method_17_code
def yX4_film : MethodName := ⟨RX4, "film", "(II)I"⟩
abbrev cX4_drawn : ByteArray := prog_1_method_18_code
def yX4_drawn : MethodName := ⟨RX4, "drawn", "(II)I"⟩
abbrev cX4_chance : ByteArray := prog_1_method_19_code
def yX4_chance : MethodName := ⟨RX4, "chance", "(IIII)J"⟩
abbrev cX4_image : ByteArray := prog_1_method_20_code
def yX4_image : MethodName := ⟨RX4, "image", "()I"⟩
abbrev cX4_back : ByteArray := prog_1_method_21_code
def yX4_back : MethodName := ⟨RX4, "back", "()I"⟩
abbrev cX4_count : ByteArray := prog_1_method_22_code
def yX4_count : MethodName := ⟨RX4, "count", "(I)I"⟩
abbrev cX4_sheet : ByteArray := prog_1_method_23_code
def yX4_sheet : MethodName := ⟨RX4, "sheet", "(III)I"⟩
abbrev cX4_cell : ByteArray := prog_1_method_24_code
def yX4_cell : MethodName := ⟨RX4, "cell", "(III)I"⟩
abbrev cX4_copy : ByteArray := prog_1_method_25_code
def yX4_copy : MethodName := ⟨RX4, "copy", "(IIIII)I"⟩
abbrev cX4_works : ByteArray := prog_1_method_26_code
def yX4_works : MethodName := ⟨RX4, "works", "(IIII)I"⟩
abbrev cX4_taken : ByteArray := prog_1_method_27_code
def yX4_taken : MethodName := ⟨RX4, "taken", "(II)I"⟩
abbrev cX4_isCell : ByteArray := prog_1_method_28_code
def yX4_isCell : MethodName := ⟨RX4, "isCell", "(I)Z"⟩
abbrev cX4_isWork : ByteArray := prog_1_method_29_code
def yX4_isWork : MethodName := ⟨RX4, "isWork", "(III)Z"⟩
abbrev cX4_areYears : ByteArray := prog_1_method_30_code
def yX4_areYears : MethodName := ⟨RX4, "areYears", "(I)Z"⟩
abbrev cX4_isOfRun : ByteArray := prog_1_method_31_code
def yX4_isOfRun : MethodName := ⟨RX4, "isOfRun", "(I)Z"⟩
abbrev cX4_isOfTells : ByteArray := prog_1_method_32_code
def yX4_isOfTells : MethodName := ⟨RX4, "isOfTells", "(I)Z"⟩
abbrev cX4_ruleOf : ByteArray := prog_1_method_33_code
def yX4_ruleOf : MethodName := ⟨RX4, "ruleOf", "(LDrainedForAThird$Fen;)LDrainedForAThird$Text;"⟩
abbrev cX4_think : ByteArray := prog_1_method_34_code
def yX4_think : MethodName := ⟨RX4, "think", "()V"⟩
abbrev cX4_thinkYears : ByteArray := prog_1_method_35_code
def yX4_thinkYears : MethodName := ⟨RX4, "thinkYears", "(I)V"⟩
abbrev cX4_dryBehind : ByteArray := prog_1_method_36_code
def yX4_dryBehind : MethodName := ⟨RX4, "dryBehind", "(I)I"⟩
abbrev cX4_dryWithout : ByteArray := prog_1_method_37_code
def yX4_dryWithout : MethodName := ⟨RX4, "dryWithout", "(II)I"⟩
abbrev cX4_dryDrawn : ByteArray := prog_1_method_38_code
def yX4_dryDrawn : MethodName := ⟨RX4, "dryDrawn", "(II)I"⟩
abbrev cX4_firstDried : ByteArray := prog_1_method_39_code
def yX4_firstDried : MethodName := ⟨RX4, "firstDried", "(II)I"⟩
abbrev cX4_mostDry : ByteArray := prog_1_method_40_code
def yX4_mostDry : MethodName := ⟨RX4, "mostDry", "(I)I"⟩
abbrev cX4_judged : ByteArray := prog_1_method_41_code
def yX4_judged : MethodName := ⟨RX4, "judged", "(I)I"⟩
abbrev cX4_keptYears : ByteArray := prog_1_method_42_code
def yX4_keptYears : MethodName := ⟨RX4, "keptYears", "(I)I"⟩
abbrev cX4_toldOfWork : ByteArray := prog_1_method_43_code
def yX4_toldOfWork : MethodName := ⟨RX4, "toldOfWork", "(I)I"⟩
abbrev cX4_firstOther : ByteArray := prog_1_method_44_code
def yX4_firstOther : MethodName := ⟨RX4, "firstOther", "(IIII)I"⟩
abbrev cX4_fitting : ByteArray := prog_1_method_45_code
def yX4_fitting : MethodName := ⟨RX4, "fitting", "(IIII)I"⟩
abbrev cX4_fittingRivers : ByteArray := prog_1_method_46_code
def yX4_fittingRivers : MethodName := ⟨RX4, "fittingRivers", "(I)I"⟩
abbrev cX4_highestFittingRiver : ByteArray := prog_1_method_47_code
def yX4_highestFittingRiver : MethodName := ⟨RX4, "highestFittingRiver", "(I)I"⟩
abbrev cX4_commonDivisor : ByteArray := prog_1_method_48_code
def yX4_commonDivisor : MethodName := ⟨RX4, "commonDivisor", "(II)I"⟩
abbrev cX4_comes : ByteArray := prog_1_method_49_code
def yX4_comes : MethodName := ⟨RX4, "comes", "(II)Z"⟩
def RX5 : String := "DrainedForAThirdModel"
def TX5 : u_T := fun k => match k with
  | 0 => ("DrainedForAThirdModel", "thrown", "I", false)
  | 1 => ("DrainedForAThirdModel", "texts", "[I", true)
  | 2 => ("DrainedForAThirdModel", "textSize", "[I", true)
  | 3 => ("DrainedForAThirdModel", "textCount", "I", false)
  | 4 => ("DrainedForAThirdModel", "rule", "I", false)
  | 5 => ("DrainedForAThirdModel", "tape", "[I", true)
  | 6 => ("DrainedForAThirdModel", "taped", "I", false)
  | 7 => ("DrainedForAThirdModel", "riverNow", "I", false)
  | 8 => ("DrainedForAThirdModel", "yearNow", "I", false)
  | 9 => ("DrainedForAThirdModel", "paid", "I", false)
  | 10 => ("DrainedForAThirdModel", "fen", "[I", true)
  | 11 => ("DrainedForAThirdModel", "kinds", "[I", true)
  | 12 => ("DrainedForAThirdModel", "rows", "[I", true)
  | 13 => ("DrainedForAThirdModel", "many", "I", false)
  | 14 => ("DrainedForAThirdModel", "ofHeight", "I", false)
  | 15 => ("DrainedForAThirdModel", "ofPeat", "I", false)
  | 16 => ("DrainedForAThirdModel", "ofYear", "I", false)
  | 17 => ("DrainedForAThirdModel", "ofNumber", "I", false)
  | 18 => ("DrainedForAThirdModel", "ofWater", "I", false)
  | 19 => ("DrainedForAThirdModel", "ofCell", "I", false)
  | 20 => ("DrainedForAThirdModel", "from", "I", false)
  | 21 => ("DrainedForAThirdModel", "size", "I", false)
  | 22 => ("DrainedForAThirdModel", "here", "I", false)
  | 23 => ("DrainedForAThirdModel", "token", "I", false)
  | 24 => ("DrainedForAThirdModel", "tokenAt", "I", false)
  | 25 => ("DrainedForAThirdModel", "tokenWorth", "J", false)
  | 26 => ("DrainedForAThirdModel", "open", "I", false)
  | 27 => ("DrainedForAThirdModel", "bad", "Z", false)
  | 28 => ("DrainedForAThirdModel", "fault", "I", false)
  | 29 => ("DrainedForAThirdModel", "fenAside", "[I", true)
  | 30 => ("DrainedForAThirdModel", "fenThen", "[I", true)
  | 31 => ("DrainedForAThirdModel", "dryRow", "[I", true)
  | 32 => ("DrainedForAThirdModel", "paidThen", "I", false)
  | 33 => ("DrainedForAThirdModel", "dryThen", "I", false)
  | 34 => ("DrainedForAThirdModel", "fenKept", "[I", true)
  | 35 => ("DrainedForAThirdModel", "rowsKept", "[I", true)
  | 36 => ("DrainedForAThirdModel", "manyKept", "I", false)
  | 37 => ("DrainedForAThirdModel", "riverKept", "I", false)
  | 38 => ("DrainedForAThirdModel", "yearKept", "I", false)
  | 39 => ("DrainedForAThirdModel", "paidKept", "I", false)
  | 40 => ("DrainedForAThirdModel", "ruleKept", "I", false)
  | 41 => ("DrainedForAThirdModel", "isThere", "[Z", true)
  | 42 => ("DrainedForAThirdModel", "sorts", "[I", true)
  | 43 => ("DrainedForAThirdModel", "sheetSize", "[I", true)
  | _ => ("DrainedForAThirdModel", "items", "[I", true)
def tyX5 : Nat → FieldType := fun k => match k with
  | 0 => .int
  | 1 => .array .int
  | 2 => .array .int
  | 3 => .int
  | 4 => .int
  | 5 => .array .int
  | 6 => .int
  | 7 => .int
  | 8 => .int
  | 9 => .int
  | 10 => .array .int
  | 11 => .array .int
  | 12 => .array .int
  | 13 => .int
  | 14 => .int
  | 15 => .int
  | 16 => .int
  | 17 => .int
  | 18 => .int
  | 19 => .int
  | 20 => .int
  | 21 => .int
  | 22 => .int
  | 23 => .int
  | 24 => .int
  | 25 => .long
  | 26 => .int
  | 27 => .boolean
  | 28 => .int
  | 29 => .array .int
  | 30 => .array .int
  | 31 => .array .int
  | 32 => .int
  | 33 => .int
  | 34 => .array .int
  | 35 => .array .int
  | 36 => .int
  | 37 => .int
  | 38 => .int
  | 39 => .int
  | 40 => .int
  | 41 => .array .boolean
  | 42 => .array .int
  | 43 => .array .int
  | _ => .array .int
theorem nmX5 : ∀ a, a < 45 → ∀ b, b < 45 → a ≠ b → (TX5 a).2.1 ≠ (TX5 b).2.1 := by decide +kernel
theorem tyX5_ok : ∀ k, k < 45 → parseFieldDescriptor (TX5 k).2.2.1 = some (tyX5 k) := by decide +kernel
abbrev cX5_in : ByteArray := prog_7_method_2_code
def yX5_in : MethodName := ⟨RX5, "in", "(JJJ)Z"⟩
abbrev cX5_within : ByteArray := prog_7_method_3_code
def yX5_within : MethodName := ⟨RX5, "within", "(III)I"⟩
abbrev cX5_init : ByteArray := prog_7_method_4_code
def yX5_init : MethodName := ⟨RX5, "<init>", "()V"⟩
abbrev cX5_spell : ByteArray := prog_7_method_5_code
def yX5_spell : MethodName := ⟨RX5, "spell", "(IIIIIIIII)V"⟩
abbrev cX5_isWork : ByteArray := prog_7_method_6_code
def yX5_isWork : MethodName := ⟨RX5, "isWork", "(I)Z"⟩
abbrev cX5_isCell : ByteArray := prog_7_method_7_code
def yX5_isCell : MethodName := ⟨RX5, "isCell", "(I)Z"⟩
abbrev cX5_isOf : ByteArray := prog_7_method_8_code
def yX5_isOf : MethodName := ⟨RX5, "isOf", "(II)Z"⟩
abbrev cX5_mostOf : ByteArray := prog_7_method_9_code
def yX5_mostOf : MethodName := ⟨RX5, "mostOf", "(I)I"⟩
abbrev cX5_set : ByteArray := prog_7_method_10_code
def yX5_set : MethodName := ⟨RX5, "set", "(III)I"⟩
abbrev cX5_lays : ByteArray := prog_7_method_11_code
def yX5_lays : MethodName := ⟨RX5, "lays", "(III)V"⟩
abbrev cX5_comes : ByteArray := prog_7_method_12_code
def yX5_comes : MethodName := ⟨RX5, "comes", "(III)V"⟩
abbrev cX5_work : ByteArray := prog_7_method_13_code
def yX5_work : MethodName := ⟨RX5, "work", "(III)I"⟩
abbrev cX5_told : ByteArray := prog_7_method_14_code
def yX5_told : MethodName := ⟨RX5, "told", "(II)I"⟩
abbrev cX5_feed : ByteArray := prog_7_method_15_code
def yX5_feed : MethodName := ⟨RX5, "feed", "(I)I"⟩
abbrev cX5_byteAt : ByteArray := prog_7_method_16_code
def yX5_byteAt : MethodName := ⟨RX5, "byteAt", "(I)I"⟩
abbrev cX5_next : ByteArray := prog_7_method_17_code
def yX5_next : MethodName := ⟨RX5, "next", "()V"⟩
abbrev cX5_fail : ByteArray := prog_7_method_18_code
def yX5_fail : MethodName := ⟨RX5, "fail", "()V"⟩
abbrev cX5_isLetter : ByteArray := prog_7_method_19_code
def yX5_isLetter : MethodName := ⟨RX5, "isLetter", "(II)Z"⟩
abbrev cX5_isWord : ByteArray := prog_7_method_20_code
def yX5_isWord : MethodName := ⟨RX5, "isWord", "(IIIIIIII)Z"⟩
abbrev cX5_isSign : ByteArray := prog_7_method_21_code
def yX5_isSign : MethodName := ⟨RX5, "isSign", "(I)Z"⟩
abbrev cX5_opens : ByteArray := prog_7_method_22_code
def yX5_opens : MethodName := ⟨RX5, "opens", "()Z"⟩
abbrev cX5_name : ByteArray := prog_7_method_23_code
def yX5_name : MethodName := ⟨RX5, "name", "()I"⟩
abbrev cX5_atom5 : ByteArray := prog_7_method_24_code
def yX5_atom5 : MethodName := ⟨RX5, "atom5", "()I"⟩
abbrev cX5_term5 : ByteArray := prog_7_method_25_code
def yX5_term5 : MethodName := ⟨RX5, "term5", "()I"⟩
abbrev cX5_added5 : ByteArray := prog_7_method_26_code
def yX5_added5 : MethodName := ⟨RX5, "added5", "()I"⟩
abbrev cX5_not5 : ByteArray := prog_7_method_27_code
def yX5_not5 : MethodName := ⟨RX5, "not5", "()I"⟩
abbrev cX5_both5 : ByteArray := prog_7_method_28_code
def yX5_both5 : MethodName := ⟨RX5, "both5", "()I"⟩
abbrev cX5_either5 : ByteArray := prog_7_method_29_code
def yX5_either5 : MethodName := ⟨RX5, "either5", "()I"⟩
abbrev cX5_atom4 : ByteArray := prog_7_method_30_code
def yX5_atom4 : MethodName := ⟨RX5, "atom4", "()I"⟩
abbrev cX5_term4 : ByteArray := prog_7_method_31_code
def yX5_term4 : MethodName := ⟨RX5, "term4", "()I"⟩
abbrev cX5_added4 : ByteArray := prog_7_method_32_code
def yX5_added4 : MethodName := ⟨RX5, "added4", "()I"⟩
abbrev cX5_not4 : ByteArray := prog_7_method_33_code
def yX5_not4 : MethodName := ⟨RX5, "not4", "()I"⟩
abbrev cX5_both4 : ByteArray := prog_7_method_34_code
def yX5_both4 : MethodName := ⟨RX5, "both4", "()I"⟩
abbrev cX5_either4 : ByteArray := prog_7_method_35_code
def yX5_either4 : MethodName := ⟨RX5, "either4", "()I"⟩
abbrev cX5_atom3 : ByteArray := prog_7_method_36_code
def yX5_atom3 : MethodName := ⟨RX5, "atom3", "()I"⟩
abbrev cX5_term3 : ByteArray := prog_7_method_37_code
def yX5_term3 : MethodName := ⟨RX5, "term3", "()I"⟩
abbrev cX5_added3 : ByteArray := prog_7_method_38_code
def yX5_added3 : MethodName := ⟨RX5, "added3", "()I"⟩
abbrev cX5_not3 : ByteArray := prog_7_method_39_code
def yX5_not3 : MethodName := ⟨RX5, "not3", "()I"⟩
abbrev cX5_both3 : ByteArray := prog_7_method_40_code
def yX5_both3 : MethodName := ⟨RX5, "both3", "()I"⟩
abbrev cX5_either3 : ByteArray := prog_7_method_41_code
def yX5_either3 : MethodName := ⟨RX5, "either3", "()I"⟩
abbrev cX5_atom2 : ByteArray := prog_7_method_42_code
def yX5_atom2 : MethodName := ⟨RX5, "atom2", "()I"⟩
abbrev cX5_term2 : ByteArray := prog_7_method_43_code
def yX5_term2 : MethodName := ⟨RX5, "term2", "()I"⟩
abbrev cX5_added2 : ByteArray := prog_7_method_44_code
def yX5_added2 : MethodName := ⟨RX5, "added2", "()I"⟩
abbrev cX5_not2 : ByteArray := prog_7_method_45_code
def yX5_not2 : MethodName := ⟨RX5, "not2", "()I"⟩
abbrev cX5_both2 : ByteArray := prog_7_method_46_code
def yX5_both2 : MethodName := ⟨RX5, "both2", "()I"⟩
abbrev cX5_either2 : ByteArray := prog_7_method_47_code
def yX5_either2 : MethodName := ⟨RX5, "either2", "()I"⟩
abbrev cX5_atom1 : ByteArray := prog_7_method_48_code
def yX5_atom1 : MethodName := ⟨RX5, "atom1", "()I"⟩
abbrev cX5_term1 : ByteArray := prog_7_method_49_code
def yX5_term1 : MethodName := ⟨RX5, "term1", "()I"⟩
abbrev cX5_added1 : ByteArray := prog_7_method_50_code
def yX5_added1 : MethodName := ⟨RX5, "added1", "()I"⟩
abbrev cX5_not1 : ByteArray := prog_7_method_51_code
def yX5_not1 : MethodName := ⟨RX5, "not1", "()I"⟩
abbrev cX5_both1 : ByteArray := prog_7_method_52_code
def yX5_both1 : MethodName := ⟨RX5, "both1", "()I"⟩
abbrev cX5_either1 : ByteArray := prog_7_method_53_code
def yX5_either1 : MethodName := ⟨RX5, "either1", "()I"⟩
abbrev cX5_atom0 : ByteArray := prog_7_method_54_code
def yX5_atom0 : MethodName := ⟨RX5, "atom0", "()I"⟩
abbrev cX5_term0 : ByteArray := prog_7_method_55_code
def yX5_term0 : MethodName := ⟨RX5, "term0", "()I"⟩
abbrev cX5_added0 : ByteArray := prog_7_method_56_code
def yX5_added0 : MethodName := ⟨RX5, "added0", "()I"⟩
abbrev cX5_not0 : ByteArray := prog_7_method_57_code
def yX5_not0 : MethodName := ⟨RX5, "not0", "()I"⟩
abbrev cX5_both0 : ByteArray := prog_7_method_58_code
def yX5_both0 : MethodName := ⟨RX5, "both0", "()I"⟩
abbrev cX5_either0 : ByteArray := prog_7_method_59_code
def yX5_either0 : MethodName := ⟨RX5, "either0", "()I"⟩
abbrev cX5_part : ByteArray := prog_7_method_60_code
def yX5_part : MethodName := ⟨RX5, "part", "(Z)I"⟩
abbrev cX5_read : ByteArray := prog_7_method_61_code
def yX5_read : MethodName := ⟨RX5, "read", "(II)I"⟩
abbrev cX5_text : ByteArray := prog_7_method_62_code
def yX5_text : MethodName := ⟨RX5, "text", "()I"⟩
abbrev cX5_force : ByteArray := prog_7_method_63_code
def yX5_force : MethodName := ⟨RX5, "force", "(I)I"⟩
abbrev cX5_says : ByteArray := prog_7_method_64_code
def yX5_says : MethodName := ⟨RX5, "says", "(III)I"⟩
abbrev cX5_standOn : ByteArray := prog_7_method_65_code
def yX5_standOn : MethodName := ⟨RX5, "standOn", "(I)I"⟩
abbrev cX5_asks : ByteArray := prog_7_method_66_code
def yX5_asks : MethodName := ⟨RX5, "asks", "(II)I"⟩
abbrev cX5_drawsOf : ByteArray := prog_7_method_67_code
def yX5_drawsOf : MethodName := ⟨RX5, "drawsOf", "(II)I"⟩
abbrev cX5_costsOf : ByteArray := prog_7_method_68_code
def yX5_costsOf : MethodName := ⟨RX5, "costsOf", "(I)I"⟩
abbrev cX5_isHeld : ByteArray := prog_7_method_69_code
def yX5_isHeld : MethodName := ⟨RX5, "isHeld", "(I)Z"⟩
abbrev cX5_levelOf : ByteArray := prog_7_method_70_code
def yX5_levelOf : MethodName := ⟨RX5, "levelOf", "(I)I"⟩
abbrev cX5_adds : ByteArray := prog_7_method_71_code
def yX5_adds : MethodName := ⟨RX5, "adds", "(II)V"⟩
abbrev cX5_draws : ByteArray := prog_7_method_72_code
def yX5_draws : MethodName := ⟨RX5, "draws", "(II)V"⟩
abbrev cX5_lives : ByteArray := prog_7_method_73_code
def yX5_lives : MethodName := ⟨RX5, "lives", "()V"⟩
abbrev cX5_drySet : ByteArray := prog_7_method_74_code
def yX5_drySet : MethodName := ⟨RX5, "drySet", "()I"⟩
abbrev cX5_bitsOf : ByteArray := prog_7_method_75_code
def yX5_bitsOf : MethodName := ⟨RX5, "bitsOf", "(I)I"⟩
abbrev cX5_year : ByteArray := prog_7_method_76_code
def yX5_year : MethodName := ⟨RX5, "year", "()I"⟩
abbrev cX5_runs : ByteArray := prog_7_method_77_code
def yX5_runs : MethodName := ⟨RX5, "runs", "(IZI)V"⟩
abbrev cX5_dryBehind : ByteArray := prog_7_method_78_code
def yX5_dryBehind : MethodName := ⟨RX5, "dryBehind", "(I)I"⟩
abbrev cX5_judged : ByteArray := prog_7_method_79_code
def yX5_judged : MethodName := ⟨RX5, "judged", "(I)I"⟩
abbrev cX5_kept : ByteArray := prog_7_method_80_code
def yX5_kept : MethodName := ⟨RX5, "kept", "(I)I"⟩
abbrev cX5_run : ByteArray := prog_7_method_81_code
def yX5_run : MethodName := ⟨RX5, "run", "(II)I"⟩
abbrev cX5_first : ByteArray := prog_7_method_82_code
def yX5_first : MethodName := ⟨RX5, "first", "(II)I"⟩
abbrev cX5_where : ByteArray := prog_7_method_83_code
def yX5_where : MethodName := ⟨RX5, "where", "(III)I"⟩
abbrev cX5_dryWithout : ByteArray := prog_7_method_84_code
def yX5_dryWithout : MethodName := ⟨RX5, "dryWithout", "(II)I"⟩
abbrev cX5_idle : ByteArray := prog_7_method_85_code
def yX5_idle : MethodName := ⟨RX5, "idle", "(I)I"⟩
abbrev cX5_low : ByteArray := prog_7_method_86_code
def yX5_low : MethodName := ⟨RX5, "low", "(II)I"⟩
abbrev cX5_floods : ByteArray := prog_7_method_87_code
def yX5_floods : MethodName := ⟨RX5, "floods", "(II)I"⟩
abbrev cX5_firstOther : ByteArray := prog_7_method_88_code
def yX5_firstOther : MethodName := ⟨RX5, "firstOther", "(I)I"⟩
abbrev cX5_tells : ByteArray := prog_7_method_89_code
def yX5_tells : MethodName := ⟨RX5, "tells", "(II)I"⟩
abbrev cX5_film : ByteArray := prog_7_method_90_code
def yX5_film : MethodName := ⟨RX5, "film", "(II)I"⟩
abbrev cX5_dryBy : ByteArray := prog_7_method_91_code
def yX5_dryBy : MethodName := ⟨RX5, "dryBy", "(II)I"⟩
abbrev cX5_drawn : ByteArray := prog_7_method_92_code
def yX5_drawn : MethodName := ⟨RX5, "drawn", "(II)I"⟩
abbrev cX5_chance : ByteArray := prog_7_method_93_code
def yX5_chance : MethodName := ⟨RX5, "chance", "(IIII)J"⟩
abbrev cX5_image : ByteArray := prog_7_method_94_code
def yX5_image : MethodName := ⟨RX5, "image", "()I"⟩
abbrev cX5_back : ByteArray := prog_7_method_95_code
def yX5_back : MethodName := ⟨RX5, "back", "()I"⟩
abbrev cX5_count : ByteArray := prog_7_method_96_code
def yX5_count : MethodName := ⟨RX5, "count", "(I)I"⟩
abbrev cX5_isSheet : ByteArray := prog_7_method_97_code
def yX5_isSheet : MethodName := ⟨RX5, "isSheet", "(I)Z"⟩
abbrev cX5_sheet : ByteArray := prog_7_method_98_code
def yX5_sheet : MethodName := ⟨RX5, "sheet", "(III)I"⟩
abbrev cX5_cell : ByteArray := prog_7_method_99_code
def yX5_cell : MethodName := ⟨RX5, "cell", "(III)I"⟩
abbrev cX5_copy : ByteArray := prog_7_method_100_code
def yX5_copy : MethodName := ⟨RX5, "copy", "(IIIII)I"⟩
abbrev cX5_works : ByteArray := prog_7_method_101_code
def yX5_works : MethodName := ⟨RX5, "works", "(IIII)I"⟩
abbrev cX5_over : ByteArray := prog_7_method_102_code
def yX5_over : MethodName := ⟨RX5, "over", "(I)I"⟩
abbrev cX5_taken : ByteArray := prog_7_method_103_code
def yX5_taken : MethodName := ⟨RX5, "taken", "(II)I"⟩
def RJ6 : String := "java/lang/Integer"
def TJ6 : u_T := fun k => match k with
  | _ => ("", "", "", false)
def tyJ6 : Nat → FieldType := fun k => match k with
  | _ => .int
theorem nmJ6 : ∀ a, a < 0 → ∀ b, b < 0 → a ≠ b → (TJ6 a).2.1 ≠ (TJ6 b).2.1 := by decide +kernel
theorem tyJ6_ok : ∀ k, k < 0 → parseFieldDescriptor (TJ6 k).2.2.1 = some (tyJ6 k) := by decide +kernel
abbrev cJ6_bitCount_0f7a4 : ByteArray := prog_8_method_49_code
def yJ6_bitCount_0f7a4 : MethodName := ⟨RJ6, "bitCount", "(I)I"⟩
def RJ9 : String := "java/lang/Math"
def TJ9 : u_T := fun k => match k with
  | _ => ("", "", "", false)
def tyJ9 : Nat → FieldType := fun k => match k with
  | _ => .int
theorem nmJ9 : ∀ a, a < 0 → ∀ b, b < 0 → a ≠ b → (TJ9 a).2.1 ≠ (TJ9 b).2.1 := by decide +kernel
theorem tyJ9_ok : ∀ k, k < 0 → parseFieldDescriptor (TJ9 k).2.2.1 = some (tyJ9 k) := by decide +kernel
abbrev cJ9_max_7cf53 : ByteArray := prog_9_method_65_code
def yJ9_max_7cf53 : MethodName := ⟨RJ9, "max", "(II)I"⟩
abbrev cJ9_min_7cf53 : ByteArray := prog_9_method_69_code
def yJ9_min_7cf53 : MethodName := ⟨RJ9, "min", "(II)I"⟩
def RJ0 : String := "java/lang/String"
def TJ0 : u_T := fun k => match k with
  | _ => ("", "", "", false)
def tyJ0 : Nat → FieldType := fun k => match k with
  | _ => .int
theorem nmJ0 : ∀ a, a < 0 → ∀ b, b < 0 → a ≠ b → (TJ0 a).2.1 ≠ (TJ0 b).2.1 := by decide +kernel
theorem tyJ0_ok : ∀ k, k < 0 → parseFieldDescriptor (TJ0 k).2.2.1 = some (tyJ0 k) := by decide +kernel
abbrev cJ0_length_8abf5 : ByteArray := prog_10_method_54_code
def yJ0_length_8abf5 : MethodName := ⟨RJ0, "length", "()I"⟩
abbrev cJ0_charAt_5068e : ByteArray := prog_10_method_56_code
def yJ0_charAt_5068e : MethodName := ⟨RJ0, "charAt", "(I)C"⟩
abbrev cJ0_coder_7d493 : ByteArray := prog_10_method_152_code
def yJ0_coder_7d493 : MethodName := ⟨RJ0, "coder", "()B"⟩
abbrev cJ0_isLatin1_aae02 : ByteArray := prog_10_method_154_code
def yJ0_isLatin1_aae02 : MethodName := ⟨RJ0, "isLatin1", "()Z"⟩
abbrev cJ0_checkIndex_df160 : ByteArray := prog_10_method_155_code
def yJ0_checkIndex_df160 : MethodName := ⟨RJ0, "checkIndex", "(II)V"⟩
def RJ1 : String := "java/lang/StringLatin1"
def TJ1 : u_T := fun k => match k with
  | _ => ("", "", "", false)
def tyJ1 : Nat → FieldType := fun k => match k with
  | _ => .int
theorem nmJ1 : ∀ a, a < 0 → ∀ b, b < 0 → a ≠ b → (TJ1 a).2.1 ≠ (TJ1 b).2.1 := by decide +kernel
theorem tyJ1_ok : ∀ k, k < 0 → parseFieldDescriptor (TJ1 k).2.2.1 = some (tyJ1 k) := by decide +kernel
abbrev cJ1_charAt_3b067 : ByteArray := prog_11_method_2_code
def yJ1_charAt_3b067 : MethodName := ⟨RJ1, "charAt", "([BI)C"⟩
def RJ2 : String := "java/lang/StringUTF16"
def TJ2 : u_T := fun k => match k with
  | _ => ("", "", "", false)
def tyJ2 : Nat → FieldType := fun k => match k with
  | _ => .int
theorem nmJ2 : ∀ a, a < 0 → ∀ b, b < 0 → a ≠ b → (TJ2 a).2.1 ≠ (TJ2 b).2.1 := by decide +kernel
theorem tyJ2_ok : ∀ k, k < 0 → parseFieldDescriptor (TJ2 k).2.2.1 = some (tyJ2 k) := by decide +kernel
abbrev cJ2_getChar_3b067 : ByteArray := prog_12_method_5_code
def yJ2_getChar_3b067 : MethodName := ⟨RJ2, "getChar", "([BI)C"⟩
abbrev cJ2_length_9d52b : ByteArray := prog_12_method_6_code
def yJ2_length_9d52b : MethodName := ⟨RJ2, "length", "([B)I"⟩
abbrev cJ2_charAt_3b067 : ByteArray := prog_12_method_83_code
def yJ2_charAt_3b067 : MethodName := ⟨RJ2, "charAt", "([BI)C"⟩
abbrev cJ2_checkIndex_2214a : ByteArray := prog_12_method_91_code
def yJ2_checkIndex_2214a : MethodName := ⟨RJ2, "checkIndex", "(I[B)V"⟩
def RJ10 : String := "java/lang/System"
def TJ10 : u_T := fun k => match k with
  | _ => ("", "", "", false)
def tyJ10 : Nat → FieldType := fun k => match k with
  | _ => .int
theorem nmJ10 : ∀ a, a < 0 → ∀ b, b < 0 → a ≠ b → (TJ10 a).2.1 ≠ (TJ10 b).2.1 := by decide +kernel
theorem tyJ10_ok : ∀ k, k < 0 → parseFieldDescriptor (TJ10 k).2.2.1 = some (tyJ10 k) := by decide +kernel
def RJ3 : String := "jdk/internal/util/Preconditions"
def TJ3 : u_T := fun k => match k with
  | _ => ("", "", "", false)
def tyJ3 : Nat → FieldType := fun k => match k with
  | _ => .int
theorem nmJ3 : ∀ a, a < 0 → ∀ b, b < 0 → a ≠ b → (TJ3 a).2.1 ≠ (TJ3 b).2.1 := by decide +kernel
theorem tyJ3_ok : ∀ k, k < 0 → parseFieldDescriptor (TJ3 k).2.2.1 = some (tyJ3 k) := by decide +kernel
abbrev cJ3_checkIndex_8e157 : ByteArray := prog_14_method_11_code
def yJ3_checkIndex_8e157 : MethodName := ⟨RJ3, "checkIndex", "(IILjava/util/function/BiFunction;)I"⟩
def RL : String := "DrainedForAThirdLaw"
abbrev cL_law : ByteArray := code
def yL_law : MethodName := ⟨RL, "law", "([I)Z"⟩
abbrev vwCl : List vw_C := [(RX0, TX0, 13), (RX1, TX1, 9), (RX2, TX2, 3), (RX3, TX3, 3), (RX4, TX4, 9), (RX5, TX5, 45)]
end
section
theorem dX0_init_0 : decode cX0_init 0 = .ok (.aload_n 0, 1) := by decide +kernel
theorem dX0_init_1 : decode cX0_init 1 = .ok (.invokespecial 3, 3) := by decide +kernel
theorem dX0_init_4 : decode cX0_init 4 = .ok (.aload_n 0, 1) := by decide +kernel
theorem dX0_init_5 : decode cX0_init 5 = .ok (.bipush 12, 2) := by decide +kernel
theorem dX0_init_7 : decode cX0_init 7 = .ok (.newarray .int, 2) := by decide +kernel
theorem dX0_init_9 : decode cX0_init 9 = .ok (.putfield 9, 3) := by decide +kernel
theorem dX0_init_12 : decode cX0_init 12 = .ok (.aload_n 0, 1) := by decide +kernel
theorem dX0_init_13 : decode cX0_init 13 = .ok (.bipush 12, 2) := by decide +kernel
theorem dX0_init_15 : decode cX0_init 15 = .ok (.newarray .int, 2) := by decide +kernel
theorem dX0_init_17 : decode cX0_init 17 = .ok (.putfield 15, 3) := by decide +kernel
theorem dX0_init_20 : decode cX0_init 20 = .ok (.aload_n 0, 1) := by decide +kernel
theorem dX0_init_21 : decode cX0_init 21 = .ok (.bipush 12, 2) := by decide +kernel
theorem dX0_init_23 : decode cX0_init 23 = .ok (.newarray .int, 2) := by decide +kernel
theorem dX0_init_25 : decode cX0_init 25 = .ok (.putfield 18, 3) := by decide +kernel
theorem dX0_init_28 : decode cX0_init 28 = .ok (.aload_n 0, 1) := by decide +kernel
theorem dX0_init_29 : decode cX0_init 29 = .ok (.bipush 6, 2) := by decide +kernel
theorem dX0_init_31 : decode cX0_init 31 = .ok (.newarray .int, 2) := by decide +kernel
theorem dX0_init_33 : decode cX0_init 33 = .ok (.putfield 21, 3) := by decide +kernel
theorem dX0_init_36 : decode cX0_init 36 = .ok (.aload_n 0, 1) := by decide +kernel
theorem dX0_init_37 : decode cX0_init 37 = .ok (.bipush 6, 2) := by decide +kernel
theorem dX0_init_39 : decode cX0_init 39 = .ok (.newarray .int, 2) := by decide +kernel
theorem dX0_init_41 : decode cX0_init 41 = .ok (.putfield 24, 3) := by decide +kernel
theorem dX0_init_44 : decode cX0_init 44 = .ok (.aload_n 0, 1) := by decide +kernel
theorem dX0_init_45 : decode cX0_init 45 = .ok (.bipush 6, 2) := by decide +kernel
theorem dX0_init_47 : decode cX0_init 47 = .ok (.newarray .int, 2) := by decide +kernel
theorem dX0_init_49 : decode cX0_init 49 = .ok (.putfield 27, 3) := by decide +kernel
theorem dX0_init_52 : decode cX0_init 52 = .ok (.aload_n 0, 1) := by decide +kernel
theorem dX0_init_53 : decode cX0_init 53 = .ok (.bipush 6, 2) := by decide +kernel
theorem dX0_init_55 : decode cX0_init 55 = .ok (.newarray .int, 2) := by decide +kernel
theorem dX0_init_57 : decode cX0_init 57 = .ok (.putfield 30, 3) := by decide +kernel
theorem dX0_init_60 : decode cX0_init 60 = .ok (.aload_n 0, 1) := by decide +kernel
theorem dX0_init_61 : decode cX0_init 61 = .ok (.bipush 31, 2) := by decide +kernel
theorem dX0_init_63 : decode cX0_init 63 = .ok (.newarray .int, 2) := by decide +kernel
theorem dX0_init_65 : decode cX0_init 65 = .ok (.putfield 33, 3) := by decide +kernel
theorem dX0_init_68 : decode cX0_init 68 = .ok (.aload_n 0, 1) := by decide +kernel
theorem dX0_init_69 : decode cX0_init 69 = .ok (.bipush 35, 2) := by decide +kernel
theorem dX0_init_71 : decode cX0_init 71 = .ok (.putfield 36, 3) := by decide +kernel
theorem dX0_init_74 : decode cX0_init 74 = .ok (.iconst 0, 1) := by decide +kernel
theorem dX0_init_75 : decode cX0_init 75 = .ok (.istore_n 1, 1) := by decide +kernel
theorem dX0_init_76 : decode cX0_init 76 = .ok (.iload_n 1, 1) := by decide +kernel
theorem dX0_init_77 : decode cX0_init 77 = .ok (.bipush 12, 2) := by decide +kernel
theorem dX0_init_79 : decode cX0_init 79 = .ok (.if_icmp .ge 32, 3) := by decide +kernel
theorem dX0_init_82 : decode cX0_init 82 = .ok (.aload_n 0, 1) := by decide +kernel
theorem dX0_init_83 : decode cX0_init 83 = .ok (.getfield 9, 3) := by decide +kernel
theorem dX0_init_86 : decode cX0_init 86 = .ok (.iload_n 1, 1) := by decide +kernel
theorem dX0_init_87 : decode cX0_init 87 = .ok (.bipush 40, 2) := by decide +kernel
theorem dX0_init_89 : decode cX0_init 89 = .ok (.iastore, 1) := by decide +kernel
theorem dX0_init_90 : decode cX0_init 90 = .ok (.aload_n 0, 1) := by decide +kernel
theorem dX0_init_91 : decode cX0_init 91 = .ok (.getfield 15, 3) := by decide +kernel
theorem dX0_init_94 : decode cX0_init 94 = .ok (.iload_n 1, 1) := by decide +kernel
theorem dX0_init_95 : decode cX0_init 95 = .ok (.bipush 20, 2) := by decide +kernel
theorem dX0_init_97 : decode cX0_init 97 = .ok (.iastore, 1) := by decide +kernel
theorem dX0_init_98 : decode cX0_init 98 = .ok (.aload_n 0, 1) := by decide +kernel
theorem dX0_init_99 : decode cX0_init 99 = .ok (.getfield 18, 3) := by decide +kernel
theorem dX0_init_102 : decode cX0_init 102 = .ok (.iload_n 1, 1) := by decide +kernel
theorem dX0_init_103 : decode cX0_init 103 = .ok (.iconst 5, 1) := by decide +kernel
theorem dX0_init_104 : decode cX0_init 104 = .ok (.iastore, 1) := by decide +kernel
theorem dX0_init_105 : decode cX0_init 105 = .ok (.iinc 1 1, 3) := by decide +kernel
theorem dX0_init_108 : decode cX0_init 108 = .ok (.goto (-32), 3) := by decide +kernel
theorem dX0_init_111 : decode cX0_init 111 = .ok (.return_, 1) := by decide +kernel
theorem dX0_take_0 : decode cX0_take 0 = .ok (.aload_n 1, 1) := by decide +kernel
theorem dX0_take_1 : decode cX0_take 1 = .ok (.getfield 9, 3) := by decide +kernel
theorem dX0_take_4 : decode cX0_take 4 = .ok (.iconst 0, 1) := by decide +kernel
theorem dX0_take_5 : decode cX0_take 5 = .ok (.aload_n 0, 1) := by decide +kernel
theorem dX0_take_6 : decode cX0_take 6 = .ok (.getfield 9, 3) := by decide +kernel
theorem dX0_take_9 : decode cX0_take 9 = .ok (.iconst 0, 1) := by decide +kernel
theorem dX0_take_10 : decode cX0_take 10 = .ok (.bipush 12, 2) := by decide +kernel
theorem dX0_take_12 : decode cX0_take 12 = .ok (.invokestatic 40, 3) := by decide +kernel
theorem dX0_take_15 : decode cX0_take 15 = .ok (.aload_n 1, 1) := by decide +kernel
theorem dX0_take_16 : decode cX0_take 16 = .ok (.getfield 15, 3) := by decide +kernel
theorem dX0_take_19 : decode cX0_take 19 = .ok (.iconst 0, 1) := by decide +kernel
theorem dX0_take_20 : decode cX0_take 20 = .ok (.aload_n 0, 1) := by decide +kernel
theorem dX0_take_21 : decode cX0_take 21 = .ok (.getfield 15, 3) := by decide +kernel
theorem dX0_take_24 : decode cX0_take 24 = .ok (.iconst 0, 1) := by decide +kernel
theorem dX0_take_25 : decode cX0_take 25 = .ok (.bipush 12, 2) := by decide +kernel
theorem dX0_take_27 : decode cX0_take 27 = .ok (.invokestatic 40, 3) := by decide +kernel
theorem dX0_take_30 : decode cX0_take 30 = .ok (.aload_n 1, 1) := by decide +kernel
theorem dX0_take_31 : decode cX0_take 31 = .ok (.getfield 18, 3) := by decide +kernel
theorem dX0_take_34 : decode cX0_take 34 = .ok (.iconst 0, 1) := by decide +kernel
theorem dX0_take_35 : decode cX0_take 35 = .ok (.aload_n 0, 1) := by decide +kernel
theorem dX0_take_36 : decode cX0_take 36 = .ok (.getfield 18, 3) := by decide +kernel
theorem dX0_take_39 : decode cX0_take 39 = .ok (.iconst 0, 1) := by decide +kernel
theorem dX0_take_40 : decode cX0_take 40 = .ok (.bipush 12, 2) := by decide +kernel
theorem dX0_take_42 : decode cX0_take 42 = .ok (.invokestatic 40, 3) := by decide +kernel
theorem dX0_take_45 : decode cX0_take 45 = .ok (.aload_n 1, 1) := by decide +kernel
theorem dX0_take_46 : decode cX0_take 46 = .ok (.getfield 21, 3) := by decide +kernel
theorem dX0_take_49 : decode cX0_take 49 = .ok (.iconst 0, 1) := by decide +kernel
theorem dX0_take_50 : decode cX0_take 50 = .ok (.aload_n 0, 1) := by decide +kernel
theorem dX0_take_51 : decode cX0_take 51 = .ok (.getfield 21, 3) := by decide +kernel
theorem dX0_take_54 : decode cX0_take 54 = .ok (.iconst 0, 1) := by decide +kernel
theorem dX0_take_55 : decode cX0_take 55 = .ok (.bipush 6, 2) := by decide +kernel
theorem dX0_take_57 : decode cX0_take 57 = .ok (.invokestatic 40, 3) := by decide +kernel
theorem dX0_take_60 : decode cX0_take 60 = .ok (.aload_n 1, 1) := by decide +kernel
theorem dX0_take_61 : decode cX0_take 61 = .ok (.getfield 24, 3) := by decide +kernel
theorem dX0_take_64 : decode cX0_take 64 = .ok (.iconst 0, 1) := by decide +kernel
theorem dX0_take_65 : decode cX0_take 65 = .ok (.aload_n 0, 1) := by decide +kernel
theorem dX0_take_66 : decode cX0_take 66 = .ok (.getfield 24, 3) := by decide +kernel
theorem dX0_take_69 : decode cX0_take 69 = .ok (.iconst 0, 1) := by decide +kernel
theorem dX0_take_70 : decode cX0_take 70 = .ok (.bipush 6, 2) := by decide +kernel
theorem dX0_take_72 : decode cX0_take 72 = .ok (.invokestatic 40, 3) := by decide +kernel
theorem dX0_take_75 : decode cX0_take 75 = .ok (.aload_n 1, 1) := by decide +kernel
theorem dX0_take_76 : decode cX0_take 76 = .ok (.getfield 27, 3) := by decide +kernel
theorem dX0_take_79 : decode cX0_take 79 = .ok (.iconst 0, 1) := by decide +kernel
theorem dX0_take_80 : decode cX0_take 80 = .ok (.aload_n 0, 1) := by decide +kernel
theorem dX0_take_81 : decode cX0_take 81 = .ok (.getfield 27, 3) := by decide +kernel
theorem dX0_take_84 : decode cX0_take 84 = .ok (.iconst 0, 1) := by decide +kernel
theorem dX0_take_85 : decode cX0_take 85 = .ok (.bipush 6, 2) := by decide +kernel
theorem dX0_take_87 : decode cX0_take 87 = .ok (.invokestatic 40, 3) := by decide +kernel
theorem dX0_take_90 : decode cX0_take 90 = .ok (.aload_n 1, 1) := by decide +kernel
theorem dX0_take_91 : decode cX0_take 91 = .ok (.getfield 30, 3) := by decide +kernel
theorem dX0_take_94 : decode cX0_take 94 = .ok (.iconst 0, 1) := by decide +kernel
theorem dX0_take_95 : decode cX0_take 95 = .ok (.aload_n 0, 1) := by decide +kernel
theorem dX0_take_96 : decode cX0_take 96 = .ok (.getfield 30, 3) := by decide +kernel
theorem dX0_take_99 : decode cX0_take 99 = .ok (.iconst 0, 1) := by decide +kernel
theorem dX0_take_100 : decode cX0_take 100 = .ok (.bipush 6, 2) := by decide +kernel
theorem dX0_take_102 : decode cX0_take 102 = .ok (.invokestatic 40, 3) := by decide +kernel
theorem dX0_take_105 : decode cX0_take 105 = .ok (.aload_n 0, 1) := by decide +kernel
theorem dX0_take_106 : decode cX0_take 106 = .ok (.aload_n 1, 1) := by decide +kernel
theorem dX0_take_107 : decode cX0_take 107 = .ok (.getfield 36, 3) := by decide +kernel
theorem dX0_take_110 : decode cX0_take 110 = .ok (.putfield 36, 3) := by decide +kernel
theorem dX0_take_113 : decode cX0_take 113 = .ok (.aload_n 0, 1) := by decide +kernel
theorem dX0_take_114 : decode cX0_take 114 = .ok (.aload_n 1, 1) := by decide +kernel
theorem dX0_take_115 : decode cX0_take 115 = .ok (.getfield 46, 3) := by decide +kernel
theorem dX0_take_118 : decode cX0_take 118 = .ok (.putfield 46, 3) := by decide +kernel
theorem dX0_take_121 : decode cX0_take 121 = .ok (.aload_n 0, 1) := by decide +kernel
theorem dX0_take_122 : decode cX0_take 122 = .ok (.aload_n 1, 1) := by decide +kernel
theorem dX0_take_123 : decode cX0_take 123 = .ok (.getfield 49, 3) := by decide +kernel
theorem dX0_take_126 : decode cX0_take 126 = .ok (.putfield 49, 3) := by decide +kernel
theorem dX0_take_129 : decode cX0_take 129 = .ok (.aload_n 0, 1) := by decide +kernel
theorem dX0_take_130 : decode cX0_take 130 = .ok (.aload_n 1, 1) := by decide +kernel
theorem dX0_take_131 : decode cX0_take 131 = .ok (.getfield 52, 3) := by decide +kernel
theorem dX0_take_134 : decode cX0_take 134 = .ok (.putfield 52, 3) := by decide +kernel
theorem dX0_take_137 : decode cX0_take 137 = .ok (.aload_n 0, 1) := by decide +kernel
theorem dX0_take_138 : decode cX0_take 138 = .ok (.aload_n 1, 1) := by decide +kernel
theorem dX0_take_139 : decode cX0_take 139 = .ok (.getfield 55, 3) := by decide +kernel
theorem dX0_take_142 : decode cX0_take 142 = .ok (.putfield 55, 3) := by decide +kernel
theorem dX0_take_145 : decode cX0_take 145 = .ok (.return_, 1) := by decide +kernel
theorem dX0_add_0 : decode cX0_add 0 = .ok (.aload_n 0, 1) := by decide +kernel
theorem dX0_add_1 : decode cX0_add 1 = .ok (.getfield 52, 3) := by decide +kernel
theorem dX0_add_4 : decode cX0_add 4 = .ok (.bipush 6, 2) := by decide +kernel
theorem dX0_add_6 : decode cX0_add 6 = .ok (.if_icmp .ge 53, 3) := by decide +kernel
theorem dX0_add_9 : decode cX0_add 9 = .ok (.aload_n 0, 1) := by decide +kernel
theorem dX0_add_10 : decode cX0_add 10 = .ok (.getfield 21, 3) := by decide +kernel
theorem dX0_add_13 : decode cX0_add 13 = .ok (.aload_n 0, 1) := by decide +kernel
theorem dX0_add_14 : decode cX0_add 14 = .ok (.getfield 52, 3) := by decide +kernel
theorem dX0_add_17 : decode cX0_add 17 = .ok (.iload_n 1, 1) := by decide +kernel
theorem dX0_add_18 : decode cX0_add 18 = .ok (.iastore, 1) := by decide +kernel
theorem dX0_add_19 : decode cX0_add 19 = .ok (.aload_n 0, 1) := by decide +kernel
theorem dX0_add_20 : decode cX0_add 20 = .ok (.getfield 24, 3) := by decide +kernel
theorem dX0_add_23 : decode cX0_add 23 = .ok (.aload_n 0, 1) := by decide +kernel
theorem dX0_add_24 : decode cX0_add 24 = .ok (.getfield 52, 3) := by decide +kernel
theorem dX0_add_27 : decode cX0_add 27 = .ok (.iload_n 2, 1) := by decide +kernel
theorem dX0_add_28 : decode cX0_add 28 = .ok (.iastore, 1) := by decide +kernel
theorem dX0_add_29 : decode cX0_add 29 = .ok (.aload_n 0, 1) := by decide +kernel
theorem dX0_add_30 : decode cX0_add 30 = .ok (.getfield 27, 3) := by decide +kernel
theorem dX0_add_33 : decode cX0_add 33 = .ok (.aload_n 0, 1) := by decide +kernel
theorem dX0_add_34 : decode cX0_add 34 = .ok (.getfield 52, 3) := by decide +kernel
theorem dX0_add_37 : decode cX0_add 37 = .ok (.iload_n 3, 1) := by decide +kernel
theorem dX0_add_38 : decode cX0_add 38 = .ok (.iastore, 1) := by decide +kernel
theorem dX0_add_39 : decode cX0_add 39 = .ok (.aload_n 0, 1) := by decide +kernel
theorem dX0_add_40 : decode cX0_add 40 = .ok (.getfield 30, 3) := by decide +kernel
theorem dX0_add_43 : decode cX0_add 43 = .ok (.aload_n 0, 1) := by decide +kernel
theorem dX0_add_44 : decode cX0_add 44 = .ok (.getfield 52, 3) := by decide +kernel
theorem dX0_add_47 : decode cX0_add 47 = .ok (.iconst 1, 1) := by decide +kernel
theorem dX0_add_48 : decode cX0_add 48 = .ok (.iastore, 1) := by decide +kernel
theorem dX0_add_49 : decode cX0_add 49 = .ok (.aload_n 0, 1) := by decide +kernel
theorem dX0_add_50 : decode cX0_add 50 = .ok (.dup, 1) := by decide +kernel
theorem dX0_add_51 : decode cX0_add 51 = .ok (.getfield 52, 3) := by decide +kernel
theorem dX0_add_54 : decode cX0_add 54 = .ok (.iconst 1, 1) := by decide +kernel
theorem dX0_add_55 : decode cX0_add 55 = .ok (.iadd, 1) := by decide +kernel
theorem dX0_add_56 : decode cX0_add 56 = .ok (.putfield 52, 3) := by decide +kernel
theorem dX0_add_59 : decode cX0_add 59 = .ok (.return_, 1) := by decide +kernel
theorem dX0_most_0 : decode cX0_most 0 = .ok (.iload_n 0, 1) := by decide +kernel
theorem dX0_most_1 : decode cX0_most 1 = .ok (.ifCond .lt 19, 3) := by decide +kernel
theorem dX0_most_4 : decode cX0_most 4 = .ok (.iload_n 0, 1) := by decide +kernel
theorem dX0_most_5 : decode cX0_most 5 = .ok (.getstatic 58, 3) := by decide +kernel
theorem dX0_most_8 : decode cX0_most 8 = .ok (.arraylength, 1) := by decide +kernel
theorem dX0_most_9 : decode cX0_most 9 = .ok (.if_icmp .ge 11, 3) := by decide +kernel
theorem dX0_most_12 : decode cX0_most 12 = .ok (.getstatic 58, 3) := by decide +kernel
theorem dX0_most_15 : decode cX0_most 15 = .ok (.iload_n 0, 1) := by decide +kernel
theorem dX0_most_16 : decode cX0_most 16 = .ok (.iaload, 1) := by decide +kernel
theorem dX0_most_17 : decode cX0_most 17 = .ok (.goto 4, 3) := by decide +kernel
theorem dX0_most_20 : decode cX0_most 20 = .ok (.iconst 0, 1) := by decide +kernel
theorem dX0_most_21 : decode cX0_most 21 = .ok (.ireturn, 1) := by decide +kernel
theorem dX0_has_0 : decode cX0_has 0 = .ok (.iload_n 1, 1) := by decide +kernel
theorem dX0_has_1 : decode cX0_has 1 = .ok (.ifCond .eq 8, 3) := by decide +kernel
theorem dX0_has_4 : decode cX0_has 4 = .ok (.iload_n 1, 1) := by decide +kernel
theorem dX0_has_5 : decode cX0_has 5 = .ok (.iconst 1, 1) := by decide +kernel
theorem dX0_has_6 : decode cX0_has 6 = .ok (.if_icmp .ne 5, 3) := by decide +kernel
theorem dX0_has_9 : decode cX0_has 9 = .ok (.iconst 1, 1) := by decide +kernel
theorem dX0_has_10 : decode cX0_has 10 = .ok (.ireturn, 1) := by decide +kernel
theorem dX0_has_11 : decode cX0_has 11 = .ok (.iload_n 1, 1) := by decide +kernel
theorem dX0_has_12 : decode cX0_has 12 = .ok (.iconst 2, 1) := by decide +kernel
theorem dX0_has_13 : decode cX0_has 13 = .ok (.if_icmp .lt 13, 3) := by decide +kernel
theorem dX0_has_16 : decode cX0_has 16 = .ok (.iload_n 1, 1) := by decide +kernel
theorem dX0_has_17 : decode cX0_has 17 = .ok (.iconst 4, 1) := by decide +kernel
theorem dX0_has_18 : decode cX0_has 18 = .ok (.if_icmp .gt 8, 3) := by decide +kernel
theorem dX0_has_21 : decode cX0_has 21 = .ok (.iload_n 2, 1) := by decide +kernel
theorem dX0_has_22 : decode cX0_has 22 = .ok (.invokestatic 61, 3) := by decide +kernel
theorem dX0_has_25 : decode cX0_has 25 = .ok (.ireturn, 1) := by decide +kernel
theorem dX0_has_26 : decode cX0_has 26 = .ok (.iload_n 1, 1) := by decide +kernel
theorem dX0_has_27 : decode cX0_has 27 = .ok (.iconst 5, 1) := by decide +kernel
theorem dX0_has_28 : decode cX0_has 28 = .ok (.if_icmp .lt 25, 3) := by decide +kernel
theorem dX0_has_31 : decode cX0_has 31 = .ok (.iload_n 1, 1) := by decide +kernel
theorem dX0_has_32 : decode cX0_has 32 = .ok (.bipush 10, 2) := by decide +kernel
theorem dX0_has_34 : decode cX0_has 34 = .ok (.if_icmp .gt 19, 3) := by decide +kernel
theorem dX0_has_37 : decode cX0_has 37 = .ok (.iload_n 2, 1) := by decide +kernel
theorem dX0_has_38 : decode cX0_has 38 = .ok (.ifCond .lt 15, 3) := by decide +kernel
theorem dX0_has_41 : decode cX0_has 41 = .ok (.iload_n 2, 1) := by decide +kernel
theorem dX0_has_42 : decode cX0_has 42 = .ok (.aload_n 0, 1) := by decide +kernel
theorem dX0_has_43 : decode cX0_has 43 = .ok (.getfield 52, 3) := by decide +kernel
theorem dX0_has_46 : decode cX0_has 46 = .ok (.if_icmp .ge 7, 3) := by decide +kernel
theorem dX0_has_49 : decode cX0_has 49 = .ok (.iconst 1, 1) := by decide +kernel
theorem dX0_has_50 : decode cX0_has 50 = .ok (.goto 4, 3) := by decide +kernel
theorem dX0_has_53 : decode cX0_has 53 = .ok (.iconst 0, 1) := by decide +kernel
theorem dX0_has_54 : decode cX0_has 54 = .ok (.ireturn, 1) := by decide +kernel
theorem dX0_rowOf_0 : decode cX0_rowOf 0 = .ok (.iload_n 1, 1) := by decide +kernel
theorem dX0_rowOf_1 : decode cX0_rowOf 1 = .ok (.tableswitch 69 2 7 #[39, 44, 49, 54, 59, 64], 39) := by decide +kernel
theorem dX0_rowOf_40 : decode cX0_rowOf 40 = .ok (.aload_n 0, 1) := by decide +kernel
theorem dX0_rowOf_41 : decode cX0_rowOf 41 = .ok (.getfield 9, 3) := by decide +kernel
theorem dX0_rowOf_44 : decode cX0_rowOf 44 = .ok (.areturn, 1) := by decide +kernel
theorem dX0_rowOf_45 : decode cX0_rowOf 45 = .ok (.aload_n 0, 1) := by decide +kernel
theorem dX0_rowOf_46 : decode cX0_rowOf 46 = .ok (.getfield 15, 3) := by decide +kernel
theorem dX0_rowOf_49 : decode cX0_rowOf 49 = .ok (.areturn, 1) := by decide +kernel
theorem dX0_rowOf_50 : decode cX0_rowOf 50 = .ok (.aload_n 0, 1) := by decide +kernel
theorem dX0_rowOf_51 : decode cX0_rowOf 51 = .ok (.getfield 18, 3) := by decide +kernel
theorem dX0_rowOf_54 : decode cX0_rowOf 54 = .ok (.areturn, 1) := by decide +kernel
theorem dX0_rowOf_55 : decode cX0_rowOf 55 = .ok (.aload_n 0, 1) := by decide +kernel
theorem dX0_rowOf_56 : decode cX0_rowOf 56 = .ok (.getfield 24, 3) := by decide +kernel
theorem dX0_rowOf_59 : decode cX0_rowOf 59 = .ok (.areturn, 1) := by decide +kernel
theorem dX0_rowOf_60 : decode cX0_rowOf 60 = .ok (.aload_n 0, 1) := by decide +kernel
theorem dX0_rowOf_61 : decode cX0_rowOf 61 = .ok (.getfield 27, 3) := by decide +kernel
theorem dX0_rowOf_64 : decode cX0_rowOf 64 = .ok (.areturn, 1) := by decide +kernel
theorem dX0_rowOf_65 : decode cX0_rowOf 65 = .ok (.aload_n 0, 1) := by decide +kernel
theorem dX0_rowOf_66 : decode cX0_rowOf 66 = .ok (.getfield 30, 3) := by decide +kernel
theorem dX0_rowOf_69 : decode cX0_rowOf 69 = .ok (.areturn, 1) := by decide +kernel
theorem dX0_rowOf_70 : decode cX0_rowOf 70 = .ok (.aload_n 0, 1) := by decide +kernel
theorem dX0_rowOf_71 : decode cX0_rowOf 71 = .ok (.getfield 21, 3) := by decide +kernel
theorem dX0_rowOf_74 : decode cX0_rowOf 74 = .ok (.areturn, 1) := by decide +kernel
theorem dX0_get_0 : decode cX0_get 0 = .ok (.iload_n 1, 1) := by decide +kernel
theorem dX0_get_1 : decode cX0_get 1 = .ok (.lookupswitch 50 #[(0, 35), (1, 40), (11, 45)], 35) := by decide +kernel
theorem dX0_get_36 : decode cX0_get 36 = .ok (.aload_n 0, 1) := by decide +kernel
theorem dX0_get_37 : decode cX0_get 37 = .ok (.getfield 36, 3) := by decide +kernel
theorem dX0_get_40 : decode cX0_get 40 = .ok (.ireturn, 1) := by decide +kernel
theorem dX0_get_41 : decode cX0_get 41 = .ok (.aload_n 0, 1) := by decide +kernel
theorem dX0_get_42 : decode cX0_get 42 = .ok (.getfield 46, 3) := by decide +kernel
theorem dX0_get_45 : decode cX0_get 45 = .ok (.ireturn, 1) := by decide +kernel
theorem dX0_get_46 : decode cX0_get 46 = .ok (.aload_n 0, 1) := by decide +kernel
theorem dX0_get_47 : decode cX0_get 47 = .ok (.getfield 55, 3) := by decide +kernel
theorem dX0_get_50 : decode cX0_get 50 = .ok (.ireturn, 1) := by decide +kernel
theorem dX0_get_51 : decode cX0_get 51 = .ok (.aload_n 0, 1) := by decide +kernel
theorem dX0_get_52 : decode cX0_get 52 = .ok (.iload_n 1, 1) := by decide +kernel
theorem dX0_get_53 : decode cX0_get 53 = .ok (.invokevirtual 65, 3) := by decide +kernel
theorem dX0_get_56 : decode cX0_get 56 = .ok (.astore_n 3, 1) := by decide +kernel
theorem dX0_get_57 : decode cX0_get 57 = .ok (.iload_n 2, 1) := by decide +kernel
theorem dX0_get_58 : decode cX0_get 58 = .ok (.ifCond .lt 15, 3) := by decide +kernel
theorem dX0_get_61 : decode cX0_get 61 = .ok (.iload_n 2, 1) := by decide +kernel
theorem dX0_get_62 : decode cX0_get 62 = .ok (.aload_n 3, 1) := by decide +kernel
theorem dX0_get_63 : decode cX0_get 63 = .ok (.arraylength, 1) := by decide +kernel
theorem dX0_get_64 : decode cX0_get 64 = .ok (.if_icmp .ge 9, 3) := by decide +kernel
theorem dX0_get_67 : decode cX0_get 67 = .ok (.aload_n 3, 1) := by decide +kernel
theorem dX0_get_68 : decode cX0_get 68 = .ok (.iload_n 2, 1) := by decide +kernel
theorem dX0_get_69 : decode cX0_get 69 = .ok (.iaload, 1) := by decide +kernel
theorem dX0_get_70 : decode cX0_get 70 = .ok (.goto 4, 3) := by decide +kernel
theorem dX0_get_73 : decode cX0_get 73 = .ok (.iconst 0, 1) := by decide +kernel
theorem dX0_get_74 : decode cX0_get 74 = .ok (.ireturn, 1) := by decide +kernel
theorem dX0_put_0 : decode cX0_put 0 = .ok (.iload_n 1, 1) := by decide +kernel
theorem dX0_put_1 : decode cX0_put 1 = .ok (.lookupswitch 59 #[(0, 35), (1, 43), (11, 51)], 35) := by decide +kernel
theorem dX0_put_36 : decode cX0_put 36 = .ok (.aload_n 0, 1) := by decide +kernel
theorem dX0_put_37 : decode cX0_put 37 = .ok (.iload_n 3, 1) := by decide +kernel
theorem dX0_put_38 : decode cX0_put 38 = .ok (.putfield 36, 3) := by decide +kernel
theorem dX0_put_41 : decode cX0_put 41 = .ok (.goto 42, 3) := by decide +kernel
theorem dX0_put_44 : decode cX0_put 44 = .ok (.aload_n 0, 1) := by decide +kernel
theorem dX0_put_45 : decode cX0_put 45 = .ok (.iload_n 3, 1) := by decide +kernel
theorem dX0_put_46 : decode cX0_put 46 = .ok (.putfield 46, 3) := by decide +kernel
theorem dX0_put_49 : decode cX0_put 49 = .ok (.goto 34, 3) := by decide +kernel
theorem dX0_put_52 : decode cX0_put 52 = .ok (.aload_n 0, 1) := by decide +kernel
theorem dX0_put_53 : decode cX0_put 53 = .ok (.iload_n 3, 1) := by decide +kernel
theorem dX0_put_54 : decode cX0_put 54 = .ok (.putfield 55, 3) := by decide +kernel
theorem dX0_put_57 : decode cX0_put 57 = .ok (.goto 26, 3) := by decide +kernel
theorem dX0_put_60 : decode cX0_put 60 = .ok (.aload_n 0, 1) := by decide +kernel
theorem dX0_put_61 : decode cX0_put 61 = .ok (.iload_n 1, 1) := by decide +kernel
theorem dX0_put_62 : decode cX0_put 62 = .ok (.invokevirtual 65, 3) := by decide +kernel
theorem dX0_put_65 : decode cX0_put 65 = .ok (.astore 4, 2) := by decide +kernel
theorem dX0_put_67 : decode cX0_put 67 = .ok (.iload_n 2, 1) := by decide +kernel
theorem dX0_put_68 : decode cX0_put 68 = .ok (.ifCond .lt 15, 3) := by decide +kernel
theorem dX0_put_71 : decode cX0_put 71 = .ok (.iload_n 2, 1) := by decide +kernel
theorem dX0_put_72 : decode cX0_put 72 = .ok (.aload 4, 2) := by decide +kernel
theorem dX0_put_74 : decode cX0_put 74 = .ok (.arraylength, 1) := by decide +kernel
theorem dX0_put_75 : decode cX0_put 75 = .ok (.if_icmp .ge 8, 3) := by decide +kernel
theorem dX0_put_78 : decode cX0_put 78 = .ok (.aload 4, 2) := by decide +kernel
theorem dX0_put_80 : decode cX0_put 80 = .ok (.iload_n 2, 1) := by decide +kernel
theorem dX0_put_81 : decode cX0_put 81 = .ok (.iload_n 3, 1) := by decide +kernel
theorem dX0_put_82 : decode cX0_put 82 = .ok (.iastore, 1) := by decide +kernel
theorem dX0_put_83 : decode cX0_put 83 = .ok (.return_, 1) := by decide +kernel
theorem dX0_goes_0 : decode cX0_goes 0 = .ok (.iload_n 1, 1) := by decide +kernel
theorem dX0_goes_1 : decode cX0_goes 1 = .ok (.ifCond .lt 25, 3) := by decide +kernel
theorem dX0_goes_4 : decode cX0_goes 4 = .ok (.iload_n 1, 1) := by decide +kernel
theorem dX0_goes_5 : decode cX0_goes 5 = .ok (.aload_n 0, 1) := by decide +kernel
theorem dX0_goes_6 : decode cX0_goes 6 = .ok (.getfield 52, 3) := by decide +kernel
theorem dX0_goes_9 : decode cX0_goes 9 = .ok (.if_icmp .ge 17, 3) := by decide +kernel
theorem dX0_goes_12 : decode cX0_goes 12 = .ok (.aload_n 0, 1) := by decide +kernel
theorem dX0_goes_13 : decode cX0_goes 13 = .ok (.getfield 30, 3) := by decide +kernel
theorem dX0_goes_16 : decode cX0_goes 16 = .ok (.iload_n 1, 1) := by decide +kernel
theorem dX0_goes_17 : decode cX0_goes 17 = .ok (.iaload, 1) := by decide +kernel
theorem dX0_goes_18 : decode cX0_goes 18 = .ok (.iconst 1, 1) := by decide +kernel
theorem dX0_goes_19 : decode cX0_goes 19 = .ok (.if_icmp .ne 7, 3) := by decide +kernel
theorem dX0_goes_22 : decode cX0_goes 22 = .ok (.iconst 1, 1) := by decide +kernel
theorem dX0_goes_23 : decode cX0_goes 23 = .ok (.goto 4, 3) := by decide +kernel
theorem dX0_goes_26 : decode cX0_goes 26 = .ok (.iconst 0, 1) := by decide +kernel
theorem dX0_goes_27 : decode cX0_goes 27 = .ok (.ireturn, 1) := by decide +kernel
theorem dX0_goingWorks_0 : decode cX0_goingWorks 0 = .ok (.iconst 0, 1) := by decide +kernel
theorem dX0_goingWorks_1 : decode cX0_goingWorks 1 = .ok (.istore_n 1, 1) := by decide +kernel
theorem dX0_goingWorks_2 : decode cX0_goingWorks 2 = .ok (.iconst 0, 1) := by decide +kernel
theorem dX0_goingWorks_3 : decode cX0_goingWorks 3 = .ok (.istore_n 2, 1) := by decide +kernel
theorem dX0_goingWorks_4 : decode cX0_goingWorks 4 = .ok (.iload_n 2, 1) := by decide +kernel
theorem dX0_goingWorks_5 : decode cX0_goingWorks 5 = .ok (.bipush 6, 2) := by decide +kernel
theorem dX0_goingWorks_7 : decode cX0_goingWorks 7 = .ok (.if_icmp .ge 20, 3) := by decide +kernel
theorem dX0_goingWorks_10 : decode cX0_goingWorks 10 = .ok (.aload_n 0, 1) := by decide +kernel
theorem dX0_goingWorks_11 : decode cX0_goingWorks 11 = .ok (.iload_n 2, 1) := by decide +kernel
theorem dX0_goingWorks_12 : decode cX0_goingWorks 12 = .ok (.invokevirtual 69, 3) := by decide +kernel
theorem dX0_goingWorks_15 : decode cX0_goingWorks 15 = .ok (.ifCond .eq 6, 3) := by decide +kernel
theorem dX0_goingWorks_18 : decode cX0_goingWorks 18 = .ok (.iinc 1 1, 3) := by decide +kernel
theorem dX0_goingWorks_21 : decode cX0_goingWorks 21 = .ok (.iinc 2 1, 3) := by decide +kernel
theorem dX0_goingWorks_24 : decode cX0_goingWorks 24 = .ok (.goto (-20), 3) := by decide +kernel
theorem dX0_goingWorks_27 : decode cX0_goingWorks 27 = .ok (.iload_n 1, 1) := by decide +kernel
theorem dX0_goingWorks_28 : decode cX0_goingWorks 28 = .ok (.ireturn, 1) := by decide +kernel
theorem dX0_dryCells_0 : decode cX0_dryCells 0 = .ok (.iconst 0, 1) := by decide +kernel
theorem dX0_dryCells_1 : decode cX0_dryCells 1 = .ok (.istore_n 1, 1) := by decide +kernel
theorem dX0_dryCells_2 : decode cX0_dryCells 2 = .ok (.iconst 0, 1) := by decide +kernel
theorem dX0_dryCells_3 : decode cX0_dryCells 3 = .ok (.istore_n 2, 1) := by decide +kernel
theorem dX0_dryCells_4 : decode cX0_dryCells 4 = .ok (.iload_n 2, 1) := by decide +kernel
theorem dX0_dryCells_5 : decode cX0_dryCells 5 = .ok (.bipush 12, 2) := by decide +kernel
theorem dX0_dryCells_7 : decode cX0_dryCells 7 = .ok (.if_icmp .ge 24, 3) := by decide +kernel
theorem dX0_dryCells_10 : decode cX0_dryCells 10 = .ok (.aload_n 0, 1) := by decide +kernel
theorem dX0_dryCells_11 : decode cX0_dryCells 11 = .ok (.getfield 18, 3) := by decide +kernel
theorem dX0_dryCells_14 : decode cX0_dryCells 14 = .ok (.iload_n 2, 1) := by decide +kernel
theorem dX0_dryCells_15 : decode cX0_dryCells 15 = .ok (.iaload, 1) := by decide +kernel
theorem dX0_dryCells_16 : decode cX0_dryCells 16 = .ok (.ifCond .ne 9, 3) := by decide +kernel
theorem dX0_dryCells_19 : decode cX0_dryCells 19 = .ok (.iload_n 1, 1) := by decide +kernel
theorem dX0_dryCells_20 : decode cX0_dryCells 20 = .ok (.iconst 1, 1) := by decide +kernel
theorem dX0_dryCells_21 : decode cX0_dryCells 21 = .ok (.iload_n 2, 1) := by decide +kernel
theorem dX0_dryCells_22 : decode cX0_dryCells 22 = .ok (.ishl, 1) := by decide +kernel
theorem dX0_dryCells_23 : decode cX0_dryCells 23 = .ok (.ior, 1) := by decide +kernel
theorem dX0_dryCells_24 : decode cX0_dryCells 24 = .ok (.istore_n 1, 1) := by decide +kernel
theorem dX0_dryCells_25 : decode cX0_dryCells 25 = .ok (.iinc 2 1, 3) := by decide +kernel
theorem dX0_dryCells_28 : decode cX0_dryCells 28 = .ok (.goto (-24), 3) := by decide +kernel
theorem dX0_dryCells_31 : decode cX0_dryCells 31 = .ok (.iload_n 1, 1) := by decide +kernel
theorem dX0_dryCells_32 : decode cX0_dryCells 32 = .ok (.ireturn, 1) := by decide +kernel
theorem dX0_isUnder_0 : decode cX0_isUnder 0 = .ok (.iload_n 0, 1) := by decide +kernel
theorem dX0_isUnder_1 : decode cX0_isUnder 1 = .ok (.istore_n 2, 1) := by decide +kernel
theorem dX0_isUnder_2 : decode cX0_isUnder 2 = .ok (.iconst 0, 1) := by decide +kernel
theorem dX0_isUnder_3 : decode cX0_isUnder 3 = .ok (.istore_n 3, 1) := by decide +kernel
theorem dX0_isUnder_4 : decode cX0_isUnder 4 = .ok (.iload_n 3, 1) := by decide +kernel
theorem dX0_isUnder_5 : decode cX0_isUnder 5 = .ok (.bipush 6, 2) := by decide +kernel
theorem dX0_isUnder_7 : decode cX0_isUnder 7 = .ok (.if_icmp .ge 34, 3) := by decide +kernel
theorem dX0_isUnder_10 : decode cX0_isUnder 10 = .ok (.iload_n 2, 1) := by decide +kernel
theorem dX0_isUnder_11 : decode cX0_isUnder 11 = .ok (.ifCond .lt 30, 3) := by decide +kernel
theorem dX0_isUnder_14 : decode cX0_isUnder 14 = .ok (.iload_n 2, 1) := by decide +kernel
theorem dX0_isUnder_15 : decode cX0_isUnder 15 = .ok (.getstatic 72, 3) := by decide +kernel
theorem dX0_isUnder_18 : decode cX0_isUnder 18 = .ok (.arraylength, 1) := by decide +kernel
theorem dX0_isUnder_19 : decode cX0_isUnder 19 = .ok (.if_icmp .ge 22, 3) := by decide +kernel
theorem dX0_isUnder_22 : decode cX0_isUnder 22 = .ok (.iload_n 2, 1) := by decide +kernel
theorem dX0_isUnder_23 : decode cX0_isUnder 23 = .ok (.iload_n 1, 1) := by decide +kernel
theorem dX0_isUnder_24 : decode cX0_isUnder 24 = .ok (.if_icmp .ne 5, 3) := by decide +kernel
theorem dX0_isUnder_27 : decode cX0_isUnder 27 = .ok (.iconst 1, 1) := by decide +kernel
theorem dX0_isUnder_28 : decode cX0_isUnder 28 = .ok (.ireturn, 1) := by decide +kernel
theorem dX0_isUnder_29 : decode cX0_isUnder 29 = .ok (.getstatic 72, 3) := by decide +kernel
theorem dX0_isUnder_32 : decode cX0_isUnder 32 = .ok (.iload_n 2, 1) := by decide +kernel
theorem dX0_isUnder_33 : decode cX0_isUnder 33 = .ok (.iaload, 1) := by decide +kernel
theorem dX0_isUnder_34 : decode cX0_isUnder 34 = .ok (.istore_n 2, 1) := by decide +kernel
theorem dX0_isUnder_35 : decode cX0_isUnder 35 = .ok (.iinc 3 1, 3) := by decide +kernel
theorem dX0_isUnder_38 : decode cX0_isUnder 38 = .ok (.goto (-34), 3) := by decide +kernel
theorem dX0_isUnder_41 : decode cX0_isUnder 41 = .ok (.iconst 0, 1) := by decide +kernel
theorem dX0_isUnder_42 : decode cX0_isUnder 42 = .ok (.ireturn, 1) := by decide +kernel
theorem dX0_spreads_0 : decode cX0_spreads 0 = .ok (.iload_n 0, 1) := by decide +kernel
theorem dX0_spreads_1 : decode cX0_spreads 1 = .ok (.iconst 1, 1) := by decide +kernel
theorem dX0_spreads_2 : decode cX0_spreads 2 = .ok (.if_icmp .eq 8, 3) := by decide +kernel
theorem dX0_spreads_5 : decode cX0_spreads 5 = .ok (.iload_n 0, 1) := by decide +kernel
theorem dX0_spreads_6 : decode cX0_spreads 6 = .ok (.iconst 4, 1) := by decide +kernel
theorem dX0_spreads_7 : decode cX0_spreads 7 = .ok (.if_icmp .ne 7, 3) := by decide +kernel
theorem dX0_spreads_10 : decode cX0_spreads 10 = .ok (.iconst 1, 1) := by decide +kernel
theorem dX0_spreads_11 : decode cX0_spreads 11 = .ok (.goto 4, 3) := by decide +kernel
theorem dX0_spreads_14 : decode cX0_spreads 14 = .ok (.iconst 0, 1) := by decide +kernel
theorem dX0_spreads_15 : decode cX0_spreads 15 = .ok (.ireturn, 1) := by decide +kernel
theorem dX0_holds_0 : decode cX0_holds 0 = .ok (.iload_n 0, 1) := by decide +kernel
theorem dX0_holds_1 : decode cX0_holds 1 = .ok (.iconst 5, 1) := by decide +kernel
theorem dX0_holds_2 : decode cX0_holds 2 = .ok (.if_icmp .ne 7, 3) := by decide +kernel
theorem dX0_holds_5 : decode cX0_holds 5 = .ok (.iconst 1, 1) := by decide +kernel
theorem dX0_holds_6 : decode cX0_holds 6 = .ok (.goto 4, 3) := by decide +kernel
theorem dX0_holds_9 : decode cX0_holds 9 = .ok (.iconst 0, 1) := by decide +kernel
theorem dX0_holds_10 : decode cX0_holds 10 = .ok (.ireturn, 1) := by decide +kernel
theorem dX0_draws_0 : decode cX0_draws 0 = .ok (.aload_n 0, 1) := by decide +kernel
theorem dX0_draws_1 : decode cX0_draws 1 = .ok (.getfield 24, 3) := by decide +kernel
theorem dX0_draws_4 : decode cX0_draws 4 = .ok (.iload_n 1, 1) := by decide +kernel
theorem dX0_draws_5 : decode cX0_draws 5 = .ok (.iaload, 1) := by decide +kernel
theorem dX0_draws_6 : decode cX0_draws 6 = .ok (.istore_n 3, 1) := by decide +kernel
theorem dX0_draws_7 : decode cX0_draws 7 = .ok (.aload_n 0, 1) := by decide +kernel
theorem dX0_draws_8 : decode cX0_draws 8 = .ok (.getfield 9, 3) := by decide +kernel
theorem dX0_draws_11 : decode cX0_draws 11 = .ok (.iload_n 2, 1) := by decide +kernel
theorem dX0_draws_12 : decode cX0_draws 12 = .ok (.iaload, 1) := by decide +kernel
theorem dX0_draws_13 : decode cX0_draws 13 = .ok (.aload_n 0, 1) := by decide +kernel
theorem dX0_draws_14 : decode cX0_draws 14 = .ok (.getfield 36, 3) := by decide +kernel
theorem dX0_draws_17 : decode cX0_draws 17 = .ok (.if_icmp .le 16, 3) := by decide +kernel
theorem dX0_draws_20 : decode cX0_draws 20 = .ok (.aload_n 0, 1) := by decide +kernel
theorem dX0_draws_21 : decode cX0_draws 21 = .ok (.getfield 18, 3) := by decide +kernel
theorem dX0_draws_24 : decode cX0_draws 24 = .ok (.iload_n 2, 1) := by decide +kernel
theorem dX0_draws_25 : decode cX0_draws 25 = .ok (.iaload, 1) := by decide +kernel
theorem dX0_draws_26 : decode cX0_draws 26 = .ok (.iconst 2, 1) := by decide +kernel
theorem dX0_draws_27 : decode cX0_draws 27 = .ok (.idiv, 1) := by decide +kernel
theorem dX0_draws_28 : decode cX0_draws 28 = .ok (.iload_n 3, 1) := by decide +kernel
theorem dX0_draws_29 : decode cX0_draws 29 = .ok (.iadd, 1) := by decide +kernel
theorem dX0_draws_30 : decode cX0_draws 30 = .ok (.goto 4, 3) := by decide +kernel
theorem dX0_draws_33 : decode cX0_draws 33 = .ok (.iload_n 3, 1) := by decide +kernel
theorem dX0_draws_34 : decode cX0_draws 34 = .ok (.istore 4, 2) := by decide +kernel
theorem dX0_draws_36 : decode cX0_draws 36 = .ok (.aload_n 0, 1) := by decide +kernel
theorem dX0_draws_37 : decode cX0_draws 37 = .ok (.getfield 21, 3) := by decide +kernel
theorem dX0_draws_40 : decode cX0_draws 40 = .ok (.iload_n 1, 1) := by decide +kernel
theorem dX0_draws_41 : decode cX0_draws 41 = .ok (.iaload, 1) := by decide +kernel
theorem dX0_draws_42 : decode cX0_draws 42 = .ok (.tableswitch 86 1 5 #[34, 41, 49, 70, 80], 34) := by decide +kernel
theorem dX0_draws_76 : decode cX0_draws 76 = .ok (.iload 4, 2) := by decide +kernel
theorem dX0_draws_78 : decode cX0_draws 78 = .ok (.istore 5, 2) := by decide +kernel
theorem dX0_draws_80 : decode cX0_draws 80 = .ok (.goto 51, 3) := by decide +kernel
theorem dX0_draws_83 : decode cX0_draws 83 = .ok (.iload_n 3, 1) := by decide +kernel
theorem dX0_draws_84 : decode cX0_draws 84 = .ok (.iconst 5, 1) := by decide +kernel
theorem dX0_draws_85 : decode cX0_draws 85 = .ok (.iadd, 1) := by decide +kernel
theorem dX0_draws_86 : decode cX0_draws 86 = .ok (.istore 5, 2) := by decide +kernel
theorem dX0_draws_88 : decode cX0_draws 88 = .ok (.goto 43, 3) := by decide +kernel
theorem dX0_draws_91 : decode cX0_draws 91 = .ok (.aload_n 0, 1) := by decide +kernel
theorem dX0_draws_92 : decode cX0_draws 92 = .ok (.getfield 46, 3) := by decide +kernel
theorem dX0_draws_95 : decode cX0_draws 95 = .ok (.iconst 3, 1) := by decide +kernel
theorem dX0_draws_96 : decode cX0_draws 96 = .ok (.irem, 1) := by decide +kernel
theorem dX0_draws_97 : decode cX0_draws 97 = .ok (.iconst 2, 1) := by decide +kernel
theorem dX0_draws_98 : decode cX0_draws 98 = .ok (.if_icmp .ne 7, 3) := by decide +kernel
theorem dX0_draws_101 : decode cX0_draws 101 = .ok (.iconst 0, 1) := by decide +kernel
theorem dX0_draws_102 : decode cX0_draws 102 = .ok (.goto 5, 3) := by decide +kernel
theorem dX0_draws_105 : decode cX0_draws 105 = .ok (.iload 4, 2) := by decide +kernel
theorem dX0_draws_107 : decode cX0_draws 107 = .ok (.istore 5, 2) := by decide +kernel
theorem dX0_draws_109 : decode cX0_draws 109 = .ok (.goto 22, 3) := by decide +kernel
theorem dX0_draws_112 : decode cX0_draws 112 = .ok (.iconst 2, 1) := by decide +kernel
theorem dX0_draws_113 : decode cX0_draws 113 = .ok (.iload_n 3, 1) := by decide +kernel
theorem dX0_draws_114 : decode cX0_draws 114 = .ok (.iconst 5, 1) := by decide +kernel
theorem dX0_draws_115 : decode cX0_draws 115 = .ok (.iadd, 1) := by decide +kernel
theorem dX0_draws_116 : decode cX0_draws 116 = .ok (.imul, 1) := by decide +kernel
theorem dX0_draws_117 : decode cX0_draws 117 = .ok (.istore 5, 2) := by decide +kernel
theorem dX0_draws_119 : decode cX0_draws 119 = .ok (.goto 12, 3) := by decide +kernel
theorem dX0_draws_122 : decode cX0_draws 122 = .ok (.iconst 0, 1) := by decide +kernel
theorem dX0_draws_123 : decode cX0_draws 123 = .ok (.istore 5, 2) := by decide +kernel
theorem dX0_draws_125 : decode cX0_draws 125 = .ok (.goto 6, 3) := by decide +kernel
theorem dX0_draws_128 : decode cX0_draws 128 = .ok (.iload_n 3, 1) := by decide +kernel
theorem dX0_draws_129 : decode cX0_draws 129 = .ok (.istore 5, 2) := by decide +kernel
theorem dX0_draws_131 : decode cX0_draws 131 = .ok (.iload 5, 2) := by decide +kernel
theorem dX0_draws_133 : decode cX0_draws 133 = .ok (.aload_n 0, 1) := by decide +kernel
theorem dX0_draws_134 : decode cX0_draws 134 = .ok (.getfield 18, 3) := by decide +kernel
theorem dX0_draws_137 : decode cX0_draws 137 = .ok (.iload_n 2, 1) := by decide +kernel
theorem dX0_draws_138 : decode cX0_draws 138 = .ok (.iaload, 1) := by decide +kernel
theorem dX0_draws_139 : decode cX0_draws 139 = .ok (.invokestatic 75, 3) := by decide +kernel
theorem dX0_draws_142 : decode cX0_draws 142 = .ok (.ireturn, 1) := by decide +kernel
theorem dX0_drawsOfOwn_0 : decode cX0_drawsOfOwn 0 = .ok (.iload_n 1, 1) := by decide +kernel
theorem dX0_drawsOfOwn_1 : decode cX0_drawsOfOwn 1 = .ok (.ifCond .lt 23, 3) := by decide +kernel
theorem dX0_drawsOfOwn_4 : decode cX0_drawsOfOwn 4 = .ok (.iload_n 1, 1) := by decide +kernel
theorem dX0_drawsOfOwn_5 : decode cX0_drawsOfOwn 5 = .ok (.aload_n 0, 1) := by decide +kernel
theorem dX0_drawsOfOwn_6 : decode cX0_drawsOfOwn 6 = .ok (.getfield 52, 3) := by decide +kernel
theorem dX0_drawsOfOwn_9 : decode cX0_drawsOfOwn 9 = .ok (.if_icmp .ge 15, 3) := by decide +kernel
theorem dX0_drawsOfOwn_12 : decode cX0_drawsOfOwn 12 = .ok (.aload_n 0, 1) := by decide +kernel
theorem dX0_drawsOfOwn_13 : decode cX0_drawsOfOwn 13 = .ok (.getfield 27, 3) := by decide +kernel
theorem dX0_drawsOfOwn_16 : decode cX0_drawsOfOwn 16 = .ok (.iload_n 1, 1) := by decide +kernel
theorem dX0_drawsOfOwn_17 : decode cX0_drawsOfOwn 17 = .ok (.iaload, 1) := by decide +kernel
theorem dX0_drawsOfOwn_18 : decode cX0_drawsOfOwn 18 = .ok (.invokestatic 61, 3) := by decide +kernel
theorem dX0_drawsOfOwn_21 : decode cX0_drawsOfOwn 21 = .ok (.ifCond .ne 5, 3) := by decide +kernel
theorem dX0_drawsOfOwn_24 : decode cX0_drawsOfOwn 24 = .ok (.iconst 0, 1) := by decide +kernel
theorem dX0_drawsOfOwn_25 : decode cX0_drawsOfOwn 25 = .ok (.ireturn, 1) := by decide +kernel
theorem dX0_drawsOfOwn_26 : decode cX0_drawsOfOwn 26 = .ok (.aload_n 0, 1) := by decide +kernel
theorem dX0_drawsOfOwn_27 : decode cX0_drawsOfOwn 27 = .ok (.iload_n 1, 1) := by decide +kernel
theorem dX0_drawsOfOwn_28 : decode cX0_drawsOfOwn 28 = .ok (.aload_n 0, 1) := by decide +kernel
theorem dX0_drawsOfOwn_29 : decode cX0_drawsOfOwn 29 = .ok (.getfield 27, 3) := by decide +kernel
theorem dX0_drawsOfOwn_32 : decode cX0_drawsOfOwn 32 = .ok (.iload_n 1, 1) := by decide +kernel
theorem dX0_drawsOfOwn_33 : decode cX0_drawsOfOwn 33 = .ok (.iaload, 1) := by decide +kernel
theorem dX0_drawsOfOwn_34 : decode cX0_drawsOfOwn 34 = .ok (.invokevirtual 81, 3) := by decide +kernel
theorem dX0_drawsOfOwn_37 : decode cX0_drawsOfOwn 37 = .ok (.ireturn, 1) := by decide +kernel
theorem dX0_costs_0 : decode cX0_costs 0 = .ok (.iload_n 2, 1) := by decide +kernel
theorem dX0_costs_1 : decode cX0_costs 1 = .ok (.ifCond .lt 11, 3) := by decide +kernel
theorem dX0_costs_4 : decode cX0_costs 4 = .ok (.iload_n 2, 1) := by decide +kernel
theorem dX0_costs_5 : decode cX0_costs 5 = .ok (.aload_n 0, 1) := by decide +kernel
theorem dX0_costs_6 : decode cX0_costs 6 = .ok (.getfield 52, 3) := by decide +kernel
theorem dX0_costs_9 : decode cX0_costs 9 = .ok (.if_icmp .lt 5, 3) := by decide +kernel
theorem dX0_costs_12 : decode cX0_costs 12 = .ok (.iconst 0, 1) := by decide +kernel
theorem dX0_costs_13 : decode cX0_costs 13 = .ok (.ireturn, 1) := by decide +kernel
theorem dX0_costs_14 : decode cX0_costs 14 = .ok (.aload_n 0, 1) := by decide +kernel
theorem dX0_costs_15 : decode cX0_costs 15 = .ok (.aload_n 1, 1) := by decide +kernel
theorem dX0_costs_16 : decode cX0_costs 16 = .ok (.iconst 2, 1) := by decide +kernel
theorem dX0_costs_17 : decode cX0_costs 17 = .ok (.aload_n 0, 1) := by decide +kernel
theorem dX0_costs_18 : decode cX0_costs 18 = .ok (.getfield 27, 3) := by decide +kernel
theorem dX0_costs_21 : decode cX0_costs 21 = .ok (.iload_n 2, 1) := by decide +kernel
theorem dX0_costs_22 : decode cX0_costs 22 = .ok (.iaload, 1) := by decide +kernel
theorem dX0_costs_23 : decode cX0_costs 23 = .ok (.iload_n 2, 1) := by decide +kernel
theorem dX0_costs_24 : decode cX0_costs 24 = .ok (.invokevirtual 84, 3) := by decide +kernel
theorem dX0_costs_27 : decode cX0_costs 27 = .ok (.istore_n 3, 1) := by decide +kernel
theorem dX0_costs_28 : decode cX0_costs 28 = .ok (.aload_n 0, 1) := by decide +kernel
theorem dX0_costs_29 : decode cX0_costs 29 = .ok (.getfield 21, 3) := by decide +kernel
theorem dX0_costs_32 : decode cX0_costs 32 = .ok (.iload_n 2, 1) := by decide +kernel
theorem dX0_costs_33 : decode cX0_costs 33 = .ok (.iaload, 1) := by decide +kernel
theorem dX0_costs_34 : decode cX0_costs 34 = .ok (.tableswitch 60 1 4 #[30, 34, 38, 49], 30) := by decide +kernel
theorem dX0_costs_64 : decode cX0_costs 64 = .ok (.iload_n 3, 1) := by decide +kernel
theorem dX0_costs_65 : decode cX0_costs 65 = .ok (.iconst 2, 1) := by decide +kernel
theorem dX0_costs_66 : decode cX0_costs 66 = .ok (.idiv, 1) := by decide +kernel
theorem dX0_costs_67 : decode cX0_costs 67 = .ok (.ireturn, 1) := by decide +kernel
theorem dX0_costs_68 : decode cX0_costs 68 = .ok (.iconst 2, 1) := by decide +kernel
theorem dX0_costs_69 : decode cX0_costs 69 = .ok (.iload_n 3, 1) := by decide +kernel
theorem dX0_costs_70 : decode cX0_costs 70 = .ok (.imul, 1) := by decide +kernel
theorem dX0_costs_71 : decode cX0_costs 71 = .ok (.ireturn, 1) := by decide +kernel
theorem dX0_costs_72 : decode cX0_costs 72 = .ok (.iload_n 3, 1) := by decide +kernel
theorem dX0_costs_73 : decode cX0_costs 73 = .ok (.iconst 2, 1) := by decide +kernel
theorem dX0_costs_74 : decode cX0_costs 74 = .ok (.idiv, 1) := by decide +kernel
theorem dX0_costs_75 : decode cX0_costs 75 = .ok (.aload_n 0, 1) := by decide +kernel
theorem dX0_costs_76 : decode cX0_costs 76 = .ok (.getfield 24, 3) := by decide +kernel
theorem dX0_costs_79 : decode cX0_costs 79 = .ok (.iload_n 2, 1) := by decide +kernel
theorem dX0_costs_80 : decode cX0_costs 80 = .ok (.iaload, 1) := by decide +kernel
theorem dX0_costs_81 : decode cX0_costs 81 = .ok (.iadd, 1) := by decide +kernel
theorem dX0_costs_82 : decode cX0_costs 82 = .ok (.ireturn, 1) := by decide +kernel
theorem dX0_costs_83 : decode cX0_costs 83 = .ok (.iconst 2, 1) := by decide +kernel
theorem dX0_costs_84 : decode cX0_costs 84 = .ok (.iload_n 3, 1) := by decide +kernel
theorem dX0_costs_85 : decode cX0_costs 85 = .ok (.imul, 1) := by decide +kernel
theorem dX0_costs_86 : decode cX0_costs 86 = .ok (.aload_n 0, 1) := by decide +kernel
theorem dX0_costs_87 : decode cX0_costs 87 = .ok (.getfield 24, 3) := by decide +kernel
theorem dX0_costs_90 : decode cX0_costs 90 = .ok (.iload_n 2, 1) := by decide +kernel
theorem dX0_costs_91 : decode cX0_costs 91 = .ok (.iaload, 1) := by decide +kernel
theorem dX0_costs_92 : decode cX0_costs 92 = .ok (.iadd, 1) := by decide +kernel
theorem dX0_costs_93 : decode cX0_costs 93 = .ok (.ireturn, 1) := by decide +kernel
theorem dX0_costs_94 : decode cX0_costs 94 = .ok (.iload_n 3, 1) := by decide +kernel
theorem dX0_costs_95 : decode cX0_costs 95 = .ok (.ireturn, 1) := by decide +kernel
theorem dX0_passYear_0 : decode cX0_passYear 0 = .ok (.aload_n 0, 1) := by decide +kernel
theorem dX0_passYear_1 : decode cX0_passYear 1 = .ok (.aload_n 1, 1) := by decide +kernel
theorem dX0_passYear_2 : decode cX0_passYear 2 = .ok (.invokevirtual 88, 3) := by decide +kernel
theorem dX0_passYear_5 : decode cX0_passYear 5 = .ok (.aload_n 0, 1) := by decide +kernel
theorem dX0_passYear_6 : decode cX0_passYear 6 = .ok (.invokevirtual 92, 3) := by decide +kernel
theorem dX0_passYear_9 : decode cX0_passYear 9 = .ok (.aload_n 0, 1) := by decide +kernel
theorem dX0_passYear_10 : decode cX0_passYear 10 = .ok (.aload_n 1, 1) := by decide +kernel
theorem dX0_passYear_11 : decode cX0_passYear 11 = .ok (.invokevirtual 95, 3) := by decide +kernel
theorem dX0_passYear_14 : decode cX0_passYear 14 = .ok (.aload_n 0, 1) := by decide +kernel
theorem dX0_passYear_15 : decode cX0_passYear 15 = .ok (.aload_n 1, 1) := by decide +kernel
theorem dX0_passYear_16 : decode cX0_passYear 16 = .ok (.invokevirtual 98, 3) := by decide +kernel
theorem dX0_passYear_19 : decode cX0_passYear 19 = .ok (.aload_n 0, 1) := by decide +kernel
theorem dX0_passYear_20 : decode cX0_passYear 20 = .ok (.dup, 1) := by decide +kernel
theorem dX0_passYear_21 : decode cX0_passYear 21 = .ok (.getfield 46, 3) := by decide +kernel
theorem dX0_passYear_24 : decode cX0_passYear 24 = .ok (.iconst 1, 1) := by decide +kernel
theorem dX0_passYear_25 : decode cX0_passYear 25 = .ok (.iadd, 1) := by decide +kernel
theorem dX0_passYear_26 : decode cX0_passYear 26 = .ok (.putfield 46, 3) := by decide +kernel
theorem dX0_passYear_29 : decode cX0_passYear 29 = .ok (.return_, 1) := by decide +kernel
theorem dX0_pour_0 : decode cX0_pour 0 = .ok (.aload_n 0, 1) := by decide +kernel
theorem dX0_pour_1 : decode cX0_pour 1 = .ok (.getfield 18, 3) := by decide +kernel
theorem dX0_pour_4 : decode cX0_pour 4 = .ok (.iload_n 1, 1) := by decide +kernel
theorem dX0_pour_5 : decode cX0_pour 5 = .ok (.sipush 999, 3) := by decide +kernel
theorem dX0_pour_8 : decode cX0_pour 8 = .ok (.aload_n 0, 1) := by decide +kernel
theorem dX0_pour_9 : decode cX0_pour 9 = .ok (.getfield 18, 3) := by decide +kernel
theorem dX0_pour_12 : decode cX0_pour 12 = .ok (.iload_n 1, 1) := by decide +kernel
theorem dX0_pour_13 : decode cX0_pour 13 = .ok (.iaload, 1) := by decide +kernel
theorem dX0_pour_14 : decode cX0_pour 14 = .ok (.iload_n 2, 1) := by decide +kernel
theorem dX0_pour_15 : decode cX0_pour 15 = .ok (.iadd, 1) := by decide +kernel
theorem dX0_pour_16 : decode cX0_pour 16 = .ok (.invokestatic 75, 3) := by decide +kernel
theorem dX0_pour_19 : decode cX0_pour 19 = .ok (.iastore, 1) := by decide +kernel
theorem dX0_pour_20 : decode cX0_pour 20 = .ok (.return_, 1) := by decide +kernel
theorem dX0_pourOnAll_0 : decode cX0_pourOnAll 0 = .ok (.iconst 0, 1) := by decide +kernel
theorem dX0_pourOnAll_1 : decode cX0_pourOnAll 1 = .ok (.istore_n 2, 1) := by decide +kernel
theorem dX0_pourOnAll_2 : decode cX0_pourOnAll 2 = .ok (.iload_n 2, 1) := by decide +kernel
theorem dX0_pourOnAll_3 : decode cX0_pourOnAll 3 = .ok (.bipush 12, 2) := by decide +kernel
theorem dX0_pourOnAll_5 : decode cX0_pourOnAll 5 = .ok (.if_icmp .ge 15, 3) := by decide +kernel
theorem dX0_pourOnAll_8 : decode cX0_pourOnAll 8 = .ok (.aload_n 0, 1) := by decide +kernel
theorem dX0_pourOnAll_9 : decode cX0_pourOnAll 9 = .ok (.iload_n 2, 1) := by decide +kernel
theorem dX0_pourOnAll_10 : decode cX0_pourOnAll 10 = .ok (.iload_n 1, 1) := by decide +kernel
theorem dX0_pourOnAll_11 : decode cX0_pourOnAll 11 = .ok (.invokevirtual 101, 3) := by decide +kernel
theorem dX0_pourOnAll_14 : decode cX0_pourOnAll 14 = .ok (.iinc 2 1, 3) := by decide +kernel
theorem dX0_pourOnAll_17 : decode cX0_pourOnAll 17 = .ok (.goto (-15), 3) := by decide +kernel
theorem dX0_pourOnAll_20 : decode cX0_pourOnAll 20 = .ok (.return_, 1) := by decide +kernel
theorem dX0_rain_0 : decode cX0_rain 0 = .ok (.iconst 0, 1) := by decide +kernel
theorem dX0_rain_1 : decode cX0_rain 1 = .ok (.istore_n 2, 1) := by decide +kernel
theorem dX0_rain_2 : decode cX0_rain 2 = .ok (.iload_n 2, 1) := by decide +kernel
theorem dX0_rain_3 : decode cX0_rain 3 = .ok (.bipush 12, 2) := by decide +kernel
theorem dX0_rain_5 : decode cX0_rain 5 = .ok (.if_icmp .ge 22, 3) := by decide +kernel
theorem dX0_rain_8 : decode cX0_rain 8 = .ok (.aload_n 0, 1) := by decide +kernel
theorem dX0_rain_9 : decode cX0_rain 9 = .ok (.iload_n 2, 1) := by decide +kernel
theorem dX0_rain_10 : decode cX0_rain 10 = .ok (.aload_n 0, 1) := by decide +kernel
theorem dX0_rain_11 : decode cX0_rain 11 = .ok (.aload_n 1, 1) := by decide +kernel
theorem dX0_rain_12 : decode cX0_rain 12 = .ok (.iconst 0, 1) := by decide +kernel
theorem dX0_rain_13 : decode cX0_rain 13 = .ok (.iload_n 2, 1) := by decide +kernel
theorem dX0_rain_14 : decode cX0_rain 14 = .ok (.iconst (-1), 1) := by decide +kernel
theorem dX0_rain_15 : decode cX0_rain 15 = .ok (.invokevirtual 84, 3) := by decide +kernel
theorem dX0_rain_18 : decode cX0_rain 18 = .ok (.invokevirtual 101, 3) := by decide +kernel
theorem dX0_rain_21 : decode cX0_rain 21 = .ok (.iinc 2 1, 3) := by decide +kernel
theorem dX0_rain_24 : decode cX0_rain 24 = .ok (.goto (-22), 3) := by decide +kernel
theorem dX0_rain_27 : decode cX0_rain 27 = .ok (.return_, 1) := by decide +kernel
theorem dX0_heldCells_0 : decode cX0_heldCells 0 = .ok (.iconst 0, 1) := by decide +kernel
theorem dX0_heldCells_1 : decode cX0_heldCells 1 = .ok (.istore_n 1, 1) := by decide +kernel
theorem dX0_heldCells_2 : decode cX0_heldCells 2 = .ok (.iconst 0, 1) := by decide +kernel
theorem dX0_heldCells_3 : decode cX0_heldCells 3 = .ok (.istore_n 2, 1) := by decide +kernel
theorem dX0_heldCells_4 : decode cX0_heldCells 4 = .ok (.iload_n 2, 1) := by decide +kernel
theorem dX0_heldCells_5 : decode cX0_heldCells 5 = .ok (.bipush 6, 2) := by decide +kernel
theorem dX0_heldCells_7 : decode cX0_heldCells 7 = .ok (.if_icmp .ge 40, 3) := by decide +kernel
theorem dX0_heldCells_10 : decode cX0_heldCells 10 = .ok (.aload_n 0, 1) := by decide +kernel
theorem dX0_heldCells_11 : decode cX0_heldCells 11 = .ok (.iload_n 2, 1) := by decide +kernel
theorem dX0_heldCells_12 : decode cX0_heldCells 12 = .ok (.invokevirtual 69, 3) := by decide +kernel
theorem dX0_heldCells_15 : decode cX0_heldCells 15 = .ok (.ifCond .eq 26, 3) := by decide +kernel
theorem dX0_heldCells_18 : decode cX0_heldCells 18 = .ok (.aload_n 0, 1) := by decide +kernel
theorem dX0_heldCells_19 : decode cX0_heldCells 19 = .ok (.getfield 21, 3) := by decide +kernel
theorem dX0_heldCells_22 : decode cX0_heldCells 22 = .ok (.iload_n 2, 1) := by decide +kernel
theorem dX0_heldCells_23 : decode cX0_heldCells 23 = .ok (.iaload, 1) := by decide +kernel
theorem dX0_heldCells_24 : decode cX0_heldCells 24 = .ok (.invokestatic 105, 3) := by decide +kernel
theorem dX0_heldCells_27 : decode cX0_heldCells 27 = .ok (.ifCond .eq 14, 3) := by decide +kernel
theorem dX0_heldCells_30 : decode cX0_heldCells 30 = .ok (.iload_n 1, 1) := by decide +kernel
theorem dX0_heldCells_31 : decode cX0_heldCells 31 = .ok (.iconst 1, 1) := by decide +kernel
theorem dX0_heldCells_32 : decode cX0_heldCells 32 = .ok (.aload_n 0, 1) := by decide +kernel
theorem dX0_heldCells_33 : decode cX0_heldCells 33 = .ok (.getfield 27, 3) := by decide +kernel
theorem dX0_heldCells_36 : decode cX0_heldCells 36 = .ok (.iload_n 2, 1) := by decide +kernel
theorem dX0_heldCells_37 : decode cX0_heldCells 37 = .ok (.iaload, 1) := by decide +kernel
theorem dX0_heldCells_38 : decode cX0_heldCells 38 = .ok (.ishl, 1) := by decide +kernel
theorem dX0_heldCells_39 : decode cX0_heldCells 39 = .ok (.ior, 1) := by decide +kernel
theorem dX0_heldCells_40 : decode cX0_heldCells 40 = .ok (.istore_n 1, 1) := by decide +kernel
theorem dX0_heldCells_41 : decode cX0_heldCells 41 = .ok (.iinc 2 1, 3) := by decide +kernel
theorem dX0_heldCells_44 : decode cX0_heldCells 44 = .ok (.goto (-40), 3) := by decide +kernel
theorem dX0_heldCells_47 : decode cX0_heldCells 47 = .ok (.iload_n 1, 1) := by decide +kernel
theorem dX0_heldCells_48 : decode cX0_heldCells 48 = .ok (.ireturn, 1) := by decide +kernel
theorem dX0_flow_0 : decode cX0_flow 0 = .ok (.aload_n 0, 1) := by decide +kernel
theorem dX0_flow_1 : decode cX0_flow 1 = .ok (.invokevirtual 108, 3) := by decide +kernel
theorem dX0_flow_4 : decode cX0_flow 4 = .ok (.istore_n 1, 1) := by decide +kernel
theorem dX0_flow_5 : decode cX0_flow 5 = .ok (.bipush 11, 2) := by decide +kernel
theorem dX0_flow_7 : decode cX0_flow 7 = .ok (.istore_n 2, 1) := by decide +kernel
theorem dX0_flow_8 : decode cX0_flow 8 = .ok (.iload_n 2, 1) := by decide +kernel
theorem dX0_flow_9 : decode cX0_flow 9 = .ok (.ifCond .le 89, 3) := by decide +kernel
theorem dX0_flow_12 : decode cX0_flow 12 = .ok (.aload_n 0, 1) := by decide +kernel
theorem dX0_flow_13 : decode cX0_flow 13 = .ok (.getfield 9, 3) := by decide +kernel
theorem dX0_flow_16 : decode cX0_flow 16 = .ok (.iload_n 2, 1) := by decide +kernel
theorem dX0_flow_17 : decode cX0_flow 17 = .ok (.iaload, 1) := by decide +kernel
theorem dX0_flow_18 : decode cX0_flow 18 = .ok (.aload_n 0, 1) := by decide +kernel
theorem dX0_flow_19 : decode cX0_flow 19 = .ok (.getfield 18, 3) := by decide +kernel
theorem dX0_flow_22 : decode cX0_flow 22 = .ok (.iload_n 2, 1) := by decide +kernel
theorem dX0_flow_23 : decode cX0_flow 23 = .ok (.iaload, 1) := by decide +kernel
theorem dX0_flow_24 : decode cX0_flow 24 = .ok (.iadd, 1) := by decide +kernel
theorem dX0_flow_25 : decode cX0_flow 25 = .ok (.aload_n 0, 1) := by decide +kernel
theorem dX0_flow_26 : decode cX0_flow 26 = .ok (.getfield 9, 3) := by decide +kernel
theorem dX0_flow_29 : decode cX0_flow 29 = .ok (.iload_n 2, 1) := by decide +kernel
theorem dX0_flow_30 : decode cX0_flow 30 = .ok (.iconst 1, 1) := by decide +kernel
theorem dX0_flow_31 : decode cX0_flow 31 = .ok (.isub, 1) := by decide +kernel
theorem dX0_flow_32 : decode cX0_flow 32 = .ok (.iaload, 1) := by decide +kernel
theorem dX0_flow_33 : decode cX0_flow 33 = .ok (.isub, 1) := by decide +kernel
theorem dX0_flow_34 : decode cX0_flow 34 = .ok (.aload_n 0, 1) := by decide +kernel
theorem dX0_flow_35 : decode cX0_flow 35 = .ok (.getfield 18, 3) := by decide +kernel
theorem dX0_flow_38 : decode cX0_flow 38 = .ok (.iload_n 2, 1) := by decide +kernel
theorem dX0_flow_39 : decode cX0_flow 39 = .ok (.iconst 1, 1) := by decide +kernel
theorem dX0_flow_40 : decode cX0_flow 40 = .ok (.isub, 1) := by decide +kernel
theorem dX0_flow_41 : decode cX0_flow 41 = .ok (.iaload, 1) := by decide +kernel
theorem dX0_flow_42 : decode cX0_flow 42 = .ok (.isub, 1) := by decide +kernel
theorem dX0_flow_43 : decode cX0_flow 43 = .ok (.istore_n 3, 1) := by decide +kernel
theorem dX0_flow_44 : decode cX0_flow 44 = .ok (.iload_n 3, 1) := by decide +kernel
theorem dX0_flow_45 : decode cX0_flow 45 = .ok (.ifCond .le 47, 3) := by decide +kernel
theorem dX0_flow_48 : decode cX0_flow 48 = .ok (.iload_n 1, 1) := by decide +kernel
theorem dX0_flow_49 : decode cX0_flow 49 = .ok (.iload_n 2, 1) := by decide +kernel
theorem dX0_flow_50 : decode cX0_flow 50 = .ok (.iconst 1, 1) := by decide +kernel
theorem dX0_flow_51 : decode cX0_flow 51 = .ok (.isub, 1) := by decide +kernel
theorem dX0_flow_52 : decode cX0_flow 52 = .ok (.ishr, 1) := by decide +kernel
theorem dX0_flow_53 : decode cX0_flow 53 = .ok (.iconst 1, 1) := by decide +kernel
theorem dX0_flow_54 : decode cX0_flow 54 = .ok (.iand, 1) := by decide +kernel
theorem dX0_flow_55 : decode cX0_flow 55 = .ok (.ifCond .ne 37, 3) := by decide +kernel
theorem dX0_flow_58 : decode cX0_flow 58 = .ok (.iload_n 3, 1) := by decide +kernel
theorem dX0_flow_59 : decode cX0_flow 59 = .ok (.iconst 2, 1) := by decide +kernel
theorem dX0_flow_60 : decode cX0_flow 60 = .ok (.idiv, 1) := by decide +kernel
theorem dX0_flow_61 : decode cX0_flow 61 = .ok (.aload_n 0, 1) := by decide +kernel
theorem dX0_flow_62 : decode cX0_flow 62 = .ok (.getfield 18, 3) := by decide +kernel
theorem dX0_flow_65 : decode cX0_flow 65 = .ok (.iload_n 2, 1) := by decide +kernel
theorem dX0_flow_66 : decode cX0_flow 66 = .ok (.iaload, 1) := by decide +kernel
theorem dX0_flow_67 : decode cX0_flow 67 = .ok (.invokestatic 75, 3) := by decide +kernel
theorem dX0_flow_70 : decode cX0_flow 70 = .ok (.istore 4, 2) := by decide +kernel
theorem dX0_flow_72 : decode cX0_flow 72 = .ok (.aload_n 0, 1) := by decide +kernel
theorem dX0_flow_73 : decode cX0_flow 73 = .ok (.getfield 18, 3) := by decide +kernel
theorem dX0_flow_76 : decode cX0_flow 76 = .ok (.iload_n 2, 1) := by decide +kernel
theorem dX0_flow_77 : decode cX0_flow 77 = .ok (.dup2, 1) := by decide +kernel
theorem dX0_flow_78 : decode cX0_flow 78 = .ok (.iaload, 1) := by decide +kernel
theorem dX0_flow_79 : decode cX0_flow 79 = .ok (.iload 4, 2) := by decide +kernel
theorem dX0_flow_81 : decode cX0_flow 81 = .ok (.isub, 1) := by decide +kernel
theorem dX0_flow_82 : decode cX0_flow 82 = .ok (.iastore, 1) := by decide +kernel
theorem dX0_flow_83 : decode cX0_flow 83 = .ok (.aload_n 0, 1) := by decide +kernel
theorem dX0_flow_84 : decode cX0_flow 84 = .ok (.iload_n 2, 1) := by decide +kernel
theorem dX0_flow_85 : decode cX0_flow 85 = .ok (.iconst 1, 1) := by decide +kernel
theorem dX0_flow_86 : decode cX0_flow 86 = .ok (.isub, 1) := by decide +kernel
theorem dX0_flow_87 : decode cX0_flow 87 = .ok (.iload 4, 2) := by decide +kernel
theorem dX0_flow_89 : decode cX0_flow 89 = .ok (.invokevirtual 101, 3) := by decide +kernel
theorem dX0_flow_92 : decode cX0_flow 92 = .ok (.iinc 2 (-1), 3) := by decide +kernel
theorem dX0_flow_95 : decode cX0_flow 95 = .ok (.goto (-87), 3) := by decide +kernel
theorem dX0_flow_98 : decode cX0_flow 98 = .ok (.aload_n 0, 1) := by decide +kernel
theorem dX0_flow_99 : decode cX0_flow 99 = .ok (.iload_n 1, 1) := by decide +kernel
theorem dX0_flow_100 : decode cX0_flow 100 = .ok (.iconst 1, 1) := by decide +kernel
theorem dX0_flow_101 : decode cX0_flow 101 = .ok (.iand, 1) := by decide +kernel
theorem dX0_flow_102 : decode cX0_flow 102 = .ok (.ifCond .eq 7, 3) := by decide +kernel
theorem dX0_flow_105 : decode cX0_flow 105 = .ok (.iconst 1, 1) := by decide +kernel
theorem dX0_flow_106 : decode cX0_flow 106 = .ok (.goto 4, 3) := by decide +kernel
theorem dX0_flow_109 : decode cX0_flow 109 = .ok (.iconst 0, 1) := by decide +kernel
theorem dX0_flow_110 : decode cX0_flow 110 = .ok (.invokevirtual 112, 3) := by decide +kernel
theorem dX0_flow_113 : decode cX0_flow 113 = .ok (.return_, 1) := by decide +kernel
theorem dX0_meetRiver_0 : decode cX0_meetRiver 0 = .ok (.aload_n 0, 1) := by decide +kernel
theorem dX0_meetRiver_1 : decode cX0_meetRiver 1 = .ok (.getfield 9, 3) := by decide +kernel
theorem dX0_meetRiver_4 : decode cX0_meetRiver 4 = .ok (.iconst 0, 1) := by decide +kernel
theorem dX0_meetRiver_5 : decode cX0_meetRiver 5 = .ok (.iaload, 1) := by decide +kernel
theorem dX0_meetRiver_6 : decode cX0_meetRiver 6 = .ok (.aload_n 0, 1) := by decide +kernel
theorem dX0_meetRiver_7 : decode cX0_meetRiver 7 = .ok (.getfield 18, 3) := by decide +kernel
theorem dX0_meetRiver_10 : decode cX0_meetRiver 10 = .ok (.iconst 0, 1) := by decide +kernel
theorem dX0_meetRiver_11 : decode cX0_meetRiver 11 = .ok (.iaload, 1) := by decide +kernel
theorem dX0_meetRiver_12 : decode cX0_meetRiver 12 = .ok (.iadd, 1) := by decide +kernel
theorem dX0_meetRiver_13 : decode cX0_meetRiver 13 = .ok (.aload_n 0, 1) := by decide +kernel
theorem dX0_meetRiver_14 : decode cX0_meetRiver 14 = .ok (.getfield 36, 3) := by decide +kernel
theorem dX0_meetRiver_17 : decode cX0_meetRiver 17 = .ok (.isub, 1) := by decide +kernel
theorem dX0_meetRiver_18 : decode cX0_meetRiver 18 = .ok (.istore_n 2, 1) := by decide +kernel
theorem dX0_meetRiver_19 : decode cX0_meetRiver 19 = .ok (.iload_n 2, 1) := by decide +kernel
theorem dX0_meetRiver_20 : decode cX0_meetRiver 20 = .ok (.ifCond .le 27, 3) := by decide +kernel
theorem dX0_meetRiver_23 : decode cX0_meetRiver 23 = .ok (.aload_n 0, 1) := by decide +kernel
theorem dX0_meetRiver_24 : decode cX0_meetRiver 24 = .ok (.getfield 18, 3) := by decide +kernel
theorem dX0_meetRiver_27 : decode cX0_meetRiver 27 = .ok (.iconst 0, 1) := by decide +kernel
theorem dX0_meetRiver_28 : decode cX0_meetRiver 28 = .ok (.dup2, 1) := by decide +kernel
theorem dX0_meetRiver_29 : decode cX0_meetRiver 29 = .ok (.iaload, 1) := by decide +kernel
theorem dX0_meetRiver_30 : decode cX0_meetRiver 30 = .ok (.iload_n 2, 1) := by decide +kernel
theorem dX0_meetRiver_31 : decode cX0_meetRiver 31 = .ok (.iconst 2, 1) := by decide +kernel
theorem dX0_meetRiver_32 : decode cX0_meetRiver 32 = .ok (.idiv, 1) := by decide +kernel
theorem dX0_meetRiver_33 : decode cX0_meetRiver 33 = .ok (.aload_n 0, 1) := by decide +kernel
theorem dX0_meetRiver_34 : decode cX0_meetRiver 34 = .ok (.getfield 18, 3) := by decide +kernel
theorem dX0_meetRiver_37 : decode cX0_meetRiver 37 = .ok (.iconst 0, 1) := by decide +kernel
theorem dX0_meetRiver_38 : decode cX0_meetRiver 38 = .ok (.iaload, 1) := by decide +kernel
theorem dX0_meetRiver_39 : decode cX0_meetRiver 39 = .ok (.invokestatic 75, 3) := by decide +kernel
theorem dX0_meetRiver_42 : decode cX0_meetRiver 42 = .ok (.isub, 1) := by decide +kernel
theorem dX0_meetRiver_43 : decode cX0_meetRiver 43 = .ok (.iastore, 1) := by decide +kernel
theorem dX0_meetRiver_44 : decode cX0_meetRiver 44 = .ok (.goto 16, 3) := by decide +kernel
theorem dX0_meetRiver_47 : decode cX0_meetRiver 47 = .ok (.iload_n 1, 1) := by decide +kernel
theorem dX0_meetRiver_48 : decode cX0_meetRiver 48 = .ok (.ifCond .ne 12, 3) := by decide +kernel
theorem dX0_meetRiver_51 : decode cX0_meetRiver 51 = .ok (.aload_n 0, 1) := by decide +kernel
theorem dX0_meetRiver_52 : decode cX0_meetRiver 52 = .ok (.iconst 0, 1) := by decide +kernel
theorem dX0_meetRiver_53 : decode cX0_meetRiver 53 = .ok (.iload_n 2, 1) := by decide +kernel
theorem dX0_meetRiver_54 : decode cX0_meetRiver 54 = .ok (.ineg, 1) := by decide +kernel
theorem dX0_meetRiver_55 : decode cX0_meetRiver 55 = .ok (.iconst 2, 1) := by decide +kernel
theorem dX0_meetRiver_56 : decode cX0_meetRiver 56 = .ok (.idiv, 1) := by decide +kernel
theorem dX0_meetRiver_57 : decode cX0_meetRiver 57 = .ok (.invokevirtual 101, 3) := by decide +kernel
theorem dX0_meetRiver_60 : decode cX0_meetRiver 60 = .ok (.return_, 1) := by decide +kernel
theorem dX0_drain_0 : decode cX0_drain 0 = .ok (.iconst 0, 1) := by decide +kernel
theorem dX0_drain_1 : decode cX0_drain 1 = .ok (.istore_n 2, 1) := by decide +kernel
theorem dX0_drain_2 : decode cX0_drain 2 = .ok (.iload_n 2, 1) := by decide +kernel
theorem dX0_drain_3 : decode cX0_drain 3 = .ok (.bipush 6, 2) := by decide +kernel
theorem dX0_drain_5 : decode cX0_drain 5 = .ok (.if_icmp .ge 81, 3) := by decide +kernel
theorem dX0_drain_8 : decode cX0_drain 8 = .ok (.aload_n 0, 1) := by decide +kernel
theorem dX0_drain_9 : decode cX0_drain 9 = .ok (.iload_n 2, 1) := by decide +kernel
theorem dX0_drain_10 : decode cX0_drain 10 = .ok (.invokevirtual 69, 3) := by decide +kernel
theorem dX0_drain_13 : decode cX0_drain 13 = .ok (.ifCond .eq 67, 3) := by decide +kernel
theorem dX0_drain_16 : decode cX0_drain 16 = .ok (.aload_n 0, 1) := by decide +kernel
theorem dX0_drain_17 : decode cX0_drain 17 = .ok (.iload_n 2, 1) := by decide +kernel
theorem dX0_drain_18 : decode cX0_drain 18 = .ok (.aload_n 0, 1) := by decide +kernel
theorem dX0_drain_19 : decode cX0_drain 19 = .ok (.getfield 27, 3) := by decide +kernel
theorem dX0_drain_22 : decode cX0_drain 22 = .ok (.iload_n 2, 1) := by decide +kernel
theorem dX0_drain_23 : decode cX0_drain 23 = .ok (.iaload, 1) := by decide +kernel
theorem dX0_drain_24 : decode cX0_drain 24 = .ok (.invokevirtual 116, 3) := by decide +kernel
theorem dX0_drain_27 : decode cX0_drain 27 = .ok (.aload_n 0, 1) := by decide +kernel
theorem dX0_drain_28 : decode cX0_drain 28 = .ok (.getfield 21, 3) := by decide +kernel
theorem dX0_drain_31 : decode cX0_drain 31 = .ok (.iload_n 2, 1) := by decide +kernel
theorem dX0_drain_32 : decode cX0_drain 32 = .ok (.iaload, 1) := by decide +kernel
theorem dX0_drain_33 : decode cX0_drain 33 = .ok (.invokestatic 119, 3) := by decide +kernel
theorem dX0_drain_36 : decode cX0_drain 36 = .ok (.ifCond .eq 29, 3) := by decide +kernel
theorem dX0_drain_39 : decode cX0_drain 39 = .ok (.aload_n 0, 1) := by decide +kernel
theorem dX0_drain_40 : decode cX0_drain 40 = .ok (.iload_n 2, 1) := by decide +kernel
theorem dX0_drain_41 : decode cX0_drain 41 = .ok (.aload_n 0, 1) := by decide +kernel
theorem dX0_drain_42 : decode cX0_drain 42 = .ok (.getfield 27, 3) := by decide +kernel
theorem dX0_drain_45 : decode cX0_drain 45 = .ok (.iload_n 2, 1) := by decide +kernel
theorem dX0_drain_46 : decode cX0_drain 46 = .ok (.iaload, 1) := by decide +kernel
theorem dX0_drain_47 : decode cX0_drain 47 = .ok (.iconst 1, 1) := by decide +kernel
theorem dX0_drain_48 : decode cX0_drain 48 = .ok (.isub, 1) := by decide +kernel
theorem dX0_drain_49 : decode cX0_drain 49 = .ok (.invokevirtual 116, 3) := by decide +kernel
theorem dX0_drain_52 : decode cX0_drain 52 = .ok (.aload_n 0, 1) := by decide +kernel
theorem dX0_drain_53 : decode cX0_drain 53 = .ok (.iload_n 2, 1) := by decide +kernel
theorem dX0_drain_54 : decode cX0_drain 54 = .ok (.aload_n 0, 1) := by decide +kernel
theorem dX0_drain_55 : decode cX0_drain 55 = .ok (.getfield 27, 3) := by decide +kernel
theorem dX0_drain_58 : decode cX0_drain 58 = .ok (.iload_n 2, 1) := by decide +kernel
theorem dX0_drain_59 : decode cX0_drain 59 = .ok (.iaload, 1) := by decide +kernel
theorem dX0_drain_60 : decode cX0_drain 60 = .ok (.iconst 1, 1) := by decide +kernel
theorem dX0_drain_61 : decode cX0_drain 61 = .ok (.iadd, 1) := by decide +kernel
theorem dX0_drain_62 : decode cX0_drain 62 = .ok (.invokevirtual 116, 3) := by decide +kernel
theorem dX0_drain_65 : decode cX0_drain 65 = .ok (.aload_n 0, 1) := by decide +kernel
theorem dX0_drain_66 : decode cX0_drain 66 = .ok (.dup, 1) := by decide +kernel
theorem dX0_drain_67 : decode cX0_drain 67 = .ok (.getfield 49, 3) := by decide +kernel
theorem dX0_drain_70 : decode cX0_drain 70 = .ok (.aload_n 0, 1) := by decide +kernel
theorem dX0_drain_71 : decode cX0_drain 71 = .ok (.aload_n 1, 1) := by decide +kernel
theorem dX0_drain_72 : decode cX0_drain 72 = .ok (.iload_n 2, 1) := by decide +kernel
theorem dX0_drain_73 : decode cX0_drain 73 = .ok (.invokevirtual 122, 3) := by decide +kernel
theorem dX0_drain_76 : decode cX0_drain 76 = .ok (.iadd, 1) := by decide +kernel
theorem dX0_drain_77 : decode cX0_drain 77 = .ok (.putfield 49, 3) := by decide +kernel
theorem dX0_drain_80 : decode cX0_drain 80 = .ok (.iinc 2 1, 3) := by decide +kernel
theorem dX0_drain_83 : decode cX0_drain 83 = .ok (.goto (-81), 3) := by decide +kernel
theorem dX0_drain_86 : decode cX0_drain 86 = .ok (.return_, 1) := by decide +kernel
theorem dX0_drawFrom_0 : decode cX0_drawFrom 0 = .ok (.iload_n 2, 1) := by decide +kernel
theorem dX0_drawFrom_1 : decode cX0_drawFrom 1 = .ok (.invokestatic 61, 3) := by decide +kernel
theorem dX0_drawFrom_4 : decode cX0_drawFrom 4 = .ok (.ifCond .eq 18, 3) := by decide +kernel
theorem dX0_drawFrom_7 : decode cX0_drawFrom 7 = .ok (.aload_n 0, 1) := by decide +kernel
theorem dX0_drawFrom_8 : decode cX0_drawFrom 8 = .ok (.getfield 18, 3) := by decide +kernel
theorem dX0_drawFrom_11 : decode cX0_drawFrom 11 = .ok (.iload_n 2, 1) := by decide +kernel
theorem dX0_drawFrom_12 : decode cX0_drawFrom 12 = .ok (.dup2, 1) := by decide +kernel
theorem dX0_drawFrom_13 : decode cX0_drawFrom 13 = .ok (.iaload, 1) := by decide +kernel
theorem dX0_drawFrom_14 : decode cX0_drawFrom 14 = .ok (.aload_n 0, 1) := by decide +kernel
theorem dX0_drawFrom_15 : decode cX0_drawFrom 15 = .ok (.iload_n 1, 1) := by decide +kernel
theorem dX0_drawFrom_16 : decode cX0_drawFrom 16 = .ok (.iload_n 2, 1) := by decide +kernel
theorem dX0_drawFrom_17 : decode cX0_drawFrom 17 = .ok (.invokevirtual 81, 3) := by decide +kernel
theorem dX0_drawFrom_20 : decode cX0_drawFrom 20 = .ok (.isub, 1) := by decide +kernel
theorem dX0_drawFrom_21 : decode cX0_drawFrom 21 = .ok (.iastore, 1) := by decide +kernel
theorem dX0_drawFrom_22 : decode cX0_drawFrom 22 = .ok (.return_, 1) := by decide +kernel
theorem dX0_shrink_0 : decode cX0_shrink 0 = .ok (.iconst 0, 1) := by decide +kernel
theorem dX0_shrink_1 : decode cX0_shrink 1 = .ok (.istore_n 2, 1) := by decide +kernel
theorem dX0_shrink_2 : decode cX0_shrink 2 = .ok (.iload_n 2, 1) := by decide +kernel
theorem dX0_shrink_3 : decode cX0_shrink 3 = .ok (.bipush 12, 2) := by decide +kernel
theorem dX0_shrink_5 : decode cX0_shrink 5 = .ok (.if_icmp .ge 65, 3) := by decide +kernel
theorem dX0_shrink_8 : decode cX0_shrink 8 = .ok (.aload_n 0, 1) := by decide +kernel
theorem dX0_shrink_9 : decode cX0_shrink 9 = .ok (.getfield 18, 3) := by decide +kernel
theorem dX0_shrink_12 : decode cX0_shrink 12 = .ok (.iload_n 2, 1) := by decide +kernel
theorem dX0_shrink_13 : decode cX0_shrink 13 = .ok (.iaload, 1) := by decide +kernel
theorem dX0_shrink_14 : decode cX0_shrink 14 = .ok (.ifCond .ne 50, 3) := by decide +kernel
theorem dX0_shrink_17 : decode cX0_shrink 17 = .ok (.aload_n 0, 1) := by decide +kernel
theorem dX0_shrink_18 : decode cX0_shrink 18 = .ok (.aload_n 1, 1) := by decide +kernel
theorem dX0_shrink_19 : decode cX0_shrink 19 = .ok (.iconst 1, 1) := by decide +kernel
theorem dX0_shrink_20 : decode cX0_shrink 20 = .ok (.iload_n 2, 1) := by decide +kernel
theorem dX0_shrink_21 : decode cX0_shrink 21 = .ok (.iconst (-1), 1) := by decide +kernel
theorem dX0_shrink_22 : decode cX0_shrink 22 = .ok (.invokevirtual 84, 3) := by decide +kernel
theorem dX0_shrink_25 : decode cX0_shrink 25 = .ok (.aload_n 0, 1) := by decide +kernel
theorem dX0_shrink_26 : decode cX0_shrink 26 = .ok (.getfield 15, 3) := by decide +kernel
theorem dX0_shrink_29 : decode cX0_shrink 29 = .ok (.iload_n 2, 1) := by decide +kernel
theorem dX0_shrink_30 : decode cX0_shrink 30 = .ok (.iaload, 1) := by decide +kernel
theorem dX0_shrink_31 : decode cX0_shrink 31 = .ok (.aload_n 0, 1) := by decide +kernel
theorem dX0_shrink_32 : decode cX0_shrink 32 = .ok (.getfield 9, 3) := by decide +kernel
theorem dX0_shrink_35 : decode cX0_shrink 35 = .ok (.iload_n 2, 1) := by decide +kernel
theorem dX0_shrink_36 : decode cX0_shrink 36 = .ok (.iaload, 1) := by decide +kernel
theorem dX0_shrink_37 : decode cX0_shrink 37 = .ok (.invokestatic 75, 3) := by decide +kernel
theorem dX0_shrink_40 : decode cX0_shrink 40 = .ok (.invokestatic 75, 3) := by decide +kernel
theorem dX0_shrink_43 : decode cX0_shrink 43 = .ok (.istore_n 3, 1) := by decide +kernel
theorem dX0_shrink_44 : decode cX0_shrink 44 = .ok (.aload_n 0, 1) := by decide +kernel
theorem dX0_shrink_45 : decode cX0_shrink 45 = .ok (.getfield 15, 3) := by decide +kernel
theorem dX0_shrink_48 : decode cX0_shrink 48 = .ok (.iload_n 2, 1) := by decide +kernel
theorem dX0_shrink_49 : decode cX0_shrink 49 = .ok (.dup2, 1) := by decide +kernel
theorem dX0_shrink_50 : decode cX0_shrink 50 = .ok (.iaload, 1) := by decide +kernel
theorem dX0_shrink_51 : decode cX0_shrink 51 = .ok (.iload_n 3, 1) := by decide +kernel
theorem dX0_shrink_52 : decode cX0_shrink 52 = .ok (.isub, 1) := by decide +kernel
theorem dX0_shrink_53 : decode cX0_shrink 53 = .ok (.iastore, 1) := by decide +kernel
theorem dX0_shrink_54 : decode cX0_shrink 54 = .ok (.aload_n 0, 1) := by decide +kernel
theorem dX0_shrink_55 : decode cX0_shrink 55 = .ok (.getfield 9, 3) := by decide +kernel
theorem dX0_shrink_58 : decode cX0_shrink 58 = .ok (.iload_n 2, 1) := by decide +kernel
theorem dX0_shrink_59 : decode cX0_shrink 59 = .ok (.dup2, 1) := by decide +kernel
theorem dX0_shrink_60 : decode cX0_shrink 60 = .ok (.iaload, 1) := by decide +kernel
theorem dX0_shrink_61 : decode cX0_shrink 61 = .ok (.iload_n 3, 1) := by decide +kernel
theorem dX0_shrink_62 : decode cX0_shrink 62 = .ok (.isub, 1) := by decide +kernel
theorem dX0_shrink_63 : decode cX0_shrink 63 = .ok (.iastore, 1) := by decide +kernel
theorem dX0_shrink_64 : decode cX0_shrink 64 = .ok (.iinc 2 1, 3) := by decide +kernel
theorem dX0_shrink_67 : decode cX0_shrink 67 = .ok (.goto (-65), 3) := by decide +kernel
theorem dX0_shrink_70 : decode cX0_shrink 70 = .ok (.return_, 1) := by decide +kernel
theorem dX0_says_0 : decode cX0_says 0 = .ok (.aload_n 1, 1) := by decide +kernel
theorem dX0_says_1 : decode cX0_says 1 = .ok (.iload_n 2, 1) := by decide +kernel
theorem dX0_says_2 : decode cX0_says 2 = .ok (.invokevirtual 126, 3) := by decide +kernel
theorem dX0_says_5 : decode cX0_says 5 = .ok (.astore 5, 2) := by decide +kernel
theorem dX0_says_7 : decode cX0_says 7 = .ok (.iconst 0, 1) := by decide +kernel
theorem dX0_says_8 : decode cX0_says 8 = .ok (.istore 6, 2) := by decide +kernel
theorem dX0_says_10 : decode cX0_says 10 = .ok (.iconst 0, 1) := by decide +kernel
theorem dX0_says_11 : decode cX0_says 11 = .ok (.istore 7, 2) := by decide +kernel
theorem dX0_says_13 : decode cX0_says 13 = .ok (.iload 7, 2) := by decide +kernel
theorem dX0_says_15 : decode cX0_says 15 = .ok (.aload 5, 2) := by decide +kernel
theorem dX0_says_17 : decode cX0_says 17 = .ok (.arraylength, 1) := by decide +kernel
theorem dX0_says_18 : decode cX0_says 18 = .ok (.if_icmp .ge 139, 3) := by decide +kernel
theorem dX0_says_21 : decode cX0_says 21 = .ok (.aload 5, 2) := by decide +kernel
theorem dX0_says_23 : decode cX0_says 23 = .ok (.iload 7, 2) := by decide +kernel
theorem dX0_says_25 : decode cX0_says 25 = .ok (.iaload, 1) := by decide +kernel
theorem dX0_says_26 : decode cX0_says 26 = .ok (.istore 8, 2) := by decide +kernel
theorem dX0_says_28 : decode cX0_says 28 = .ok (.iload 8, 2) := by decide +kernel
theorem dX0_says_30 : decode cX0_says 30 = .ok (.bipush (-7), 2) := by decide +kernel
theorem dX0_says_32 : decode cX0_says 32 = .ok (.if_icmp .le 42, 3) := by decide +kernel
theorem dX0_says_35 : decode cX0_says 35 = .ok (.iload 6, 2) := by decide +kernel
theorem dX0_says_37 : decode cX0_says 37 = .ok (.bipush 31, 2) := by decide +kernel
theorem dX0_says_39 : decode cX0_says 39 = .ok (.if_icmp .ge 112, 3) := by decide +kernel
theorem dX0_says_42 : decode cX0_says 42 = .ok (.aload_n 0, 1) := by decide +kernel
theorem dX0_says_43 : decode cX0_says 43 = .ok (.getfield 33, 3) := by decide +kernel
theorem dX0_says_46 : decode cX0_says 46 = .ok (.iload 6, 2) := by decide +kernel
theorem dX0_says_48 : decode cX0_says 48 = .ok (.iload 8, 2) := by decide +kernel
theorem dX0_says_50 : decode cX0_says 50 = .ok (.ifCond .lt 8, 3) := by decide +kernel
theorem dX0_says_53 : decode cX0_says 53 = .ok (.iload 8, 2) := by decide +kernel
theorem dX0_says_55 : decode cX0_says 55 = .ok (.goto 12, 3) := by decide +kernel
theorem dX0_says_58 : decode cX0_says 58 = .ok (.aload_n 0, 1) := by decide +kernel
theorem dX0_says_59 : decode cX0_says 59 = .ok (.iload 8, 2) := by decide +kernel
theorem dX0_says_61 : decode cX0_says 61 = .ok (.iload_n 3, 1) := by decide +kernel
theorem dX0_says_62 : decode cX0_says 62 = .ok (.iload 4, 2) := by decide +kernel
theorem dX0_says_64 : decode cX0_says 64 = .ok (.invokevirtual 131, 3) := by decide +kernel
theorem dX0_says_67 : decode cX0_says 67 = .ok (.iastore, 1) := by decide +kernel
theorem dX0_says_68 : decode cX0_says 68 = .ok (.iinc 6 1, 3) := by decide +kernel
theorem dX0_says_71 : decode cX0_says 71 = .ok (.goto 80, 3) := by decide +kernel
theorem dX0_says_74 : decode cX0_says 74 = .ok (.iload 8, 2) := by decide +kernel
theorem dX0_says_76 : decode cX0_says 76 = .ok (.bipush (-8), 2) := by decide +kernel
theorem dX0_says_78 : decode cX0_says 78 = .ok (.if_icmp .lt 34, 3) := by decide +kernel
theorem dX0_says_81 : decode cX0_says 81 = .ok (.iload 6, 2) := by decide +kernel
theorem dX0_says_83 : decode cX0_says 83 = .ok (.ifCond .le 68, 3) := by decide +kernel
theorem dX0_says_86 : decode cX0_says 86 = .ok (.aload_n 0, 1) := by decide +kernel
theorem dX0_says_87 : decode cX0_says 87 = .ok (.getfield 33, 3) := by decide +kernel
theorem dX0_says_90 : decode cX0_says 90 = .ok (.iload 6, 2) := by decide +kernel
theorem dX0_says_92 : decode cX0_says 92 = .ok (.iconst 1, 1) := by decide +kernel
theorem dX0_says_93 : decode cX0_says 93 = .ok (.isub, 1) := by decide +kernel
theorem dX0_says_94 : decode cX0_says 94 = .ok (.iload 8, 2) := by decide +kernel
theorem dX0_says_96 : decode cX0_says 96 = .ok (.aload_n 0, 1) := by decide +kernel
theorem dX0_says_97 : decode cX0_says 97 = .ok (.getfield 33, 3) := by decide +kernel
theorem dX0_says_100 : decode cX0_says 100 = .ok (.iload 6, 2) := by decide +kernel
theorem dX0_says_102 : decode cX0_says 102 = .ok (.iconst 1, 1) := by decide +kernel
theorem dX0_says_103 : decode cX0_says 103 = .ok (.isub, 1) := by decide +kernel
theorem dX0_says_104 : decode cX0_says 104 = .ok (.iaload, 1) := by decide +kernel
theorem dX0_says_105 : decode cX0_says 105 = .ok (.invokestatic 135, 3) := by decide +kernel
theorem dX0_says_108 : decode cX0_says 108 = .ok (.iastore, 1) := by decide +kernel
theorem dX0_says_109 : decode cX0_says 109 = .ok (.goto 42, 3) := by decide +kernel
theorem dX0_says_112 : decode cX0_says 112 = .ok (.iload 6, 2) := by decide +kernel
theorem dX0_says_114 : decode cX0_says 114 = .ok (.iconst 1, 1) := by decide +kernel
theorem dX0_says_115 : decode cX0_says 115 = .ok (.if_icmp .le 36, 3) := by decide +kernel
theorem dX0_says_118 : decode cX0_says 118 = .ok (.iinc 6 (-1), 3) := by decide +kernel
theorem dX0_says_121 : decode cX0_says 121 = .ok (.aload_n 0, 1) := by decide +kernel
theorem dX0_says_122 : decode cX0_says 122 = .ok (.getfield 33, 3) := by decide +kernel
theorem dX0_says_125 : decode cX0_says 125 = .ok (.iload 6, 2) := by decide +kernel
theorem dX0_says_127 : decode cX0_says 127 = .ok (.iconst 1, 1) := by decide +kernel
theorem dX0_says_128 : decode cX0_says 128 = .ok (.isub, 1) := by decide +kernel
theorem dX0_says_129 : decode cX0_says 129 = .ok (.iload 8, 2) := by decide +kernel
theorem dX0_says_131 : decode cX0_says 131 = .ok (.aload_n 0, 1) := by decide +kernel
theorem dX0_says_132 : decode cX0_says 132 = .ok (.getfield 33, 3) := by decide +kernel
theorem dX0_says_135 : decode cX0_says 135 = .ok (.iload 6, 2) := by decide +kernel
theorem dX0_says_137 : decode cX0_says 137 = .ok (.iconst 1, 1) := by decide +kernel
theorem dX0_says_138 : decode cX0_says 138 = .ok (.isub, 1) := by decide +kernel
theorem dX0_says_139 : decode cX0_says 139 = .ok (.iaload, 1) := by decide +kernel
theorem dX0_says_140 : decode cX0_says 140 = .ok (.aload_n 0, 1) := by decide +kernel
theorem dX0_says_141 : decode cX0_says 141 = .ok (.getfield 33, 3) := by decide +kernel
theorem dX0_says_144 : decode cX0_says 144 = .ok (.iload 6, 2) := by decide +kernel
theorem dX0_says_146 : decode cX0_says 146 = .ok (.iaload, 1) := by decide +kernel
theorem dX0_says_147 : decode cX0_says 147 = .ok (.invokestatic 138, 3) := by decide +kernel
theorem dX0_says_150 : decode cX0_says 150 = .ok (.iastore, 1) := by decide +kernel
theorem dX0_says_151 : decode cX0_says 151 = .ok (.iinc 7 1, 3) := by decide +kernel
theorem dX0_says_154 : decode cX0_says 154 = .ok (.goto (-141), 3) := by decide +kernel
theorem dX0_says_157 : decode cX0_says 157 = .ok (.iload_n 2, 1) := by decide +kernel
theorem dX0_says_158 : decode cX0_says 158 = .ok (.ifCond .lt 19, 3) := by decide +kernel
theorem dX0_says_161 : decode cX0_says 161 = .ok (.iload_n 2, 1) := by decide +kernel
theorem dX0_says_162 : decode cX0_says 162 = .ok (.getstatic 141, 3) := by decide +kernel
theorem dX0_says_165 : decode cX0_says 165 = .ok (.arraylength, 1) := by decide +kernel
theorem dX0_says_166 : decode cX0_says 166 = .ok (.if_icmp .ge 11, 3) := by decide +kernel
theorem dX0_says_169 : decode cX0_says 169 = .ok (.getstatic 141, 3) := by decide +kernel
theorem dX0_says_172 : decode cX0_says 172 = .ok (.iload_n 2, 1) := by decide +kernel
theorem dX0_says_173 : decode cX0_says 173 = .ok (.iaload, 1) := by decide +kernel
theorem dX0_says_174 : decode cX0_says 174 = .ok (.goto 4, 3) := by decide +kernel
theorem dX0_says_177 : decode cX0_says 177 = .ok (.iconst 0, 1) := by decide +kernel
theorem dX0_says_178 : decode cX0_says 178 = .ok (.istore 7, 2) := by decide +kernel
theorem dX0_says_180 : decode cX0_says 180 = .ok (.iconst 0, 1) := by decide +kernel
theorem dX0_says_181 : decode cX0_says 181 = .ok (.iload 7, 2) := by decide +kernel
theorem dX0_says_183 : decode cX0_says 183 = .ok (.iload 6, 2) := by decide +kernel
theorem dX0_says_185 : decode cX0_says 185 = .ok (.ifCond .le 12, 3) := by decide +kernel
theorem dX0_says_188 : decode cX0_says 188 = .ok (.aload_n 0, 1) := by decide +kernel
theorem dX0_says_189 : decode cX0_says 189 = .ok (.getfield 33, 3) := by decide +kernel
theorem dX0_says_192 : decode cX0_says 192 = .ok (.iconst 0, 1) := by decide +kernel
theorem dX0_says_193 : decode cX0_says 193 = .ok (.iaload, 1) := by decide +kernel
theorem dX0_says_194 : decode cX0_says 194 = .ok (.goto 4, 3) := by decide +kernel
theorem dX0_says_197 : decode cX0_says 197 = .ok (.iconst 0, 1) := by decide +kernel
theorem dX0_says_198 : decode cX0_says 198 = .ok (.invokestatic 75, 3) := by decide +kernel
theorem dX0_says_201 : decode cX0_says 201 = .ok (.invokestatic 144, 3) := by decide +kernel
theorem dX0_says_204 : decode cX0_says 204 = .ok (.ireturn, 1) := by decide +kernel
theorem dX0_named_0 : decode cX0_named 0 = .ok (.iload_n 2, 1) := by decide +kernel
theorem dX0_named_1 : decode cX0_named 1 = .ok (.ifCond .lt 9, 3) := by decide +kernel
theorem dX0_named_4 : decode cX0_named 4 = .ok (.iload_n 2, 1) := by decide +kernel
theorem dX0_named_5 : decode cX0_named 5 = .ok (.bipush 12, 2) := by decide +kernel
theorem dX0_named_7 : decode cX0_named 7 = .ok (.if_icmp .lt 5, 3) := by decide +kernel
theorem dX0_named_10 : decode cX0_named 10 = .ok (.iconst 0, 1) := by decide +kernel
theorem dX0_named_11 : decode cX0_named 11 = .ok (.ireturn, 1) := by decide +kernel
theorem dX0_named_12 : decode cX0_named 12 = .ok (.iload_n 1, 1) := by decide +kernel
theorem dX0_named_13 : decode cX0_named 13 = .ok (.tableswitch 67 (-6) (-1) #[65, 58, 67, 53, 46, 39], 39) := by decide +kernel
theorem dX0_named_52 : decode cX0_named 52 = .ok (.aload_n 0, 1) := by decide +kernel
theorem dX0_named_53 : decode cX0_named 53 = .ok (.getfield 9, 3) := by decide +kernel
theorem dX0_named_56 : decode cX0_named 56 = .ok (.iload_n 2, 1) := by decide +kernel
theorem dX0_named_57 : decode cX0_named 57 = .ok (.iaload, 1) := by decide +kernel
theorem dX0_named_58 : decode cX0_named 58 = .ok (.ireturn, 1) := by decide +kernel
theorem dX0_named_59 : decode cX0_named 59 = .ok (.aload_n 0, 1) := by decide +kernel
theorem dX0_named_60 : decode cX0_named 60 = .ok (.getfield 15, 3) := by decide +kernel
theorem dX0_named_63 : decode cX0_named 63 = .ok (.iload_n 2, 1) := by decide +kernel
theorem dX0_named_64 : decode cX0_named 64 = .ok (.iaload, 1) := by decide +kernel
theorem dX0_named_65 : decode cX0_named 65 = .ok (.ireturn, 1) := by decide +kernel
theorem dX0_named_66 : decode cX0_named 66 = .ok (.aload_n 0, 1) := by decide +kernel
theorem dX0_named_67 : decode cX0_named 67 = .ok (.getfield 46, 3) := by decide +kernel
theorem dX0_named_70 : decode cX0_named 70 = .ok (.ireturn, 1) := by decide +kernel
theorem dX0_named_71 : decode cX0_named 71 = .ok (.aload_n 0, 1) := by decide +kernel
theorem dX0_named_72 : decode cX0_named 72 = .ok (.getfield 18, 3) := by decide +kernel
theorem dX0_named_75 : decode cX0_named 75 = .ok (.iload_n 2, 1) := by decide +kernel
theorem dX0_named_76 : decode cX0_named 76 = .ok (.iaload, 1) := by decide +kernel
theorem dX0_named_77 : decode cX0_named 77 = .ok (.ireturn, 1) := by decide +kernel
theorem dX0_named_78 : decode cX0_named 78 = .ok (.iload_n 2, 1) := by decide +kernel
theorem dX0_named_79 : decode cX0_named 79 = .ok (.ireturn, 1) := by decide +kernel
theorem dX0_named_80 : decode cX0_named 80 = .ok (.iload_n 3, 1) := by decide +kernel
theorem dX0_named_81 : decode cX0_named 81 = .ok (.ifCond .lt 16, 3) := by decide +kernel
theorem dX0_named_84 : decode cX0_named 84 = .ok (.iload_n 3, 1) := by decide +kernel
theorem dX0_named_85 : decode cX0_named 85 = .ok (.bipush 6, 2) := by decide +kernel
theorem dX0_named_87 : decode cX0_named 87 = .ok (.if_icmp .ge 10, 3) := by decide +kernel
theorem dX0_named_90 : decode cX0_named 90 = .ok (.aload_n 0, 1) := by decide +kernel
theorem dX0_named_91 : decode cX0_named 91 = .ok (.getfield 24, 3) := by decide +kernel
theorem dX0_named_94 : decode cX0_named 94 = .ok (.iload_n 3, 1) := by decide +kernel
theorem dX0_named_95 : decode cX0_named 95 = .ok (.iaload, 1) := by decide +kernel
theorem dX0_named_96 : decode cX0_named 96 = .ok (.ireturn, 1) := by decide +kernel
theorem dX0_named_97 : decode cX0_named 97 = .ok (.iconst 0, 1) := by decide +kernel
theorem dX0_named_98 : decode cX0_named 98 = .ok (.istore 4, 2) := by decide +kernel
theorem dX0_named_100 : decode cX0_named 100 = .ok (.iconst 0, 1) := by decide +kernel
theorem dX0_named_101 : decode cX0_named 101 = .ok (.istore 5, 2) := by decide +kernel
theorem dX0_named_103 : decode cX0_named 103 = .ok (.iload 5, 2) := by decide +kernel
theorem dX0_named_105 : decode cX0_named 105 = .ok (.aload_n 0, 1) := by decide +kernel
theorem dX0_named_106 : decode cX0_named 106 = .ok (.getfield 52, 3) := by decide +kernel
theorem dX0_named_109 : decode cX0_named 109 = .ok (.if_icmp .ge 30, 3) := by decide +kernel
theorem dX0_named_112 : decode cX0_named 112 = .ok (.iload 5, 2) := by decide +kernel
theorem dX0_named_114 : decode cX0_named 114 = .ok (.bipush 6, 2) := by decide +kernel
theorem dX0_named_116 : decode cX0_named 116 = .ok (.if_icmp .ge 23, 3) := by decide +kernel
theorem dX0_named_119 : decode cX0_named 119 = .ok (.aload_n 0, 1) := by decide +kernel
theorem dX0_named_120 : decode cX0_named 120 = .ok (.getfield 27, 3) := by decide +kernel
theorem dX0_named_123 : decode cX0_named 123 = .ok (.iload 5, 2) := by decide +kernel
theorem dX0_named_125 : decode cX0_named 125 = .ok (.iaload, 1) := by decide +kernel
theorem dX0_named_126 : decode cX0_named 126 = .ok (.iload_n 2, 1) := by decide +kernel
theorem dX0_named_127 : decode cX0_named 127 = .ok (.if_icmp .ne 6, 3) := by decide +kernel
theorem dX0_named_130 : decode cX0_named 130 = .ok (.iinc 4 1, 3) := by decide +kernel
theorem dX0_named_133 : decode cX0_named 133 = .ok (.iinc 5 1, 3) := by decide +kernel
theorem dX0_named_136 : decode cX0_named 136 = .ok (.goto (-33), 3) := by decide +kernel
theorem dX0_named_139 : decode cX0_named 139 = .ok (.iload 4, 2) := by decide +kernel
theorem dX0_named_141 : decode cX0_named 141 = .ok (.ireturn, 1) := by decide +kernel
theorem dX1_init_0 : decode cX1_init 0 = .ok (.aload_n 0, 1) := by decide +kernel
theorem dX1_init_1 : decode cX1_init 1 = .ok (.invokespecial 5, 3) := by decide +kernel
theorem dX1_init_4 : decode cX1_init 4 = .ok (.aload_n 0, 1) := by decide +kernel
theorem dX1_init_5 : decode cX1_init 5 = .ok (.sipush 160, 3) := by decide +kernel
theorem dX1_init_8 : decode cX1_init 8 = .ok (.newarray .int, 2) := by decide +kernel
theorem dX1_init_10 : decode cX1_init 10 = .ok (.putfield 11, 3) := by decide +kernel
theorem dX1_init_13 : decode cX1_init 13 = .ok (.aload_n 0, 1) := by decide +kernel
theorem dX1_init_14 : decode cX1_init 14 = .ok (.sipush 160, 3) := by decide +kernel
theorem dX1_init_17 : decode cX1_init 17 = .ok (.newarray .int, 2) := by decide +kernel
theorem dX1_init_19 : decode cX1_init 19 = .ok (.putfield 15, 3) := by decide +kernel
theorem dX1_init_22 : decode cX1_init 22 = .ok (.return_, 1) := by decide +kernel
theorem dX1_put_0 : decode cX1_put 0 = .ok (.aload_n 0, 1) := by decide +kernel
theorem dX1_put_1 : decode cX1_put 1 = .ok (.getfield 18, 3) := by decide +kernel
theorem dX1_put_4 : decode cX1_put 4 = .ok (.sipush 160, 3) := by decide +kernel
theorem dX1_put_7 : decode cX1_put 7 = .ok (.if_icmp .lt 5, 3) := by decide +kernel
theorem dX1_put_10 : decode cX1_put 10 = .ok (.iconst 0, 1) := by decide +kernel
theorem dX1_put_11 : decode cX1_put 11 = .ok (.ireturn, 1) := by decide +kernel
theorem dX1_put_12 : decode cX1_put 12 = .ok (.aload_n 0, 1) := by decide +kernel
theorem dX1_put_13 : decode cX1_put 13 = .ok (.getfield 11, 3) := by decide +kernel
theorem dX1_put_16 : decode cX1_put 16 = .ok (.aload_n 0, 1) := by decide +kernel
theorem dX1_put_17 : decode cX1_put 17 = .ok (.getfield 18, 3) := by decide +kernel
theorem dX1_put_20 : decode cX1_put 20 = .ok (.iload_n 1, 1) := by decide +kernel
theorem dX1_put_21 : decode cX1_put 21 = .ok (.iastore, 1) := by decide +kernel
theorem dX1_put_22 : decode cX1_put 22 = .ok (.aload_n 0, 1) := by decide +kernel
theorem dX1_put_23 : decode cX1_put 23 = .ok (.dup, 1) := by decide +kernel
theorem dX1_put_24 : decode cX1_put 24 = .ok (.getfield 18, 3) := by decide +kernel
theorem dX1_put_27 : decode cX1_put 27 = .ok (.iconst 1, 1) := by decide +kernel
theorem dX1_put_28 : decode cX1_put 28 = .ok (.iadd, 1) := by decide +kernel
theorem dX1_put_29 : decode cX1_put 29 = .ok (.putfield 18, 3) := by decide +kernel
theorem dX1_put_32 : decode cX1_put 32 = .ok (.iconst 1, 1) := by decide +kernel
theorem dX1_put_33 : decode cX1_put 33 = .ok (.ireturn, 1) := by decide +kernel
theorem dX1_size_0 : decode cX1_size 0 = .ok (.aload_n 0, 1) := by decide +kernel
theorem dX1_size_1 : decode cX1_size 1 = .ok (.getfield 18, 3) := by decide +kernel
theorem dX1_size_4 : decode cX1_size 4 = .ok (.ireturn, 1) := by decide +kernel
theorem dX1_fault_0 : decode cX1_fault 0 = .ok (.aload_n 0, 1) := by decide +kernel
theorem dX1_fault_1 : decode cX1_fault 1 = .ok (.getfield 22, 3) := by decide +kernel
theorem dX1_fault_4 : decode cX1_fault 4 = .ok (.ireturn, 1) := by decide +kernel
theorem dX1_read_0 : decode cX1_read 0 = .ok (.aload_n 0, 1) := by decide +kernel
theorem dX1_read_1 : decode cX1_read 1 = .ok (.iconst 0, 1) := by decide +kernel
theorem dX1_read_2 : decode cX1_read 2 = .ok (.putfield 25, 3) := by decide +kernel
theorem dX1_read_5 : decode cX1_read 5 = .ok (.aload_n 0, 1) := by decide +kernel
theorem dX1_read_6 : decode cX1_read 6 = .ok (.iconst (-1), 1) := by decide +kernel
theorem dX1_read_7 : decode cX1_read 7 = .ok (.putfield 22, 3) := by decide +kernel
theorem dX1_read_10 : decode cX1_read 10 = .ok (.aload_n 0, 1) := by decide +kernel
theorem dX1_read_11 : decode cX1_read 11 = .ok (.invokevirtual 28, 3) := by decide +kernel
theorem dX1_read_14 : decode cX1_read 14 = .ok (.aload_n 0, 1) := by decide +kernel
theorem dX1_read_15 : decode cX1_read 15 = .ok (.iconst 0, 1) := by decide +kernel
theorem dX1_read_16 : decode cX1_read 16 = .ok (.invokevirtual 31, 3) := by decide +kernel
theorem dX1_read_19 : decode cX1_read 19 = .ok (.astore_n 1, 1) := by decide +kernel
theorem dX1_read_20 : decode cX1_read 20 = .ok (.aload_n 0, 1) := by decide +kernel
theorem dX1_read_21 : decode cX1_read 21 = .ok (.iconst 1, 1) := by decide +kernel
theorem dX1_read_22 : decode cX1_read 22 = .ok (.invokevirtual 31, 3) := by decide +kernel
theorem dX1_read_25 : decode cX1_read 25 = .ok (.astore_n 2, 1) := by decide +kernel
theorem dX1_read_26 : decode cX1_read 26 = .ok (.aload_n 0, 1) := by decide +kernel
theorem dX1_read_27 : decode cX1_read 27 = .ok (.iconst 2, 1) := by decide +kernel
theorem dX1_read_28 : decode cX1_read 28 = .ok (.invokevirtual 31, 3) := by decide +kernel
theorem dX1_read_31 : decode cX1_read 31 = .ok (.astore_n 3, 1) := by decide +kernel
theorem dX1_read_32 : decode cX1_read 32 = .ok (.aload_n 0, 1) := by decide +kernel
theorem dX1_read_33 : decode cX1_read 33 = .ok (.iconst 0, 1) := by decide +kernel
theorem dX1_read_34 : decode cX1_read 34 = .ok (.invokevirtual 35, 3) := by decide +kernel
theorem dX1_read_37 : decode cX1_read 37 = .ok (.aload_n 0, 1) := by decide +kernel
theorem dX1_read_38 : decode cX1_read 38 = .ok (.iconst 0, 1) := by decide +kernel
theorem dX1_read_39 : decode cX1_read 39 = .ok (.putfield 18, 3) := by decide +kernel
theorem dX1_read_42 : decode cX1_read 42 = .ok (.aload_n 0, 1) := by decide +kernel
theorem dX1_read_43 : decode cX1_read 43 = .ok (.getfield 22, 3) := by decide +kernel
theorem dX1_read_46 : decode cX1_read 46 = .ok (.iconst (-1), 1) := by decide +kernel
theorem dX1_read_47 : decode cX1_read 47 = .ok (.if_icmp .ne 16, 3) := by decide +kernel
theorem dX1_read_50 : decode cX1_read 50 = .ok (.new 39, 3) := by decide +kernel
theorem dX1_read_53 : decode cX1_read 53 = .ok (.dup, 1) := by decide +kernel
theorem dX1_read_54 : decode cX1_read 54 = .ok (.aload_n 1, 1) := by decide +kernel
theorem dX1_read_55 : decode cX1_read 55 = .ok (.aload_n 2, 1) := by decide +kernel
theorem dX1_read_56 : decode cX1_read 56 = .ok (.aload_n 3, 1) := by decide +kernel
theorem dX1_read_57 : decode cX1_read 57 = .ok (.invokespecial 41, 3) := by decide +kernel
theorem dX1_read_60 : decode cX1_read 60 = .ok (.goto 4, 3) := by decide +kernel
theorem dX1_read_63 : decode cX1_read 63 = .ok (.aconst_null, 1) := by decide +kernel
theorem dX1_read_64 : decode cX1_read 64 = .ok (.areturn, 1) := by decide +kernel
theorem dX1_next_0 : decode cX1_next 0 = .ok (.aload_n 0, 1) := by decide +kernel
theorem dX1_next_1 : decode cX1_next 1 = .ok (.getfield 22, 3) := by decide +kernel
theorem dX1_next_4 : decode cX1_next 4 = .ok (.iconst (-1), 1) := by decide +kernel
theorem dX1_next_5 : decode cX1_next 5 = .ok (.if_icmp .eq 4, 3) := by decide +kernel
theorem dX1_next_8 : decode cX1_next 8 = .ok (.return_, 1) := by decide +kernel
theorem dX1_next_9 : decode cX1_next 9 = .ok (.aload_n 0, 1) := by decide +kernel
theorem dX1_next_10 : decode cX1_next 10 = .ok (.getfield 25, 3) := by decide +kernel
theorem dX1_next_13 : decode cX1_next 13 = .ok (.aload_n 0, 1) := by decide +kernel
theorem dX1_next_14 : decode cX1_next 14 = .ok (.getfield 18, 3) := by decide +kernel
theorem dX1_next_17 : decode cX1_next 17 = .ok (.if_icmp .ge 44, 3) := by decide +kernel
theorem dX1_next_20 : decode cX1_next 20 = .ok (.aload_n 0, 1) := by decide +kernel
theorem dX1_next_21 : decode cX1_next 21 = .ok (.getfield 11, 3) := by decide +kernel
theorem dX1_next_24 : decode cX1_next 24 = .ok (.aload_n 0, 1) := by decide +kernel
theorem dX1_next_25 : decode cX1_next 25 = .ok (.getfield 25, 3) := by decide +kernel
theorem dX1_next_28 : decode cX1_next 28 = .ok (.iaload, 1) := by decide +kernel
theorem dX1_next_29 : decode cX1_next 29 = .ok (.bipush 32, 2) := by decide +kernel
theorem dX1_next_31 : decode cX1_next 31 = .ok (.if_icmp .eq 17, 3) := by decide +kernel
theorem dX1_next_34 : decode cX1_next 34 = .ok (.aload_n 0, 1) := by decide +kernel
theorem dX1_next_35 : decode cX1_next 35 = .ok (.getfield 11, 3) := by decide +kernel
theorem dX1_next_38 : decode cX1_next 38 = .ok (.aload_n 0, 1) := by decide +kernel
theorem dX1_next_39 : decode cX1_next 39 = .ok (.getfield 25, 3) := by decide +kernel
theorem dX1_next_42 : decode cX1_next 42 = .ok (.iaload, 1) := by decide +kernel
theorem dX1_next_43 : decode cX1_next 43 = .ok (.bipush 10, 2) := by decide +kernel
theorem dX1_next_45 : decode cX1_next 45 = .ok (.if_icmp .ne 16, 3) := by decide +kernel
theorem dX1_next_48 : decode cX1_next 48 = .ok (.aload_n 0, 1) := by decide +kernel
theorem dX1_next_49 : decode cX1_next 49 = .ok (.dup, 1) := by decide +kernel
theorem dX1_next_50 : decode cX1_next 50 = .ok (.getfield 25, 3) := by decide +kernel
theorem dX1_next_53 : decode cX1_next 53 = .ok (.iconst 1, 1) := by decide +kernel
theorem dX1_next_54 : decode cX1_next 54 = .ok (.iadd, 1) := by decide +kernel
theorem dX1_next_55 : decode cX1_next 55 = .ok (.putfield 25, 3) := by decide +kernel
theorem dX1_next_58 : decode cX1_next 58 = .ok (.goto (-49), 3) := by decide +kernel
theorem dX1_next_61 : decode cX1_next 61 = .ok (.aload_n 0, 1) := by decide +kernel
theorem dX1_next_62 : decode cX1_next 62 = .ok (.aload_n 0, 1) := by decide +kernel
theorem dX1_next_63 : decode cX1_next 63 = .ok (.getfield 25, 3) := by decide +kernel
theorem dX1_next_66 : decode cX1_next 66 = .ok (.putfield 44, 3) := by decide +kernel
theorem dX1_next_69 : decode cX1_next 69 = .ok (.aload_n 0, 1) := by decide +kernel
theorem dX1_next_70 : decode cX1_next 70 = .ok (.getfield 25, 3) := by decide +kernel
theorem dX1_next_73 : decode cX1_next 73 = .ok (.aload_n 0, 1) := by decide +kernel
theorem dX1_next_74 : decode cX1_next 74 = .ok (.getfield 18, 3) := by decide +kernel
theorem dX1_next_77 : decode cX1_next 77 = .ok (.if_icmp .lt 11, 3) := by decide +kernel
theorem dX1_next_80 : decode cX1_next 80 = .ok (.aload_n 0, 1) := by decide +kernel
theorem dX1_next_81 : decode cX1_next 81 = .ok (.iconst 0, 1) := by decide +kernel
theorem dX1_next_82 : decode cX1_next 82 = .ok (.putfield 47, 3) := by decide +kernel
theorem dX1_next_85 : decode cX1_next 85 = .ok (.goto 89, 3) := by decide +kernel
theorem dX1_next_88 : decode cX1_next 88 = .ok (.aload_n 0, 1) := by decide +kernel
theorem dX1_next_89 : decode cX1_next 89 = .ok (.getfield 11, 3) := by decide +kernel
theorem dX1_next_92 : decode cX1_next 92 = .ok (.aload_n 0, 1) := by decide +kernel
theorem dX1_next_93 : decode cX1_next 93 = .ok (.getfield 25, 3) := by decide +kernel
theorem dX1_next_96 : decode cX1_next 96 = .ok (.iaload, 1) := by decide +kernel
theorem dX1_next_97 : decode cX1_next 97 = .ok (.invokestatic 50, 3) := by decide +kernel
theorem dX1_next_100 : decode cX1_next 100 = .ok (.ifCond .eq 10, 3) := by decide +kernel
theorem dX1_next_103 : decode cX1_next 103 = .ok (.aload_n 0, 1) := by decide +kernel
theorem dX1_next_104 : decode cX1_next 104 = .ok (.invokevirtual 54, 3) := by decide +kernel
theorem dX1_next_107 : decode cX1_next 107 = .ok (.goto 67, 3) := by decide +kernel
theorem dX1_next_110 : decode cX1_next 110 = .ok (.aload_n 0, 1) := by decide +kernel
theorem dX1_next_111 : decode cX1_next 111 = .ok (.getfield 11, 3) := by decide +kernel
theorem dX1_next_114 : decode cX1_next 114 = .ok (.aload_n 0, 1) := by decide +kernel
theorem dX1_next_115 : decode cX1_next 115 = .ok (.getfield 25, 3) := by decide +kernel
theorem dX1_next_118 : decode cX1_next 118 = .ok (.iaload, 1) := by decide +kernel
theorem dX1_next_119 : decode cX1_next 119 = .ok (.invokestatic 57, 3) := by decide +kernel
theorem dX1_next_122 : decode cX1_next 122 = .ok (.ifCond .eq 10, 3) := by decide +kernel
theorem dX1_next_125 : decode cX1_next 125 = .ok (.aload_n 0, 1) := by decide +kernel
theorem dX1_next_126 : decode cX1_next 126 = .ok (.invokevirtual 60, 3) := by decide +kernel
theorem dX1_next_129 : decode cX1_next 129 = .ok (.goto 45, 3) := by decide +kernel
theorem dX1_next_132 : decode cX1_next 132 = .ok (.aload_n 0, 1) := by decide +kernel
theorem dX1_next_133 : decode cX1_next 133 = .ok (.aload_n 0, 1) := by decide +kernel
theorem dX1_next_134 : decode cX1_next 134 = .ok (.getfield 11, 3) := by decide +kernel
theorem dX1_next_137 : decode cX1_next 137 = .ok (.aload_n 0, 1) := by decide +kernel
theorem dX1_next_138 : decode cX1_next 138 = .ok (.getfield 25, 3) := by decide +kernel
theorem dX1_next_141 : decode cX1_next 141 = .ok (.iaload, 1) := by decide +kernel
theorem dX1_next_142 : decode cX1_next 142 = .ok (.invokestatic 63, 3) := by decide +kernel
theorem dX1_next_145 : decode cX1_next 145 = .ok (.ifCond .eq 15, 3) := by decide +kernel
theorem dX1_next_148 : decode cX1_next 148 = .ok (.aload_n 0, 1) := by decide +kernel
theorem dX1_next_149 : decode cX1_next 149 = .ok (.getfield 11, 3) := by decide +kernel
theorem dX1_next_152 : decode cX1_next 152 = .ok (.aload_n 0, 1) := by decide +kernel
theorem dX1_next_153 : decode cX1_next 153 = .ok (.getfield 25, 3) := by decide +kernel
theorem dX1_next_156 : decode cX1_next 156 = .ok (.iaload, 1) := by decide +kernel
theorem dX1_next_157 : decode cX1_next 157 = .ok (.goto 4, 3) := by decide +kernel
theorem dX1_next_160 : decode cX1_next 160 = .ok (.iconst 1, 1) := by decide +kernel
theorem dX1_next_161 : decode cX1_next 161 = .ok (.putfield 47, 3) := by decide +kernel
theorem dX1_next_164 : decode cX1_next 164 = .ok (.aload_n 0, 1) := by decide +kernel
theorem dX1_next_165 : decode cX1_next 165 = .ok (.dup, 1) := by decide +kernel
theorem dX1_next_166 : decode cX1_next 166 = .ok (.getfield 25, 3) := by decide +kernel
theorem dX1_next_169 : decode cX1_next 169 = .ok (.iconst 1, 1) := by decide +kernel
theorem dX1_next_170 : decode cX1_next 170 = .ok (.iadd, 1) := by decide +kernel
theorem dX1_next_171 : decode cX1_next 171 = .ok (.putfield 25, 3) := by decide +kernel
theorem dX1_next_174 : decode cX1_next 174 = .ok (.return_, 1) := by decide +kernel
theorem dX1_nextWord_0 : decode cX1_nextWord 0 = .ok (.aload_n 0, 1) := by decide +kernel
theorem dX1_nextWord_1 : decode cX1_nextWord 1 = .ok (.getfield 25, 3) := by decide +kernel
theorem dX1_nextWord_4 : decode cX1_nextWord 4 = .ok (.aload_n 0, 1) := by decide +kernel
theorem dX1_nextWord_5 : decode cX1_nextWord 5 = .ok (.getfield 18, 3) := by decide +kernel
theorem dX1_nextWord_8 : decode cX1_nextWord 8 = .ok (.if_icmp .ge 31, 3) := by decide +kernel
theorem dX1_nextWord_11 : decode cX1_nextWord 11 = .ok (.aload_n 0, 1) := by decide +kernel
theorem dX1_nextWord_12 : decode cX1_nextWord 12 = .ok (.getfield 11, 3) := by decide +kernel
theorem dX1_nextWord_15 : decode cX1_nextWord 15 = .ok (.aload_n 0, 1) := by decide +kernel
theorem dX1_nextWord_16 : decode cX1_nextWord 16 = .ok (.getfield 25, 3) := by decide +kernel
theorem dX1_nextWord_19 : decode cX1_nextWord 19 = .ok (.iaload, 1) := by decide +kernel
theorem dX1_nextWord_20 : decode cX1_nextWord 20 = .ok (.invokestatic 50, 3) := by decide +kernel
theorem dX1_nextWord_23 : decode cX1_nextWord 23 = .ok (.ifCond .eq 16, 3) := by decide +kernel
theorem dX1_nextWord_26 : decode cX1_nextWord 26 = .ok (.aload_n 0, 1) := by decide +kernel
theorem dX1_nextWord_27 : decode cX1_nextWord 27 = .ok (.dup, 1) := by decide +kernel
theorem dX1_nextWord_28 : decode cX1_nextWord 28 = .ok (.getfield 25, 3) := by decide +kernel
theorem dX1_nextWord_31 : decode cX1_nextWord 31 = .ok (.iconst 1, 1) := by decide +kernel
theorem dX1_nextWord_32 : decode cX1_nextWord 32 = .ok (.iadd, 1) := by decide +kernel
theorem dX1_nextWord_33 : decode cX1_nextWord 33 = .ok (.putfield 25, 3) := by decide +kernel
theorem dX1_nextWord_36 : decode cX1_nextWord 36 = .ok (.goto (-36), 3) := by decide +kernel
theorem dX1_nextWord_39 : decode cX1_nextWord 39 = .ok (.aload_n 0, 1) := by decide +kernel
theorem dX1_nextWord_40 : decode cX1_nextWord 40 = .ok (.iconst 1, 1) := by decide +kernel
theorem dX1_nextWord_41 : decode cX1_nextWord 41 = .ok (.putfield 47, 3) := by decide +kernel
theorem dX1_nextWord_44 : decode cX1_nextWord 44 = .ok (.iconst 0, 1) := by decide +kernel
theorem dX1_nextWord_45 : decode cX1_nextWord 45 = .ok (.istore_n 1, 1) := by decide +kernel
theorem dX1_nextWord_46 : decode cX1_nextWord 46 = .ok (.iload_n 1, 1) := by decide +kernel
theorem dX1_nextWord_47 : decode cX1_nextWord 47 = .ok (.bipush 12, 2) := by decide +kernel
theorem dX1_nextWord_49 : decode cX1_nextWord 49 = .ok (.if_icmp .ge 98, 3) := by decide +kernel
theorem dX1_nextWord_52 : decode cX1_nextWord 52 = .ok (.iload_n 1, 1) := by decide +kernel
theorem dX1_nextWord_53 : decode cX1_nextWord 53 = .ok (.invokestatic 66, 3) := by decide +kernel
theorem dX1_nextWord_56 : decode cX1_nextWord 56 = .ok (.astore_n 2, 1) := by decide +kernel
theorem dX1_nextWord_57 : decode cX1_nextWord 57 = .ok (.aload_n 2, 1) := by decide +kernel
theorem dX1_nextWord_58 : decode cX1_nextWord 58 = .ok (.invokevirtual 70, 3) := by decide +kernel
theorem dX1_nextWord_61 : decode cX1_nextWord 61 = .ok (.aload_n 0, 1) := by decide +kernel
theorem dX1_nextWord_62 : decode cX1_nextWord 62 = .ok (.getfield 25, 3) := by decide +kernel
theorem dX1_nextWord_65 : decode cX1_nextWord 65 = .ok (.aload_n 0, 1) := by decide +kernel
theorem dX1_nextWord_66 : decode cX1_nextWord 66 = .ok (.getfield 44, 3) := by decide +kernel
theorem dX1_nextWord_69 : decode cX1_nextWord 69 = .ok (.isub, 1) := by decide +kernel
theorem dX1_nextWord_70 : decode cX1_nextWord 70 = .ok (.if_icmp .ne 7, 3) := by decide +kernel
theorem dX1_nextWord_73 : decode cX1_nextWord 73 = .ok (.iconst 1, 1) := by decide +kernel
theorem dX1_nextWord_74 : decode cX1_nextWord 74 = .ok (.goto 4, 3) := by decide +kernel
theorem dX1_nextWord_77 : decode cX1_nextWord 77 = .ok (.iconst 0, 1) := by decide +kernel
theorem dX1_nextWord_78 : decode cX1_nextWord 78 = .ok (.istore_n 3, 1) := by decide +kernel
theorem dX1_nextWord_79 : decode cX1_nextWord 79 = .ok (.iconst 0, 1) := by decide +kernel
theorem dX1_nextWord_80 : decode cX1_nextWord 80 = .ok (.istore 4, 2) := by decide +kernel
theorem dX1_nextWord_82 : decode cX1_nextWord 82 = .ok (.iload 4, 2) := by decide +kernel
theorem dX1_nextWord_84 : decode cX1_nextWord 84 = .ok (.aload_n 2, 1) := by decide +kernel
theorem dX1_nextWord_85 : decode cX1_nextWord 85 = .ok (.invokevirtual 70, 3) := by decide +kernel
theorem dX1_nextWord_88 : decode cX1_nextWord 88 = .ok (.if_icmp .ge 40, 3) := by decide +kernel
theorem dX1_nextWord_91 : decode cX1_nextWord 91 = .ok (.iload_n 3, 1) := by decide +kernel
theorem dX1_nextWord_92 : decode cX1_nextWord 92 = .ok (.ifCond .eq 36, 3) := by decide +kernel
theorem dX1_nextWord_95 : decode cX1_nextWord 95 = .ok (.aload_n 0, 1) := by decide +kernel
theorem dX1_nextWord_96 : decode cX1_nextWord 96 = .ok (.getfield 11, 3) := by decide +kernel
theorem dX1_nextWord_99 : decode cX1_nextWord 99 = .ok (.aload_n 0, 1) := by decide +kernel
theorem dX1_nextWord_100 : decode cX1_nextWord 100 = .ok (.getfield 44, 3) := by decide +kernel
theorem dX1_nextWord_103 : decode cX1_nextWord 103 = .ok (.iload 4, 2) := by decide +kernel
theorem dX1_nextWord_105 : decode cX1_nextWord 105 = .ok (.iadd, 1) := by decide +kernel
theorem dX1_nextWord_106 : decode cX1_nextWord 106 = .ok (.iaload, 1) := by decide +kernel
theorem dX1_nextWord_107 : decode cX1_nextWord 107 = .ok (.aload_n 2, 1) := by decide +kernel
theorem dX1_nextWord_108 : decode cX1_nextWord 108 = .ok (.iload 4, 2) := by decide +kernel
theorem dX1_nextWord_110 : decode cX1_nextWord 110 = .ok (.invokevirtual 76, 3) := by decide +kernel
theorem dX1_nextWord_113 : decode cX1_nextWord 113 = .ok (.if_icmp .ne 7, 3) := by decide +kernel
theorem dX1_nextWord_116 : decode cX1_nextWord 116 = .ok (.iconst 1, 1) := by decide +kernel
theorem dX1_nextWord_117 : decode cX1_nextWord 117 = .ok (.goto 4, 3) := by decide +kernel
theorem dX1_nextWord_120 : decode cX1_nextWord 120 = .ok (.iconst 0, 1) := by decide +kernel
theorem dX1_nextWord_121 : decode cX1_nextWord 121 = .ok (.istore_n 3, 1) := by decide +kernel
theorem dX1_nextWord_122 : decode cX1_nextWord 122 = .ok (.iinc 4 1, 3) := by decide +kernel
theorem dX1_nextWord_125 : decode cX1_nextWord 125 = .ok (.goto (-43), 3) := by decide +kernel
theorem dX1_nextWord_128 : decode cX1_nextWord 128 = .ok (.iload_n 3, 1) := by decide +kernel
theorem dX1_nextWord_129 : decode cX1_nextWord 129 = .ok (.ifCond .eq 12, 3) := by decide +kernel
theorem dX1_nextWord_132 : decode cX1_nextWord 132 = .ok (.aload_n 0, 1) := by decide +kernel
theorem dX1_nextWord_133 : decode cX1_nextWord 133 = .ok (.sipush 256, 3) := by decide +kernel
theorem dX1_nextWord_136 : decode cX1_nextWord 136 = .ok (.iload_n 1, 1) := by decide +kernel
theorem dX1_nextWord_137 : decode cX1_nextWord 137 = .ok (.iadd, 1) := by decide +kernel
theorem dX1_nextWord_138 : decode cX1_nextWord 138 = .ok (.putfield 47, 3) := by decide +kernel
theorem dX1_nextWord_141 : decode cX1_nextWord 141 = .ok (.iinc 1 1, 3) := by decide +kernel
theorem dX1_nextWord_144 : decode cX1_nextWord 144 = .ok (.goto (-98), 3) := by decide +kernel
theorem dX1_nextWord_147 : decode cX1_nextWord 147 = .ok (.return_, 1) := by decide +kernel
theorem dX1_nextNumber_0 : decode cX1_nextNumber 0 = .ok (.aload_n 0, 1) := by decide +kernel
theorem dX1_nextNumber_1 : decode cX1_nextNumber 1 = .ok (.iconst 0, 1) := by decide +kernel
theorem dX1_nextNumber_2 : decode cX1_nextNumber 2 = .ok (.putfield 80, 3) := by decide +kernel
theorem dX1_nextNumber_5 : decode cX1_nextNumber 5 = .ok (.aload_n 0, 1) := by decide +kernel
theorem dX1_nextNumber_6 : decode cX1_nextNumber 6 = .ok (.getfield 25, 3) := by decide +kernel
theorem dX1_nextNumber_9 : decode cX1_nextNumber 9 = .ok (.aload_n 0, 1) := by decide +kernel
theorem dX1_nextNumber_10 : decode cX1_nextNumber 10 = .ok (.getfield 18, 3) := by decide +kernel
theorem dX1_nextNumber_13 : decode cX1_nextNumber 13 = .ok (.if_icmp .ge 55, 3) := by decide +kernel
theorem dX1_nextNumber_16 : decode cX1_nextNumber 16 = .ok (.aload_n 0, 1) := by decide +kernel
theorem dX1_nextNumber_17 : decode cX1_nextNumber 17 = .ok (.getfield 11, 3) := by decide +kernel
theorem dX1_nextNumber_20 : decode cX1_nextNumber 20 = .ok (.aload_n 0, 1) := by decide +kernel
theorem dX1_nextNumber_21 : decode cX1_nextNumber 21 = .ok (.getfield 25, 3) := by decide +kernel
theorem dX1_nextNumber_24 : decode cX1_nextNumber 24 = .ok (.iaload, 1) := by decide +kernel
theorem dX1_nextNumber_25 : decode cX1_nextNumber 25 = .ok (.invokestatic 57, 3) := by decide +kernel
theorem dX1_nextNumber_28 : decode cX1_nextNumber 28 = .ok (.ifCond .eq 40, 3) := by decide +kernel
theorem dX1_nextNumber_31 : decode cX1_nextNumber 31 = .ok (.aload_n 0, 1) := by decide +kernel
theorem dX1_nextNumber_32 : decode cX1_nextNumber 32 = .ok (.aload_n 0, 1) := by decide +kernel
theorem dX1_nextNumber_33 : decode cX1_nextNumber 33 = .ok (.getfield 80, 3) := by decide +kernel
theorem dX1_nextNumber_36 : decode cX1_nextNumber 36 = .ok (.bipush 10, 2) := by decide +kernel
theorem dX1_nextNumber_38 : decode cX1_nextNumber 38 = .ok (.imul, 1) := by decide +kernel
theorem dX1_nextNumber_39 : decode cX1_nextNumber 39 = .ok (.aload_n 0, 1) := by decide +kernel
theorem dX1_nextNumber_40 : decode cX1_nextNumber 40 = .ok (.getfield 11, 3) := by decide +kernel
theorem dX1_nextNumber_43 : decode cX1_nextNumber 43 = .ok (.aload_n 0, 1) := by decide +kernel
theorem dX1_nextNumber_44 : decode cX1_nextNumber 44 = .ok (.getfield 25, 3) := by decide +kernel
theorem dX1_nextNumber_47 : decode cX1_nextNumber 47 = .ok (.iaload, 1) := by decide +kernel
theorem dX1_nextNumber_48 : decode cX1_nextNumber 48 = .ok (.iadd, 1) := by decide +kernel
theorem dX1_nextNumber_49 : decode cX1_nextNumber 49 = .ok (.bipush 48, 2) := by decide +kernel
theorem dX1_nextNumber_51 : decode cX1_nextNumber 51 = .ok (.isub, 1) := by decide +kernel
theorem dX1_nextNumber_52 : decode cX1_nextNumber 52 = .ok (.putfield 80, 3) := by decide +kernel
theorem dX1_nextNumber_55 : decode cX1_nextNumber 55 = .ok (.aload_n 0, 1) := by decide +kernel
theorem dX1_nextNumber_56 : decode cX1_nextNumber 56 = .ok (.dup, 1) := by decide +kernel
theorem dX1_nextNumber_57 : decode cX1_nextNumber 57 = .ok (.getfield 25, 3) := by decide +kernel
theorem dX1_nextNumber_60 : decode cX1_nextNumber 60 = .ok (.iconst 1, 1) := by decide +kernel
theorem dX1_nextNumber_61 : decode cX1_nextNumber 61 = .ok (.iadd, 1) := by decide +kernel
theorem dX1_nextNumber_62 : decode cX1_nextNumber 62 = .ok (.putfield 25, 3) := by decide +kernel
theorem dX1_nextNumber_65 : decode cX1_nextNumber 65 = .ok (.goto (-60), 3) := by decide +kernel
theorem dX1_nextNumber_68 : decode cX1_nextNumber 68 = .ok (.aload_n 0, 1) := by decide +kernel
theorem dX1_nextNumber_69 : decode cX1_nextNumber 69 = .ok (.aload_n 0, 1) := by decide +kernel
theorem dX1_nextNumber_70 : decode cX1_nextNumber 70 = .ok (.getfield 25, 3) := by decide +kernel
theorem dX1_nextNumber_73 : decode cX1_nextNumber 73 = .ok (.aload_n 0, 1) := by decide +kernel
theorem dX1_nextNumber_74 : decode cX1_nextNumber 74 = .ok (.getfield 44, 3) := by decide +kernel
theorem dX1_nextNumber_77 : decode cX1_nextNumber 77 = .ok (.isub, 1) := by decide +kernel
theorem dX1_nextNumber_78 : decode cX1_nextNumber 78 = .ok (.iconst 4, 1) := by decide +kernel
theorem dX1_nextNumber_79 : decode cX1_nextNumber 79 = .ok (.if_icmp .gt 7, 3) := by decide +kernel
theorem dX1_nextNumber_82 : decode cX1_nextNumber 82 = .ok (.iconst 2, 1) := by decide +kernel
theorem dX1_nextNumber_83 : decode cX1_nextNumber 83 = .ok (.goto 4, 3) := by decide +kernel
theorem dX1_nextNumber_86 : decode cX1_nextNumber 86 = .ok (.iconst 1, 1) := by decide +kernel
theorem dX1_nextNumber_87 : decode cX1_nextNumber 87 = .ok (.putfield 47, 3) := by decide +kernel
theorem dX1_nextNumber_90 : decode cX1_nextNumber 90 = .ok (.return_, 1) := by decide +kernel
theorem dX1_isLetter_0 : decode cX1_isLetter 0 = .ok (.iload_n 0, 1) := by decide +kernel
theorem dX1_isLetter_1 : decode cX1_isLetter 1 = .ok (.bipush 97, 2) := by decide +kernel
theorem dX1_isLetter_3 : decode cX1_isLetter 3 = .ok (.if_icmp .lt 13, 3) := by decide +kernel
theorem dX1_isLetter_6 : decode cX1_isLetter 6 = .ok (.iload_n 0, 1) := by decide +kernel
theorem dX1_isLetter_7 : decode cX1_isLetter 7 = .ok (.bipush 122, 2) := by decide +kernel
theorem dX1_isLetter_9 : decode cX1_isLetter 9 = .ok (.if_icmp .gt 7, 3) := by decide +kernel
theorem dX1_isLetter_12 : decode cX1_isLetter 12 = .ok (.iconst 1, 1) := by decide +kernel
theorem dX1_isLetter_13 : decode cX1_isLetter 13 = .ok (.goto 4, 3) := by decide +kernel
theorem dX1_isLetter_16 : decode cX1_isLetter 16 = .ok (.iconst 0, 1) := by decide +kernel
theorem dX1_isLetter_17 : decode cX1_isLetter 17 = .ok (.ireturn, 1) := by decide +kernel
theorem dX1_isDigit_0 : decode cX1_isDigit 0 = .ok (.iload_n 0, 1) := by decide +kernel
theorem dX1_isDigit_1 : decode cX1_isDigit 1 = .ok (.bipush 48, 2) := by decide +kernel
theorem dX1_isDigit_3 : decode cX1_isDigit 3 = .ok (.if_icmp .lt 13, 3) := by decide +kernel
theorem dX1_isDigit_6 : decode cX1_isDigit 6 = .ok (.iload_n 0, 1) := by decide +kernel
theorem dX1_isDigit_7 : decode cX1_isDigit 7 = .ok (.bipush 57, 2) := by decide +kernel
theorem dX1_isDigit_9 : decode cX1_isDigit 9 = .ok (.if_icmp .gt 7, 3) := by decide +kernel
theorem dX1_isDigit_12 : decode cX1_isDigit 12 = .ok (.iconst 1, 1) := by decide +kernel
theorem dX1_isDigit_13 : decode cX1_isDigit 13 = .ok (.goto 4, 3) := by decide +kernel
theorem dX1_isDigit_16 : decode cX1_isDigit 16 = .ok (.iconst 0, 1) := by decide +kernel
theorem dX1_isDigit_17 : decode cX1_isDigit 17 = .ok (.ireturn, 1) := by decide +kernel
theorem dX1_isSign_0 : decode cX1_isSign 0 = .ok (.iload_n 0, 1) := by decide +kernel
theorem dX1_isSign_1 : decode cX1_isSign 1 = .ok (.bipush 40, 2) := by decide +kernel
theorem dX1_isSign_3 : decode cX1_isSign 3 = .ok (.if_icmp .eq 45, 3) := by decide +kernel
theorem dX1_isSign_6 : decode cX1_isSign 6 = .ok (.iload_n 0, 1) := by decide +kernel
theorem dX1_isSign_7 : decode cX1_isSign 7 = .ok (.bipush 41, 2) := by decide +kernel
theorem dX1_isSign_9 : decode cX1_isSign 9 = .ok (.if_icmp .eq 39, 3) := by decide +kernel
theorem dX1_isSign_12 : decode cX1_isSign 12 = .ok (.iload_n 0, 1) := by decide +kernel
theorem dX1_isSign_13 : decode cX1_isSign 13 = .ok (.bipush 59, 2) := by decide +kernel
theorem dX1_isSign_15 : decode cX1_isSign 15 = .ok (.if_icmp .eq 33, 3) := by decide +kernel
theorem dX1_isSign_18 : decode cX1_isSign 18 = .ok (.iload_n 0, 1) := by decide +kernel
theorem dX1_isSign_19 : decode cX1_isSign 19 = .ok (.bipush 43, 2) := by decide +kernel
theorem dX1_isSign_21 : decode cX1_isSign 21 = .ok (.if_icmp .eq 27, 3) := by decide +kernel
theorem dX1_isSign_24 : decode cX1_isSign 24 = .ok (.iload_n 0, 1) := by decide +kernel
theorem dX1_isSign_25 : decode cX1_isSign 25 = .ok (.bipush 45, 2) := by decide +kernel
theorem dX1_isSign_27 : decode cX1_isSign 27 = .ok (.if_icmp .eq 21, 3) := by decide +kernel
theorem dX1_isSign_30 : decode cX1_isSign 30 = .ok (.iload_n 0, 1) := by decide +kernel
theorem dX1_isSign_31 : decode cX1_isSign 31 = .ok (.bipush 42, 2) := by decide +kernel
theorem dX1_isSign_33 : decode cX1_isSign 33 = .ok (.if_icmp .eq 15, 3) := by decide +kernel
theorem dX1_isSign_36 : decode cX1_isSign 36 = .ok (.iload_n 0, 1) := by decide +kernel
theorem dX1_isSign_37 : decode cX1_isSign 37 = .ok (.bipush 60, 2) := by decide +kernel
theorem dX1_isSign_39 : decode cX1_isSign 39 = .ok (.if_icmp .eq 9, 3) := by decide +kernel
theorem dX1_isSign_42 : decode cX1_isSign 42 = .ok (.iload_n 0, 1) := by decide +kernel
theorem dX1_isSign_43 : decode cX1_isSign 43 = .ok (.bipush 61, 2) := by decide +kernel
theorem dX1_isSign_45 : decode cX1_isSign 45 = .ok (.if_icmp .ne 7, 3) := by decide +kernel
theorem dX1_isSign_48 : decode cX1_isSign 48 = .ok (.iconst 1, 1) := by decide +kernel
theorem dX1_isSign_49 : decode cX1_isSign 49 = .ok (.goto 4, 3) := by decide +kernel
theorem dX1_isSign_52 : decode cX1_isSign 52 = .ok (.iconst 0, 1) := by decide +kernel
theorem dX1_isSign_53 : decode cX1_isSign 53 = .ok (.ireturn, 1) := by decide +kernel
theorem dX1_wordOf_0 : decode cX1_wordOf 0 = .ok (.iload_n 0, 1) := by decide +kernel
theorem dX1_wordOf_1 : decode cX1_wordOf 1 = .ok (.tableswitch 92 0 10 #[59, 62, 65, 68, 71, 74, 77, 80, 83, 86, 89], 59) := by decide +kernel
theorem dX1_wordOf_60 : decode cX1_wordOf 60 = .ok (.ldc 83, 2) := by decide +kernel
theorem dX1_wordOf_62 : decode cX1_wordOf 62 = .ok (.areturn, 1) := by decide +kernel
theorem dX1_wordOf_63 : decode cX1_wordOf 63 = .ok (.ldc 85, 2) := by decide +kernel
theorem dX1_wordOf_65 : decode cX1_wordOf 65 = .ok (.areturn, 1) := by decide +kernel
theorem dX1_wordOf_66 : decode cX1_wordOf 66 = .ok (.ldc 87, 2) := by decide +kernel
theorem dX1_wordOf_68 : decode cX1_wordOf 68 = .ok (.areturn, 1) := by decide +kernel
theorem dX1_wordOf_69 : decode cX1_wordOf 69 = .ok (.ldc 89, 2) := by decide +kernel
theorem dX1_wordOf_71 : decode cX1_wordOf 71 = .ok (.areturn, 1) := by decide +kernel
theorem dX1_wordOf_72 : decode cX1_wordOf 72 = .ok (.ldc 91, 2) := by decide +kernel
theorem dX1_wordOf_74 : decode cX1_wordOf 74 = .ok (.areturn, 1) := by decide +kernel
theorem dX1_wordOf_75 : decode cX1_wordOf 75 = .ok (.ldc 93, 2) := by decide +kernel
theorem dX1_wordOf_77 : decode cX1_wordOf 77 = .ok (.areturn, 1) := by decide +kernel
theorem dX1_wordOf_78 : decode cX1_wordOf 78 = .ok (.ldc 95, 2) := by decide +kernel
theorem dX1_wordOf_80 : decode cX1_wordOf 80 = .ok (.areturn, 1) := by decide +kernel
theorem dX1_wordOf_81 : decode cX1_wordOf 81 = .ok (.ldc 97, 2) := by decide +kernel
theorem dX1_wordOf_83 : decode cX1_wordOf 83 = .ok (.areturn, 1) := by decide +kernel
theorem dX1_wordOf_84 : decode cX1_wordOf 84 = .ok (.ldc 99, 2) := by decide +kernel
theorem dX1_wordOf_86 : decode cX1_wordOf 86 = .ok (.areturn, 1) := by decide +kernel
theorem dX1_wordOf_87 : decode cX1_wordOf 87 = .ok (.ldc 101, 2) := by decide +kernel
theorem dX1_wordOf_89 : decode cX1_wordOf 89 = .ok (.areturn, 1) := by decide +kernel
theorem dX1_wordOf_90 : decode cX1_wordOf 90 = .ok (.ldc 103, 2) := by decide +kernel
theorem dX1_wordOf_92 : decode cX1_wordOf 92 = .ok (.areturn, 1) := by decide +kernel
theorem dX1_wordOf_93 : decode cX1_wordOf 93 = .ok (.ldc 105, 2) := by decide +kernel
theorem dX1_wordOf_95 : decode cX1_wordOf 95 = .ok (.areturn, 1) := by decide +kernel
theorem dX1_fail_0 : decode cX1_fail 0 = .ok (.aload_n 0, 1) := by decide +kernel
theorem dX1_fail_1 : decode cX1_fail 1 = .ok (.getfield 22, 3) := by decide +kernel
theorem dX1_fail_4 : decode cX1_fail 4 = .ok (.iconst (-1), 1) := by decide +kernel
theorem dX1_fail_5 : decode cX1_fail 5 = .ok (.if_icmp .ne 16, 3) := by decide +kernel
theorem dX1_fail_8 : decode cX1_fail 8 = .ok (.aload_n 0, 1) := by decide +kernel
theorem dX1_fail_9 : decode cX1_fail 9 = .ok (.aload_n 0, 1) := by decide +kernel
theorem dX1_fail_10 : decode cX1_fail 10 = .ok (.getfield 44, 3) := by decide +kernel
theorem dX1_fail_13 : decode cX1_fail 13 = .ok (.putfield 22, 3) := by decide +kernel
theorem dX1_fail_16 : decode cX1_fail 16 = .ok (.aload_n 0, 1) := by decide +kernel
theorem dX1_fail_17 : decode cX1_fail 17 = .ok (.iconst 1, 1) := by decide +kernel
theorem dX1_fail_18 : decode cX1_fail 18 = .ok (.putfield 47, 3) := by decide +kernel
theorem dX1_fail_21 : decode cX1_fail 21 = .ok (.return_, 1) := by decide +kernel
theorem dX1_expect_0 : decode cX1_expect 0 = .ok (.aload_n 0, 1) := by decide +kernel
theorem dX1_expect_1 : decode cX1_expect 1 = .ok (.getfield 47, 3) := by decide +kernel
theorem dX1_expect_4 : decode cX1_expect 4 = .ok (.iload_n 1, 1) := by decide +kernel
theorem dX1_expect_5 : decode cX1_expect 5 = .ok (.if_icmp .ne 10, 3) := by decide +kernel
theorem dX1_expect_8 : decode cX1_expect 8 = .ok (.aload_n 0, 1) := by decide +kernel
theorem dX1_expect_9 : decode cX1_expect 9 = .ok (.invokevirtual 28, 3) := by decide +kernel
theorem dX1_expect_12 : decode cX1_expect 12 = .ok (.goto 7, 3) := by decide +kernel
theorem dX1_expect_15 : decode cX1_expect 15 = .ok (.aload_n 0, 1) := by decide +kernel
theorem dX1_expect_16 : decode cX1_expect 16 = .ok (.invokevirtual 107, 3) := by decide +kernel
theorem dX1_expect_19 : decode cX1_expect 19 = .ok (.return_, 1) := by decide +kernel
theorem dX1_emit_0 : decode cX1_emit 0 = .ok (.aload_n 0, 1) := by decide +kernel
theorem dX1_emit_1 : decode cX1_emit 1 = .ok (.getfield 110, 3) := by decide +kernel
theorem dX1_emit_4 : decode cX1_emit 4 = .ok (.sipush 160, 3) := by decide +kernel
theorem dX1_emit_7 : decode cX1_emit 7 = .ok (.if_icmp .ge 23, 3) := by decide +kernel
theorem dX1_emit_10 : decode cX1_emit 10 = .ok (.aload_n 0, 1) := by decide +kernel
theorem dX1_emit_11 : decode cX1_emit 11 = .ok (.getfield 15, 3) := by decide +kernel
theorem dX1_emit_14 : decode cX1_emit 14 = .ok (.aload_n 0, 1) := by decide +kernel
theorem dX1_emit_15 : decode cX1_emit 15 = .ok (.getfield 110, 3) := by decide +kernel
theorem dX1_emit_18 : decode cX1_emit 18 = .ok (.iload_n 1, 1) := by decide +kernel
theorem dX1_emit_19 : decode cX1_emit 19 = .ok (.iastore, 1) := by decide +kernel
theorem dX1_emit_20 : decode cX1_emit 20 = .ok (.aload_n 0, 1) := by decide +kernel
theorem dX1_emit_21 : decode cX1_emit 21 = .ok (.dup, 1) := by decide +kernel
theorem dX1_emit_22 : decode cX1_emit 22 = .ok (.getfield 110, 3) := by decide +kernel
theorem dX1_emit_25 : decode cX1_emit 25 = .ok (.iconst 1, 1) := by decide +kernel
theorem dX1_emit_26 : decode cX1_emit 26 = .ok (.iadd, 1) := by decide +kernel
theorem dX1_emit_27 : decode cX1_emit 27 = .ok (.putfield 110, 3) := by decide +kernel
theorem dX1_emit_30 : decode cX1_emit 30 = .ok (.return_, 1) := by decide +kernel
theorem dX1_readPart_0 : decode cX1_readPart 0 = .ok (.aload_n 0, 1) := by decide +kernel
theorem dX1_readPart_1 : decode cX1_readPart 1 = .ok (.iconst 0, 1) := by decide +kernel
theorem dX1_readPart_2 : decode cX1_readPart 2 = .ok (.putfield 110, 3) := by decide +kernel
theorem dX1_readPart_5 : decode cX1_readPart 5 = .ok (.aload_n 0, 1) := by decide +kernel
theorem dX1_readPart_6 : decode cX1_readPart 6 = .ok (.sipush 256, 3) := by decide +kernel
theorem dX1_readPart_9 : decode cX1_readPart 9 = .ok (.iload_n 1, 1) := by decide +kernel
theorem dX1_readPart_10 : decode cX1_readPart 10 = .ok (.iadd, 1) := by decide +kernel
theorem dX1_readPart_11 : decode cX1_readPart 11 = .ok (.invokevirtual 35, 3) := by decide +kernel
theorem dX1_readPart_14 : decode cX1_readPart 14 = .ok (.aload_n 0, 1) := by decide +kernel
theorem dX1_readPart_15 : decode cX1_readPart 15 = .ok (.iconst 0, 1) := by decide +kernel
theorem dX1_readPart_16 : decode cX1_readPart 16 = .ok (.invokevirtual 112, 3) := by decide +kernel
theorem dX1_readPart_19 : decode cX1_readPart 19 = .ok (.aload_n 0, 1) := by decide +kernel
theorem dX1_readPart_20 : decode cX1_readPart 20 = .ok (.bipush 59, 2) := by decide +kernel
theorem dX1_readPart_22 : decode cX1_readPart 22 = .ok (.invokevirtual 35, 3) := by decide +kernel
theorem dX1_readPart_25 : decode cX1_readPart 25 = .ok (.aload_n 0, 1) := by decide +kernel
theorem dX1_readPart_26 : decode cX1_readPart 26 = .ok (.getfield 110, 3) := by decide +kernel
theorem dX1_readPart_29 : decode cX1_readPart 29 = .ok (.newarray .int, 2) := by decide +kernel
theorem dX1_readPart_31 : decode cX1_readPart 31 = .ok (.astore_n 2, 1) := by decide +kernel
theorem dX1_readPart_32 : decode cX1_readPart 32 = .ok (.aload_n 0, 1) := by decide +kernel
theorem dX1_readPart_33 : decode cX1_readPart 33 = .ok (.getfield 15, 3) := by decide +kernel
theorem dX1_readPart_36 : decode cX1_readPart 36 = .ok (.iconst 0, 1) := by decide +kernel
theorem dX1_readPart_37 : decode cX1_readPart 37 = .ok (.aload_n 2, 1) := by decide +kernel
theorem dX1_readPart_38 : decode cX1_readPart 38 = .ok (.iconst 0, 1) := by decide +kernel
theorem dX1_readPart_39 : decode cX1_readPart 39 = .ok (.aload_n 0, 1) := by decide +kernel
theorem dX1_readPart_40 : decode cX1_readPart 40 = .ok (.getfield 110, 3) := by decide +kernel
theorem dX1_readPart_43 : decode cX1_readPart 43 = .ok (.invokestatic 115, 3) := by decide +kernel
theorem dX1_readPart_46 : decode cX1_readPart 46 = .ok (.aload_n 2, 1) := by decide +kernel
theorem dX1_readPart_47 : decode cX1_readPart 47 = .ok (.areturn, 1) := by decide +kernel
theorem dX1_readEither_0 : decode cX1_readEither 0 = .ok (.aload_n 0, 1) := by decide +kernel
theorem dX1_readEither_1 : decode cX1_readEither 1 = .ok (.iload_n 1, 1) := by decide +kernel
theorem dX1_readEither_2 : decode cX1_readEither 2 = .ok (.invokevirtual 121, 3) := by decide +kernel
theorem dX1_readEither_5 : decode cX1_readEither 5 = .ok (.iconst 0, 1) := by decide +kernel
theorem dX1_readEither_6 : decode cX1_readEither 6 = .ok (.istore_n 2, 1) := by decide +kernel
theorem dX1_readEither_7 : decode cX1_readEither 7 = .ok (.iload_n 2, 1) := by decide +kernel
theorem dX1_readEither_8 : decode cX1_readEither 8 = .ok (.sipush 160, 3) := by decide +kernel
theorem dX1_readEither_11 : decode cX1_readEither 11 = .ok (.if_icmp .ge 34, 3) := by decide +kernel
theorem dX1_readEither_14 : decode cX1_readEither 14 = .ok (.aload_n 0, 1) := by decide +kernel
theorem dX1_readEither_15 : decode cX1_readEither 15 = .ok (.getfield 47, 3) := by decide +kernel
theorem dX1_readEither_18 : decode cX1_readEither 18 = .ok (.sipush 259, 3) := by decide +kernel
theorem dX1_readEither_21 : decode cX1_readEither 21 = .ok (.if_icmp .ne 24, 3) := by decide +kernel
theorem dX1_readEither_24 : decode cX1_readEither 24 = .ok (.aload_n 0, 1) := by decide +kernel
theorem dX1_readEither_25 : decode cX1_readEither 25 = .ok (.invokevirtual 28, 3) := by decide +kernel
theorem dX1_readEither_28 : decode cX1_readEither 28 = .ok (.aload_n 0, 1) := by decide +kernel
theorem dX1_readEither_29 : decode cX1_readEither 29 = .ok (.iload_n 1, 1) := by decide +kernel
theorem dX1_readEither_30 : decode cX1_readEither 30 = .ok (.invokevirtual 121, 3) := by decide +kernel
theorem dX1_readEither_33 : decode cX1_readEither 33 = .ok (.aload_n 0, 1) := by decide +kernel
theorem dX1_readEither_34 : decode cX1_readEither 34 = .ok (.bipush (-9), 2) := by decide +kernel
theorem dX1_readEither_36 : decode cX1_readEither 36 = .ok (.invokevirtual 124, 3) := by decide +kernel
theorem dX1_readEither_39 : decode cX1_readEither 39 = .ok (.iinc 2 1, 3) := by decide +kernel
theorem dX1_readEither_42 : decode cX1_readEither 42 = .ok (.goto (-35), 3) := by decide +kernel
theorem dX1_readEither_45 : decode cX1_readEither 45 = .ok (.return_, 1) := by decide +kernel
theorem dX1_readBoth_0 : decode cX1_readBoth 0 = .ok (.aload_n 0, 1) := by decide +kernel
theorem dX1_readBoth_1 : decode cX1_readBoth 1 = .ok (.iload_n 1, 1) := by decide +kernel
theorem dX1_readBoth_2 : decode cX1_readBoth 2 = .ok (.invokevirtual 127, 3) := by decide +kernel
theorem dX1_readBoth_5 : decode cX1_readBoth 5 = .ok (.iconst 0, 1) := by decide +kernel
theorem dX1_readBoth_6 : decode cX1_readBoth 6 = .ok (.istore_n 2, 1) := by decide +kernel
theorem dX1_readBoth_7 : decode cX1_readBoth 7 = .ok (.iload_n 2, 1) := by decide +kernel
theorem dX1_readBoth_8 : decode cX1_readBoth 8 = .ok (.sipush 160, 3) := by decide +kernel
theorem dX1_readBoth_11 : decode cX1_readBoth 11 = .ok (.if_icmp .ge 34, 3) := by decide +kernel
theorem dX1_readBoth_14 : decode cX1_readBoth 14 = .ok (.aload_n 0, 1) := by decide +kernel
theorem dX1_readBoth_15 : decode cX1_readBoth 15 = .ok (.getfield 47, 3) := by decide +kernel
theorem dX1_readBoth_18 : decode cX1_readBoth 18 = .ok (.sipush 260, 3) := by decide +kernel
theorem dX1_readBoth_21 : decode cX1_readBoth 21 = .ok (.if_icmp .ne 24, 3) := by decide +kernel
theorem dX1_readBoth_24 : decode cX1_readBoth 24 = .ok (.aload_n 0, 1) := by decide +kernel
theorem dX1_readBoth_25 : decode cX1_readBoth 25 = .ok (.invokevirtual 28, 3) := by decide +kernel
theorem dX1_readBoth_28 : decode cX1_readBoth 28 = .ok (.aload_n 0, 1) := by decide +kernel
theorem dX1_readBoth_29 : decode cX1_readBoth 29 = .ok (.iload_n 1, 1) := by decide +kernel
theorem dX1_readBoth_30 : decode cX1_readBoth 30 = .ok (.invokevirtual 127, 3) := by decide +kernel
theorem dX1_readBoth_33 : decode cX1_readBoth 33 = .ok (.aload_n 0, 1) := by decide +kernel
theorem dX1_readBoth_34 : decode cX1_readBoth 34 = .ok (.bipush (-10), 2) := by decide +kernel
theorem dX1_readBoth_36 : decode cX1_readBoth 36 = .ok (.invokevirtual 124, 3) := by decide +kernel
theorem dX1_readBoth_39 : decode cX1_readBoth 39 = .ok (.iinc 2 1, 3) := by decide +kernel
theorem dX1_readBoth_42 : decode cX1_readBoth 42 = .ok (.goto (-35), 3) := by decide +kernel
theorem dX1_readBoth_45 : decode cX1_readBoth 45 = .ok (.return_, 1) := by decide +kernel
theorem dX1_readNot_0 : decode cX1_readNot 0 = .ok (.aload_n 0, 1) := by decide +kernel
theorem dX1_readNot_1 : decode cX1_readNot 1 = .ok (.getfield 47, 3) := by decide +kernel
theorem dX1_readNot_4 : decode cX1_readNot 4 = .ok (.sipush 261, 3) := by decide +kernel
theorem dX1_readNot_7 : decode cX1_readNot 7 = .ok (.if_icmp .ne 26, 3) := by decide +kernel
theorem dX1_readNot_10 : decode cX1_readNot 10 = .ok (.iload_n 1, 1) := by decide +kernel
theorem dX1_readNot_11 : decode cX1_readNot 11 = .ok (.iconst 5, 1) := by decide +kernel
theorem dX1_readNot_12 : decode cX1_readNot 12 = .ok (.if_icmp .ge 21, 3) := by decide +kernel
theorem dX1_readNot_15 : decode cX1_readNot 15 = .ok (.aload_n 0, 1) := by decide +kernel
theorem dX1_readNot_16 : decode cX1_readNot 16 = .ok (.invokevirtual 28, 3) := by decide +kernel
theorem dX1_readNot_19 : decode cX1_readNot 19 = .ok (.aload_n 0, 1) := by decide +kernel
theorem dX1_readNot_20 : decode cX1_readNot 20 = .ok (.iload_n 1, 1) := by decide +kernel
theorem dX1_readNot_21 : decode cX1_readNot 21 = .ok (.iconst 1, 1) := by decide +kernel
theorem dX1_readNot_22 : decode cX1_readNot 22 = .ok (.iadd, 1) := by decide +kernel
theorem dX1_readNot_23 : decode cX1_readNot 23 = .ok (.invokevirtual 127, 3) := by decide +kernel
theorem dX1_readNot_26 : decode cX1_readNot 26 = .ok (.aload_n 0, 1) := by decide +kernel
theorem dX1_readNot_27 : decode cX1_readNot 27 = .ok (.bipush (-7), 2) := by decide +kernel
theorem dX1_readNot_29 : decode cX1_readNot 29 = .ok (.invokevirtual 124, 3) := by decide +kernel
theorem dX1_readNot_32 : decode cX1_readNot 32 = .ok (.return_, 1) := by decide +kernel
theorem dX1_readNot_33 : decode cX1_readNot 33 = .ok (.aload_n 0, 1) := by decide +kernel
theorem dX1_readNot_34 : decode cX1_readNot 34 = .ok (.iload_n 1, 1) := by decide +kernel
theorem dX1_readNot_35 : decode cX1_readNot 35 = .ok (.invokevirtual 130, 3) := by decide +kernel
theorem dX1_readNot_38 : decode cX1_readNot 38 = .ok (.aload_n 0, 1) := by decide +kernel
theorem dX1_readNot_39 : decode cX1_readNot 39 = .ok (.getfield 47, 3) := by decide +kernel
theorem dX1_readNot_42 : decode cX1_readNot 42 = .ok (.bipush 60, 2) := by decide +kernel
theorem dX1_readNot_44 : decode cX1_readNot 44 = .ok (.if_icmp .eq 12, 3) := by decide +kernel
theorem dX1_readNot_47 : decode cX1_readNot 47 = .ok (.aload_n 0, 1) := by decide +kernel
theorem dX1_readNot_48 : decode cX1_readNot 48 = .ok (.getfield 47, 3) := by decide +kernel
theorem dX1_readNot_51 : decode cX1_readNot 51 = .ok (.bipush 61, 2) := by decide +kernel
theorem dX1_readNot_53 : decode cX1_readNot 53 = .ok (.if_icmp .ne 34, 3) := by decide +kernel
theorem dX1_readNot_56 : decode cX1_readNot 56 = .ok (.aload_n 0, 1) := by decide +kernel
theorem dX1_readNot_57 : decode cX1_readNot 57 = .ok (.getfield 47, 3) := by decide +kernel
theorem dX1_readNot_60 : decode cX1_readNot 60 = .ok (.bipush 60, 2) := by decide +kernel
theorem dX1_readNot_62 : decode cX1_readNot 62 = .ok (.if_icmp .ne 8, 3) := by decide +kernel
theorem dX1_readNot_65 : decode cX1_readNot 65 = .ok (.bipush (-11), 2) := by decide +kernel
theorem dX1_readNot_67 : decode cX1_readNot 67 = .ok (.goto 5, 3) := by decide +kernel
theorem dX1_readNot_70 : decode cX1_readNot 70 = .ok (.bipush (-12), 2) := by decide +kernel
theorem dX1_readNot_72 : decode cX1_readNot 72 = .ok (.istore_n 2, 1) := by decide +kernel
theorem dX1_readNot_73 : decode cX1_readNot 73 = .ok (.aload_n 0, 1) := by decide +kernel
theorem dX1_readNot_74 : decode cX1_readNot 74 = .ok (.invokevirtual 28, 3) := by decide +kernel
theorem dX1_readNot_77 : decode cX1_readNot 77 = .ok (.aload_n 0, 1) := by decide +kernel
theorem dX1_readNot_78 : decode cX1_readNot 78 = .ok (.iload_n 1, 1) := by decide +kernel
theorem dX1_readNot_79 : decode cX1_readNot 79 = .ok (.invokevirtual 130, 3) := by decide +kernel
theorem dX1_readNot_82 : decode cX1_readNot 82 = .ok (.aload_n 0, 1) := by decide +kernel
theorem dX1_readNot_83 : decode cX1_readNot 83 = .ok (.iload_n 2, 1) := by decide +kernel
theorem dX1_readNot_84 : decode cX1_readNot 84 = .ok (.invokevirtual 124, 3) := by decide +kernel
theorem dX1_readNot_87 : decode cX1_readNot 87 = .ok (.return_, 1) := by decide +kernel
end
section
theorem dX1_readSum_0 : decode cX1_readSum 0 = .ok (.aload_n 0, 1) := by decide +kernel
theorem dX1_readSum_1 : decode cX1_readSum 1 = .ok (.iload_n 1, 1) := by decide +kernel
theorem dX1_readSum_2 : decode cX1_readSum 2 = .ok (.invokevirtual 133, 3) := by decide +kernel
theorem dX1_readSum_5 : decode cX1_readSum 5 = .ok (.iconst 0, 1) := by decide +kernel
theorem dX1_readSum_6 : decode cX1_readSum 6 = .ok (.istore_n 2, 1) := by decide +kernel
theorem dX1_readSum_7 : decode cX1_readSum 7 = .ok (.iload_n 2, 1) := by decide +kernel
theorem dX1_readSum_8 : decode cX1_readSum 8 = .ok (.sipush 160, 3) := by decide +kernel
theorem dX1_readSum_11 : decode cX1_readSum 11 = .ok (.if_icmp .ge 58, 3) := by decide +kernel
theorem dX1_readSum_14 : decode cX1_readSum 14 = .ok (.aload_n 0, 1) := by decide +kernel
theorem dX1_readSum_15 : decode cX1_readSum 15 = .ok (.getfield 47, 3) := by decide +kernel
theorem dX1_readSum_18 : decode cX1_readSum 18 = .ok (.bipush 43, 2) := by decide +kernel
theorem dX1_readSum_20 : decode cX1_readSum 20 = .ok (.if_icmp .eq 12, 3) := by decide +kernel
theorem dX1_readSum_23 : decode cX1_readSum 23 = .ok (.aload_n 0, 1) := by decide +kernel
theorem dX1_readSum_24 : decode cX1_readSum 24 = .ok (.getfield 47, 3) := by decide +kernel
theorem dX1_readSum_27 : decode cX1_readSum 27 = .ok (.bipush 45, 2) := by decide +kernel
theorem dX1_readSum_29 : decode cX1_readSum 29 = .ok (.if_icmp .ne 40, 3) := by decide +kernel
theorem dX1_readSum_32 : decode cX1_readSum 32 = .ok (.aload_n 0, 1) := by decide +kernel
theorem dX1_readSum_33 : decode cX1_readSum 33 = .ok (.getfield 47, 3) := by decide +kernel
theorem dX1_readSum_36 : decode cX1_readSum 36 = .ok (.bipush 43, 2) := by decide +kernel
theorem dX1_readSum_38 : decode cX1_readSum 38 = .ok (.if_icmp .ne 8, 3) := by decide +kernel
theorem dX1_readSum_41 : decode cX1_readSum 41 = .ok (.bipush (-13), 2) := by decide +kernel
theorem dX1_readSum_43 : decode cX1_readSum 43 = .ok (.goto 5, 3) := by decide +kernel
theorem dX1_readSum_46 : decode cX1_readSum 46 = .ok (.bipush (-14), 2) := by decide +kernel
theorem dX1_readSum_48 : decode cX1_readSum 48 = .ok (.istore_n 3, 1) := by decide +kernel
theorem dX1_readSum_49 : decode cX1_readSum 49 = .ok (.aload_n 0, 1) := by decide +kernel
theorem dX1_readSum_50 : decode cX1_readSum 50 = .ok (.invokevirtual 28, 3) := by decide +kernel
theorem dX1_readSum_53 : decode cX1_readSum 53 = .ok (.aload_n 0, 1) := by decide +kernel
theorem dX1_readSum_54 : decode cX1_readSum 54 = .ok (.iload_n 1, 1) := by decide +kernel
theorem dX1_readSum_55 : decode cX1_readSum 55 = .ok (.invokevirtual 133, 3) := by decide +kernel
theorem dX1_readSum_58 : decode cX1_readSum 58 = .ok (.aload_n 0, 1) := by decide +kernel
theorem dX1_readSum_59 : decode cX1_readSum 59 = .ok (.iload_n 3, 1) := by decide +kernel
theorem dX1_readSum_60 : decode cX1_readSum 60 = .ok (.invokevirtual 124, 3) := by decide +kernel
theorem dX1_readSum_63 : decode cX1_readSum 63 = .ok (.iinc 2 1, 3) := by decide +kernel
theorem dX1_readSum_66 : decode cX1_readSum 66 = .ok (.goto (-59), 3) := by decide +kernel
theorem dX1_readSum_69 : decode cX1_readSum 69 = .ok (.return_, 1) := by decide +kernel
theorem dX1_readTerm_0 : decode cX1_readTerm 0 = .ok (.aload_n 0, 1) := by decide +kernel
theorem dX1_readTerm_1 : decode cX1_readTerm 1 = .ok (.iload_n 1, 1) := by decide +kernel
theorem dX1_readTerm_2 : decode cX1_readTerm 2 = .ok (.invokevirtual 136, 3) := by decide +kernel
theorem dX1_readTerm_5 : decode cX1_readTerm 5 = .ok (.iconst 0, 1) := by decide +kernel
theorem dX1_readTerm_6 : decode cX1_readTerm 6 = .ok (.istore_n 2, 1) := by decide +kernel
theorem dX1_readTerm_7 : decode cX1_readTerm 7 = .ok (.iload_n 2, 1) := by decide +kernel
theorem dX1_readTerm_8 : decode cX1_readTerm 8 = .ok (.sipush 160, 3) := by decide +kernel
theorem dX1_readTerm_11 : decode cX1_readTerm 11 = .ok (.if_icmp .ge 33, 3) := by decide +kernel
theorem dX1_readTerm_14 : decode cX1_readTerm 14 = .ok (.aload_n 0, 1) := by decide +kernel
theorem dX1_readTerm_15 : decode cX1_readTerm 15 = .ok (.getfield 47, 3) := by decide +kernel
theorem dX1_readTerm_18 : decode cX1_readTerm 18 = .ok (.bipush 42, 2) := by decide +kernel
theorem dX1_readTerm_20 : decode cX1_readTerm 20 = .ok (.if_icmp .ne 24, 3) := by decide +kernel
theorem dX1_readTerm_23 : decode cX1_readTerm 23 = .ok (.aload_n 0, 1) := by decide +kernel
theorem dX1_readTerm_24 : decode cX1_readTerm 24 = .ok (.invokevirtual 28, 3) := by decide +kernel
theorem dX1_readTerm_27 : decode cX1_readTerm 27 = .ok (.aload_n 0, 1) := by decide +kernel
theorem dX1_readTerm_28 : decode cX1_readTerm 28 = .ok (.iload_n 1, 1) := by decide +kernel
theorem dX1_readTerm_29 : decode cX1_readTerm 29 = .ok (.invokevirtual 136, 3) := by decide +kernel
theorem dX1_readTerm_32 : decode cX1_readTerm 32 = .ok (.aload_n 0, 1) := by decide +kernel
theorem dX1_readTerm_33 : decode cX1_readTerm 33 = .ok (.bipush (-15), 2) := by decide +kernel
theorem dX1_readTerm_35 : decode cX1_readTerm 35 = .ok (.invokevirtual 124, 3) := by decide +kernel
theorem dX1_readTerm_38 : decode cX1_readTerm 38 = .ok (.iinc 2 1, 3) := by decide +kernel
theorem dX1_readTerm_41 : decode cX1_readTerm 41 = .ok (.goto (-34), 3) := by decide +kernel
theorem dX1_readTerm_44 : decode cX1_readTerm 44 = .ok (.return_, 1) := by decide +kernel
theorem dX1_readOne_0 : decode cX1_readOne 0 = .ok (.aload_n 0, 1) := by decide +kernel
theorem dX1_readOne_1 : decode cX1_readOne 1 = .ok (.getfield 47, 3) := by decide +kernel
theorem dX1_readOne_4 : decode cX1_readOne 4 = .ok (.iconst 2, 1) := by decide +kernel
theorem dX1_readOne_5 : decode cX1_readOne 5 = .ok (.if_icmp .ne 18, 3) := by decide +kernel
theorem dX1_readOne_8 : decode cX1_readOne 8 = .ok (.aload_n 0, 1) := by decide +kernel
theorem dX1_readOne_9 : decode cX1_readOne 9 = .ok (.aload_n 0, 1) := by decide +kernel
theorem dX1_readOne_10 : decode cX1_readOne 10 = .ok (.getfield 80, 3) := by decide +kernel
theorem dX1_readOne_13 : decode cX1_readOne 13 = .ok (.invokevirtual 124, 3) := by decide +kernel
theorem dX1_readOne_16 : decode cX1_readOne 16 = .ok (.aload_n 0, 1) := by decide +kernel
theorem dX1_readOne_17 : decode cX1_readOne 17 = .ok (.invokevirtual 28, 3) := by decide +kernel
theorem dX1_readOne_20 : decode cX1_readOne 20 = .ok (.goto 106, 3) := by decide +kernel
theorem dX1_readOne_23 : decode cX1_readOne 23 = .ok (.aload_n 0, 1) := by decide +kernel
theorem dX1_readOne_24 : decode cX1_readOne 24 = .ok (.getfield 47, 3) := by decide +kernel
theorem dX1_readOne_27 : decode cX1_readOne 27 = .ok (.sipush 262, 3) := by decide +kernel
theorem dX1_readOne_30 : decode cX1_readOne 30 = .ok (.if_icmp .lt 24, 3) := by decide +kernel
theorem dX1_readOne_33 : decode cX1_readOne 33 = .ok (.aload_n 0, 1) := by decide +kernel
theorem dX1_readOne_34 : decode cX1_readOne 34 = .ok (.iconst (-1), 1) := by decide +kernel
theorem dX1_readOne_35 : decode cX1_readOne 35 = .ok (.aload_n 0, 1) := by decide +kernel
theorem dX1_readOne_36 : decode cX1_readOne 36 = .ok (.getfield 47, 3) := by decide +kernel
theorem dX1_readOne_39 : decode cX1_readOne 39 = .ok (.sipush 262, 3) := by decide +kernel
theorem dX1_readOne_42 : decode cX1_readOne 42 = .ok (.isub, 1) := by decide +kernel
theorem dX1_readOne_43 : decode cX1_readOne 43 = .ok (.isub, 1) := by decide +kernel
theorem dX1_readOne_44 : decode cX1_readOne 44 = .ok (.invokevirtual 124, 3) := by decide +kernel
theorem dX1_readOne_47 : decode cX1_readOne 47 = .ok (.aload_n 0, 1) := by decide +kernel
theorem dX1_readOne_48 : decode cX1_readOne 48 = .ok (.invokevirtual 28, 3) := by decide +kernel
theorem dX1_readOne_51 : decode cX1_readOne 51 = .ok (.goto 75, 3) := by decide +kernel
theorem dX1_readOne_54 : decode cX1_readOne 54 = .ok (.aload_n 0, 1) := by decide +kernel
theorem dX1_readOne_55 : decode cX1_readOne 55 = .ok (.getfield 47, 3) := by decide +kernel
theorem dX1_readOne_58 : decode cX1_readOne 58 = .ok (.bipush 45, 2) := by decide +kernel
theorem dX1_readOne_60 : decode cX1_readOne 60 = .ok (.if_icmp .ne 28, 3) := by decide +kernel
theorem dX1_readOne_63 : decode cX1_readOne 63 = .ok (.iload_n 1, 1) := by decide +kernel
theorem dX1_readOne_64 : decode cX1_readOne 64 = .ok (.iconst 5, 1) := by decide +kernel
theorem dX1_readOne_65 : decode cX1_readOne 65 = .ok (.if_icmp .ge 23, 3) := by decide +kernel
theorem dX1_readOne_68 : decode cX1_readOne 68 = .ok (.aload_n 0, 1) := by decide +kernel
theorem dX1_readOne_69 : decode cX1_readOne 69 = .ok (.invokevirtual 28, 3) := by decide +kernel
theorem dX1_readOne_72 : decode cX1_readOne 72 = .ok (.aload_n 0, 1) := by decide +kernel
theorem dX1_readOne_73 : decode cX1_readOne 73 = .ok (.iload_n 1, 1) := by decide +kernel
theorem dX1_readOne_74 : decode cX1_readOne 74 = .ok (.iconst 1, 1) := by decide +kernel
theorem dX1_readOne_75 : decode cX1_readOne 75 = .ok (.iadd, 1) := by decide +kernel
theorem dX1_readOne_76 : decode cX1_readOne 76 = .ok (.invokevirtual 136, 3) := by decide +kernel
theorem dX1_readOne_79 : decode cX1_readOne 79 = .ok (.aload_n 0, 1) := by decide +kernel
theorem dX1_readOne_80 : decode cX1_readOne 80 = .ok (.bipush (-8), 2) := by decide +kernel
theorem dX1_readOne_82 : decode cX1_readOne 82 = .ok (.invokevirtual 124, 3) := by decide +kernel
theorem dX1_readOne_85 : decode cX1_readOne 85 = .ok (.goto 41, 3) := by decide +kernel
theorem dX1_readOne_88 : decode cX1_readOne 88 = .ok (.aload_n 0, 1) := by decide +kernel
theorem dX1_readOne_89 : decode cX1_readOne 89 = .ok (.getfield 47, 3) := by decide +kernel
theorem dX1_readOne_92 : decode cX1_readOne 92 = .ok (.bipush 40, 2) := by decide +kernel
theorem dX1_readOne_94 : decode cX1_readOne 94 = .ok (.if_icmp .ne 28, 3) := by decide +kernel
theorem dX1_readOne_97 : decode cX1_readOne 97 = .ok (.iload_n 1, 1) := by decide +kernel
theorem dX1_readOne_98 : decode cX1_readOne 98 = .ok (.iconst 5, 1) := by decide +kernel
theorem dX1_readOne_99 : decode cX1_readOne 99 = .ok (.if_icmp .ge 23, 3) := by decide +kernel
theorem dX1_readOne_102 : decode cX1_readOne 102 = .ok (.aload_n 0, 1) := by decide +kernel
theorem dX1_readOne_103 : decode cX1_readOne 103 = .ok (.invokevirtual 28, 3) := by decide +kernel
theorem dX1_readOne_106 : decode cX1_readOne 106 = .ok (.aload_n 0, 1) := by decide +kernel
theorem dX1_readOne_107 : decode cX1_readOne 107 = .ok (.iload_n 1, 1) := by decide +kernel
theorem dX1_readOne_108 : decode cX1_readOne 108 = .ok (.iconst 1, 1) := by decide +kernel
theorem dX1_readOne_109 : decode cX1_readOne 109 = .ok (.iadd, 1) := by decide +kernel
theorem dX1_readOne_110 : decode cX1_readOne 110 = .ok (.invokevirtual 112, 3) := by decide +kernel
theorem dX1_readOne_113 : decode cX1_readOne 113 = .ok (.aload_n 0, 1) := by decide +kernel
theorem dX1_readOne_114 : decode cX1_readOne 114 = .ok (.bipush 41, 2) := by decide +kernel
theorem dX1_readOne_116 : decode cX1_readOne 116 = .ok (.invokevirtual 35, 3) := by decide +kernel
theorem dX1_readOne_119 : decode cX1_readOne 119 = .ok (.goto 7, 3) := by decide +kernel
theorem dX1_readOne_122 : decode cX1_readOne 122 = .ok (.aload_n 0, 1) := by decide +kernel
theorem dX1_readOne_123 : decode cX1_readOne 123 = .ok (.invokevirtual 107, 3) := by decide +kernel
theorem dX1_readOne_126 : decode cX1_readOne 126 = .ok (.return_, 1) := by decide +kernel
theorem dX2_init_0 : decode cX2_init 0 = .ok (.aload_n 0, 1) := by decide +kernel
theorem dX2_init_1 : decode cX2_init 1 = .ok (.invokespecial 3, 3) := by decide +kernel
theorem dX2_init_4 : decode cX2_init 4 = .ok (.aload_n 0, 1) := by decide +kernel
theorem dX2_init_5 : decode cX2_init 5 = .ok (.iconst 4, 1) := by decide +kernel
theorem dX2_init_6 : decode cX2_init 6 = .ok (.bipush 40, 2) := by decide +kernel
theorem dX2_init_8 : decode cX2_init 8 = .ok (.multianewarray 9 2, 4) := by decide +kernel
theorem dX2_init_12 : decode cX2_init 12 = .ok (.putfield 11, 3) := by decide +kernel
theorem dX2_init_15 : decode cX2_init 15 = .ok (.aload_n 0, 1) := by decide +kernel
theorem dX2_init_16 : decode cX2_init 16 = .ok (.iconst 4, 1) := by decide +kernel
theorem dX2_init_17 : decode cX2_init 17 = .ok (.newarray .int, 2) := by decide +kernel
theorem dX2_init_19 : decode cX2_init 19 = .ok (.putfield 16, 3) := by decide +kernel
theorem dX2_init_22 : decode cX2_init 22 = .ok (.aload_n 0, 1) := by decide +kernel
theorem dX2_init_23 : decode cX2_init 23 = .ok (.iconst 4, 1) := by decide +kernel
theorem dX2_init_24 : decode cX2_init 24 = .ok (.newarray .int, 2) := by decide +kernel
theorem dX2_init_26 : decode cX2_init 26 = .ok (.putfield 20, 3) := by decide +kernel
theorem dX2_init_29 : decode cX2_init 29 = .ok (.iconst 0, 1) := by decide +kernel
theorem dX2_init_30 : decode cX2_init 30 = .ok (.istore_n 1, 1) := by decide +kernel
theorem dX2_init_31 : decode cX2_init 31 = .ok (.iload_n 1, 1) := by decide +kernel
theorem dX2_init_32 : decode cX2_init 32 = .ok (.iconst 4, 1) := by decide +kernel
theorem dX2_init_33 : decode cX2_init 33 = .ok (.if_icmp .ge 16, 3) := by decide +kernel
theorem dX2_init_36 : decode cX2_init 36 = .ok (.aload_n 0, 1) := by decide +kernel
theorem dX2_init_37 : decode cX2_init 37 = .ok (.getfield 16, 3) := by decide +kernel
theorem dX2_init_40 : decode cX2_init 40 = .ok (.iload_n 1, 1) := by decide +kernel
theorem dX2_init_41 : decode cX2_init 41 = .ok (.iconst (-1), 1) := by decide +kernel
theorem dX2_init_42 : decode cX2_init 42 = .ok (.iastore, 1) := by decide +kernel
theorem dX2_init_43 : decode cX2_init 43 = .ok (.iinc 1 1, 3) := by decide +kernel
theorem dX2_init_46 : decode cX2_init 46 = .ok (.goto (-15), 3) := by decide +kernel
theorem dX2_init_49 : decode cX2_init 49 = .ok (.return_, 1) := by decide +kernel
theorem dX2_has_0 : decode cX2_has 0 = .ok (.iload_n 1, 1) := by decide +kernel
theorem dX2_has_1 : decode cX2_has 1 = .ok (.ifCond .lt 12, 3) := by decide +kernel
theorem dX2_has_4 : decode cX2_has 4 = .ok (.iload_n 1, 1) := by decide +kernel
theorem dX2_has_5 : decode cX2_has 5 = .ok (.iconst 4, 1) := by decide +kernel
theorem dX2_has_6 : decode cX2_has 6 = .ok (.if_icmp .ge 7, 3) := by decide +kernel
theorem dX2_has_9 : decode cX2_has 9 = .ok (.iconst 1, 1) := by decide +kernel
theorem dX2_has_10 : decode cX2_has 10 = .ok (.goto 4, 3) := by decide +kernel
theorem dX2_has_13 : decode cX2_has 13 = .ok (.iconst 0, 1) := by decide +kernel
theorem dX2_has_14 : decode cX2_has 14 = .ok (.ireturn, 1) := by decide +kernel
theorem dX2_isMissing_0 : decode cX2_isMissing 0 = .ok (.aload_n 0, 1) := by decide +kernel
theorem dX2_isMissing_1 : decode cX2_isMissing 1 = .ok (.iload_n 1, 1) := by decide +kernel
theorem dX2_isMissing_2 : decode cX2_isMissing 2 = .ok (.invokevirtual 23, 3) := by decide +kernel
theorem dX2_isMissing_5 : decode cX2_isMissing 5 = .ok (.ifCond .eq 13, 3) := by decide +kernel
theorem dX2_isMissing_8 : decode cX2_isMissing 8 = .ok (.aload_n 0, 1) := by decide +kernel
theorem dX2_isMissing_9 : decode cX2_isMissing 9 = .ok (.getfield 16, 3) := by decide +kernel
theorem dX2_isMissing_12 : decode cX2_isMissing 12 = .ok (.iload_n 1, 1) := by decide +kernel
theorem dX2_isMissing_13 : decode cX2_isMissing 13 = .ok (.iaload, 1) := by decide +kernel
theorem dX2_isMissing_14 : decode cX2_isMissing 14 = .ok (.iconst (-1), 1) := by decide +kernel
theorem dX2_isMissing_15 : decode cX2_isMissing 15 = .ok (.if_icmp .ne 7, 3) := by decide +kernel
theorem dX2_isMissing_18 : decode cX2_isMissing 18 = .ok (.iconst 1, 1) := by decide +kernel
theorem dX2_isMissing_19 : decode cX2_isMissing 19 = .ok (.goto 4, 3) := by decide +kernel
theorem dX2_isMissing_22 : decode cX2_isMissing 22 = .ok (.iconst 0, 1) := by decide +kernel
theorem dX2_isMissing_23 : decode cX2_isMissing 23 = .ok (.ireturn, 1) := by decide +kernel
theorem dX2_sort_0 : decode cX2_sort 0 = .ok (.aload_n 0, 1) := by decide +kernel
theorem dX2_sort_1 : decode cX2_sort 1 = .ok (.iload_n 1, 1) := by decide +kernel
theorem dX2_sort_2 : decode cX2_sort 2 = .ok (.invokevirtual 23, 3) := by decide +kernel
theorem dX2_sort_5 : decode cX2_sort 5 = .ok (.ifCond .eq 12, 3) := by decide +kernel
theorem dX2_sort_8 : decode cX2_sort 8 = .ok (.aload_n 0, 1) := by decide +kernel
theorem dX2_sort_9 : decode cX2_sort 9 = .ok (.getfield 16, 3) := by decide +kernel
theorem dX2_sort_12 : decode cX2_sort 12 = .ok (.iload_n 1, 1) := by decide +kernel
theorem dX2_sort_13 : decode cX2_sort 13 = .ok (.iaload, 1) := by decide +kernel
theorem dX2_sort_14 : decode cX2_sort 14 = .ok (.goto 4, 3) := by decide +kernel
theorem dX2_sort_17 : decode cX2_sort 17 = .ok (.iconst (-1), 1) := by decide +kernel
theorem dX2_sort_18 : decode cX2_sort 18 = .ok (.ireturn, 1) := by decide +kernel
theorem dX2_size_0 : decode cX2_size 0 = .ok (.aload_n 0, 1) := by decide +kernel
theorem dX2_size_1 : decode cX2_size 1 = .ok (.iload_n 1, 1) := by decide +kernel
theorem dX2_size_2 : decode cX2_size 2 = .ok (.invokevirtual 23, 3) := by decide +kernel
theorem dX2_size_5 : decode cX2_size 5 = .ok (.ifCond .eq 12, 3) := by decide +kernel
theorem dX2_size_8 : decode cX2_size 8 = .ok (.aload_n 0, 1) := by decide +kernel
theorem dX2_size_9 : decode cX2_size 9 = .ok (.getfield 20, 3) := by decide +kernel
theorem dX2_size_12 : decode cX2_size 12 = .ok (.iload_n 1, 1) := by decide +kernel
theorem dX2_size_13 : decode cX2_size 13 = .ok (.iaload, 1) := by decide +kernel
theorem dX2_size_14 : decode cX2_size 14 = .ok (.goto 4, 3) := by decide +kernel
theorem dX2_size_17 : decode cX2_size 17 = .ok (.iconst 0, 1) := by decide +kernel
theorem dX2_size_18 : decode cX2_size 18 = .ok (.ireturn, 1) := by decide +kernel
theorem dX2_hasItem_0 : decode cX2_hasItem 0 = .ok (.iload_n 2, 1) := by decide +kernel
theorem dX2_hasItem_1 : decode cX2_hasItem 1 = .ok (.ifCond .lt 16, 3) := by decide +kernel
theorem dX2_hasItem_4 : decode cX2_hasItem 4 = .ok (.iload_n 2, 1) := by decide +kernel
theorem dX2_hasItem_5 : decode cX2_hasItem 5 = .ok (.aload_n 0, 1) := by decide +kernel
theorem dX2_hasItem_6 : decode cX2_hasItem 6 = .ok (.iload_n 1, 1) := by decide +kernel
theorem dX2_hasItem_7 : decode cX2_hasItem 7 = .ok (.invokevirtual 27, 3) := by decide +kernel
theorem dX2_hasItem_10 : decode cX2_hasItem 10 = .ok (.if_icmp .ge 7, 3) := by decide +kernel
theorem dX2_hasItem_13 : decode cX2_hasItem 13 = .ok (.iconst 1, 1) := by decide +kernel
theorem dX2_hasItem_14 : decode cX2_hasItem 14 = .ok (.goto 4, 3) := by decide +kernel
theorem dX2_hasItem_17 : decode cX2_hasItem 17 = .ok (.iconst 0, 1) := by decide +kernel
theorem dX2_hasItem_18 : decode cX2_hasItem 18 = .ok (.ireturn, 1) := by decide +kernel
theorem dX2_hasItems_0 : decode cX2_hasItems 0 = .ok (.iload_n 2, 1) := by decide +kernel
theorem dX2_hasItems_1 : decode cX2_hasItems 1 = .ok (.ifCond .lt 22, 3) := by decide +kernel
theorem dX2_hasItems_4 : decode cX2_hasItems 4 = .ok (.iload_n 3, 1) := by decide +kernel
theorem dX2_hasItems_5 : decode cX2_hasItems 5 = .ok (.ifCond .lt 18, 3) := by decide +kernel
theorem dX2_hasItems_8 : decode cX2_hasItems 8 = .ok (.iload_n 2, 1) := by decide +kernel
theorem dX2_hasItems_9 : decode cX2_hasItems 9 = .ok (.aload_n 0, 1) := by decide +kernel
theorem dX2_hasItems_10 : decode cX2_hasItems 10 = .ok (.iload_n 1, 1) := by decide +kernel
theorem dX2_hasItems_11 : decode cX2_hasItems 11 = .ok (.invokevirtual 27, 3) := by decide +kernel
theorem dX2_hasItems_14 : decode cX2_hasItems 14 = .ok (.iload_n 3, 1) := by decide +kernel
theorem dX2_hasItems_15 : decode cX2_hasItems 15 = .ok (.isub, 1) := by decide +kernel
theorem dX2_hasItems_16 : decode cX2_hasItems 16 = .ok (.if_icmp .gt 7, 3) := by decide +kernel
theorem dX2_hasItems_19 : decode cX2_hasItems 19 = .ok (.iconst 1, 1) := by decide +kernel
theorem dX2_hasItems_20 : decode cX2_hasItems 20 = .ok (.goto 4, 3) := by decide +kernel
theorem dX2_hasItems_23 : decode cX2_hasItems 23 = .ok (.iconst 0, 1) := by decide +kernel
theorem dX2_hasItems_24 : decode cX2_hasItems 24 = .ok (.ireturn, 1) := by decide +kernel
theorem dX2_drop_0 : decode cX2_drop 0 = .ok (.aload_n 0, 1) := by decide +kernel
theorem dX2_drop_1 : decode cX2_drop 1 = .ok (.iload_n 1, 1) := by decide +kernel
theorem dX2_drop_2 : decode cX2_drop 2 = .ok (.invokevirtual 23, 3) := by decide +kernel
theorem dX2_drop_5 : decode cX2_drop 5 = .ok (.ifCond .eq 17, 3) := by decide +kernel
theorem dX2_drop_8 : decode cX2_drop 8 = .ok (.aload_n 0, 1) := by decide +kernel
theorem dX2_drop_9 : decode cX2_drop 9 = .ok (.getfield 16, 3) := by decide +kernel
theorem dX2_drop_12 : decode cX2_drop 12 = .ok (.iload_n 1, 1) := by decide +kernel
theorem dX2_drop_13 : decode cX2_drop 13 = .ok (.iconst (-1), 1) := by decide +kernel
theorem dX2_drop_14 : decode cX2_drop 14 = .ok (.iastore, 1) := by decide +kernel
theorem dX2_drop_15 : decode cX2_drop 15 = .ok (.aload_n 0, 1) := by decide +kernel
theorem dX2_drop_16 : decode cX2_drop 16 = .ok (.getfield 20, 3) := by decide +kernel
theorem dX2_drop_19 : decode cX2_drop 19 = .ok (.iload_n 1, 1) := by decide +kernel
theorem dX2_drop_20 : decode cX2_drop 20 = .ok (.iconst 0, 1) := by decide +kernel
theorem dX2_drop_21 : decode cX2_drop 21 = .ok (.iastore, 1) := by decide +kernel
theorem dX2_drop_22 : decode cX2_drop 22 = .ok (.return_, 1) := by decide +kernel
theorem dX2_make_0 : decode cX2_make 0 = .ok (.aload_n 0, 1) := by decide +kernel
theorem dX2_make_1 : decode cX2_make 1 = .ok (.iload_n 1, 1) := by decide +kernel
theorem dX2_make_2 : decode cX2_make 2 = .ok (.invokevirtual 23, 3) := by decide +kernel
theorem dX2_make_5 : decode cX2_make 5 = .ok (.ifCond .eq 52, 3) := by decide +kernel
theorem dX2_make_8 : decode cX2_make 8 = .ok (.iload_n 3, 1) := by decide +kernel
theorem dX2_make_9 : decode cX2_make 9 = .ok (.ifCond .lt 48, 3) := by decide +kernel
theorem dX2_make_12 : decode cX2_make 12 = .ok (.iload_n 3, 1) := by decide +kernel
theorem dX2_make_13 : decode cX2_make 13 = .ok (.bipush 40, 2) := by decide +kernel
theorem dX2_make_15 : decode cX2_make 15 = .ok (.if_icmp .gt 42, 3) := by decide +kernel
theorem dX2_make_18 : decode cX2_make 18 = .ok (.aload_n 0, 1) := by decide +kernel
theorem dX2_make_19 : decode cX2_make 19 = .ok (.getfield 16, 3) := by decide +kernel
theorem dX2_make_22 : decode cX2_make 22 = .ok (.iload_n 1, 1) := by decide +kernel
theorem dX2_make_23 : decode cX2_make 23 = .ok (.iload_n 2, 1) := by decide +kernel
theorem dX2_make_24 : decode cX2_make 24 = .ok (.iastore, 1) := by decide +kernel
theorem dX2_make_25 : decode cX2_make 25 = .ok (.aload_n 0, 1) := by decide +kernel
theorem dX2_make_26 : decode cX2_make 26 = .ok (.getfield 20, 3) := by decide +kernel
theorem dX2_make_29 : decode cX2_make 29 = .ok (.iload_n 1, 1) := by decide +kernel
theorem dX2_make_30 : decode cX2_make 30 = .ok (.iload_n 3, 1) := by decide +kernel
theorem dX2_make_31 : decode cX2_make 31 = .ok (.iastore, 1) := by decide +kernel
theorem dX2_make_32 : decode cX2_make 32 = .ok (.iconst 0, 1) := by decide +kernel
theorem dX2_make_33 : decode cX2_make 33 = .ok (.istore 4, 2) := by decide +kernel
theorem dX2_make_35 : decode cX2_make 35 = .ok (.iload 4, 2) := by decide +kernel
theorem dX2_make_37 : decode cX2_make 37 = .ok (.iload_n 3, 1) := by decide +kernel
theorem dX2_make_38 : decode cX2_make 38 = .ok (.if_icmp .ge 19, 3) := by decide +kernel
theorem dX2_make_41 : decode cX2_make 41 = .ok (.aload_n 0, 1) := by decide +kernel
theorem dX2_make_42 : decode cX2_make 42 = .ok (.getfield 11, 3) := by decide +kernel
theorem dX2_make_45 : decode cX2_make 45 = .ok (.iload_n 1, 1) := by decide +kernel
theorem dX2_make_46 : decode cX2_make 46 = .ok (.aaload, 1) := by decide +kernel
theorem dX2_make_47 : decode cX2_make 47 = .ok (.iload 4, 2) := by decide +kernel
theorem dX2_make_49 : decode cX2_make 49 = .ok (.iconst 0, 1) := by decide +kernel
theorem dX2_make_50 : decode cX2_make 50 = .ok (.iastore, 1) := by decide +kernel
theorem dX2_make_51 : decode cX2_make 51 = .ok (.iinc 4 1, 3) := by decide +kernel
theorem dX2_make_54 : decode cX2_make 54 = .ok (.goto (-19), 3) := by decide +kernel
theorem dX2_make_57 : decode cX2_make 57 = .ok (.return_, 1) := by decide +kernel
theorem dX2_at_0 : decode cX2_at 0 = .ok (.aload_n 0, 1) := by decide +kernel
theorem dX2_at_1 : decode cX2_at 1 = .ok (.iload_n 1, 1) := by decide +kernel
theorem dX2_at_2 : decode cX2_at 2 = .ok (.iload_n 2, 1) := by decide +kernel
theorem dX2_at_3 : decode cX2_at 3 = .ok (.invokevirtual 31, 3) := by decide +kernel
theorem dX2_at_6 : decode cX2_at 6 = .ok (.ifCond .eq 14, 3) := by decide +kernel
theorem dX2_at_9 : decode cX2_at 9 = .ok (.aload_n 0, 1) := by decide +kernel
theorem dX2_at_10 : decode cX2_at 10 = .ok (.getfield 11, 3) := by decide +kernel
theorem dX2_at_13 : decode cX2_at 13 = .ok (.iload_n 1, 1) := by decide +kernel
theorem dX2_at_14 : decode cX2_at 14 = .ok (.aaload, 1) := by decide +kernel
theorem dX2_at_15 : decode cX2_at 15 = .ok (.iload_n 2, 1) := by decide +kernel
theorem dX2_at_16 : decode cX2_at 16 = .ok (.iaload, 1) := by decide +kernel
theorem dX2_at_17 : decode cX2_at 17 = .ok (.goto 4, 3) := by decide +kernel
theorem dX2_at_20 : decode cX2_at 20 = .ok (.iconst 0, 1) := by decide +kernel
theorem dX2_at_21 : decode cX2_at 21 = .ok (.ireturn, 1) := by decide +kernel
theorem dX2_put_0 : decode cX2_put 0 = .ok (.aload_n 0, 1) := by decide +kernel
theorem dX2_put_1 : decode cX2_put 1 = .ok (.iload_n 1, 1) := by decide +kernel
theorem dX2_put_2 : decode cX2_put 2 = .ok (.iload_n 2, 1) := by decide +kernel
theorem dX2_put_3 : decode cX2_put 3 = .ok (.invokevirtual 31, 3) := by decide +kernel
theorem dX2_put_6 : decode cX2_put 6 = .ok (.ifCond .eq 21, 3) := by decide +kernel
theorem dX2_put_9 : decode cX2_put 9 = .ok (.aload_n 0, 1) := by decide +kernel
theorem dX2_put_10 : decode cX2_put 10 = .ok (.getfield 11, 3) := by decide +kernel
theorem dX2_put_13 : decode cX2_put 13 = .ok (.iload_n 1, 1) := by decide +kernel
theorem dX2_put_14 : decode cX2_put 14 = .ok (.aaload, 1) := by decide +kernel
theorem dX2_put_15 : decode cX2_put 15 = .ok (.iload_n 2, 1) := by decide +kernel
theorem dX2_put_16 : decode cX2_put 16 = .ok (.aload_n 0, 1) := by decide +kernel
theorem dX2_put_17 : decode cX2_put 17 = .ok (.getfield 16, 3) := by decide +kernel
theorem dX2_put_20 : decode cX2_put 20 = .ok (.iload_n 1, 1) := by decide +kernel
theorem dX2_put_21 : decode cX2_put 21 = .ok (.iaload, 1) := by decide +kernel
theorem dX2_put_22 : decode cX2_put 22 = .ok (.iload_n 3, 1) := by decide +kernel
theorem dX2_put_23 : decode cX2_put 23 = .ok (.invokestatic 35, 3) := by decide +kernel
theorem dX2_put_26 : decode cX2_put 26 = .ok (.iastore, 1) := by decide +kernel
theorem dX2_put_27 : decode cX2_put 27 = .ok (.return_, 1) := by decide +kernel
theorem dX2_move_0 : decode cX2_move 0 = .ok (.aload_n 0, 1) := by decide +kernel
theorem dX2_move_1 : decode cX2_move 1 = .ok (.iload_n 1, 1) := by decide +kernel
theorem dX2_move_2 : decode cX2_move 2 = .ok (.iload_n 2, 1) := by decide +kernel
theorem dX2_move_3 : decode cX2_move 3 = .ok (.iload 5, 2) := by decide +kernel
theorem dX2_move_5 : decode cX2_move 5 = .ok (.invokevirtual 39, 3) := by decide +kernel
theorem dX2_move_8 : decode cX2_move 8 = .ok (.ifCond .eq 35, 3) := by decide +kernel
theorem dX2_move_11 : decode cX2_move 11 = .ok (.aload_n 0, 1) := by decide +kernel
theorem dX2_move_12 : decode cX2_move 12 = .ok (.iload_n 3, 1) := by decide +kernel
theorem dX2_move_13 : decode cX2_move 13 = .ok (.iload 4, 2) := by decide +kernel
theorem dX2_move_15 : decode cX2_move 15 = .ok (.iload 5, 2) := by decide +kernel
theorem dX2_move_17 : decode cX2_move 17 = .ok (.invokevirtual 39, 3) := by decide +kernel
theorem dX2_move_20 : decode cX2_move 20 = .ok (.ifCond .eq 23, 3) := by decide +kernel
theorem dX2_move_23 : decode cX2_move 23 = .ok (.aload_n 0, 1) := by decide +kernel
theorem dX2_move_24 : decode cX2_move 24 = .ok (.getfield 11, 3) := by decide +kernel
theorem dX2_move_27 : decode cX2_move 27 = .ok (.iload_n 1, 1) := by decide +kernel
theorem dX2_move_28 : decode cX2_move 28 = .ok (.aaload, 1) := by decide +kernel
theorem dX2_move_29 : decode cX2_move 29 = .ok (.iload_n 2, 1) := by decide +kernel
theorem dX2_move_30 : decode cX2_move 30 = .ok (.aload_n 0, 1) := by decide +kernel
theorem dX2_move_31 : decode cX2_move 31 = .ok (.getfield 11, 3) := by decide +kernel
theorem dX2_move_34 : decode cX2_move 34 = .ok (.iload_n 3, 1) := by decide +kernel
theorem dX2_move_35 : decode cX2_move 35 = .ok (.aaload, 1) := by decide +kernel
theorem dX2_move_36 : decode cX2_move 36 = .ok (.iload 4, 2) := by decide +kernel
theorem dX2_move_38 : decode cX2_move 38 = .ok (.iload 5, 2) := by decide +kernel
theorem dX2_move_40 : decode cX2_move 40 = .ok (.invokestatic 43, 3) := by decide +kernel
theorem dX2_move_43 : decode cX2_move 43 = .ok (.return_, 1) := by decide +kernel
theorem dX2_narrowed_0 : decode cX2_narrowed 0 = .ok (.iload_n 0, 1) := by decide +kernel
theorem dX2_narrowed_1 : decode cX2_narrowed 1 = .ok (.ifCond .ne 6, 3) := by decide +kernel
theorem dX2_narrowed_4 : decode cX2_narrowed 4 = .ok (.iload_n 1, 1) := by decide +kernel
theorem dX2_narrowed_5 : decode cX2_narrowed 5 = .ok (.i2b, 1) := by decide +kernel
theorem dX2_narrowed_6 : decode cX2_narrowed 6 = .ok (.ireturn, 1) := by decide +kernel
theorem dX2_narrowed_7 : decode cX2_narrowed 7 = .ok (.iload_n 0, 1) := by decide +kernel
theorem dX2_narrowed_8 : decode cX2_narrowed 8 = .ok (.iconst 1, 1) := by decide +kernel
theorem dX2_narrowed_9 : decode cX2_narrowed 9 = .ok (.if_icmp .ne 8, 3) := by decide +kernel
theorem dX2_narrowed_12 : decode cX2_narrowed 12 = .ok (.iload_n 1, 1) := by decide +kernel
theorem dX2_narrowed_13 : decode cX2_narrowed 13 = .ok (.i2s, 1) := by decide +kernel
theorem dX2_narrowed_14 : decode cX2_narrowed 14 = .ok (.goto 4, 3) := by decide +kernel
theorem dX2_narrowed_17 : decode cX2_narrowed 17 = .ok (.iload_n 1, 1) := by decide +kernel
theorem dX2_narrowed_18 : decode cX2_narrowed 18 = .ok (.ireturn, 1) := by decide +kernel
theorem dX3_init_0 : decode cX3_init 0 = .ok (.aload_n 0, 1) := by decide +kernel
theorem dX3_init_1 : decode cX3_init 1 = .ok (.invokespecial 3, 3) := by decide +kernel
theorem dX3_init_4 : decode cX3_init 4 = .ok (.aload_n 0, 1) := by decide +kernel
theorem dX3_init_5 : decode cX3_init 5 = .ok (.aload_n 1, 1) := by decide +kernel
theorem dX3_init_6 : decode cX3_init 6 = .ok (.putfield 9, 3) := by decide +kernel
theorem dX3_init_9 : decode cX3_init 9 = .ok (.aload_n 0, 1) := by decide +kernel
theorem dX3_init_10 : decode cX3_init 10 = .ok (.aload_n 2, 1) := by decide +kernel
theorem dX3_init_11 : decode cX3_init 11 = .ok (.putfield 15, 3) := by decide +kernel
theorem dX3_init_14 : decode cX3_init 14 = .ok (.aload_n 0, 1) := by decide +kernel
theorem dX3_init_15 : decode cX3_init 15 = .ok (.aload_n 3, 1) := by decide +kernel
theorem dX3_init_16 : decode cX3_init 16 = .ok (.putfield 18, 3) := by decide +kernel
theorem dX3_init_19 : decode cX3_init 19 = .ok (.return_, 1) := by decide +kernel
theorem dX3_codeOf_0 : decode cX3_codeOf 0 = .ok (.iload_n 1, 1) := by decide +kernel
theorem dX3_codeOf_1 : decode cX3_codeOf 1 = .ok (.ifCond .ne 8, 3) := by decide +kernel
theorem dX3_codeOf_4 : decode cX3_codeOf 4 = .ok (.aload_n 0, 1) := by decide +kernel
theorem dX3_codeOf_5 : decode cX3_codeOf 5 = .ok (.getfield 9, 3) := by decide +kernel
theorem dX3_codeOf_8 : decode cX3_codeOf 8 = .ok (.areturn, 1) := by decide +kernel
theorem dX3_codeOf_9 : decode cX3_codeOf 9 = .ok (.iload_n 1, 1) := by decide +kernel
theorem dX3_codeOf_10 : decode cX3_codeOf 10 = .ok (.iconst 1, 1) := by decide +kernel
theorem dX3_codeOf_11 : decode cX3_codeOf 11 = .ok (.if_icmp .ne 10, 3) := by decide +kernel
theorem dX3_codeOf_14 : decode cX3_codeOf 14 = .ok (.aload_n 0, 1) := by decide +kernel
theorem dX3_codeOf_15 : decode cX3_codeOf 15 = .ok (.getfield 15, 3) := by decide +kernel
theorem dX3_codeOf_18 : decode cX3_codeOf 18 = .ok (.goto 7, 3) := by decide +kernel
theorem dX3_codeOf_21 : decode cX3_codeOf 21 = .ok (.aload_n 0, 1) := by decide +kernel
theorem dX3_codeOf_22 : decode cX3_codeOf 22 = .ok (.getfield 18, 3) := by decide +kernel
theorem dX3_codeOf_25 : decode cX3_codeOf 25 = .ok (.areturn, 1) := by decide +kernel
theorem dX3_turned_0 : decode cX3_turned 0 = .ok (.iload_n 0, 1) := by decide +kernel
theorem dX3_turned_1 : decode cX3_turned 1 = .ok (.bipush (-8), 2) := by decide +kernel
theorem dX3_turned_3 : decode cX3_turned 3 = .ok (.if_icmp .ne 6, 3) := by decide +kernel
theorem dX3_turned_6 : decode cX3_turned 6 = .ok (.iload_n 1, 1) := by decide +kernel
theorem dX3_turned_7 : decode cX3_turned 7 = .ok (.ineg, 1) := by decide +kernel
theorem dX3_turned_8 : decode cX3_turned 8 = .ok (.ireturn, 1) := by decide +kernel
theorem dX3_turned_9 : decode cX3_turned 9 = .ok (.iload_n 1, 1) := by decide +kernel
theorem dX3_turned_10 : decode cX3_turned 10 = .ok (.ifCond .ne 7, 3) := by decide +kernel
theorem dX3_turned_13 : decode cX3_turned 13 = .ok (.iconst 1, 1) := by decide +kernel
theorem dX3_turned_14 : decode cX3_turned 14 = .ok (.goto 4, 3) := by decide +kernel
theorem dX3_turned_17 : decode cX3_turned 17 = .ok (.iconst 0, 1) := by decide +kernel
theorem dX3_turned_18 : decode cX3_turned 18 = .ok (.ireturn, 1) := by decide +kernel
theorem dX3_joined_0 : decode cX3_joined 0 = .ok (.iload_n 0, 1) := by decide +kernel
theorem dX3_joined_1 : decode cX3_joined 1 = .ok (.tableswitch 97 (-14) (-9) #[93, 89, 78, 67, 53, 39], 39) := by decide +kernel
theorem dX3_joined_40 : decode cX3_joined 40 = .ok (.iload_n 1, 1) := by decide +kernel
theorem dX3_joined_41 : decode cX3_joined 41 = .ok (.ifCond .ne 7, 3) := by decide +kernel
theorem dX3_joined_44 : decode cX3_joined 44 = .ok (.iload_n 2, 1) := by decide +kernel
theorem dX3_joined_45 : decode cX3_joined 45 = .ok (.ifCond .eq 7, 3) := by decide +kernel
theorem dX3_joined_48 : decode cX3_joined 48 = .ok (.iconst 1, 1) := by decide +kernel
theorem dX3_joined_49 : decode cX3_joined 49 = .ok (.goto 4, 3) := by decide +kernel
theorem dX3_joined_52 : decode cX3_joined 52 = .ok (.iconst 0, 1) := by decide +kernel
theorem dX3_joined_53 : decode cX3_joined 53 = .ok (.ireturn, 1) := by decide +kernel
theorem dX3_joined_54 : decode cX3_joined 54 = .ok (.iload_n 1, 1) := by decide +kernel
theorem dX3_joined_55 : decode cX3_joined 55 = .ok (.ifCond .eq 11, 3) := by decide +kernel
theorem dX3_joined_58 : decode cX3_joined 58 = .ok (.iload_n 2, 1) := by decide +kernel
theorem dX3_joined_59 : decode cX3_joined 59 = .ok (.ifCond .eq 7, 3) := by decide +kernel
theorem dX3_joined_62 : decode cX3_joined 62 = .ok (.iconst 1, 1) := by decide +kernel
theorem dX3_joined_63 : decode cX3_joined 63 = .ok (.goto 4, 3) := by decide +kernel
theorem dX3_joined_66 : decode cX3_joined 66 = .ok (.iconst 0, 1) := by decide +kernel
theorem dX3_joined_67 : decode cX3_joined 67 = .ok (.ireturn, 1) := by decide +kernel
theorem dX3_joined_68 : decode cX3_joined 68 = .ok (.iload_n 1, 1) := by decide +kernel
theorem dX3_joined_69 : decode cX3_joined 69 = .ok (.iload_n 2, 1) := by decide +kernel
theorem dX3_joined_70 : decode cX3_joined 70 = .ok (.if_icmp .ge 7, 3) := by decide +kernel
theorem dX3_joined_73 : decode cX3_joined 73 = .ok (.iconst 1, 1) := by decide +kernel
theorem dX3_joined_74 : decode cX3_joined 74 = .ok (.goto 4, 3) := by decide +kernel
theorem dX3_joined_77 : decode cX3_joined 77 = .ok (.iconst 0, 1) := by decide +kernel
theorem dX3_joined_78 : decode cX3_joined 78 = .ok (.ireturn, 1) := by decide +kernel
theorem dX3_joined_79 : decode cX3_joined 79 = .ok (.iload_n 1, 1) := by decide +kernel
theorem dX3_joined_80 : decode cX3_joined 80 = .ok (.iload_n 2, 1) := by decide +kernel
theorem dX3_joined_81 : decode cX3_joined 81 = .ok (.if_icmp .ne 7, 3) := by decide +kernel
theorem dX3_joined_84 : decode cX3_joined 84 = .ok (.iconst 1, 1) := by decide +kernel
theorem dX3_joined_85 : decode cX3_joined 85 = .ok (.goto 4, 3) := by decide +kernel
theorem dX3_joined_88 : decode cX3_joined 88 = .ok (.iconst 0, 1) := by decide +kernel
theorem dX3_joined_89 : decode cX3_joined 89 = .ok (.ireturn, 1) := by decide +kernel
theorem dX3_joined_90 : decode cX3_joined 90 = .ok (.iload_n 1, 1) := by decide +kernel
theorem dX3_joined_91 : decode cX3_joined 91 = .ok (.iload_n 2, 1) := by decide +kernel
theorem dX3_joined_92 : decode cX3_joined 92 = .ok (.iadd, 1) := by decide +kernel
theorem dX3_joined_93 : decode cX3_joined 93 = .ok (.ireturn, 1) := by decide +kernel
theorem dX3_joined_94 : decode cX3_joined 94 = .ok (.iload_n 1, 1) := by decide +kernel
theorem dX3_joined_95 : decode cX3_joined 95 = .ok (.iload_n 2, 1) := by decide +kernel
theorem dX3_joined_96 : decode cX3_joined 96 = .ok (.isub, 1) := by decide +kernel
theorem dX3_joined_97 : decode cX3_joined 97 = .ok (.ireturn, 1) := by decide +kernel
theorem dX3_joined_98 : decode cX3_joined 98 = .ok (.iload_n 1, 1) := by decide +kernel
theorem dX3_joined_99 : decode cX3_joined 99 = .ok (.iload_n 2, 1) := by decide +kernel
theorem dX3_joined_100 : decode cX3_joined 100 = .ok (.imul, 1) := by decide +kernel
theorem dX3_joined_101 : decode cX3_joined 101 = .ok (.ireturn, 1) := by decide +kernel
theorem dX4_init_0 : decode cX4_init 0 = .ok (.aload_n 0, 1) := by decide +kernel
theorem dX4_init_1 : decode cX4_init 1 = .ok (.invokespecial 1, 3) := by decide +kernel
theorem dX4_init_4 : decode cX4_init 4 = .ok (.aload_n 0, 1) := by decide +kernel
theorem dX4_init_5 : decode cX4_init 5 = .ok (.new 7, 3) := by decide +kernel
theorem dX4_init_8 : decode cX4_init 8 = .ok (.dup, 1) := by decide +kernel
theorem dX4_init_9 : decode cX4_init 9 = .ok (.invokespecial 9, 3) := by decide +kernel
theorem dX4_init_12 : decode cX4_init 12 = .ok (.putfield 10, 3) := by decide +kernel
theorem dX4_init_15 : decode cX4_init 15 = .ok (.aload_n 0, 1) := by decide +kernel
theorem dX4_init_16 : decode cX4_init 16 = .ok (.new 7, 3) := by decide +kernel
theorem dX4_init_19 : decode cX4_init 19 = .ok (.dup, 1) := by decide +kernel
theorem dX4_init_20 : decode cX4_init 20 = .ok (.invokespecial 9, 3) := by decide +kernel
theorem dX4_init_23 : decode cX4_init 23 = .ok (.putfield 16, 3) := by decide +kernel
theorem dX4_init_26 : decode cX4_init 26 = .ok (.aload_n 0, 1) := by decide +kernel
theorem dX4_init_27 : decode cX4_init 27 = .ok (.new 7, 3) := by decide +kernel
theorem dX4_init_30 : decode cX4_init 30 = .ok (.dup, 1) := by decide +kernel
theorem dX4_init_31 : decode cX4_init 31 = .ok (.invokespecial 9, 3) := by decide +kernel
theorem dX4_init_34 : decode cX4_init 34 = .ok (.putfield 19, 3) := by decide +kernel
theorem dX4_init_37 : decode cX4_init 37 = .ok (.aload_n 0, 1) := by decide +kernel
theorem dX4_init_38 : decode cX4_init 38 = .ok (.bipush 6, 2) := by decide +kernel
theorem dX4_init_40 : decode cX4_init 40 = .ok (.anewarray 22, 3) := by decide +kernel
theorem dX4_init_43 : decode cX4_init 43 = .ok (.putfield 24, 3) := by decide +kernel
theorem dX4_init_46 : decode cX4_init 46 = .ok (.aload_n 0, 1) := by decide +kernel
theorem dX4_init_47 : decode cX4_init 47 = .ok (.getfield 24, 3) := by decide +kernel
theorem dX4_init_50 : decode cX4_init 50 = .ok (.iconst 0, 1) := by decide +kernel
theorem dX4_init_51 : decode cX4_init 51 = .ok (.new 22, 3) := by decide +kernel
theorem dX4_init_54 : decode cX4_init 54 = .ok (.dup, 1) := by decide +kernel
theorem dX4_init_55 : decode cX4_init 55 = .ok (.iconst 1, 1) := by decide +kernel
theorem dX4_init_56 : decode cX4_init 56 = .ok (.newarray .int, 2) := by decide +kernel
theorem dX4_init_58 : decode cX4_init 58 = .ok (.dup, 1) := by decide +kernel
theorem dX4_init_59 : decode cX4_init 59 = .ok (.iconst 0, 1) := by decide +kernel
theorem dX4_init_60 : decode cX4_init 60 = .ok (.bipush 6, 2) := by decide +kernel
theorem dX4_init_62 : decode cX4_init 62 = .ok (.iastore, 1) := by decide +kernel
theorem dX4_init_63 : decode cX4_init 63 = .ok (.iconst 1, 1) := by decide +kernel
theorem dX4_init_64 : decode cX4_init 64 = .ok (.newarray .int, 2) := by decide +kernel
theorem dX4_init_66 : decode cX4_init 66 = .ok (.dup, 1) := by decide +kernel
theorem dX4_init_67 : decode cX4_init 67 = .ok (.iconst 0, 1) := by decide +kernel
theorem dX4_init_68 : decode cX4_init 68 = .ok (.iconst 2, 1) := by decide +kernel
theorem dX4_init_69 : decode cX4_init 69 = .ok (.iastore, 1) := by decide +kernel
theorem dX4_init_70 : decode cX4_init 70 = .ok (.iconst 1, 1) := by decide +kernel
theorem dX4_init_71 : decode cX4_init 71 = .ok (.newarray .int, 2) := by decide +kernel
theorem dX4_init_73 : decode cX4_init 73 = .ok (.dup, 1) := by decide +kernel
theorem dX4_init_74 : decode cX4_init 74 = .ok (.iconst 0, 1) := by decide +kernel
theorem dX4_init_75 : decode cX4_init 75 = .ok (.iconst 3, 1) := by decide +kernel
theorem dX4_init_76 : decode cX4_init 76 = .ok (.iastore, 1) := by decide +kernel
theorem dX4_init_77 : decode cX4_init 77 = .ok (.invokespecial 28, 3) := by decide +kernel
theorem dX4_init_80 : decode cX4_init 80 = .ok (.aastore, 1) := by decide +kernel
theorem dX4_init_81 : decode cX4_init 81 = .ok (.aload_n 0, 1) := by decide +kernel
theorem dX4_init_82 : decode cX4_init 82 = .ok (.iconst 1, 1) := by decide +kernel
theorem dX4_init_83 : decode cX4_init 83 = .ok (.putfield 31, 3) := by decide +kernel
theorem dX4_init_86 : decode cX4_init 86 = .ok (.aload_n 0, 1) := by decide +kernel
theorem dX4_init_87 : decode cX4_init 87 = .ok (.new 35, 3) := by decide +kernel
theorem dX4_init_90 : decode cX4_init 90 = .ok (.dup, 1) := by decide +kernel
theorem dX4_init_91 : decode cX4_init 91 = .ok (.invokespecial 37, 3) := by decide +kernel
theorem dX4_init_94 : decode cX4_init 94 = .ok (.putfield 38, 3) := by decide +kernel
theorem dX4_init_97 : decode cX4_init 97 = .ok (.aload_n 0, 1) := by decide +kernel
theorem dX4_init_98 : decode cX4_init 98 = .ok (.new 42, 3) := by decide +kernel
theorem dX4_init_101 : decode cX4_init 101 = .ok (.dup, 1) := by decide +kernel
theorem dX4_init_102 : decode cX4_init 102 = .ok (.invokespecial 44, 3) := by decide +kernel
theorem dX4_init_105 : decode cX4_init 105 = .ok (.putfield 45, 3) := by decide +kernel
theorem dX4_init_108 : decode cX4_init 108 = .ok (.aload_n 0, 1) := by decide +kernel
theorem dX4_init_109 : decode cX4_init 109 = .ok (.bipush 30, 2) := by decide +kernel
theorem dX4_init_111 : decode cX4_init 111 = .ok (.newarray .int, 2) := by decide +kernel
theorem dX4_init_113 : decode cX4_init 113 = .ok (.putfield 49, 3) := by decide +kernel
theorem dX4_init_116 : decode cX4_init 116 = .ok (.return_, 1) := by decide +kernel
theorem dX4_set_0 : decode cX4_set 0 = .ok (.iload_n 1, 1) := by decide +kernel
theorem dX4_set_1 : decode cX4_set 1 = .ok (.bipush 7, 2) := by decide +kernel
theorem dX4_set_3 : decode cX4_set 3 = .ok (.if_icmp .gt 27, 3) := by decide +kernel
theorem dX4_set_6 : decode cX4_set 6 = .ok (.aload_n 0, 1) := by decide +kernel
theorem dX4_set_7 : decode cX4_set 7 = .ok (.getfield 10, 3) := by decide +kernel
theorem dX4_set_10 : decode cX4_set 10 = .ok (.iload_n 1, 1) := by decide +kernel
theorem dX4_set_11 : decode cX4_set 11 = .ok (.iload_n 2, 1) := by decide +kernel
theorem dX4_set_12 : decode cX4_set 12 = .ok (.invokevirtual 53, 3) := by decide +kernel
theorem dX4_set_15 : decode cX4_set 15 = .ok (.ifCond .eq 15, 3) := by decide +kernel
theorem dX4_set_18 : decode cX4_set 18 = .ok (.iload_n 3, 1) := by decide +kernel
theorem dX4_set_19 : decode cX4_set 19 = .ok (.ifCond .lt 11, 3) := by decide +kernel
theorem dX4_set_22 : decode cX4_set 22 = .ok (.iload_n 3, 1) := by decide +kernel
theorem dX4_set_23 : decode cX4_set 23 = .ok (.iload_n 1, 1) := by decide +kernel
theorem dX4_set_24 : decode cX4_set 24 = .ok (.invokestatic 57, 3) := by decide +kernel
theorem dX4_set_27 : decode cX4_set 27 = .ok (.if_icmp .le 6, 3) := by decide +kernel
theorem dX4_set_30 : decode cX4_set 30 = .ok (.bipush (-2), 2) := by decide +kernel
theorem dX4_set_32 : decode cX4_set 32 = .ok (.ireturn, 1) := by decide +kernel
theorem dX4_set_33 : decode cX4_set 33 = .ok (.aload_n 0, 1) := by decide +kernel
theorem dX4_set_34 : decode cX4_set 34 = .ok (.getfield 10, 3) := by decide +kernel
theorem dX4_set_37 : decode cX4_set 37 = .ok (.iload_n 1, 1) := by decide +kernel
theorem dX4_set_38 : decode cX4_set 38 = .ok (.iload_n 2, 1) := by decide +kernel
theorem dX4_set_39 : decode cX4_set 39 = .ok (.invokevirtual 61, 3) := by decide +kernel
theorem dX4_set_42 : decode cX4_set 42 = .ok (.istore 4, 2) := by decide +kernel
theorem dX4_set_44 : decode cX4_set 44 = .ok (.aload_n 0, 1) := by decide +kernel
theorem dX4_set_45 : decode cX4_set 45 = .ok (.getfield 10, 3) := by decide +kernel
theorem dX4_set_48 : decode cX4_set 48 = .ok (.iload_n 1, 1) := by decide +kernel
theorem dX4_set_49 : decode cX4_set 49 = .ok (.iload_n 2, 1) := by decide +kernel
theorem dX4_set_50 : decode cX4_set 50 = .ok (.iload_n 3, 1) := by decide +kernel
theorem dX4_set_51 : decode cX4_set 51 = .ok (.invokevirtual 65, 3) := by decide +kernel
theorem dX4_set_54 : decode cX4_set 54 = .ok (.iload 4, 2) := by decide +kernel
theorem dX4_set_56 : decode cX4_set 56 = .ok (.ireturn, 1) := by decide +kernel
theorem dX4_work_0 : decode cX4_work 0 = .ok (.iload_n 1, 1) := by decide +kernel
theorem dX4_work_1 : decode cX4_work 1 = .ok (.iload_n 2, 1) := by decide +kernel
theorem dX4_work_2 : decode cX4_work 2 = .ok (.iload_n 3, 1) := by decide +kernel
theorem dX4_work_3 : decode cX4_work 3 = .ok (.invokestatic 69, 3) := by decide +kernel
theorem dX4_work_6 : decode cX4_work 6 = .ok (.ifCond .ne 6, 3) := by decide +kernel
theorem dX4_work_9 : decode cX4_work 9 = .ok (.bipush (-2), 2) := by decide +kernel
theorem dX4_work_11 : decode cX4_work 11 = .ok (.ireturn, 1) := by decide +kernel
theorem dX4_work_12 : decode cX4_work 12 = .ok (.aload_n 0, 1) := by decide +kernel
theorem dX4_work_13 : decode cX4_work 13 = .ok (.getfield 10, 3) := by decide +kernel
theorem dX4_work_16 : decode cX4_work 16 = .ok (.getfield 73, 3) := by decide +kernel
theorem dX4_work_19 : decode cX4_work 19 = .ok (.bipush 6, 2) := by decide +kernel
theorem dX4_work_21 : decode cX4_work 21 = .ok (.if_icmp .lt 6, 3) := by decide +kernel
theorem dX4_work_24 : decode cX4_work 24 = .ok (.bipush (-4), 2) := by decide +kernel
theorem dX4_work_26 : decode cX4_work 26 = .ok (.ireturn, 1) := by decide +kernel
theorem dX4_work_27 : decode cX4_work 27 = .ok (.aload_n 0, 1) := by decide +kernel
theorem dX4_work_28 : decode cX4_work 28 = .ok (.getfield 10, 3) := by decide +kernel
theorem dX4_work_31 : decode cX4_work 31 = .ok (.iload_n 1, 1) := by decide +kernel
theorem dX4_work_32 : decode cX4_work 32 = .ok (.iload_n 2, 1) := by decide +kernel
theorem dX4_work_33 : decode cX4_work 33 = .ok (.iload_n 3, 1) := by decide +kernel
theorem dX4_work_34 : decode cX4_work 34 = .ok (.invokevirtual 76, 3) := by decide +kernel
theorem dX4_work_37 : decode cX4_work 37 = .ok (.aload_n 0, 1) := by decide +kernel
theorem dX4_work_38 : decode cX4_work 38 = .ok (.getfield 10, 3) := by decide +kernel
theorem dX4_work_41 : decode cX4_work 41 = .ok (.getfield 73, 3) := by decide +kernel
theorem dX4_work_44 : decode cX4_work 44 = .ok (.iconst 1, 1) := by decide +kernel
theorem dX4_work_45 : decode cX4_work 45 = .ok (.isub, 1) := by decide +kernel
theorem dX4_work_46 : decode cX4_work 46 = .ok (.ireturn, 1) := by decide +kernel
theorem dX4_told_0 : decode cX4_told 0 = .ok (.aload_n 0, 1) := by decide +kernel
theorem dX4_told_1 : decode cX4_told 1 = .ok (.getfield 10, 3) := by decide +kernel
theorem dX4_told_4 : decode cX4_told 4 = .ok (.iload_n 2, 1) := by decide +kernel
theorem dX4_told_5 : decode cX4_told 5 = .ok (.iload_n 1, 1) := by decide +kernel
theorem dX4_told_6 : decode cX4_told 6 = .ok (.invokevirtual 53, 3) := by decide +kernel
theorem dX4_told_9 : decode cX4_told 9 = .ok (.ifCond .ne 6, 3) := by decide +kernel
theorem dX4_told_12 : decode cX4_told 12 = .ok (.bipush (-2), 2) := by decide +kernel
theorem dX4_told_14 : decode cX4_told 14 = .ok (.ireturn, 1) := by decide +kernel
theorem dX4_told_15 : decode cX4_told 15 = .ok (.iload_n 2, 1) := by decide +kernel
theorem dX4_told_16 : decode cX4_told 16 = .ok (.bipush 9, 2) := by decide +kernel
theorem dX4_told_18 : decode cX4_told 18 = .ok (.if_icmp .ne 12, 3) := by decide +kernel
theorem dX4_told_21 : decode cX4_told 21 = .ok (.aload_n 0, 1) := by decide +kernel
theorem dX4_told_22 : decode cX4_told 22 = .ok (.getfield 10, 3) := by decide +kernel
theorem dX4_told_25 : decode cX4_told 25 = .ok (.iload_n 1, 1) := by decide +kernel
theorem dX4_told_26 : decode cX4_told 26 = .ok (.invokevirtual 79, 3) := by decide +kernel
theorem dX4_told_29 : decode cX4_told 29 = .ok (.ireturn, 1) := by decide +kernel
theorem dX4_told_30 : decode cX4_told 30 = .ok (.iload_n 2, 1) := by decide +kernel
theorem dX4_told_31 : decode cX4_told 31 = .ok (.bipush 10, 2) := by decide +kernel
theorem dX4_told_33 : decode cX4_told 33 = .ok (.if_icmp .ne 20, 3) := by decide +kernel
theorem dX4_told_36 : decode cX4_told 36 = .ok (.aload_n 0, 1) := by decide +kernel
theorem dX4_told_37 : decode cX4_told 37 = .ok (.getfield 10, 3) := by decide +kernel
theorem dX4_told_40 : decode cX4_told 40 = .ok (.aload_n 0, 1) := by decide +kernel
theorem dX4_told_41 : decode cX4_told 41 = .ok (.aload_n 0, 1) := by decide +kernel
theorem dX4_told_42 : decode cX4_told 42 = .ok (.getfield 10, 3) := by decide +kernel
theorem dX4_told_45 : decode cX4_told 45 = .ok (.invokevirtual 82, 3) := by decide +kernel
theorem dX4_told_48 : decode cX4_told 48 = .ok (.iload_n 1, 1) := by decide +kernel
theorem dX4_told_49 : decode cX4_told 49 = .ok (.invokevirtual 86, 3) := by decide +kernel
theorem dX4_told_52 : decode cX4_told 52 = .ok (.ireturn, 1) := by decide +kernel
theorem dX4_told_53 : decode cX4_told 53 = .ok (.aload_n 0, 1) := by decide +kernel
theorem dX4_told_54 : decode cX4_told 54 = .ok (.getfield 10, 3) := by decide +kernel
theorem dX4_told_57 : decode cX4_told 57 = .ok (.iload_n 2, 1) := by decide +kernel
theorem dX4_told_58 : decode cX4_told 58 = .ok (.iload_n 1, 1) := by decide +kernel
theorem dX4_told_59 : decode cX4_told 59 = .ok (.invokevirtual 61, 3) := by decide +kernel
theorem dX4_told_62 : decode cX4_told 62 = .ok (.ireturn, 1) := by decide +kernel
theorem dX4_feed_0 : decode cX4_feed 0 = .ok (.iload_n 1, 1) := by decide +kernel
theorem dX4_feed_1 : decode cX4_feed 1 = .ok (.ifCond .lt 10, 3) := by decide +kernel
theorem dX4_feed_4 : decode cX4_feed 4 = .ok (.iload_n 1, 1) := by decide +kernel
theorem dX4_feed_5 : decode cX4_feed 5 = .ok (.sipush 255, 3) := by decide +kernel
theorem dX4_feed_8 : decode cX4_feed 8 = .ok (.if_icmp .le 6, 3) := by decide +kernel
theorem dX4_feed_11 : decode cX4_feed 11 = .ok (.bipush (-2), 2) := by decide +kernel
theorem dX4_feed_13 : decode cX4_feed 13 = .ok (.ireturn, 1) := by decide +kernel
theorem dX4_feed_14 : decode cX4_feed 14 = .ok (.aload_n 0, 1) := by decide +kernel
theorem dX4_feed_15 : decode cX4_feed 15 = .ok (.getfield 38, 3) := by decide +kernel
theorem dX4_feed_18 : decode cX4_feed 18 = .ok (.iload_n 1, 1) := by decide +kernel
theorem dX4_feed_19 : decode cX4_feed 19 = .ok (.invokevirtual 90, 3) := by decide +kernel
theorem dX4_feed_22 : decode cX4_feed 22 = .ok (.ifCond .eq 13, 3) := by decide +kernel
theorem dX4_feed_25 : decode cX4_feed 25 = .ok (.aload_n 0, 1) := by decide +kernel
theorem dX4_feed_26 : decode cX4_feed 26 = .ok (.getfield 38, 3) := by decide +kernel
theorem dX4_feed_29 : decode cX4_feed 29 = .ok (.invokevirtual 93, 3) := by decide +kernel
theorem dX4_feed_32 : decode cX4_feed 32 = .ok (.goto 5, 3) := by decide +kernel
theorem dX4_feed_35 : decode cX4_feed 35 = .ok (.bipush (-4), 2) := by decide +kernel
theorem dX4_feed_37 : decode cX4_feed 37 = .ok (.ireturn, 1) := by decide +kernel
theorem dX4_text_0 : decode cX4_text 0 = .ok (.aload_n 0, 1) := by decide +kernel
theorem dX4_text_1 : decode cX4_text 1 = .ok (.getfield 31, 3) := by decide +kernel
theorem dX4_text_4 : decode cX4_text 4 = .ok (.bipush 6, 2) := by decide +kernel
theorem dX4_text_6 : decode cX4_text 6 = .ok (.if_icmp .lt 6, 3) := by decide +kernel
theorem dX4_text_9 : decode cX4_text 9 = .ok (.bipush (-4), 2) := by decide +kernel
theorem dX4_text_11 : decode cX4_text 11 = .ok (.ireturn, 1) := by decide +kernel
theorem dX4_text_12 : decode cX4_text 12 = .ok (.aload_n 0, 1) := by decide +kernel
theorem dX4_text_13 : decode cX4_text 13 = .ok (.getfield 38, 3) := by decide +kernel
theorem dX4_text_16 : decode cX4_text 16 = .ok (.invokevirtual 97, 3) := by decide +kernel
theorem dX4_text_19 : decode cX4_text 19 = .ok (.astore_n 1, 1) := by decide +kernel
theorem dX4_text_20 : decode cX4_text 20 = .ok (.aload_n 1, 1) := by decide +kernel
theorem dX4_text_21 : decode cX4_text 21 = .ok (.ifnonnull 14, 3) := by decide +kernel
theorem dX4_text_24 : decode cX4_text 24 = .ok (.bipush (-100), 2) := by decide +kernel
theorem dX4_text_26 : decode cX4_text 26 = .ok (.aload_n 0, 1) := by decide +kernel
theorem dX4_text_27 : decode cX4_text 27 = .ok (.getfield 38, 3) := by decide +kernel
theorem dX4_text_30 : decode cX4_text 30 = .ok (.invokevirtual 101, 3) := by decide +kernel
theorem dX4_text_33 : decode cX4_text 33 = .ok (.isub, 1) := by decide +kernel
theorem dX4_text_34 : decode cX4_text 34 = .ok (.ireturn, 1) := by decide +kernel
theorem dX4_text_35 : decode cX4_text 35 = .ok (.aload_n 0, 1) := by decide +kernel
theorem dX4_text_36 : decode cX4_text 36 = .ok (.getfield 24, 3) := by decide +kernel
theorem dX4_text_39 : decode cX4_text 39 = .ok (.aload_n 0, 1) := by decide +kernel
theorem dX4_text_40 : decode cX4_text 40 = .ok (.getfield 31, 3) := by decide +kernel
theorem dX4_text_43 : decode cX4_text 43 = .ok (.aload_n 1, 1) := by decide +kernel
theorem dX4_text_44 : decode cX4_text 44 = .ok (.aastore, 1) := by decide +kernel
theorem dX4_text_45 : decode cX4_text 45 = .ok (.aload_n 0, 1) := by decide +kernel
theorem dX4_text_46 : decode cX4_text 46 = .ok (.dup, 1) := by decide +kernel
theorem dX4_text_47 : decode cX4_text 47 = .ok (.getfield 31, 3) := by decide +kernel
theorem dX4_text_50 : decode cX4_text 50 = .ok (.iconst 1, 1) := by decide +kernel
theorem dX4_text_51 : decode cX4_text 51 = .ok (.iadd, 1) := by decide +kernel
theorem dX4_text_52 : decode cX4_text 52 = .ok (.putfield 31, 3) := by decide +kernel
theorem dX4_text_55 : decode cX4_text 55 = .ok (.aload_n 0, 1) := by decide +kernel
theorem dX4_text_56 : decode cX4_text 56 = .ok (.getfield 31, 3) := by decide +kernel
theorem dX4_text_59 : decode cX4_text 59 = .ok (.iconst 1, 1) := by decide +kernel
theorem dX4_text_60 : decode cX4_text 60 = .ok (.isub, 1) := by decide +kernel
theorem dX4_text_61 : decode cX4_text 61 = .ok (.ireturn, 1) := by decide +kernel
theorem dX4_force_0 : decode cX4_force 0 = .ok (.iload_n 1, 1) := by decide +kernel
theorem dX4_force_1 : decode cX4_force 1 = .ok (.ifCond .lt 11, 3) := by decide +kernel
theorem dX4_force_4 : decode cX4_force 4 = .ok (.iload_n 1, 1) := by decide +kernel
theorem dX4_force_5 : decode cX4_force 5 = .ok (.aload_n 0, 1) := by decide +kernel
theorem dX4_force_6 : decode cX4_force 6 = .ok (.getfield 31, 3) := by decide +kernel
theorem dX4_force_9 : decode cX4_force 9 = .ok (.if_icmp .lt 6, 3) := by decide +kernel
theorem dX4_force_12 : decode cX4_force 12 = .ok (.bipush (-2), 2) := by decide +kernel
theorem dX4_force_14 : decode cX4_force 14 = .ok (.ireturn, 1) := by decide +kernel
theorem dX4_force_15 : decode cX4_force 15 = .ok (.aload_n 0, 1) := by decide +kernel
theorem dX4_force_16 : decode cX4_force 16 = .ok (.getfield 10, 3) := by decide +kernel
theorem dX4_force_19 : decode cX4_force 19 = .ok (.getfield 104, 3) := by decide +kernel
theorem dX4_force_22 : decode cX4_force 22 = .ok (.istore_n 2, 1) := by decide +kernel
theorem dX4_force_23 : decode cX4_force 23 = .ok (.aload_n 0, 1) := by decide +kernel
theorem dX4_force_24 : decode cX4_force 24 = .ok (.getfield 10, 3) := by decide +kernel
theorem dX4_force_27 : decode cX4_force 27 = .ok (.iload_n 1, 1) := by decide +kernel
theorem dX4_force_28 : decode cX4_force 28 = .ok (.putfield 104, 3) := by decide +kernel
theorem dX4_force_31 : decode cX4_force 31 = .ok (.iload_n 2, 1) := by decide +kernel
theorem dX4_force_32 : decode cX4_force 32 = .ok (.ireturn, 1) := by decide +kernel
theorem dX4_asks_0 : decode cX4_asks 0 = .ok (.iload_n 1, 1) := by decide +kernel
theorem dX4_asks_1 : decode cX4_asks 1 = .ok (.ifCond .lt 15, 3) := by decide +kernel
theorem dX4_asks_4 : decode cX4_asks 4 = .ok (.iload_n 1, 1) := by decide +kernel
theorem dX4_asks_5 : decode cX4_asks 5 = .ok (.iconst 1, 1) := by decide +kernel
theorem dX4_asks_6 : decode cX4_asks 6 = .ok (.if_icmp .gt 10, 3) := by decide +kernel
theorem dX4_asks_9 : decode cX4_asks 9 = .ok (.iload_n 2, 1) := by decide +kernel
theorem dX4_asks_10 : decode cX4_asks 10 = .ok (.invokestatic 107, 3) := by decide +kernel
theorem dX4_asks_13 : decode cX4_asks 13 = .ok (.ifCond .ne 6, 3) := by decide +kernel
theorem dX4_asks_16 : decode cX4_asks 16 = .ok (.bipush (-2), 2) := by decide +kernel
theorem dX4_asks_18 : decode cX4_asks 18 = .ok (.ireturn, 1) := by decide +kernel
theorem dX4_asks_19 : decode cX4_asks 19 = .ok (.aload_n 0, 1) := by decide +kernel
theorem dX4_asks_20 : decode cX4_asks 20 = .ok (.getfield 10, 3) := by decide +kernel
theorem dX4_asks_23 : decode cX4_asks 23 = .ok (.aload_n 0, 1) := by decide +kernel
theorem dX4_asks_24 : decode cX4_asks 24 = .ok (.aload_n 0, 1) := by decide +kernel
theorem dX4_asks_25 : decode cX4_asks 25 = .ok (.getfield 10, 3) := by decide +kernel
theorem dX4_asks_28 : decode cX4_asks 28 = .ok (.invokevirtual 82, 3) := by decide +kernel
theorem dX4_asks_31 : decode cX4_asks 31 = .ok (.iload_n 1, 1) := by decide +kernel
theorem dX4_asks_32 : decode cX4_asks 32 = .ok (.iload_n 2, 1) := by decide +kernel
theorem dX4_asks_33 : decode cX4_asks 33 = .ok (.iconst (-1), 1) := by decide +kernel
theorem dX4_asks_34 : decode cX4_asks 34 = .ok (.invokevirtual 110, 3) := by decide +kernel
theorem dX4_asks_37 : decode cX4_asks 37 = .ok (.ireturn, 1) := by decide +kernel
theorem dX4_year_0 : decode cX4_year 0 = .ok (.aload_n 0, 1) := by decide +kernel
theorem dX4_year_1 : decode cX4_year 1 = .ok (.getfield 10, 3) := by decide +kernel
theorem dX4_year_4 : decode cX4_year 4 = .ok (.getfield 114, 3) := by decide +kernel
theorem dX4_year_7 : decode cX4_year 7 = .ok (.sipush 999, 3) := by decide +kernel
theorem dX4_year_10 : decode cX4_year 10 = .ok (.if_icmp .lt 6, 3) := by decide +kernel
theorem dX4_year_13 : decode cX4_year 13 = .ok (.bipush (-3), 2) := by decide +kernel
theorem dX4_year_15 : decode cX4_year 15 = .ok (.ireturn, 1) := by decide +kernel
theorem dX4_year_16 : decode cX4_year 16 = .ok (.aload_n 0, 1) := by decide +kernel
theorem dX4_year_17 : decode cX4_year 17 = .ok (.getfield 10, 3) := by decide +kernel
theorem dX4_year_20 : decode cX4_year 20 = .ok (.aload_n 0, 1) := by decide +kernel
theorem dX4_year_21 : decode cX4_year 21 = .ok (.aload_n 0, 1) := by decide +kernel
theorem dX4_year_22 : decode cX4_year 22 = .ok (.getfield 10, 3) := by decide +kernel
theorem dX4_year_25 : decode cX4_year 25 = .ok (.invokevirtual 82, 3) := by decide +kernel
theorem dX4_year_28 : decode cX4_year 28 = .ok (.invokevirtual 117, 3) := by decide +kernel
theorem dX4_year_31 : decode cX4_year 31 = .ok (.aload_n 0, 1) := by decide +kernel
theorem dX4_year_32 : decode cX4_year 32 = .ok (.getfield 10, 3) := by decide +kernel
theorem dX4_year_35 : decode cX4_year 35 = .ok (.invokevirtual 121, 3) := by decide +kernel
theorem dX4_year_38 : decode cX4_year 38 = .ok (.invokestatic 124, 3) := by decide +kernel
theorem dX4_year_41 : decode cX4_year 41 = .ok (.ireturn, 1) := by decide +kernel
theorem dX4_run_0 : decode cX4_run 0 = .ok (.iload_n 1, 1) := by decide +kernel
theorem dX4_run_1 : decode cX4_run 1 = .ok (.invokestatic 129, 3) := by decide +kernel
theorem dX4_run_4 : decode cX4_run 4 = .ok (.ifCond .eq 10, 3) := by decide +kernel
theorem dX4_run_7 : decode cX4_run 7 = .ok (.iload_n 2, 1) := by decide +kernel
theorem dX4_run_8 : decode cX4_run 8 = .ok (.invokestatic 132, 3) := by decide +kernel
theorem dX4_run_11 : decode cX4_run 11 = .ok (.ifCond .ne 6, 3) := by decide +kernel
theorem dX4_run_14 : decode cX4_run 14 = .ok (.bipush (-2), 2) := by decide +kernel
theorem dX4_run_16 : decode cX4_run 16 = .ok (.ireturn, 1) := by decide +kernel
theorem dX4_run_17 : decode cX4_run 17 = .ok (.aload_n 0, 1) := by decide +kernel
theorem dX4_run_18 : decode cX4_run 18 = .ok (.iload_n 1, 1) := by decide +kernel
theorem dX4_run_19 : decode cX4_run 19 = .ok (.invokevirtual 135, 3) := by decide +kernel
theorem dX4_run_22 : decode cX4_run 22 = .ok (.iload_n 2, 1) := by decide +kernel
theorem dX4_run_23 : decode cX4_run 23 = .ok (.tableswitch 83 0 4 #[33, 41, 57, 63, 77], 33) := by decide +kernel
theorem dX4_run_56 : decode cX4_run 56 = .ok (.aload_n 0, 1) := by decide +kernel
theorem dX4_run_57 : decode cX4_run 57 = .ok (.getfield 16, 3) := by decide +kernel
theorem dX4_run_60 : decode cX4_run 60 = .ok (.invokevirtual 121, 3) := by decide +kernel
theorem dX4_run_63 : decode cX4_run 63 = .ok (.ireturn, 1) := by decide +kernel
theorem dX4_run_64 : decode cX4_run 64 = .ok (.aload_n 0, 1) := by decide +kernel
theorem dX4_run_65 : decode cX4_run 65 = .ok (.getfield 16, 3) := by decide +kernel
theorem dX4_run_68 : decode cX4_run 68 = .ok (.getfield 139, 3) := by decide +kernel
theorem dX4_run_71 : decode cX4_run 71 = .ok (.aload_n 0, 1) := by decide +kernel
theorem dX4_run_72 : decode cX4_run 72 = .ok (.getfield 10, 3) := by decide +kernel
theorem dX4_run_75 : decode cX4_run 75 = .ok (.getfield 139, 3) := by decide +kernel
theorem dX4_run_78 : decode cX4_run 78 = .ok (.isub, 1) := by decide +kernel
theorem dX4_run_79 : decode cX4_run 79 = .ok (.ireturn, 1) := by decide +kernel
theorem dX4_run_80 : decode cX4_run 80 = .ok (.aload_n 0, 1) := by decide +kernel
theorem dX4_run_81 : decode cX4_run 81 = .ok (.iload_n 1, 1) := by decide +kernel
theorem dX4_run_82 : decode cX4_run 82 = .ok (.invokevirtual 142, 3) := by decide +kernel
theorem dX4_run_85 : decode cX4_run 85 = .ok (.ireturn, 1) := by decide +kernel
theorem dX4_run_86 : decode cX4_run 86 = .ok (.iload_n 1, 1) := by decide +kernel
theorem dX4_run_87 : decode cX4_run 87 = .ok (.ifCond .ne 7, 3) := by decide +kernel
theorem dX4_run_90 : decode cX4_run 90 = .ok (.iconst (-1), 1) := by decide +kernel
theorem dX4_run_91 : decode cX4_run 91 = .ok (.goto 8, 3) := by decide +kernel
theorem dX4_run_94 : decode cX4_run 94 = .ok (.aload_n 0, 1) := by decide +kernel
theorem dX4_run_95 : decode cX4_run 95 = .ok (.iload_n 1, 1) := by decide +kernel
theorem dX4_run_96 : decode cX4_run 96 = .ok (.invokevirtual 145, 3) := by decide +kernel
theorem dX4_run_99 : decode cX4_run 99 = .ok (.ireturn, 1) := by decide +kernel
theorem dX4_run_100 : decode cX4_run 100 = .ok (.aload_n 0, 1) := by decide +kernel
theorem dX4_run_101 : decode cX4_run 101 = .ok (.iload_n 1, 1) := by decide +kernel
theorem dX4_run_102 : decode cX4_run 102 = .ok (.invokevirtual 148, 3) := by decide +kernel
theorem dX4_run_105 : decode cX4_run 105 = .ok (.ireturn, 1) := by decide +kernel
theorem dX4_run_106 : decode cX4_run 106 = .ok (.aload_n 0, 1) := by decide +kernel
theorem dX4_run_107 : decode cX4_run 107 = .ok (.getfield 16, 3) := by decide +kernel
theorem dX4_run_110 : decode cX4_run 110 = .ok (.iconst 2, 1) := by decide +kernel
theorem dX4_run_111 : decode cX4_run 111 = .ok (.iload_n 2, 1) := by decide +kernel
theorem dX4_run_112 : decode cX4_run 112 = .ok (.bipush 100, 2) := by decide +kernel
theorem dX4_run_114 : decode cX4_run 114 = .ok (.idiv, 1) := by decide +kernel
theorem dX4_run_115 : decode cX4_run 115 = .ok (.iadd, 1) := by decide +kernel
theorem dX4_run_116 : decode cX4_run 116 = .ok (.iconst 1, 1) := by decide +kernel
theorem dX4_run_117 : decode cX4_run 117 = .ok (.isub, 1) := by decide +kernel
theorem dX4_run_118 : decode cX4_run 118 = .ok (.iload_n 2, 1) := by decide +kernel
theorem dX4_run_119 : decode cX4_run 119 = .ok (.bipush 100, 2) := by decide +kernel
theorem dX4_run_121 : decode cX4_run 121 = .ok (.irem, 1) := by decide +kernel
theorem dX4_run_122 : decode cX4_run 122 = .ok (.invokevirtual 61, 3) := by decide +kernel
theorem dX4_run_125 : decode cX4_run 125 = .ok (.ireturn, 1) := by decide +kernel
theorem dX4_first_0 : decode cX4_first 0 = .ok (.iload_n 1, 1) := by decide +kernel
theorem dX4_first_1 : decode cX4_first 1 = .ok (.invokestatic 129, 3) := by decide +kernel
theorem dX4_first_4 : decode cX4_first 4 = .ok (.ifCond .eq 14, 3) := by decide +kernel
theorem dX4_first_7 : decode cX4_first 7 = .ok (.iload_n 2, 1) := by decide +kernel
theorem dX4_first_8 : decode cX4_first 8 = .ok (.iconst 1, 1) := by decide +kernel
theorem dX4_first_9 : decode cX4_first 9 = .ok (.if_icmp .lt 9, 3) := by decide +kernel
theorem dX4_first_12 : decode cX4_first 12 = .ok (.iload_n 2, 1) := by decide +kernel
theorem dX4_first_13 : decode cX4_first 13 = .ok (.bipush 12, 2) := by decide +kernel
theorem dX4_first_15 : decode cX4_first 15 = .ok (.if_icmp .le 6, 3) := by decide +kernel
theorem dX4_first_18 : decode cX4_first 18 = .ok (.bipush (-2), 2) := by decide +kernel
theorem dX4_first_20 : decode cX4_first 20 = .ok (.ireturn, 1) := by decide +kernel
theorem dX4_first_21 : decode cX4_first 21 = .ok (.aload_n 0, 1) := by decide +kernel
theorem dX4_first_22 : decode cX4_first 22 = .ok (.iload_n 1, 1) := by decide +kernel
theorem dX4_first_23 : decode cX4_first 23 = .ok (.invokevirtual 135, 3) := by decide +kernel
theorem dX4_first_26 : decode cX4_first 26 = .ok (.aload_n 0, 1) := by decide +kernel
theorem dX4_first_27 : decode cX4_first 27 = .ok (.iload_n 1, 1) := by decide +kernel
theorem dX4_first_28 : decode cX4_first 28 = .ok (.iload_n 2, 1) := by decide +kernel
theorem dX4_first_29 : decode cX4_first 29 = .ok (.invokevirtual 151, 3) := by decide +kernel
theorem dX4_first_32 : decode cX4_first 32 = .ok (.ireturn, 1) := by decide +kernel
theorem dX4_where_0 : decode cX4_where 0 = .ok (.iload_n 1, 1) := by decide +kernel
theorem dX4_where_1 : decode cX4_where 1 = .ok (.ifCond .lt 25, 3) := by decide +kernel
theorem dX4_where_4 : decode cX4_where 4 = .ok (.iload_n 1, 1) := by decide +kernel
theorem dX4_where_5 : decode cX4_where 5 = .ok (.bipush 60, 2) := by decide +kernel
theorem dX4_where_7 : decode cX4_where 7 = .ok (.if_icmp .ge 19, 3) := by decide +kernel
theorem dX4_where_10 : decode cX4_where 10 = .ok (.iload_n 2, 1) := by decide +kernel
theorem dX4_where_11 : decode cX4_where 11 = .ok (.invokestatic 129, 3) := by decide +kernel
theorem dX4_where_14 : decode cX4_where 14 = .ok (.ifCond .eq 12, 3) := by decide +kernel
theorem dX4_where_17 : decode cX4_where 17 = .ok (.iload_n 3, 1) := by decide +kernel
theorem dX4_where_18 : decode cX4_where 18 = .ok (.ifCond .lt 8, 3) := by decide +kernel
theorem dX4_where_21 : decode cX4_where 21 = .ok (.iload_n 3, 1) := by decide +kernel
theorem dX4_where_22 : decode cX4_where 22 = .ok (.iconst 1, 1) := by decide +kernel
theorem dX4_where_23 : decode cX4_where 23 = .ok (.if_icmp .le 6, 3) := by decide +kernel
theorem dX4_where_26 : decode cX4_where 26 = .ok (.bipush (-2), 2) := by decide +kernel
theorem dX4_where_28 : decode cX4_where 28 = .ok (.ireturn, 1) := by decide +kernel
theorem dX4_where_29 : decode cX4_where 29 = .ok (.aload_n 0, 1) := by decide +kernel
theorem dX4_where_30 : decode cX4_where 30 = .ok (.getfield 10, 3) := by decide +kernel
theorem dX4_where_33 : decode cX4_where 33 = .ok (.getfield 73, 3) := by decide +kernel
theorem dX4_where_36 : decode cX4_where 36 = .ok (.bipush 6, 2) := by decide +kernel
theorem dX4_where_38 : decode cX4_where 38 = .ok (.if_icmp .lt 6, 3) := by decide +kernel
theorem dX4_where_41 : decode cX4_where 41 = .ok (.bipush (-4), 2) := by decide +kernel
theorem dX4_where_43 : decode cX4_where 43 = .ok (.ireturn, 1) := by decide +kernel
theorem dX4_where_44 : decode cX4_where 44 = .ok (.iconst 0, 1) := by decide +kernel
theorem dX4_where_45 : decode cX4_where 45 = .ok (.istore 4, 2) := by decide +kernel
theorem dX4_where_47 : decode cX4_where 47 = .ok (.iconst (-1), 1) := by decide +kernel
theorem dX4_where_48 : decode cX4_where 48 = .ok (.istore 5, 2) := by decide +kernel
theorem dX4_where_50 : decode cX4_where 50 = .ok (.iconst 0, 1) := by decide +kernel
theorem dX4_where_51 : decode cX4_where 51 = .ok (.istore 6, 2) := by decide +kernel
theorem dX4_where_53 : decode cX4_where 53 = .ok (.iload 6, 2) := by decide +kernel
theorem dX4_where_55 : decode cX4_where 55 = .ok (.bipush 12, 2) := by decide +kernel
theorem dX4_where_57 : decode cX4_where 57 = .ok (.if_icmp .ge 55, 3) := by decide +kernel
theorem dX4_where_60 : decode cX4_where 60 = .ok (.aload_n 0, 1) := by decide +kernel
theorem dX4_where_61 : decode cX4_where 61 = .ok (.invokevirtual 154, 3) := by decide +kernel
theorem dX4_where_64 : decode cX4_where 64 = .ok (.aload_n 0, 1) := by decide +kernel
theorem dX4_where_65 : decode cX4_where 65 = .ok (.getfield 16, 3) := by decide +kernel
theorem dX4_where_68 : decode cX4_where 68 = .ok (.iload_n 1, 1) := by decide +kernel
theorem dX4_where_69 : decode cX4_where 69 = .ok (.bipush 10, 2) := by decide +kernel
theorem dX4_where_71 : decode cX4_where 71 = .ok (.idiv, 1) := by decide +kernel
theorem dX4_where_72 : decode cX4_where 72 = .ok (.iload_n 1, 1) := by decide +kernel
theorem dX4_where_73 : decode cX4_where 73 = .ok (.bipush 10, 2) := by decide +kernel
theorem dX4_where_75 : decode cX4_where 75 = .ok (.irem, 1) := by decide +kernel
theorem dX4_where_76 : decode cX4_where 76 = .ok (.iload 6, 2) := by decide +kernel
theorem dX4_where_78 : decode cX4_where 78 = .ok (.invokevirtual 76, 3) := by decide +kernel
theorem dX4_where_81 : decode cX4_where 81 = .ok (.aload_n 0, 1) := by decide +kernel
theorem dX4_where_82 : decode cX4_where 82 = .ok (.iload_n 2, 1) := by decide +kernel
theorem dX4_where_83 : decode cX4_where 83 = .ok (.invokevirtual 157, 3) := by decide +kernel
theorem dX4_where_86 : decode cX4_where 86 = .ok (.invokestatic 124, 3) := by decide +kernel
theorem dX4_where_89 : decode cX4_where 89 = .ok (.istore 7, 2) := by decide +kernel
theorem dX4_where_91 : decode cX4_where 91 = .ok (.iload 7, 2) := by decide +kernel
theorem dX4_where_93 : decode cX4_where 93 = .ok (.iload 5, 2) := by decide +kernel
theorem dX4_where_95 : decode cX4_where 95 = .ok (.if_icmp .le 11, 3) := by decide +kernel
theorem dX4_where_98 : decode cX4_where 98 = .ok (.iload 7, 2) := by decide +kernel
theorem dX4_where_100 : decode cX4_where 100 = .ok (.istore 5, 2) := by decide +kernel
theorem dX4_where_102 : decode cX4_where 102 = .ok (.iload 6, 2) := by decide +kernel
theorem dX4_where_104 : decode cX4_where 104 = .ok (.istore 4, 2) := by decide +kernel
theorem dX4_where_106 : decode cX4_where 106 = .ok (.iinc 6 1, 3) := by decide +kernel
theorem dX4_where_109 : decode cX4_where 109 = .ok (.goto (-56), 3) := by decide +kernel
theorem dX4_where_112 : decode cX4_where 112 = .ok (.iload_n 3, 1) := by decide +kernel
theorem dX4_where_113 : decode cX4_where 113 = .ok (.ifCond .ne 8, 3) := by decide +kernel
theorem dX4_where_116 : decode cX4_where 116 = .ok (.iload 4, 2) := by decide +kernel
theorem dX4_where_118 : decode cX4_where 118 = .ok (.goto 5, 3) := by decide +kernel
theorem dX4_where_121 : decode cX4_where 121 = .ok (.iload 5, 2) := by decide +kernel
theorem dX4_where_123 : decode cX4_where 123 = .ok (.ireturn, 1) := by decide +kernel
theorem dX4_idle_0 : decode cX4_idle 0 = .ok (.iload_n 1, 1) := by decide +kernel
theorem dX4_idle_1 : decode cX4_idle 1 = .ok (.invokestatic 129, 3) := by decide +kernel
theorem dX4_idle_4 : decode cX4_idle 4 = .ok (.ifCond .ne 6, 3) := by decide +kernel
theorem dX4_idle_7 : decode cX4_idle 7 = .ok (.bipush (-2), 2) := by decide +kernel
theorem dX4_idle_9 : decode cX4_idle 9 = .ok (.ireturn, 1) := by decide +kernel
theorem dX4_idle_10 : decode cX4_idle 10 = .ok (.aload_n 0, 1) := by decide +kernel
theorem dX4_idle_11 : decode cX4_idle 11 = .ok (.invokevirtual 154, 3) := by decide +kernel
theorem dX4_idle_14 : decode cX4_idle 14 = .ok (.aload_n 0, 1) := by decide +kernel
theorem dX4_idle_15 : decode cX4_idle 15 = .ok (.iload_n 1, 1) := by decide +kernel
theorem dX4_idle_16 : decode cX4_idle 16 = .ok (.invokevirtual 157, 3) := by decide +kernel
theorem dX4_idle_19 : decode cX4_idle 19 = .ok (.invokestatic 124, 3) := by decide +kernel
theorem dX4_idle_22 : decode cX4_idle 22 = .ok (.istore_n 2, 1) := by decide +kernel
theorem dX4_idle_23 : decode cX4_idle 23 = .ok (.iconst 0, 1) := by decide +kernel
theorem dX4_idle_24 : decode cX4_idle 24 = .ok (.istore_n 3, 1) := by decide +kernel
theorem dX4_idle_25 : decode cX4_idle 25 = .ok (.iload_n 3, 1) := by decide +kernel
theorem dX4_idle_26 : decode cX4_idle 26 = .ok (.aload_n 0, 1) := by decide +kernel
theorem dX4_idle_27 : decode cX4_idle 27 = .ok (.getfield 10, 3) := by decide +kernel
theorem dX4_idle_30 : decode cX4_idle 30 = .ok (.getfield 73, 3) := by decide +kernel
theorem dX4_idle_33 : decode cX4_idle 33 = .ok (.if_icmp .ge 35, 3) := by decide +kernel
theorem dX4_idle_36 : decode cX4_idle 36 = .ok (.aload_n 0, 1) := by decide +kernel
theorem dX4_idle_37 : decode cX4_idle 37 = .ok (.getfield 10, 3) := by decide +kernel
theorem dX4_idle_40 : decode cX4_idle 40 = .ok (.iload_n 3, 1) := by decide +kernel
theorem dX4_idle_41 : decode cX4_idle 41 = .ok (.invokevirtual 160, 3) := by decide +kernel
theorem dX4_idle_44 : decode cX4_idle 44 = .ok (.ifCond .eq 18, 3) := by decide +kernel
theorem dX4_idle_47 : decode cX4_idle 47 = .ok (.aload_n 0, 1) := by decide +kernel
theorem dX4_idle_48 : decode cX4_idle 48 = .ok (.iload_n 3, 1) := by decide +kernel
theorem dX4_idle_49 : decode cX4_idle 49 = .ok (.iload_n 1, 1) := by decide +kernel
theorem dX4_idle_50 : decode cX4_idle 50 = .ok (.invokevirtual 163, 3) := by decide +kernel
theorem dX4_idle_53 : decode cX4_idle 53 = .ok (.invokestatic 124, 3) := by decide +kernel
theorem dX4_idle_56 : decode cX4_idle 56 = .ok (.iload_n 2, 1) := by decide +kernel
theorem dX4_idle_57 : decode cX4_idle 57 = .ok (.if_icmp .lt 5, 3) := by decide +kernel
theorem dX4_idle_60 : decode cX4_idle 60 = .ok (.iload_n 3, 1) := by decide +kernel
theorem dX4_idle_61 : decode cX4_idle 61 = .ok (.ireturn, 1) := by decide +kernel
theorem dX4_idle_62 : decode cX4_idle 62 = .ok (.iinc 3 1, 3) := by decide +kernel
theorem dX4_idle_65 : decode cX4_idle 65 = .ok (.goto (-40), 3) := by decide +kernel
theorem dX4_idle_68 : decode cX4_idle 68 = .ok (.iconst (-1), 1) := by decide +kernel
theorem dX4_idle_69 : decode cX4_idle 69 = .ok (.ireturn, 1) := by decide +kernel
theorem dX4_low_0 : decode cX4_low 0 = .ok (.iload_n 1, 1) := by decide +kernel
theorem dX4_low_1 : decode cX4_low 1 = .ok (.invokestatic 129, 3) := by decide +kernel
theorem dX4_low_4 : decode cX4_low 4 = .ok (.ifCond .eq 14, 3) := by decide +kernel
theorem dX4_low_7 : decode cX4_low 7 = .ok (.iload_n 2, 1) := by decide +kernel
theorem dX4_low_8 : decode cX4_low 8 = .ok (.iconst 1, 1) := by decide +kernel
theorem dX4_low_9 : decode cX4_low 9 = .ok (.if_icmp .lt 9, 3) := by decide +kernel
theorem dX4_low_12 : decode cX4_low 12 = .ok (.iload_n 2, 1) := by decide +kernel
theorem dX4_low_13 : decode cX4_low 13 = .ok (.bipush 12, 2) := by decide +kernel
theorem dX4_low_15 : decode cX4_low 15 = .ok (.if_icmp .le 6, 3) := by decide +kernel
theorem dX4_low_18 : decode cX4_low 18 = .ok (.bipush (-2), 2) := by decide +kernel
theorem dX4_low_20 : decode cX4_low 20 = .ok (.ireturn, 1) := by decide +kernel
theorem dX4_low_21 : decode cX4_low 21 = .ok (.bipush 99, 2) := by decide +kernel
theorem dX4_low_23 : decode cX4_low 23 = .ok (.istore_n 3, 1) := by decide +kernel
theorem dX4_low_24 : decode cX4_low 24 = .ok (.iload_n 3, 1) := by decide +kernel
theorem dX4_low_25 : decode cX4_low 25 = .ok (.ifCond .lt 35, 3) := by decide +kernel
theorem dX4_low_28 : decode cX4_low 28 = .ok (.aload_n 0, 1) := by decide +kernel
theorem dX4_low_29 : decode cX4_low 29 = .ok (.invokevirtual 154, 3) := by decide +kernel
theorem dX4_low_32 : decode cX4_low 32 = .ok (.aload_n 0, 1) := by decide +kernel
theorem dX4_low_33 : decode cX4_low 33 = .ok (.getfield 16, 3) := by decide +kernel
theorem dX4_low_36 : decode cX4_low 36 = .ok (.iload_n 3, 1) := by decide +kernel
theorem dX4_low_37 : decode cX4_low 37 = .ok (.putfield 166, 3) := by decide +kernel
theorem dX4_low_40 : decode cX4_low 40 = .ok (.aload_n 0, 1) := by decide +kernel
theorem dX4_low_41 : decode cX4_low 41 = .ok (.iload_n 1, 1) := by decide +kernel
theorem dX4_low_42 : decode cX4_low 42 = .ok (.invokevirtual 157, 3) := by decide +kernel
theorem dX4_low_45 : decode cX4_low 45 = .ok (.invokestatic 124, 3) := by decide +kernel
theorem dX4_low_48 : decode cX4_low 48 = .ok (.iload_n 2, 1) := by decide +kernel
theorem dX4_low_49 : decode cX4_low 49 = .ok (.if_icmp .lt 5, 3) := by decide +kernel
theorem dX4_low_52 : decode cX4_low 52 = .ok (.iload_n 3, 1) := by decide +kernel
theorem dX4_low_53 : decode cX4_low 53 = .ok (.ireturn, 1) := by decide +kernel
theorem dX4_low_54 : decode cX4_low 54 = .ok (.iinc 3 (-1), 3) := by decide +kernel
theorem dX4_low_57 : decode cX4_low 57 = .ok (.goto (-33), 3) := by decide +kernel
theorem dX4_low_60 : decode cX4_low 60 = .ok (.iconst (-1), 1) := by decide +kernel
theorem dX4_low_61 : decode cX4_low 61 = .ok (.ireturn, 1) := by decide +kernel
theorem dX4_floods_0 : decode cX4_floods 0 = .ok (.iload_n 1, 1) := by decide +kernel
theorem dX4_floods_1 : decode cX4_floods 1 = .ok (.ifCond .lt 21, 3) := by decide +kernel
theorem dX4_floods_4 : decode cX4_floods 4 = .ok (.iload_n 1, 1) := by decide +kernel
theorem dX4_floods_5 : decode cX4_floods 5 = .ok (.aload_n 0, 1) := by decide +kernel
theorem dX4_floods_6 : decode cX4_floods 6 = .ok (.getfield 10, 3) := by decide +kernel
theorem dX4_floods_9 : decode cX4_floods 9 = .ok (.getfield 73, 3) := by decide +kernel
theorem dX4_floods_12 : decode cX4_floods 12 = .ok (.if_icmp .ge 10, 3) := by decide +kernel
theorem dX4_floods_15 : decode cX4_floods 15 = .ok (.iload_n 2, 1) := by decide +kernel
theorem dX4_floods_16 : decode cX4_floods 16 = .ok (.invokestatic 129, 3) := by decide +kernel
theorem dX4_floods_19 : decode cX4_floods 19 = .ok (.ifCond .ne 6, 3) := by decide +kernel
theorem dX4_floods_22 : decode cX4_floods 22 = .ok (.bipush (-2), 2) := by decide +kernel
theorem dX4_floods_24 : decode cX4_floods 24 = .ok (.ireturn, 1) := by decide +kernel
theorem dX4_floods_25 : decode cX4_floods 25 = .ok (.aload_n 0, 1) := by decide +kernel
theorem dX4_floods_26 : decode cX4_floods 26 = .ok (.invokevirtual 154, 3) := by decide +kernel
theorem dX4_floods_29 : decode cX4_floods 29 = .ok (.aload_n 0, 1) := by decide +kernel
theorem dX4_floods_30 : decode cX4_floods 30 = .ok (.iload_n 2, 1) := by decide +kernel
theorem dX4_floods_31 : decode cX4_floods 31 = .ok (.invokevirtual 157, 3) := by decide +kernel
theorem dX4_floods_34 : decode cX4_floods 34 = .ok (.istore_n 3, 1) := by decide +kernel
theorem dX4_floods_35 : decode cX4_floods 35 = .ok (.aload_n 0, 1) := by decide +kernel
theorem dX4_floods_36 : decode cX4_floods 36 = .ok (.iload_n 1, 1) := by decide +kernel
theorem dX4_floods_37 : decode cX4_floods 37 = .ok (.iload_n 2, 1) := by decide +kernel
theorem dX4_floods_38 : decode cX4_floods 38 = .ok (.invokevirtual 163, 3) := by decide +kernel
theorem dX4_floods_41 : decode cX4_floods 41 = .ok (.iload_n 3, 1) := by decide +kernel
theorem dX4_floods_42 : decode cX4_floods 42 = .ok (.iconst (-1), 1) := by decide +kernel
theorem dX4_floods_43 : decode cX4_floods 43 = .ok (.ixor, 1) := by decide +kernel
theorem dX4_floods_44 : decode cX4_floods 44 = .ok (.iand, 1) := by decide +kernel
theorem dX4_floods_45 : decode cX4_floods 45 = .ok (.ireturn, 1) := by decide +kernel
theorem dX4_tells_0 : decode cX4_tells 0 = .ok (.aload_n 0, 1) := by decide +kernel
theorem dX4_tells_1 : decode cX4_tells 1 = .ok (.getfield 45, 3) := by decide +kernel
theorem dX4_tells_4 : decode cX4_tells 4 = .ok (.iload_n 1, 1) := by decide +kernel
theorem dX4_tells_5 : decode cX4_tells 5 = .ok (.invokevirtual 169, 3) := by decide +kernel
theorem dX4_tells_8 : decode cX4_tells 8 = .ok (.ifCond .eq 11, 3) := by decide +kernel
theorem dX4_tells_11 : decode cX4_tells 11 = .ok (.aload_n 0, 1) := by decide +kernel
theorem dX4_tells_12 : decode cX4_tells 12 = .ok (.iload_n 2, 1) := by decide +kernel
theorem dX4_tells_13 : decode cX4_tells 13 = .ok (.invokevirtual 171, 3) := by decide +kernel
theorem dX4_tells_16 : decode cX4_tells 16 = .ok (.ifCond .ne 6, 3) := by decide +kernel
theorem dX4_tells_19 : decode cX4_tells 19 = .ok (.bipush (-2), 2) := by decide +kernel
theorem dX4_tells_21 : decode cX4_tells 21 = .ok (.ireturn, 1) := by decide +kernel
theorem dX4_tells_22 : decode cX4_tells 22 = .ok (.aload_n 0, 1) := by decide +kernel
theorem dX4_tells_23 : decode cX4_tells 23 = .ok (.getfield 45, 3) := by decide +kernel
theorem dX4_tells_26 : decode cX4_tells 26 = .ok (.iload_n 1, 1) := by decide +kernel
theorem dX4_tells_27 : decode cX4_tells 27 = .ok (.invokevirtual 174, 3) := by decide +kernel
theorem dX4_tells_30 : decode cX4_tells 30 = .ok (.ifCond .eq 6, 3) := by decide +kernel
theorem dX4_tells_33 : decode cX4_tells 33 = .ok (.bipush (-11), 2) := by decide +kernel
theorem dX4_tells_35 : decode cX4_tells 35 = .ok (.ireturn, 1) := by decide +kernel
theorem dX4_tells_36 : decode cX4_tells 36 = .ok (.aload_n 0, 1) := by decide +kernel
theorem dX4_tells_37 : decode cX4_tells 37 = .ok (.getfield 45, 3) := by decide +kernel
theorem dX4_tells_40 : decode cX4_tells 40 = .ok (.iload_n 1, 1) := by decide +kernel
theorem dX4_tells_41 : decode cX4_tells 41 = .ok (.invokevirtual 177, 3) := by decide +kernel
theorem dX4_tells_44 : decode cX4_tells 44 = .ok (.bipush 30, 2) := by decide +kernel
theorem dX4_tells_46 : decode cX4_tells 46 = .ok (.if_icmp .le 6, 3) := by decide +kernel
theorem dX4_tells_49 : decode cX4_tells 49 = .ok (.bipush (-2), 2) := by decide +kernel
theorem dX4_tells_51 : decode cX4_tells 51 = .ok (.ireturn, 1) := by decide +kernel
theorem dX4_tells_52 : decode cX4_tells 52 = .ok (.iload_n 2, 1) := by decide +kernel
theorem dX4_tells_53 : decode cX4_tells 53 = .ok (.tableswitch 71 0 3 #[31, 46, 59, 65], 31) := by decide +kernel
theorem dX4_tells_84 : decode cX4_tells 84 = .ok (.aload_n 0, 1) := by decide +kernel
theorem dX4_tells_85 : decode cX4_tells 85 = .ok (.iload_n 1, 1) := by decide +kernel
theorem dX4_tells_86 : decode cX4_tells 86 = .ok (.iconst 0, 1) := by decide +kernel
theorem dX4_tells_87 : decode cX4_tells 87 = .ok (.iconst 0, 1) := by decide +kernel
theorem dX4_tells_88 : decode cX4_tells 88 = .ok (.aload_n 0, 1) := by decide +kernel
theorem dX4_tells_89 : decode cX4_tells 89 = .ok (.getfield 10, 3) := by decide +kernel
theorem dX4_tells_92 : decode cX4_tells 92 = .ok (.getfield 166, 3) := by decide +kernel
theorem dX4_tells_95 : decode cX4_tells 95 = .ok (.invokevirtual 179, 3) := by decide +kernel
theorem dX4_tells_98 : decode cX4_tells 98 = .ok (.ireturn, 1) := by decide +kernel
theorem dX4_tells_99 : decode cX4_tells 99 = .ok (.aload_n 0, 1) := by decide +kernel
theorem dX4_tells_100 : decode cX4_tells 100 = .ok (.iload_n 1, 1) := by decide +kernel
theorem dX4_tells_101 : decode cX4_tells 101 = .ok (.bipush 11, 2) := by decide +kernel
theorem dX4_tells_103 : decode cX4_tells 103 = .ok (.iconst 0, 1) := by decide +kernel
theorem dX4_tells_104 : decode cX4_tells 104 = .ok (.aload_n 0, 1) := by decide +kernel
theorem dX4_tells_105 : decode cX4_tells 105 = .ok (.getfield 31, 3) := by decide +kernel
theorem dX4_tells_108 : decode cX4_tells 108 = .ok (.invokevirtual 183, 3) := by decide +kernel
theorem dX4_tells_111 : decode cX4_tells 111 = .ok (.ireturn, 1) := by decide +kernel
theorem dX4_tells_112 : decode cX4_tells 112 = .ok (.aload_n 0, 1) := by decide +kernel
theorem dX4_tells_113 : decode cX4_tells 113 = .ok (.iload_n 1, 1) := by decide +kernel
theorem dX4_tells_114 : decode cX4_tells 114 = .ok (.invokevirtual 186, 3) := by decide +kernel
theorem dX4_tells_117 : decode cX4_tells 117 = .ok (.ireturn, 1) := by decide +kernel
theorem dX4_tells_118 : decode cX4_tells 118 = .ok (.aload_n 0, 1) := by decide +kernel
theorem dX4_tells_119 : decode cX4_tells 119 = .ok (.iload_n 1, 1) := by decide +kernel
theorem dX4_tells_120 : decode cX4_tells 120 = .ok (.invokevirtual 189, 3) := by decide +kernel
theorem dX4_tells_123 : decode cX4_tells 123 = .ok (.ireturn, 1) := by decide +kernel
theorem dX4_tells_124 : decode cX4_tells 124 = .ok (.aload_n 0, 1) := by decide +kernel
theorem dX4_tells_125 : decode cX4_tells 125 = .ok (.iload_n 1, 1) := by decide +kernel
theorem dX4_tells_126 : decode cX4_tells 126 = .ok (.iload_n 2, 1) := by decide +kernel
theorem dX4_tells_127 : decode cX4_tells 127 = .ok (.invokestatic 192, 3) := by decide +kernel
theorem dX4_tells_130 : decode cX4_tells 130 = .ok (.iload_n 2, 1) := by decide +kernel
theorem dX4_tells_131 : decode cX4_tells 131 = .ok (.bipush 10, 2) := by decide +kernel
theorem dX4_tells_133 : decode cX4_tells 133 = .ok (.irem, 1) := by decide +kernel
theorem dX4_tells_134 : decode cX4_tells 134 = .ok (.iload_n 2, 1) := by decide +kernel
theorem dX4_tells_135 : decode cX4_tells 135 = .ok (.invokestatic 192, 3) := by decide +kernel
theorem dX4_tells_138 : decode cX4_tells 138 = .ok (.invokestatic 57, 3) := by decide +kernel
theorem dX4_tells_141 : decode cX4_tells 141 = .ok (.iconst 1, 1) := by decide +kernel
theorem dX4_tells_142 : decode cX4_tells 142 = .ok (.iadd, 1) := by decide +kernel
theorem dX4_tells_143 : decode cX4_tells 143 = .ok (.invokevirtual 183, 3) := by decide +kernel
theorem dX4_tells_146 : decode cX4_tells 146 = .ok (.ireturn, 1) := by decide +kernel
theorem dX4_film_0 : decode cX4_film 0 = .ok (.aload_n 0, 1) := by decide +kernel
theorem dX4_film_1 : decode cX4_film 1 = .ok (.getfield 45, 3) := by decide +kernel
theorem dX4_film_4 : decode cX4_film 4 = .ok (.iload_n 1, 1) := by decide +kernel
theorem dX4_film_5 : decode cX4_film 5 = .ok (.invokevirtual 169, 3) := by decide +kernel
theorem dX4_film_8 : decode cX4_film 8 = .ok (.ifCond .eq 10, 3) := by decide +kernel
theorem dX4_film_11 : decode cX4_film 11 = .ok (.iload_n 2, 1) := by decide +kernel
theorem dX4_film_12 : decode cX4_film 12 = .ok (.invokestatic 129, 3) := by decide +kernel
theorem dX4_film_15 : decode cX4_film 15 = .ok (.ifCond .ne 6, 3) := by decide +kernel
theorem dX4_film_18 : decode cX4_film 18 = .ok (.bipush (-2), 2) := by decide +kernel
theorem dX4_film_20 : decode cX4_film 20 = .ok (.ireturn, 1) := by decide +kernel
theorem dX4_film_21 : decode cX4_film 21 = .ok (.aload_n 0, 1) := by decide +kernel
theorem dX4_film_22 : decode cX4_film 22 = .ok (.iload_n 2, 1) := by decide +kernel
theorem dX4_film_23 : decode cX4_film 23 = .ok (.invokevirtual 135, 3) := by decide +kernel
theorem dX4_film_26 : decode cX4_film 26 = .ok (.aload_n 0, 1) := by decide +kernel
theorem dX4_film_27 : decode cX4_film 27 = .ok (.getfield 45, 3) := by decide +kernel
theorem dX4_film_30 : decode cX4_film 30 = .ok (.iload_n 1, 1) := by decide +kernel
theorem dX4_film_31 : decode cX4_film 31 = .ok (.iconst 1, 1) := by decide +kernel
theorem dX4_film_32 : decode cX4_film 32 = .ok (.iload_n 2, 1) := by decide +kernel
theorem dX4_film_33 : decode cX4_film 33 = .ok (.invokevirtual 195, 3) := by decide +kernel
theorem dX4_film_36 : decode cX4_film 36 = .ok (.iconst 0, 1) := by decide +kernel
theorem dX4_film_37 : decode cX4_film 37 = .ok (.istore_n 3, 1) := by decide +kernel
theorem dX4_film_38 : decode cX4_film 38 = .ok (.iload_n 3, 1) := by decide +kernel
theorem dX4_film_39 : decode cX4_film 39 = .ok (.iload_n 2, 1) := by decide +kernel
theorem dX4_film_40 : decode cX4_film 40 = .ok (.if_icmp .ge 24, 3) := by decide +kernel
theorem dX4_film_43 : decode cX4_film 43 = .ok (.aload_n 0, 1) := by decide +kernel
theorem dX4_film_44 : decode cX4_film 44 = .ok (.getfield 45, 3) := by decide +kernel
theorem dX4_film_47 : decode cX4_film 47 = .ok (.iload_n 1, 1) := by decide +kernel
theorem dX4_film_48 : decode cX4_film 48 = .ok (.iload_n 3, 1) := by decide +kernel
theorem dX4_film_49 : decode cX4_film 49 = .ok (.aload_n 0, 1) := by decide +kernel
theorem dX4_film_50 : decode cX4_film 50 = .ok (.getfield 49, 3) := by decide +kernel
theorem dX4_film_53 : decode cX4_film 53 = .ok (.iload_n 3, 1) := by decide +kernel
theorem dX4_film_54 : decode cX4_film 54 = .ok (.iaload, 1) := by decide +kernel
theorem dX4_film_55 : decode cX4_film 55 = .ok (.invokevirtual 198, 3) := by decide +kernel
theorem dX4_film_58 : decode cX4_film 58 = .ok (.iinc 3 1, 3) := by decide +kernel
theorem dX4_film_61 : decode cX4_film 61 = .ok (.goto (-23), 3) := by decide +kernel
theorem dX4_film_64 : decode cX4_film 64 = .ok (.iload_n 2, 1) := by decide +kernel
theorem dX4_film_65 : decode cX4_film 65 = .ok (.ireturn, 1) := by decide +kernel
theorem dX4_drawn_0 : decode cX4_drawn 0 = .ok (.iload_n 2, 1) := by decide +kernel
theorem dX4_drawn_1 : decode cX4_drawn 1 = .ok (.invokestatic 129, 3) := by decide +kernel
theorem dX4_drawn_4 : decode cX4_drawn 4 = .ok (.ifCond .ne 6, 3) := by decide +kernel
theorem dX4_drawn_7 : decode cX4_drawn 7 = .ok (.bipush (-2), 2) := by decide +kernel
theorem dX4_drawn_9 : decode cX4_drawn 9 = .ok (.ireturn, 1) := by decide +kernel
theorem dX4_drawn_10 : decode cX4_drawn 10 = .ok (.aload_n 0, 1) := by decide +kernel
theorem dX4_drawn_11 : decode cX4_drawn 11 = .ok (.iload_n 1, 1) := by decide +kernel
theorem dX4_drawn_12 : decode cX4_drawn 12 = .ok (.iload_n 2, 1) := by decide +kernel
theorem dX4_drawn_13 : decode cX4_drawn 13 = .ok (.invokevirtual 199, 3) := by decide +kernel
theorem dX4_drawn_16 : decode cX4_drawn 16 = .ok (.ireturn, 1) := by decide +kernel
theorem dX4_chance_0 : decode cX4_chance 0 = .ok (.iload_n 2, 1) := by decide +kernel
theorem dX4_chance_1 : decode cX4_chance 1 = .ok (.iconst 1, 1) := by decide +kernel
theorem dX4_chance_2 : decode cX4_chance 2 = .ok (.if_icmp .lt 20, 3) := by decide +kernel
theorem dX4_chance_5 : decode cX4_chance 5 = .ok (.iload_n 2, 1) := by decide +kernel
theorem dX4_chance_6 : decode cX4_chance 6 = .ok (.bipush 20, 2) := by decide +kernel
theorem dX4_chance_8 : decode cX4_chance 8 = .ok (.if_icmp .gt 14, 3) := by decide +kernel
theorem dX4_chance_11 : decode cX4_chance 11 = .ok (.iload 4, 2) := by decide +kernel
theorem dX4_chance_13 : decode cX4_chance 13 = .ok (.ifCond .lt 9, 3) := by decide +kernel
theorem dX4_chance_16 : decode cX4_chance 16 = .ok (.iload 4, 2) := by decide +kernel
theorem dX4_chance_18 : decode cX4_chance 18 = .ok (.iconst 1, 1) := by decide +kernel
theorem dX4_chance_19 : decode cX4_chance 19 = .ok (.if_icmp .le 7, 3) := by decide +kernel
theorem dX4_chance_22 : decode cX4_chance 22 = .ok (.ldc2_w 202, 3) := by decide +kernel
theorem dX4_chance_25 : decode cX4_chance 25 = .ok (.lreturn, 1) := by decide +kernel
theorem dX4_chance_26 : decode cX4_chance 26 = .ok (.iload_n 3, 1) := by decide +kernel
theorem dX4_chance_27 : decode cX4_chance 27 = .ok (.bipush 100, 2) := by decide +kernel
theorem dX4_chance_29 : decode cX4_chance 29 = .ok (.idiv, 1) := by decide +kernel
theorem dX4_chance_30 : decode cX4_chance 30 = .ok (.istore 5, 2) := by decide +kernel
theorem dX4_chance_32 : decode cX4_chance 32 = .ok (.iload_n 3, 1) := by decide +kernel
theorem dX4_chance_33 : decode cX4_chance 33 = .ok (.bipush 100, 2) := by decide +kernel
theorem dX4_chance_35 : decode cX4_chance 35 = .ok (.irem, 1) := by decide +kernel
theorem dX4_chance_36 : decode cX4_chance 36 = .ok (.istore 6, 2) := by decide +kernel
theorem dX4_chance_38 : decode cX4_chance 38 = .ok (.iload_n 3, 1) := by decide +kernel
theorem dX4_chance_39 : decode cX4_chance 39 = .ok (.ifCond .lt 17, 3) := by decide +kernel
theorem dX4_chance_42 : decode cX4_chance 42 = .ok (.iload 5, 2) := by decide +kernel
theorem dX4_chance_44 : decode cX4_chance 44 = .ok (.bipush 30, 2) := by decide +kernel
theorem dX4_chance_46 : decode cX4_chance 46 = .ok (.if_icmp .gt 10, 3) := by decide +kernel
theorem dX4_chance_49 : decode cX4_chance 49 = .ok (.iload 6, 2) := by decide +kernel
theorem dX4_chance_51 : decode cX4_chance 51 = .ok (.bipush 12, 2) := by decide +kernel
theorem dX4_chance_53 : decode cX4_chance 53 = .ok (.if_icmp .le 7, 3) := by decide +kernel
theorem dX4_chance_56 : decode cX4_chance 56 = .ok (.ldc2_w 202, 3) := by decide +kernel
theorem dX4_chance_59 : decode cX4_chance 59 = .ok (.lreturn, 1) := by decide +kernel
theorem dX4_chance_60 : decode cX4_chance 60 = .ok (.iconst 0, 1) := by decide +kernel
theorem dX4_chance_61 : decode cX4_chance 61 = .ok (.istore 7, 2) := by decide +kernel
theorem dX4_chance_63 : decode cX4_chance 63 = .ok (.iconst 0, 1) := by decide +kernel
theorem dX4_chance_64 : decode cX4_chance 64 = .ok (.istore 8, 2) := by decide +kernel
theorem dX4_chance_66 : decode cX4_chance 66 = .ok (.iload 8, 2) := by decide +kernel
theorem dX4_chance_68 : decode cX4_chance 68 = .ok (.iload_n 2, 1) := by decide +kernel
theorem dX4_chance_69 : decode cX4_chance 69 = .ok (.if_icmp .ge 27, 3) := by decide +kernel
theorem dX4_chance_72 : decode cX4_chance 72 = .ok (.aload_n 0, 1) := by decide +kernel
theorem dX4_chance_73 : decode cX4_chance 73 = .ok (.iload_n 1, 1) := by decide +kernel
theorem dX4_chance_74 : decode cX4_chance 74 = .ok (.iload 8, 2) := by decide +kernel
theorem dX4_chance_76 : decode cX4_chance 76 = .ok (.iadd, 1) := by decide +kernel
theorem dX4_chance_77 : decode cX4_chance 77 = .ok (.iload 5, 2) := by decide +kernel
theorem dX4_chance_79 : decode cX4_chance 79 = .ok (.invokevirtual 199, 3) := by decide +kernel
theorem dX4_chance_82 : decode cX4_chance 82 = .ok (.iload 6, 2) := by decide +kernel
theorem dX4_chance_84 : decode cX4_chance 84 = .ok (.if_icmp .lt 6, 3) := by decide +kernel
theorem dX4_chance_87 : decode cX4_chance 87 = .ok (.iinc 7 1, 3) := by decide +kernel
theorem dX4_chance_90 : decode cX4_chance 90 = .ok (.iinc 8 1, 3) := by decide +kernel
theorem dX4_chance_93 : decode cX4_chance 93 = .ok (.goto (-27), 3) := by decide +kernel
theorem dX4_chance_96 : decode cX4_chance 96 = .ok (.iload 7, 2) := by decide +kernel
theorem dX4_chance_98 : decode cX4_chance 98 = .ok (.iload_n 2, 1) := by decide +kernel
theorem dX4_chance_99 : decode cX4_chance 99 = .ok (.invokestatic 204, 3) := by decide +kernel
theorem dX4_chance_102 : decode cX4_chance 102 = .ok (.istore 8, 2) := by decide +kernel
theorem dX4_chance_104 : decode cX4_chance 104 = .ok (.iload 4, 2) := by decide +kernel
theorem dX4_chance_106 : decode cX4_chance 106 = .ok (.ifCond .ne 12, 3) := by decide +kernel
theorem dX4_chance_109 : decode cX4_chance 109 = .ok (.iload 7, 2) := by decide +kernel
theorem dX4_chance_111 : decode cX4_chance 111 = .ok (.iload 8, 2) := by decide +kernel
theorem dX4_chance_113 : decode cX4_chance 113 = .ok (.idiv, 1) := by decide +kernel
theorem dX4_chance_114 : decode cX4_chance 114 = .ok (.i2l, 1) := by decide +kernel
theorem dX4_chance_115 : decode cX4_chance 115 = .ok (.goto 8, 3) := by decide +kernel
theorem dX4_chance_118 : decode cX4_chance 118 = .ok (.iload_n 2, 1) := by decide +kernel
theorem dX4_chance_119 : decode cX4_chance 119 = .ok (.iload 8, 2) := by decide +kernel
theorem dX4_chance_121 : decode cX4_chance 121 = .ok (.idiv, 1) := by decide +kernel
theorem dX4_chance_122 : decode cX4_chance 122 = .ok (.i2l, 1) := by decide +kernel
theorem dX4_chance_123 : decode cX4_chance 123 = .ok (.lreturn, 1) := by decide +kernel
theorem dX4_image_0 : decode cX4_image 0 = .ok (.aload_n 0, 1) := by decide +kernel
theorem dX4_image_1 : decode cX4_image 1 = .ok (.getfield 19, 3) := by decide +kernel
theorem dX4_image_4 : decode cX4_image 4 = .ok (.aload_n 0, 1) := by decide +kernel
theorem dX4_image_5 : decode cX4_image 5 = .ok (.getfield 10, 3) := by decide +kernel
theorem dX4_image_8 : decode cX4_image 8 = .ok (.invokevirtual 207, 3) := by decide +kernel
theorem dX4_image_11 : decode cX4_image 11 = .ok (.aload_n 0, 1) := by decide +kernel
theorem dX4_image_12 : decode cX4_image 12 = .ok (.iconst 1, 1) := by decide +kernel
theorem dX4_image_13 : decode cX4_image 13 = .ok (.putfield 211, 3) := by decide +kernel
theorem dX4_image_16 : decode cX4_image 16 = .ok (.aload_n 0, 1) := by decide +kernel
theorem dX4_image_17 : decode cX4_image 17 = .ok (.getfield 10, 3) := by decide +kernel
theorem dX4_image_20 : decode cX4_image 20 = .ok (.getfield 73, 3) := by decide +kernel
theorem dX4_image_23 : decode cX4_image 23 = .ok (.ireturn, 1) := by decide +kernel
theorem dX4_back_0 : decode cX4_back 0 = .ok (.aload_n 0, 1) := by decide +kernel
theorem dX4_back_1 : decode cX4_back 1 = .ok (.getfield 211, 3) := by decide +kernel
theorem dX4_back_4 : decode cX4_back 4 = .ok (.ifCond .ne 6, 3) := by decide +kernel
theorem dX4_back_7 : decode cX4_back 7 = .ok (.bipush (-3), 2) := by decide +kernel
theorem dX4_back_9 : decode cX4_back 9 = .ok (.ireturn, 1) := by decide +kernel
theorem dX4_back_10 : decode cX4_back 10 = .ok (.aload_n 0, 1) := by decide +kernel
theorem dX4_back_11 : decode cX4_back 11 = .ok (.getfield 10, 3) := by decide +kernel
theorem dX4_back_14 : decode cX4_back 14 = .ok (.aload_n 0, 1) := by decide +kernel
theorem dX4_back_15 : decode cX4_back 15 = .ok (.getfield 19, 3) := by decide +kernel
theorem dX4_back_18 : decode cX4_back 18 = .ok (.invokevirtual 207, 3) := by decide +kernel
theorem dX4_back_21 : decode cX4_back 21 = .ok (.aload_n 0, 1) := by decide +kernel
theorem dX4_back_22 : decode cX4_back 22 = .ok (.getfield 10, 3) := by decide +kernel
theorem dX4_back_25 : decode cX4_back 25 = .ok (.getfield 73, 3) := by decide +kernel
theorem dX4_back_28 : decode cX4_back 28 = .ok (.ireturn, 1) := by decide +kernel
theorem dX4_count_0 : decode cX4_count 0 = .ok (.iload_n 1, 1) := by decide +kernel
theorem dX4_count_1 : decode cX4_count 1 = .ok (.tableswitch 111 0 7 #[47, 55, 63, 74, 82, 90, 95, 103], 47) := by decide +kernel
theorem dX4_count_48 : decode cX4_count 48 = .ok (.aload_n 0, 1) := by decide +kernel
theorem dX4_count_49 : decode cX4_count 49 = .ok (.getfield 10, 3) := by decide +kernel
theorem dX4_count_52 : decode cX4_count 52 = .ok (.getfield 73, 3) := by decide +kernel
theorem dX4_count_55 : decode cX4_count 55 = .ok (.ireturn, 1) := by decide +kernel
theorem dX4_count_56 : decode cX4_count 56 = .ok (.aload_n 0, 1) := by decide +kernel
theorem dX4_count_57 : decode cX4_count 57 = .ok (.getfield 10, 3) := by decide +kernel
theorem dX4_count_60 : decode cX4_count 60 = .ok (.invokevirtual 215, 3) := by decide +kernel
theorem dX4_count_63 : decode cX4_count 63 = .ok (.ireturn, 1) := by decide +kernel
theorem dX4_count_64 : decode cX4_count 64 = .ok (.aload_n 0, 1) := by decide +kernel
theorem dX4_count_65 : decode cX4_count 65 = .ok (.getfield 10, 3) := by decide +kernel
theorem dX4_count_68 : decode cX4_count 68 = .ok (.invokevirtual 121, 3) := by decide +kernel
theorem dX4_count_71 : decode cX4_count 71 = .ok (.invokestatic 124, 3) := by decide +kernel
theorem dX4_count_74 : decode cX4_count 74 = .ok (.ireturn, 1) := by decide +kernel
theorem dX4_count_75 : decode cX4_count 75 = .ok (.aload_n 0, 1) := by decide +kernel
theorem dX4_count_76 : decode cX4_count 76 = .ok (.getfield 10, 3) := by decide +kernel
theorem dX4_count_79 : decode cX4_count 79 = .ok (.getfield 114, 3) := by decide +kernel
theorem dX4_count_82 : decode cX4_count 82 = .ok (.ireturn, 1) := by decide +kernel
theorem dX4_count_83 : decode cX4_count 83 = .ok (.aload_n 0, 1) := by decide +kernel
theorem dX4_count_84 : decode cX4_count 84 = .ok (.getfield 10, 3) := by decide +kernel
theorem dX4_count_87 : decode cX4_count 87 = .ok (.getfield 139, 3) := by decide +kernel
theorem dX4_count_90 : decode cX4_count 90 = .ok (.ireturn, 1) := by decide +kernel
theorem dX4_count_91 : decode cX4_count 91 = .ok (.aload_n 0, 1) := by decide +kernel
theorem dX4_count_92 : decode cX4_count 92 = .ok (.getfield 31, 3) := by decide +kernel
theorem dX4_count_95 : decode cX4_count 95 = .ok (.ireturn, 1) := by decide +kernel
theorem dX4_count_96 : decode cX4_count 96 = .ok (.aload_n 0, 1) := by decide +kernel
theorem dX4_count_97 : decode cX4_count 97 = .ok (.getfield 38, 3) := by decide +kernel
theorem dX4_count_100 : decode cX4_count 100 = .ok (.invokevirtual 93, 3) := by decide +kernel
theorem dX4_count_103 : decode cX4_count 103 = .ok (.ireturn, 1) := by decide +kernel
theorem dX4_count_104 : decode cX4_count 104 = .ok (.aload_n 0, 1) := by decide +kernel
theorem dX4_count_105 : decode cX4_count 105 = .ok (.getfield 10, 3) := by decide +kernel
theorem dX4_count_108 : decode cX4_count 108 = .ok (.getfield 104, 3) := by decide +kernel
theorem dX4_count_111 : decode cX4_count 111 = .ok (.ireturn, 1) := by decide +kernel
theorem dX4_count_112 : decode cX4_count 112 = .ok (.bipush (-2), 2) := by decide +kernel
theorem dX4_count_114 : decode cX4_count 114 = .ok (.ireturn, 1) := by decide +kernel
theorem dX4_sheet_0 : decode cX4_sheet 0 = .ok (.aload_n 0, 1) := by decide +kernel
theorem dX4_sheet_1 : decode cX4_sheet 1 = .ok (.getfield 45, 3) := by decide +kernel
theorem dX4_sheet_4 : decode cX4_sheet 4 = .ok (.iload_n 1, 1) := by decide +kernel
theorem dX4_sheet_5 : decode cX4_sheet 5 = .ok (.invokevirtual 169, 3) := by decide +kernel
theorem dX4_sheet_8 : decode cX4_sheet 8 = .ok (.ifCond .eq 13, 3) := by decide +kernel
theorem dX4_sheet_11 : decode cX4_sheet 11 = .ok (.iload_n 2, 1) := by decide +kernel
theorem dX4_sheet_12 : decode cX4_sheet 12 = .ok (.iconst (-1), 1) := by decide +kernel
theorem dX4_sheet_13 : decode cX4_sheet 13 = .ok (.if_icmp .lt 8, 3) := by decide +kernel
theorem dX4_sheet_16 : decode cX4_sheet 16 = .ok (.iload_n 2, 1) := by decide +kernel
theorem dX4_sheet_17 : decode cX4_sheet 17 = .ok (.iconst 3, 1) := by decide +kernel
theorem dX4_sheet_18 : decode cX4_sheet 18 = .ok (.if_icmp .lt 6, 3) := by decide +kernel
theorem dX4_sheet_21 : decode cX4_sheet 21 = .ok (.bipush (-2), 2) := by decide +kernel
theorem dX4_sheet_23 : decode cX4_sheet 23 = .ok (.ireturn, 1) := by decide +kernel
theorem dX4_sheet_24 : decode cX4_sheet 24 = .ok (.iload_n 2, 1) := by decide +kernel
theorem dX4_sheet_25 : decode cX4_sheet 25 = .ok (.iconst (-1), 1) := by decide +kernel
theorem dX4_sheet_26 : decode cX4_sheet 26 = .ok (.if_icmp .ne 13, 3) := by decide +kernel
theorem dX4_sheet_29 : decode cX4_sheet 29 = .ok (.aload_n 0, 1) := by decide +kernel
theorem dX4_sheet_30 : decode cX4_sheet 30 = .ok (.getfield 45, 3) := by decide +kernel
theorem dX4_sheet_33 : decode cX4_sheet 33 = .ok (.iload_n 1, 1) := by decide +kernel
theorem dX4_sheet_34 : decode cX4_sheet 34 = .ok (.invokevirtual 218, 3) := by decide +kernel
theorem dX4_sheet_37 : decode cX4_sheet 37 = .ok (.iconst 1, 1) := by decide +kernel
theorem dX4_sheet_38 : decode cX4_sheet 38 = .ok (.ireturn, 1) := by decide +kernel
theorem dX4_sheet_39 : decode cX4_sheet 39 = .ok (.iload_n 3, 1) := by decide +kernel
theorem dX4_sheet_40 : decode cX4_sheet 40 = .ok (.bipush 40, 2) := by decide +kernel
theorem dX4_sheet_42 : decode cX4_sheet 42 = .ok (.if_icmp .le 6, 3) := by decide +kernel
theorem dX4_sheet_45 : decode cX4_sheet 45 = .ok (.bipush (-2), 2) := by decide +kernel
theorem dX4_sheet_47 : decode cX4_sheet 47 = .ok (.ireturn, 1) := by decide +kernel
theorem dX4_sheet_48 : decode cX4_sheet 48 = .ok (.iload_n 3, 1) := by decide +kernel
theorem dX4_sheet_49 : decode cX4_sheet 49 = .ok (.ifCond .ge 6, 3) := by decide +kernel
theorem dX4_sheet_52 : decode cX4_sheet 52 = .ok (.bipush (-14), 2) := by decide +kernel
theorem dX4_sheet_54 : decode cX4_sheet 54 = .ok (.ireturn, 1) := by decide +kernel
theorem dX4_sheet_55 : decode cX4_sheet 55 = .ok (.aload_n 0, 1) := by decide +kernel
theorem dX4_sheet_56 : decode cX4_sheet 56 = .ok (.getfield 45, 3) := by decide +kernel
theorem dX4_sheet_59 : decode cX4_sheet 59 = .ok (.iload_n 1, 1) := by decide +kernel
theorem dX4_sheet_60 : decode cX4_sheet 60 = .ok (.iload_n 2, 1) := by decide +kernel
theorem dX4_sheet_61 : decode cX4_sheet 61 = .ok (.iload_n 3, 1) := by decide +kernel
theorem dX4_sheet_62 : decode cX4_sheet 62 = .ok (.invokevirtual 195, 3) := by decide +kernel
theorem dX4_sheet_65 : decode cX4_sheet 65 = .ok (.iconst 1, 1) := by decide +kernel
theorem dX4_sheet_66 : decode cX4_sheet 66 = .ok (.ireturn, 1) := by decide +kernel
theorem dX4_cell_0 : decode cX4_cell 0 = .ok (.aload_n 0, 1) := by decide +kernel
theorem dX4_cell_1 : decode cX4_cell 1 = .ok (.getfield 45, 3) := by decide +kernel
theorem dX4_cell_4 : decode cX4_cell 4 = .ok (.iload_n 1, 1) := by decide +kernel
theorem dX4_cell_5 : decode cX4_cell 5 = .ok (.invokevirtual 169, 3) := by decide +kernel
theorem dX4_cell_8 : decode cX4_cell 8 = .ok (.ifCond .ne 6, 3) := by decide +kernel
theorem dX4_cell_11 : decode cX4_cell 11 = .ok (.bipush (-2), 2) := by decide +kernel
theorem dX4_cell_13 : decode cX4_cell 13 = .ok (.ireturn, 1) := by decide +kernel
theorem dX4_cell_14 : decode cX4_cell 14 = .ok (.aload_n 0, 1) := by decide +kernel
theorem dX4_cell_15 : decode cX4_cell 15 = .ok (.getfield 45, 3) := by decide +kernel
theorem dX4_cell_18 : decode cX4_cell 18 = .ok (.iload_n 1, 1) := by decide +kernel
theorem dX4_cell_19 : decode cX4_cell 19 = .ok (.invokevirtual 174, 3) := by decide +kernel
theorem dX4_cell_22 : decode cX4_cell 22 = .ok (.ifCond .eq 6, 3) := by decide +kernel
theorem dX4_cell_25 : decode cX4_cell 25 = .ok (.bipush (-11), 2) := by decide +kernel
theorem dX4_cell_27 : decode cX4_cell 27 = .ok (.ireturn, 1) := by decide +kernel
theorem dX4_cell_28 : decode cX4_cell 28 = .ok (.aload_n 0, 1) := by decide +kernel
theorem dX4_cell_29 : decode cX4_cell 29 = .ok (.getfield 45, 3) := by decide +kernel
theorem dX4_cell_32 : decode cX4_cell 32 = .ok (.iload_n 1, 1) := by decide +kernel
theorem dX4_cell_33 : decode cX4_cell 33 = .ok (.iload_n 2, 1) := by decide +kernel
theorem dX4_cell_34 : decode cX4_cell 34 = .ok (.invokevirtual 221, 3) := by decide +kernel
theorem dX4_cell_37 : decode cX4_cell 37 = .ok (.ifCond .ne 6, 3) := by decide +kernel
theorem dX4_cell_40 : decode cX4_cell 40 = .ok (.bipush (-12), 2) := by decide +kernel
theorem dX4_cell_42 : decode cX4_cell 42 = .ok (.ireturn, 1) := by decide +kernel
theorem dX4_cell_43 : decode cX4_cell 43 = .ok (.aload_n 0, 1) := by decide +kernel
theorem dX4_cell_44 : decode cX4_cell 44 = .ok (.getfield 45, 3) := by decide +kernel
theorem dX4_cell_47 : decode cX4_cell 47 = .ok (.iload_n 1, 1) := by decide +kernel
theorem dX4_cell_48 : decode cX4_cell 48 = .ok (.iload_n 2, 1) := by decide +kernel
theorem dX4_cell_49 : decode cX4_cell 49 = .ok (.iload_n 3, 1) := by decide +kernel
theorem dX4_cell_50 : decode cX4_cell 50 = .ok (.invokevirtual 198, 3) := by decide +kernel
theorem dX4_cell_53 : decode cX4_cell 53 = .ok (.iconst 1, 1) := by decide +kernel
theorem dX4_cell_54 : decode cX4_cell 54 = .ok (.ireturn, 1) := by decide +kernel
theorem dX4_copy_0 : decode cX4_copy 0 = .ok (.aload_n 0, 1) := by decide +kernel
theorem dX4_copy_1 : decode cX4_copy 1 = .ok (.getfield 45, 3) := by decide +kernel
theorem dX4_copy_4 : decode cX4_copy 4 = .ok (.iload_n 1, 1) := by decide +kernel
theorem dX4_copy_5 : decode cX4_copy 5 = .ok (.invokevirtual 169, 3) := by decide +kernel
theorem dX4_copy_8 : decode cX4_copy 8 = .ok (.ifCond .eq 14, 3) := by decide +kernel
theorem dX4_copy_11 : decode cX4_copy 11 = .ok (.aload_n 0, 1) := by decide +kernel
theorem dX4_copy_12 : decode cX4_copy 12 = .ok (.getfield 45, 3) := by decide +kernel
theorem dX4_copy_15 : decode cX4_copy 15 = .ok (.iload_n 3, 1) := by decide +kernel
theorem dX4_copy_16 : decode cX4_copy 16 = .ok (.invokevirtual 169, 3) := by decide +kernel
theorem dX4_copy_19 : decode cX4_copy 19 = .ok (.ifCond .ne 6, 3) := by decide +kernel
theorem dX4_copy_22 : decode cX4_copy 22 = .ok (.bipush (-2), 2) := by decide +kernel
theorem dX4_copy_24 : decode cX4_copy 24 = .ok (.ireturn, 1) := by decide +kernel
theorem dX4_copy_25 : decode cX4_copy 25 = .ok (.aload_n 0, 1) := by decide +kernel
theorem dX4_copy_26 : decode cX4_copy 26 = .ok (.getfield 45, 3) := by decide +kernel
theorem dX4_copy_29 : decode cX4_copy 29 = .ok (.iload_n 1, 1) := by decide +kernel
theorem dX4_copy_30 : decode cX4_copy 30 = .ok (.invokevirtual 174, 3) := by decide +kernel
theorem dX4_copy_33 : decode cX4_copy 33 = .ok (.ifCond .ne 14, 3) := by decide +kernel
theorem dX4_copy_36 : decode cX4_copy 36 = .ok (.aload_n 0, 1) := by decide +kernel
theorem dX4_copy_37 : decode cX4_copy 37 = .ok (.getfield 45, 3) := by decide +kernel
theorem dX4_copy_40 : decode cX4_copy 40 = .ok (.iload_n 3, 1) := by decide +kernel
theorem dX4_copy_41 : decode cX4_copy 41 = .ok (.invokevirtual 174, 3) := by decide +kernel
theorem dX4_copy_44 : decode cX4_copy 44 = .ok (.ifCond .eq 6, 3) := by decide +kernel
theorem dX4_copy_47 : decode cX4_copy 47 = .ok (.bipush (-11), 2) := by decide +kernel
theorem dX4_copy_49 : decode cX4_copy 49 = .ok (.ireturn, 1) := by decide +kernel
theorem dX4_copy_50 : decode cX4_copy 50 = .ok (.aload_n 0, 1) := by decide +kernel
theorem dX4_copy_51 : decode cX4_copy 51 = .ok (.getfield 45, 3) := by decide +kernel
theorem dX4_copy_54 : decode cX4_copy 54 = .ok (.iload_n 1, 1) := by decide +kernel
theorem dX4_copy_55 : decode cX4_copy 55 = .ok (.invokevirtual 224, 3) := by decide +kernel
theorem dX4_copy_58 : decode cX4_copy 58 = .ok (.aload_n 0, 1) := by decide +kernel
theorem dX4_copy_59 : decode cX4_copy 59 = .ok (.getfield 45, 3) := by decide +kernel
theorem dX4_copy_62 : decode cX4_copy 62 = .ok (.iload_n 3, 1) := by decide +kernel
theorem dX4_copy_63 : decode cX4_copy 63 = .ok (.invokevirtual 224, 3) := by decide +kernel
theorem dX4_copy_66 : decode cX4_copy 66 = .ok (.if_icmp .eq 6, 3) := by decide +kernel
theorem dX4_copy_69 : decode cX4_copy 69 = .ok (.bipush (-13), 2) := by decide +kernel
theorem dX4_copy_71 : decode cX4_copy 71 = .ok (.ireturn, 1) := by decide +kernel
theorem dX4_copy_72 : decode cX4_copy 72 = .ok (.aload_n 0, 1) := by decide +kernel
theorem dX4_copy_73 : decode cX4_copy 73 = .ok (.getfield 45, 3) := by decide +kernel
theorem dX4_copy_76 : decode cX4_copy 76 = .ok (.iload_n 1, 1) := by decide +kernel
theorem dX4_copy_77 : decode cX4_copy 77 = .ok (.iload_n 2, 1) := by decide +kernel
theorem dX4_copy_78 : decode cX4_copy 78 = .ok (.iload 5, 2) := by decide +kernel
theorem dX4_copy_80 : decode cX4_copy 80 = .ok (.invokevirtual 227, 3) := by decide +kernel
theorem dX4_copy_83 : decode cX4_copy 83 = .ok (.ifCond .eq 18, 3) := by decide +kernel
theorem dX4_copy_86 : decode cX4_copy 86 = .ok (.aload_n 0, 1) := by decide +kernel
theorem dX4_copy_87 : decode cX4_copy 87 = .ok (.getfield 45, 3) := by decide +kernel
theorem dX4_copy_90 : decode cX4_copy 90 = .ok (.iload_n 3, 1) := by decide +kernel
theorem dX4_copy_91 : decode cX4_copy 91 = .ok (.iload 4, 2) := by decide +kernel
theorem dX4_copy_93 : decode cX4_copy 93 = .ok (.iload 5, 2) := by decide +kernel
theorem dX4_copy_95 : decode cX4_copy 95 = .ok (.invokevirtual 227, 3) := by decide +kernel
theorem dX4_copy_98 : decode cX4_copy 98 = .ok (.ifCond .ne 6, 3) := by decide +kernel
theorem dX4_copy_101 : decode cX4_copy 101 = .ok (.bipush (-12), 2) := by decide +kernel
theorem dX4_copy_103 : decode cX4_copy 103 = .ok (.ireturn, 1) := by decide +kernel
theorem dX4_copy_104 : decode cX4_copy 104 = .ok (.aload_n 0, 1) := by decide +kernel
theorem dX4_copy_105 : decode cX4_copy 105 = .ok (.getfield 45, 3) := by decide +kernel
theorem dX4_copy_108 : decode cX4_copy 108 = .ok (.iload_n 1, 1) := by decide +kernel
theorem dX4_copy_109 : decode cX4_copy 109 = .ok (.iload_n 2, 1) := by decide +kernel
theorem dX4_copy_110 : decode cX4_copy 110 = .ok (.iload_n 3, 1) := by decide +kernel
theorem dX4_copy_111 : decode cX4_copy 111 = .ok (.iload 4, 2) := by decide +kernel
theorem dX4_copy_113 : decode cX4_copy 113 = .ok (.iload 5, 2) := by decide +kernel
theorem dX4_copy_115 : decode cX4_copy 115 = .ok (.invokevirtual 230, 3) := by decide +kernel
theorem dX4_copy_118 : decode cX4_copy 118 = .ok (.iload 5, 2) := by decide +kernel
theorem dX4_copy_120 : decode cX4_copy 120 = .ok (.ireturn, 1) := by decide +kernel
theorem dX4_works_0 : decode cX4_works 0 = .ok (.aload_n 0, 1) := by decide +kernel
theorem dX4_works_1 : decode cX4_works 1 = .ok (.getfield 45, 3) := by decide +kernel
theorem dX4_works_4 : decode cX4_works 4 = .ok (.iload_n 1, 1) := by decide +kernel
theorem dX4_works_5 : decode cX4_works 5 = .ok (.invokevirtual 169, 3) := by decide +kernel
theorem dX4_works_8 : decode cX4_works 8 = .ok (.ifCond .eq 24, 3) := by decide +kernel
theorem dX4_works_11 : decode cX4_works 11 = .ok (.iload_n 2, 1) := by decide +kernel
theorem dX4_works_12 : decode cX4_works 12 = .ok (.ifCond .lt 20, 3) := by decide +kernel
theorem dX4_works_15 : decode cX4_works 15 = .ok (.iload_n 2, 1) := by decide +kernel
theorem dX4_works_16 : decode cX4_works 16 = .ok (.iconst 3, 1) := by decide +kernel
theorem dX4_works_17 : decode cX4_works 17 = .ok (.if_icmp .ge 15, 3) := by decide +kernel
theorem dX4_works_20 : decode cX4_works 20 = .ok (.iload 4, 2) := by decide +kernel
theorem dX4_works_22 : decode cX4_works 22 = .ok (.ifCond .lt 10, 3) := by decide +kernel
theorem dX4_works_25 : decode cX4_works 25 = .ok (.iload 4, 2) := by decide +kernel
theorem dX4_works_27 : decode cX4_works 27 = .ok (.bipush 6, 2) := by decide +kernel
theorem dX4_works_29 : decode cX4_works 29 = .ok (.if_icmp .le 6, 3) := by decide +kernel
theorem dX4_works_32 : decode cX4_works 32 = .ok (.bipush (-2), 2) := by decide +kernel
theorem dX4_works_34 : decode cX4_works 34 = .ok (.ireturn, 1) := by decide +kernel
theorem dX4_works_35 : decode cX4_works 35 = .ok (.aload_n 0, 1) := by decide +kernel
theorem dX4_works_36 : decode cX4_works 36 = .ok (.getfield 45, 3) := by decide +kernel
theorem dX4_works_39 : decode cX4_works 39 = .ok (.iload_n 1, 1) := by decide +kernel
theorem dX4_works_40 : decode cX4_works 40 = .ok (.invokevirtual 174, 3) := by decide +kernel
theorem dX4_works_43 : decode cX4_works 43 = .ok (.ifCond .eq 6, 3) := by decide +kernel
theorem dX4_works_46 : decode cX4_works 46 = .ok (.bipush (-11), 2) := by decide +kernel
theorem dX4_works_48 : decode cX4_works 48 = .ok (.ireturn, 1) := by decide +kernel
theorem dX4_works_49 : decode cX4_works 49 = .ok (.aload_n 0, 1) := by decide +kernel
theorem dX4_works_50 : decode cX4_works 50 = .ok (.getfield 45, 3) := by decide +kernel
theorem dX4_works_53 : decode cX4_works 53 = .ok (.iload_n 1, 1) := by decide +kernel
theorem dX4_works_54 : decode cX4_works 54 = .ok (.invokevirtual 224, 3) := by decide +kernel
theorem dX4_works_57 : decode cX4_works 57 = .ok (.iload_n 2, 1) := by decide +kernel
theorem dX4_works_58 : decode cX4_works 58 = .ok (.if_icmp .eq 6, 3) := by decide +kernel
theorem dX4_works_61 : decode cX4_works 61 = .ok (.bipush (-13), 2) := by decide +kernel
theorem dX4_works_63 : decode cX4_works 63 = .ok (.ireturn, 1) := by decide +kernel
theorem dX4_works_64 : decode cX4_works 64 = .ok (.iconst 0, 1) := by decide +kernel
theorem dX4_works_65 : decode cX4_works 65 = .ok (.istore 5, 2) := by decide +kernel
theorem dX4_works_67 : decode cX4_works 67 = .ok (.iconst 0, 1) := by decide +kernel
theorem dX4_works_68 : decode cX4_works 68 = .ok (.istore 6, 2) := by decide +kernel
theorem dX4_works_70 : decode cX4_works 70 = .ok (.iload 6, 2) := by decide +kernel
theorem dX4_works_72 : decode cX4_works 72 = .ok (.iload 4, 2) := by decide +kernel
theorem dX4_works_74 : decode cX4_works 74 = .ok (.if_icmp .ge 47, 3) := by decide +kernel
theorem dX4_works_77 : decode cX4_works 77 = .ok (.aload_n 0, 1) := by decide +kernel
theorem dX4_works_78 : decode cX4_works 78 = .ok (.getfield 45, 3) := by decide +kernel
theorem dX4_works_81 : decode cX4_works 81 = .ok (.iload_n 1, 1) := by decide +kernel
theorem dX4_works_82 : decode cX4_works 82 = .ok (.iload_n 3, 1) := by decide +kernel
theorem dX4_works_83 : decode cX4_works 83 = .ok (.iconst 3, 1) := by decide +kernel
theorem dX4_works_84 : decode cX4_works 84 = .ok (.iload 6, 2) := by decide +kernel
theorem dX4_works_86 : decode cX4_works 86 = .ok (.imul, 1) := by decide +kernel
theorem dX4_works_87 : decode cX4_works 87 = .ok (.iconst 3, 1) := by decide +kernel
theorem dX4_works_88 : decode cX4_works 88 = .ok (.iadd, 1) := by decide +kernel
theorem dX4_works_89 : decode cX4_works 89 = .ok (.invokevirtual 227, 3) := by decide +kernel
theorem dX4_works_92 : decode cX4_works 92 = .ok (.ifCond .ne 6, 3) := by decide +kernel
theorem dX4_works_95 : decode cX4_works 95 = .ok (.bipush (-12), 2) := by decide +kernel
theorem dX4_works_97 : decode cX4_works 97 = .ok (.ireturn, 1) := by decide +kernel
theorem dX4_works_98 : decode cX4_works 98 = .ok (.aload_n 0, 1) := by decide +kernel
theorem dX4_works_99 : decode cX4_works 99 = .ok (.iload_n 1, 1) := by decide +kernel
theorem dX4_works_100 : decode cX4_works 100 = .ok (.iload_n 3, 1) := by decide +kernel
theorem dX4_works_101 : decode cX4_works 101 = .ok (.iconst 3, 1) := by decide +kernel
theorem dX4_works_102 : decode cX4_works 102 = .ok (.iload 6, 2) := by decide +kernel
theorem dX4_works_104 : decode cX4_works 104 = .ok (.imul, 1) := by decide +kernel
theorem dX4_works_105 : decode cX4_works 105 = .ok (.iadd, 1) := by decide +kernel
theorem dX4_works_106 : decode cX4_works 106 = .ok (.invokevirtual 234, 3) := by decide +kernel
theorem dX4_works_109 : decode cX4_works 109 = .ok (.ifCond .eq 6, 3) := by decide +kernel
theorem dX4_works_112 : decode cX4_works 112 = .ok (.iinc 5 1, 3) := by decide +kernel
theorem dX4_works_115 : decode cX4_works 115 = .ok (.iinc 6 1, 3) := by decide +kernel
theorem dX4_works_118 : decode cX4_works 118 = .ok (.goto (-48), 3) := by decide +kernel
theorem dX4_works_121 : decode cX4_works 121 = .ok (.iload 5, 2) := by decide +kernel
theorem dX4_works_123 : decode cX4_works 123 = .ok (.ireturn, 1) := by decide +kernel
theorem dX4_taken_0 : decode cX4_taken 0 = .ok (.iload_n 2, 1) := by decide +kernel
theorem dX4_taken_1 : decode cX4_taken 1 = .ok (.ifCond .lt 9, 3) := by decide +kernel
theorem dX4_taken_4 : decode cX4_taken 4 = .ok (.iload_n 2, 1) := by decide +kernel
theorem dX4_taken_5 : decode cX4_taken 5 = .ok (.bipush 6, 2) := by decide +kernel
theorem dX4_taken_7 : decode cX4_taken 7 = .ok (.if_icmp .lt 6, 3) := by decide +kernel
theorem dX4_taken_10 : decode cX4_taken 10 = .ok (.bipush (-2), 2) := by decide +kernel
theorem dX4_taken_12 : decode cX4_taken 12 = .ok (.ireturn, 1) := by decide +kernel
theorem dX4_taken_13 : decode cX4_taken 13 = .ok (.iload_n 1, 1) := by decide +kernel
theorem dX4_taken_14 : decode cX4_taken 14 = .ok (.ifCond .lt 14, 3) := by decide +kernel
theorem dX4_taken_17 : decode cX4_taken 17 = .ok (.iload_n 1, 1) := by decide +kernel
theorem dX4_taken_18 : decode cX4_taken 18 = .ok (.aload_n 0, 1) := by decide +kernel
theorem dX4_taken_19 : decode cX4_taken 19 = .ok (.getfield 10, 3) := by decide +kernel
theorem dX4_taken_22 : decode cX4_taken 22 = .ok (.getfield 73, 3) := by decide +kernel
theorem dX4_taken_25 : decode cX4_taken 25 = .ok (.if_icmp .lt 6, 3) := by decide +kernel
theorem dX4_taken_28 : decode cX4_taken 28 = .ok (.bipush (-11), 2) := by decide +kernel
theorem dX4_taken_30 : decode cX4_taken 30 = .ok (.ireturn, 1) := by decide +kernel
theorem dX4_taken_31 : decode cX4_taken 31 = .ok (.aload_n 0, 1) := by decide +kernel
theorem dX4_taken_32 : decode cX4_taken 32 = .ok (.getfield 10, 3) := by decide +kernel
theorem dX4_taken_35 : decode cX4_taken 35 = .ok (.bipush 8, 2) := by decide +kernel
theorem dX4_taken_37 : decode cX4_taken 37 = .ok (.iload_n 1, 1) := by decide +kernel
theorem dX4_taken_38 : decode cX4_taken 38 = .ok (.invokevirtual 61, 3) := by decide +kernel
theorem dX4_taken_41 : decode cX4_taken 41 = .ok (.iload_n 2, 1) := by decide +kernel
theorem dX4_taken_42 : decode cX4_taken 42 = .ok (.invokestatic 237, 3) := by decide +kernel
theorem dX4_taken_45 : decode cX4_taken 45 = .ok (.ifCond .eq 15, 3) := by decide +kernel
theorem dX4_taken_48 : decode cX4_taken 48 = .ok (.aload_n 0, 1) := by decide +kernel
theorem dX4_taken_49 : decode cX4_taken 49 = .ok (.getfield 10, 3) := by decide +kernel
theorem dX4_taken_52 : decode cX4_taken 52 = .ok (.iconst 5, 1) := by decide +kernel
theorem dX4_taken_53 : decode cX4_taken 53 = .ok (.iload_n 1, 1) := by decide +kernel
theorem dX4_taken_54 : decode cX4_taken 54 = .ok (.invokevirtual 61, 3) := by decide +kernel
theorem dX4_taken_57 : decode cX4_taken 57 = .ok (.goto 5, 3) := by decide +kernel
theorem dX4_taken_60 : decode cX4_taken 60 = .ok (.bipush (-13), 2) := by decide +kernel
theorem dX4_taken_62 : decode cX4_taken 62 = .ok (.ireturn, 1) := by decide +kernel
theorem dX4_isCell_0 : decode cX4_isCell 0 = .ok (.iload_n 0, 1) := by decide +kernel
theorem dX4_isCell_1 : decode cX4_isCell 1 = .ok (.ifCond .lt 13, 3) := by decide +kernel
theorem dX4_isCell_4 : decode cX4_isCell 4 = .ok (.iload_n 0, 1) := by decide +kernel
theorem dX4_isCell_5 : decode cX4_isCell 5 = .ok (.bipush 12, 2) := by decide +kernel
theorem dX4_isCell_7 : decode cX4_isCell 7 = .ok (.if_icmp .ge 7, 3) := by decide +kernel
theorem dX4_isCell_10 : decode cX4_isCell 10 = .ok (.iconst 1, 1) := by decide +kernel
theorem dX4_isCell_11 : decode cX4_isCell 11 = .ok (.goto 4, 3) := by decide +kernel
theorem dX4_isCell_14 : decode cX4_isCell 14 = .ok (.iconst 0, 1) := by decide +kernel
theorem dX4_isCell_15 : decode cX4_isCell 15 = .ok (.ireturn, 1) := by decide +kernel
theorem dX4_isWork_0 : decode cX4_isWork 0 = .ok (.iload_n 0, 1) := by decide +kernel
theorem dX4_isWork_1 : decode cX4_isWork 1 = .ok (.ifCond .lt 30, 3) := by decide +kernel
theorem dX4_isWork_4 : decode cX4_isWork 4 = .ok (.iload_n 0, 1) := by decide +kernel
theorem dX4_isWork_5 : decode cX4_isWork 5 = .ok (.bipush 6, 2) := by decide +kernel
theorem dX4_isWork_7 : decode cX4_isWork 7 = .ok (.if_icmp .ge 24, 3) := by decide +kernel
theorem dX4_isWork_10 : decode cX4_isWork 10 = .ok (.iload_n 1, 1) := by decide +kernel
theorem dX4_isWork_11 : decode cX4_isWork 11 = .ok (.ifCond .lt 20, 3) := by decide +kernel
theorem dX4_isWork_14 : decode cX4_isWork 14 = .ok (.iload_n 1, 1) := by decide +kernel
theorem dX4_isWork_15 : decode cX4_isWork 15 = .ok (.bipush 10, 2) := by decide +kernel
theorem dX4_isWork_17 : decode cX4_isWork 17 = .ok (.if_icmp .ge 14, 3) := by decide +kernel
theorem dX4_isWork_20 : decode cX4_isWork 20 = .ok (.iload_n 2, 1) := by decide +kernel
theorem dX4_isWork_21 : decode cX4_isWork 21 = .ok (.invokestatic 107, 3) := by decide +kernel
theorem dX4_isWork_24 : decode cX4_isWork 24 = .ok (.ifCond .eq 7, 3) := by decide +kernel
theorem dX4_isWork_27 : decode cX4_isWork 27 = .ok (.iconst 1, 1) := by decide +kernel
theorem dX4_isWork_28 : decode cX4_isWork 28 = .ok (.goto 4, 3) := by decide +kernel
theorem dX4_isWork_31 : decode cX4_isWork 31 = .ok (.iconst 0, 1) := by decide +kernel
theorem dX4_isWork_32 : decode cX4_isWork 32 = .ok (.ireturn, 1) := by decide +kernel
theorem dX4_areYears_0 : decode cX4_areYears 0 = .ok (.iload_n 0, 1) := by decide +kernel
theorem dX4_areYears_1 : decode cX4_areYears 1 = .ok (.ifCond .lt 13, 3) := by decide +kernel
theorem dX4_areYears_4 : decode cX4_areYears 4 = .ok (.iload_n 0, 1) := by decide +kernel
theorem dX4_areYears_5 : decode cX4_areYears 5 = .ok (.bipush 30, 2) := by decide +kernel
theorem dX4_areYears_7 : decode cX4_areYears 7 = .ok (.if_icmp .gt 7, 3) := by decide +kernel
theorem dX4_areYears_10 : decode cX4_areYears 10 = .ok (.iconst 1, 1) := by decide +kernel
theorem dX4_areYears_11 : decode cX4_areYears 11 = .ok (.goto 4, 3) := by decide +kernel
theorem dX4_areYears_14 : decode cX4_areYears 14 = .ok (.iconst 0, 1) := by decide +kernel
theorem dX4_areYears_15 : decode cX4_areYears 15 = .ok (.ireturn, 1) := by decide +kernel
theorem dX4_isOfRun_0 : decode cX4_isOfRun 0 = .ok (.iload_n 0, 1) := by decide +kernel
theorem dX4_isOfRun_1 : decode cX4_isOfRun 1 = .ok (.ifCond .lt 8, 3) := by decide +kernel
theorem dX4_isOfRun_4 : decode cX4_isOfRun 4 = .ok (.iload_n 0, 1) := by decide +kernel
theorem dX4_isOfRun_5 : decode cX4_isOfRun 5 = .ok (.iconst 4, 1) := by decide +kernel
theorem dX4_isOfRun_6 : decode cX4_isOfRun 6 = .ok (.if_icmp .le 25, 3) := by decide +kernel
theorem dX4_isOfRun_9 : decode cX4_isOfRun 9 = .ok (.iload_n 0, 1) := by decide +kernel
theorem dX4_isOfRun_10 : decode cX4_isOfRun 10 = .ok (.bipush 100, 2) := by decide +kernel
theorem dX4_isOfRun_12 : decode cX4_isOfRun 12 = .ok (.if_icmp .lt 23, 3) := by decide +kernel
theorem dX4_isOfRun_15 : decode cX4_isOfRun 15 = .ok (.iload_n 0, 1) := by decide +kernel
theorem dX4_isOfRun_16 : decode cX4_isOfRun 16 = .ok (.sipush 400, 3) := by decide +kernel
theorem dX4_isOfRun_19 : decode cX4_isOfRun 19 = .ok (.if_icmp .ge 16, 3) := by decide +kernel
theorem dX4_isOfRun_22 : decode cX4_isOfRun 22 = .ok (.iload_n 0, 1) := by decide +kernel
theorem dX4_isOfRun_23 : decode cX4_isOfRun 23 = .ok (.bipush 100, 2) := by decide +kernel
theorem dX4_isOfRun_25 : decode cX4_isOfRun 25 = .ok (.irem, 1) := by decide +kernel
theorem dX4_isOfRun_26 : decode cX4_isOfRun 26 = .ok (.bipush 12, 2) := by decide +kernel
theorem dX4_isOfRun_28 : decode cX4_isOfRun 28 = .ok (.if_icmp .ge 7, 3) := by decide +kernel
theorem dX4_isOfRun_31 : decode cX4_isOfRun 31 = .ok (.iconst 1, 1) := by decide +kernel
theorem dX4_isOfRun_32 : decode cX4_isOfRun 32 = .ok (.goto 4, 3) := by decide +kernel
theorem dX4_isOfRun_35 : decode cX4_isOfRun 35 = .ok (.iconst 0, 1) := by decide +kernel
theorem dX4_isOfRun_36 : decode cX4_isOfRun 36 = .ok (.ireturn, 1) := by decide +kernel
theorem dX4_isOfTells_0 : decode cX4_isOfTells 0 = .ok (.iload_n 1, 1) := by decide +kernel
theorem dX4_isOfTells_1 : decode cX4_isOfTells 1 = .ok (.ifCond .lt 8, 3) := by decide +kernel
theorem dX4_isOfTells_4 : decode cX4_isOfTells 4 = .ok (.iload_n 1, 1) := by decide +kernel
theorem dX4_isOfTells_5 : decode cX4_isOfTells 5 = .ok (.iconst 3, 1) := by decide +kernel
theorem dX4_isOfTells_6 : decode cX4_isOfTells 6 = .ok (.if_icmp .le 29, 3) := by decide +kernel
theorem dX4_isOfTells_9 : decode cX4_isOfTells 9 = .ok (.iload_n 1, 1) := by decide +kernel
theorem dX4_isOfTells_10 : decode cX4_isOfTells 10 = .ok (.bipush 10, 2) := by decide +kernel
theorem dX4_isOfTells_12 : decode cX4_isOfTells 12 = .ok (.if_icmp .lt 27, 3) := by decide +kernel
theorem dX4_isOfTells_15 : decode cX4_isOfTells 15 = .ok (.iload_n 1, 1) := by decide +kernel
theorem dX4_isOfTells_16 : decode cX4_isOfTells 16 = .ok (.bipush 40, 2) := by decide +kernel
theorem dX4_isOfTells_18 : decode cX4_isOfTells 18 = .ok (.if_icmp .ge 21, 3) := by decide +kernel
theorem dX4_isOfTells_21 : decode cX4_isOfTells 21 = .ok (.iload_n 1, 1) := by decide +kernel
theorem dX4_isOfTells_22 : decode cX4_isOfTells 22 = .ok (.bipush 10, 2) := by decide +kernel
theorem dX4_isOfTells_24 : decode cX4_isOfTells 24 = .ok (.irem, 1) := by decide +kernel
theorem dX4_isOfTells_25 : decode cX4_isOfTells 25 = .ok (.aload_n 0, 1) := by decide +kernel
theorem dX4_isOfTells_26 : decode cX4_isOfTells 26 = .ok (.getfield 10, 3) := by decide +kernel
theorem dX4_isOfTells_29 : decode cX4_isOfTells 29 = .ok (.getfield 73, 3) := by decide +kernel
theorem dX4_isOfTells_32 : decode cX4_isOfTells 32 = .ok (.if_icmp .ge 7, 3) := by decide +kernel
theorem dX4_isOfTells_35 : decode cX4_isOfTells 35 = .ok (.iconst 1, 1) := by decide +kernel
theorem dX4_isOfTells_36 : decode cX4_isOfTells 36 = .ok (.goto 4, 3) := by decide +kernel
theorem dX4_isOfTells_39 : decode cX4_isOfTells 39 = .ok (.iconst 0, 1) := by decide +kernel
theorem dX4_isOfTells_40 : decode cX4_isOfTells 40 = .ok (.ireturn, 1) := by decide +kernel
theorem dX4_ruleOf_0 : decode cX4_ruleOf 0 = .ok (.aload_n 1, 1) := by decide +kernel
theorem dX4_ruleOf_1 : decode cX4_ruleOf 1 = .ok (.getfield 104, 3) := by decide +kernel
theorem dX4_ruleOf_4 : decode cX4_ruleOf 4 = .ok (.ifCond .lt 26, 3) := by decide +kernel
theorem dX4_ruleOf_7 : decode cX4_ruleOf 7 = .ok (.aload_n 1, 1) := by decide +kernel
theorem dX4_ruleOf_8 : decode cX4_ruleOf 8 = .ok (.getfield 104, 3) := by decide +kernel
theorem dX4_ruleOf_11 : decode cX4_ruleOf 11 = .ok (.aload_n 0, 1) := by decide +kernel
theorem dX4_ruleOf_12 : decode cX4_ruleOf 12 = .ok (.getfield 31, 3) := by decide +kernel
theorem dX4_ruleOf_15 : decode cX4_ruleOf 15 = .ok (.if_icmp .ge 15, 3) := by decide +kernel
theorem dX4_ruleOf_18 : decode cX4_ruleOf 18 = .ok (.aload_n 0, 1) := by decide +kernel
theorem dX4_ruleOf_19 : decode cX4_ruleOf 19 = .ok (.getfield 24, 3) := by decide +kernel
theorem dX4_ruleOf_22 : decode cX4_ruleOf 22 = .ok (.aload_n 1, 1) := by decide +kernel
theorem dX4_ruleOf_23 : decode cX4_ruleOf 23 = .ok (.getfield 104, 3) := by decide +kernel
theorem dX4_ruleOf_26 : decode cX4_ruleOf 26 = .ok (.aaload, 1) := by decide +kernel
theorem dX4_ruleOf_27 : decode cX4_ruleOf 27 = .ok (.goto 9, 3) := by decide +kernel
theorem dX4_ruleOf_30 : decode cX4_ruleOf 30 = .ok (.aload_n 0, 1) := by decide +kernel
theorem dX4_ruleOf_31 : decode cX4_ruleOf 31 = .ok (.getfield 24, 3) := by decide +kernel
theorem dX4_ruleOf_34 : decode cX4_ruleOf 34 = .ok (.iconst 0, 1) := by decide +kernel
theorem dX4_ruleOf_35 : decode cX4_ruleOf 35 = .ok (.aaload, 1) := by decide +kernel
theorem dX4_ruleOf_36 : decode cX4_ruleOf 36 = .ok (.areturn, 1) := by decide +kernel
theorem dX4_think_0 : decode cX4_think 0 = .ok (.aload_n 0, 1) := by decide +kernel
theorem dX4_think_1 : decode cX4_think 1 = .ok (.getfield 16, 3) := by decide +kernel
theorem dX4_think_4 : decode cX4_think 4 = .ok (.aload_n 0, 1) := by decide +kernel
theorem dX4_think_5 : decode cX4_think 5 = .ok (.getfield 10, 3) := by decide +kernel
theorem dX4_think_8 : decode cX4_think 8 = .ok (.invokevirtual 207, 3) := by decide +kernel
theorem dX4_think_11 : decode cX4_think 11 = .ok (.return_, 1) := by decide +kernel
theorem dX4_thinkYears_0 : decode cX4_thinkYears 0 = .ok (.aload_n 0, 1) := by decide +kernel
theorem dX4_thinkYears_1 : decode cX4_thinkYears 1 = .ok (.invokevirtual 154, 3) := by decide +kernel
theorem dX4_thinkYears_4 : decode cX4_thinkYears 4 = .ok (.iconst 0, 1) := by decide +kernel
theorem dX4_thinkYears_5 : decode cX4_thinkYears 5 = .ok (.istore_n 2, 1) := by decide +kernel
theorem dX4_thinkYears_6 : decode cX4_thinkYears 6 = .ok (.iload_n 2, 1) := by decide +kernel
theorem dX4_thinkYears_7 : decode cX4_thinkYears 7 = .ok (.iload_n 1, 1) := by decide +kernel
theorem dX4_thinkYears_8 : decode cX4_thinkYears 8 = .ok (.if_icmp .ge 46, 3) := by decide +kernel
theorem dX4_thinkYears_11 : decode cX4_thinkYears 11 = .ok (.iload_n 2, 1) := by decide +kernel
theorem dX4_thinkYears_12 : decode cX4_thinkYears 12 = .ok (.aload_n 0, 1) := by decide +kernel
theorem dX4_thinkYears_13 : decode cX4_thinkYears 13 = .ok (.getfield 49, 3) := by decide +kernel
theorem dX4_thinkYears_16 : decode cX4_thinkYears 16 = .ok (.arraylength, 1) := by decide +kernel
theorem dX4_thinkYears_17 : decode cX4_thinkYears 17 = .ok (.if_icmp .ge 37, 3) := by decide +kernel
theorem dX4_thinkYears_20 : decode cX4_thinkYears 20 = .ok (.aload_n 0, 1) := by decide +kernel
theorem dX4_thinkYears_21 : decode cX4_thinkYears 21 = .ok (.getfield 16, 3) := by decide +kernel
theorem dX4_thinkYears_24 : decode cX4_thinkYears 24 = .ok (.aload_n 0, 1) := by decide +kernel
theorem dX4_thinkYears_25 : decode cX4_thinkYears 25 = .ok (.aload_n 0, 1) := by decide +kernel
theorem dX4_thinkYears_26 : decode cX4_thinkYears 26 = .ok (.getfield 16, 3) := by decide +kernel
theorem dX4_thinkYears_29 : decode cX4_thinkYears 29 = .ok (.invokevirtual 82, 3) := by decide +kernel
theorem dX4_thinkYears_32 : decode cX4_thinkYears 32 = .ok (.invokevirtual 117, 3) := by decide +kernel
theorem dX4_thinkYears_35 : decode cX4_thinkYears 35 = .ok (.aload_n 0, 1) := by decide +kernel
theorem dX4_thinkYears_36 : decode cX4_thinkYears 36 = .ok (.getfield 49, 3) := by decide +kernel
theorem dX4_thinkYears_39 : decode cX4_thinkYears 39 = .ok (.iload_n 2, 1) := by decide +kernel
theorem dX4_thinkYears_40 : decode cX4_thinkYears 40 = .ok (.aload_n 0, 1) := by decide +kernel
theorem dX4_thinkYears_41 : decode cX4_thinkYears 41 = .ok (.getfield 16, 3) := by decide +kernel
theorem dX4_thinkYears_44 : decode cX4_thinkYears 44 = .ok (.invokevirtual 121, 3) := by decide +kernel
theorem dX4_thinkYears_47 : decode cX4_thinkYears 47 = .ok (.iastore, 1) := by decide +kernel
theorem dX4_thinkYears_48 : decode cX4_thinkYears 48 = .ok (.iinc 2 1, 3) := by decide +kernel
theorem dX4_thinkYears_51 : decode cX4_thinkYears 51 = .ok (.goto (-45), 3) := by decide +kernel
theorem dX4_thinkYears_54 : decode cX4_thinkYears 54 = .ok (.return_, 1) := by decide +kernel
end
section
theorem dX4_dryBehind_0 : decode cX4_dryBehind 0 = .ok (.iconst 0, 1) := by decide +kernel
theorem dX4_dryBehind_1 : decode cX4_dryBehind 1 = .ok (.istore_n 2, 1) := by decide +kernel
theorem dX4_dryBehind_2 : decode cX4_dryBehind 2 = .ok (.iload_n 2, 1) := by decide +kernel
theorem dX4_dryBehind_3 : decode cX4_dryBehind 3 = .ok (.iload_n 1, 1) := by decide +kernel
theorem dX4_dryBehind_4 : decode cX4_dryBehind 4 = .ok (.if_icmp .ge 24, 3) := by decide +kernel
theorem dX4_dryBehind_7 : decode cX4_dryBehind 7 = .ok (.aload_n 0, 1) := by decide +kernel
theorem dX4_dryBehind_8 : decode cX4_dryBehind 8 = .ok (.getfield 16, 3) := by decide +kernel
theorem dX4_dryBehind_11 : decode cX4_dryBehind 11 = .ok (.aload_n 0, 1) := by decide +kernel
theorem dX4_dryBehind_12 : decode cX4_dryBehind 12 = .ok (.aload_n 0, 1) := by decide +kernel
theorem dX4_dryBehind_13 : decode cX4_dryBehind 13 = .ok (.getfield 16, 3) := by decide +kernel
theorem dX4_dryBehind_16 : decode cX4_dryBehind 16 = .ok (.invokevirtual 82, 3) := by decide +kernel
theorem dX4_dryBehind_19 : decode cX4_dryBehind 19 = .ok (.invokevirtual 117, 3) := by decide +kernel
theorem dX4_dryBehind_22 : decode cX4_dryBehind 22 = .ok (.iinc 2 1, 3) := by decide +kernel
theorem dX4_dryBehind_25 : decode cX4_dryBehind 25 = .ok (.goto (-23), 3) := by decide +kernel
theorem dX4_dryBehind_28 : decode cX4_dryBehind 28 = .ok (.aload_n 0, 1) := by decide +kernel
theorem dX4_dryBehind_29 : decode cX4_dryBehind 29 = .ok (.getfield 16, 3) := by decide +kernel
theorem dX4_dryBehind_32 : decode cX4_dryBehind 32 = .ok (.invokevirtual 121, 3) := by decide +kernel
theorem dX4_dryBehind_35 : decode cX4_dryBehind 35 = .ok (.ireturn, 1) := by decide +kernel
theorem dX4_dryWithout_0 : decode cX4_dryWithout 0 = .ok (.aload_n 0, 1) := by decide +kernel
theorem dX4_dryWithout_1 : decode cX4_dryWithout 1 = .ok (.invokevirtual 154, 3) := by decide +kernel
theorem dX4_dryWithout_4 : decode cX4_dryWithout 4 = .ok (.aload_n 0, 1) := by decide +kernel
theorem dX4_dryWithout_5 : decode cX4_dryWithout 5 = .ok (.getfield 16, 3) := by decide +kernel
theorem dX4_dryWithout_8 : decode cX4_dryWithout 8 = .ok (.bipush 7, 2) := by decide +kernel
theorem dX4_dryWithout_10 : decode cX4_dryWithout 10 = .ok (.iload_n 1, 1) := by decide +kernel
theorem dX4_dryWithout_11 : decode cX4_dryWithout 11 = .ok (.iconst 0, 1) := by decide +kernel
theorem dX4_dryWithout_12 : decode cX4_dryWithout 12 = .ok (.invokevirtual 65, 3) := by decide +kernel
theorem dX4_dryWithout_15 : decode cX4_dryWithout 15 = .ok (.aload_n 0, 1) := by decide +kernel
theorem dX4_dryWithout_16 : decode cX4_dryWithout 16 = .ok (.iload_n 2, 1) := by decide +kernel
theorem dX4_dryWithout_17 : decode cX4_dryWithout 17 = .ok (.invokevirtual 157, 3) := by decide +kernel
theorem dX4_dryWithout_20 : decode cX4_dryWithout 20 = .ok (.ireturn, 1) := by decide +kernel
theorem dX4_dryDrawn_0 : decode cX4_dryDrawn 0 = .ok (.aload_n 0, 1) := by decide +kernel
theorem dX4_dryDrawn_1 : decode cX4_dryDrawn 1 = .ok (.invokevirtual 154, 3) := by decide +kernel
theorem dX4_dryDrawn_4 : decode cX4_dryDrawn 4 = .ok (.iload_n 1, 1) := by decide +kernel
theorem dX4_dryDrawn_5 : decode cX4_dryDrawn 5 = .ok (.istore_n 3, 1) := by decide +kernel
theorem dX4_dryDrawn_6 : decode cX4_dryDrawn 6 = .ok (.iconst 0, 1) := by decide +kernel
theorem dX4_dryDrawn_7 : decode cX4_dryDrawn 7 = .ok (.istore 4, 2) := by decide +kernel
theorem dX4_dryDrawn_9 : decode cX4_dryDrawn 9 = .ok (.iload 4, 2) := by decide +kernel
theorem dX4_dryDrawn_11 : decode cX4_dryDrawn 11 = .ok (.iload_n 2, 1) := by decide +kernel
theorem dX4_dryDrawn_12 : decode cX4_dryDrawn 12 = .ok (.if_icmp .ge 47, 3) := by decide +kernel
theorem dX4_dryDrawn_15 : decode cX4_dryDrawn 15 = .ok (.iload_n 3, 1) := by decide +kernel
theorem dX4_dryDrawn_16 : decode cX4_dryDrawn 16 = .ok (.ldc 240, 2) := by decide +kernel
theorem dX4_dryDrawn_18 : decode cX4_dryDrawn 18 = .ok (.imul, 1) := by decide +kernel
theorem dX4_dryDrawn_19 : decode cX4_dryDrawn 19 = .ok (.sipush 12345, 3) := by decide +kernel
theorem dX4_dryDrawn_22 : decode cX4_dryDrawn 22 = .ok (.iadd, 1) := by decide +kernel
theorem dX4_dryDrawn_23 : decode cX4_dryDrawn 23 = .ok (.istore_n 3, 1) := by decide +kernel
theorem dX4_dryDrawn_24 : decode cX4_dryDrawn 24 = .ok (.aload_n 0, 1) := by decide +kernel
theorem dX4_dryDrawn_25 : decode cX4_dryDrawn 25 = .ok (.getfield 16, 3) := by decide +kernel
theorem dX4_dryDrawn_28 : decode cX4_dryDrawn 28 = .ok (.iload_n 3, 1) := by decide +kernel
theorem dX4_dryDrawn_29 : decode cX4_dryDrawn 29 = .ok (.bipush 9, 2) := by decide +kernel
theorem dX4_dryDrawn_31 : decode cX4_dryDrawn 31 = .ok (.iushr, 1) := by decide +kernel
theorem dX4_dryDrawn_32 : decode cX4_dryDrawn 32 = .ok (.bipush 10, 2) := by decide +kernel
theorem dX4_dryDrawn_34 : decode cX4_dryDrawn 34 = .ok (.irem, 1) := by decide +kernel
theorem dX4_dryDrawn_35 : decode cX4_dryDrawn 35 = .ok (.invokevirtual 241, 3) := by decide +kernel
theorem dX4_dryDrawn_38 : decode cX4_dryDrawn 38 = .ok (.aload_n 0, 1) := by decide +kernel
theorem dX4_dryDrawn_39 : decode cX4_dryDrawn 39 = .ok (.getfield 16, 3) := by decide +kernel
theorem dX4_dryDrawn_42 : decode cX4_dryDrawn 42 = .ok (.aload_n 0, 1) := by decide +kernel
theorem dX4_dryDrawn_43 : decode cX4_dryDrawn 43 = .ok (.aload_n 0, 1) := by decide +kernel
theorem dX4_dryDrawn_44 : decode cX4_dryDrawn 44 = .ok (.getfield 16, 3) := by decide +kernel
theorem dX4_dryDrawn_47 : decode cX4_dryDrawn 47 = .ok (.invokevirtual 82, 3) := by decide +kernel
theorem dX4_dryDrawn_50 : decode cX4_dryDrawn 50 = .ok (.invokevirtual 117, 3) := by decide +kernel
theorem dX4_dryDrawn_53 : decode cX4_dryDrawn 53 = .ok (.iinc 4 1, 3) := by decide +kernel
theorem dX4_dryDrawn_56 : decode cX4_dryDrawn 56 = .ok (.goto (-47), 3) := by decide +kernel
theorem dX4_dryDrawn_59 : decode cX4_dryDrawn 59 = .ok (.aload_n 0, 1) := by decide +kernel
theorem dX4_dryDrawn_60 : decode cX4_dryDrawn 60 = .ok (.getfield 16, 3) := by decide +kernel
theorem dX4_dryDrawn_63 : decode cX4_dryDrawn 63 = .ok (.invokevirtual 121, 3) := by decide +kernel
theorem dX4_dryDrawn_66 : decode cX4_dryDrawn 66 = .ok (.invokestatic 124, 3) := by decide +kernel
theorem dX4_dryDrawn_69 : decode cX4_dryDrawn 69 = .ok (.ireturn, 1) := by decide +kernel
theorem dX4_firstDried_0 : decode cX4_firstDried 0 = .ok (.iconst 0, 1) := by decide +kernel
theorem dX4_firstDried_1 : decode cX4_firstDried 1 = .ok (.istore_n 3, 1) := by decide +kernel
theorem dX4_firstDried_2 : decode cX4_firstDried 2 = .ok (.iload_n 3, 1) := by decide +kernel
theorem dX4_firstDried_3 : decode cX4_firstDried 3 = .ok (.iload_n 1, 1) := by decide +kernel
theorem dX4_firstDried_4 : decode cX4_firstDried 4 = .ok (.if_icmp .ge 33, 3) := by decide +kernel
theorem dX4_firstDried_7 : decode cX4_firstDried 7 = .ok (.iload_n 3, 1) := by decide +kernel
theorem dX4_firstDried_8 : decode cX4_firstDried 8 = .ok (.aload_n 0, 1) := by decide +kernel
theorem dX4_firstDried_9 : decode cX4_firstDried 9 = .ok (.getfield 49, 3) := by decide +kernel
theorem dX4_firstDried_12 : decode cX4_firstDried 12 = .ok (.arraylength, 1) := by decide +kernel
theorem dX4_firstDried_13 : decode cX4_firstDried 13 = .ok (.if_icmp .ge 24, 3) := by decide +kernel
theorem dX4_firstDried_16 : decode cX4_firstDried 16 = .ok (.aload_n 0, 1) := by decide +kernel
theorem dX4_firstDried_17 : decode cX4_firstDried 17 = .ok (.getfield 49, 3) := by decide +kernel
theorem dX4_firstDried_20 : decode cX4_firstDried 20 = .ok (.iload_n 3, 1) := by decide +kernel
theorem dX4_firstDried_21 : decode cX4_firstDried 21 = .ok (.iaload, 1) := by decide +kernel
theorem dX4_firstDried_22 : decode cX4_firstDried 22 = .ok (.invokestatic 124, 3) := by decide +kernel
theorem dX4_firstDried_25 : decode cX4_firstDried 25 = .ok (.iload_n 2, 1) := by decide +kernel
theorem dX4_firstDried_26 : decode cX4_firstDried 26 = .ok (.if_icmp .lt 5, 3) := by decide +kernel
theorem dX4_firstDried_29 : decode cX4_firstDried 29 = .ok (.iload_n 3, 1) := by decide +kernel
theorem dX4_firstDried_30 : decode cX4_firstDried 30 = .ok (.ireturn, 1) := by decide +kernel
theorem dX4_firstDried_31 : decode cX4_firstDried 31 = .ok (.iinc 3 1, 3) := by decide +kernel
theorem dX4_firstDried_34 : decode cX4_firstDried 34 = .ok (.goto (-32), 3) := by decide +kernel
theorem dX4_firstDried_37 : decode cX4_firstDried 37 = .ok (.iconst (-1), 1) := by decide +kernel
theorem dX4_firstDried_38 : decode cX4_firstDried 38 = .ok (.ireturn, 1) := by decide +kernel
theorem dX4_mostDry_0 : decode cX4_mostDry 0 = .ok (.iconst 0, 1) := by decide +kernel
theorem dX4_mostDry_1 : decode cX4_mostDry 1 = .ok (.istore_n 2, 1) := by decide +kernel
theorem dX4_mostDry_2 : decode cX4_mostDry 2 = .ok (.iconst 0, 1) := by decide +kernel
theorem dX4_mostDry_3 : decode cX4_mostDry 3 = .ok (.istore_n 3, 1) := by decide +kernel
theorem dX4_mostDry_4 : decode cX4_mostDry 4 = .ok (.iload_n 3, 1) := by decide +kernel
theorem dX4_mostDry_5 : decode cX4_mostDry 5 = .ok (.iload_n 1, 1) := by decide +kernel
theorem dX4_mostDry_6 : decode cX4_mostDry 6 = .ok (.if_icmp .ge 32, 3) := by decide +kernel
theorem dX4_mostDry_9 : decode cX4_mostDry 9 = .ok (.iload_n 3, 1) := by decide +kernel
theorem dX4_mostDry_10 : decode cX4_mostDry 10 = .ok (.aload_n 0, 1) := by decide +kernel
theorem dX4_mostDry_11 : decode cX4_mostDry 11 = .ok (.getfield 49, 3) := by decide +kernel
theorem dX4_mostDry_14 : decode cX4_mostDry 14 = .ok (.arraylength, 1) := by decide +kernel
theorem dX4_mostDry_15 : decode cX4_mostDry 15 = .ok (.if_icmp .ge 23, 3) := by decide +kernel
theorem dX4_mostDry_18 : decode cX4_mostDry 18 = .ok (.iload_n 2, 1) := by decide +kernel
theorem dX4_mostDry_19 : decode cX4_mostDry 19 = .ok (.aload_n 0, 1) := by decide +kernel
theorem dX4_mostDry_20 : decode cX4_mostDry 20 = .ok (.getfield 49, 3) := by decide +kernel
theorem dX4_mostDry_23 : decode cX4_mostDry 23 = .ok (.iload_n 3, 1) := by decide +kernel
theorem dX4_mostDry_24 : decode cX4_mostDry 24 = .ok (.iaload, 1) := by decide +kernel
theorem dX4_mostDry_25 : decode cX4_mostDry 25 = .ok (.invokestatic 124, 3) := by decide +kernel
theorem dX4_mostDry_28 : decode cX4_mostDry 28 = .ok (.invokestatic 244, 3) := by decide +kernel
theorem dX4_mostDry_31 : decode cX4_mostDry 31 = .ok (.istore_n 2, 1) := by decide +kernel
theorem dX4_mostDry_32 : decode cX4_mostDry 32 = .ok (.iinc 3 1, 3) := by decide +kernel
theorem dX4_mostDry_35 : decode cX4_mostDry 35 = .ok (.goto (-31), 3) := by decide +kernel
theorem dX4_mostDry_38 : decode cX4_mostDry 38 = .ok (.iload_n 2, 1) := by decide +kernel
theorem dX4_mostDry_39 : decode cX4_mostDry 39 = .ok (.ireturn, 1) := by decide +kernel
theorem dX4_judged_0 : decode cX4_judged 0 = .ok (.aload_n 0, 1) := by decide +kernel
theorem dX4_judged_1 : decode cX4_judged 1 = .ok (.iload_n 1, 1) := by decide +kernel
theorem dX4_judged_2 : decode cX4_judged 2 = .ok (.aload_n 0, 1) := by decide +kernel
theorem dX4_judged_3 : decode cX4_judged 3 = .ok (.iload_n 1, 1) := by decide +kernel
theorem dX4_judged_4 : decode cX4_judged 4 = .ok (.invokevirtual 145, 3) := by decide +kernel
theorem dX4_judged_7 : decode cX4_judged 7 = .ok (.invokevirtual 151, 3) := by decide +kernel
theorem dX4_judged_10 : decode cX4_judged 10 = .ok (.ireturn, 1) := by decide +kernel
theorem dX4_keptYears_0 : decode cX4_keptYears 0 = .ok (.iconst 0, 1) := by decide +kernel
theorem dX4_keptYears_1 : decode cX4_keptYears 1 = .ok (.istore_n 2, 1) := by decide +kernel
theorem dX4_keptYears_2 : decode cX4_keptYears 2 = .ok (.iconst 0, 1) := by decide +kernel
theorem dX4_keptYears_3 : decode cX4_keptYears 3 = .ok (.istore_n 3, 1) := by decide +kernel
theorem dX4_keptYears_4 : decode cX4_keptYears 4 = .ok (.iconst 0, 1) := by decide +kernel
theorem dX4_keptYears_5 : decode cX4_keptYears 5 = .ok (.istore 4, 2) := by decide +kernel
theorem dX4_keptYears_7 : decode cX4_keptYears 7 = .ok (.iload 4, 2) := by decide +kernel
theorem dX4_keptYears_9 : decode cX4_keptYears 9 = .ok (.iload_n 1, 1) := by decide +kernel
theorem dX4_keptYears_10 : decode cX4_keptYears 10 = .ok (.if_icmp .ge 43, 3) := by decide +kernel
theorem dX4_keptYears_13 : decode cX4_keptYears 13 = .ok (.iload 4, 2) := by decide +kernel
theorem dX4_keptYears_15 : decode cX4_keptYears 15 = .ok (.aload_n 0, 1) := by decide +kernel
theorem dX4_keptYears_16 : decode cX4_keptYears 16 = .ok (.getfield 49, 3) := by decide +kernel
theorem dX4_keptYears_19 : decode cX4_keptYears 19 = .ok (.arraylength, 1) := by decide +kernel
theorem dX4_keptYears_20 : decode cX4_keptYears 20 = .ok (.if_icmp .ge 33, 3) := by decide +kernel
theorem dX4_keptYears_23 : decode cX4_keptYears 23 = .ok (.aload_n 0, 1) := by decide +kernel
theorem dX4_keptYears_24 : decode cX4_keptYears 24 = .ok (.getfield 49, 3) := by decide +kernel
theorem dX4_keptYears_27 : decode cX4_keptYears 27 = .ok (.iload 4, 2) := by decide +kernel
theorem dX4_keptYears_29 : decode cX4_keptYears 29 = .ok (.iaload, 1) := by decide +kernel
theorem dX4_keptYears_30 : decode cX4_keptYears 30 = .ok (.invokestatic 124, 3) := by decide +kernel
theorem dX4_keptYears_33 : decode cX4_keptYears 33 = .ok (.istore 5, 2) := by decide +kernel
theorem dX4_keptYears_35 : decode cX4_keptYears 35 = .ok (.iload 5, 2) := by decide +kernel
theorem dX4_keptYears_37 : decode cX4_keptYears 37 = .ok (.iload_n 3, 1) := by decide +kernel
theorem dX4_keptYears_38 : decode cX4_keptYears 38 = .ok (.if_icmp .lt 9, 3) := by decide +kernel
theorem dX4_keptYears_41 : decode cX4_keptYears 41 = .ok (.iinc 2 1, 3) := by decide +kernel
theorem dX4_keptYears_44 : decode cX4_keptYears 44 = .ok (.iload 5, 2) := by decide +kernel
theorem dX4_keptYears_46 : decode cX4_keptYears 46 = .ok (.istore_n 3, 1) := by decide +kernel
theorem dX4_keptYears_47 : decode cX4_keptYears 47 = .ok (.iinc 4 1, 3) := by decide +kernel
theorem dX4_keptYears_50 : decode cX4_keptYears 50 = .ok (.goto (-43), 3) := by decide +kernel
theorem dX4_keptYears_53 : decode cX4_keptYears 53 = .ok (.iload_n 2, 1) := by decide +kernel
theorem dX4_keptYears_54 : decode cX4_keptYears 54 = .ok (.ireturn, 1) := by decide +kernel
theorem dX4_toldOfWork_0 : decode cX4_toldOfWork 0 = .ok (.iload_n 0, 1) := by decide +kernel
theorem dX4_toldOfWork_1 : decode cX4_toldOfWork 1 = .ok (.bipush 10, 2) := by decide +kernel
theorem dX4_toldOfWork_3 : decode cX4_toldOfWork 3 = .ok (.idiv, 1) := by decide +kernel
theorem dX4_toldOfWork_4 : decode cX4_toldOfWork 4 = .ok (.lookupswitch 33 #[(1, 28), (2, 31)], 28) := by decide +kernel
theorem dX4_toldOfWork_32 : decode cX4_toldOfWork 32 = .ok (.bipush 8, 2) := by decide +kernel
theorem dX4_toldOfWork_34 : decode cX4_toldOfWork 34 = .ok (.ireturn, 1) := by decide +kernel
theorem dX4_toldOfWork_35 : decode cX4_toldOfWork 35 = .ok (.iconst 5, 1) := by decide +kernel
theorem dX4_toldOfWork_36 : decode cX4_toldOfWork 36 = .ok (.ireturn, 1) := by decide +kernel
theorem dX4_toldOfWork_37 : decode cX4_toldOfWork 37 = .ok (.bipush 6, 2) := by decide +kernel
theorem dX4_toldOfWork_39 : decode cX4_toldOfWork 39 = .ok (.ireturn, 1) := by decide +kernel
theorem dX4_firstOther_0 : decode cX4_firstOther 0 = .ok (.aload_n 0, 1) := by decide +kernel
theorem dX4_firstOther_1 : decode cX4_firstOther 1 = .ok (.invokevirtual 154, 3) := by decide +kernel
theorem dX4_firstOther_4 : decode cX4_firstOther 4 = .ok (.aload_n 0, 1) := by decide +kernel
theorem dX4_firstOther_5 : decode cX4_firstOther 5 = .ok (.getfield 16, 3) := by decide +kernel
theorem dX4_firstOther_8 : decode cX4_firstOther 8 = .ok (.iload_n 2, 1) := by decide +kernel
theorem dX4_firstOther_9 : decode cX4_firstOther 9 = .ok (.iload_n 3, 1) := by decide +kernel
theorem dX4_firstOther_10 : decode cX4_firstOther 10 = .ok (.iload 4, 2) := by decide +kernel
theorem dX4_firstOther_12 : decode cX4_firstOther 12 = .ok (.invokevirtual 65, 3) := by decide +kernel
theorem dX4_firstOther_15 : decode cX4_firstOther 15 = .ok (.aload_n 0, 1) := by decide +kernel
theorem dX4_firstOther_16 : decode cX4_firstOther 16 = .ok (.getfield 45, 3) := by decide +kernel
theorem dX4_firstOther_19 : decode cX4_firstOther 19 = .ok (.iload_n 1, 1) := by decide +kernel
theorem dX4_firstOther_20 : decode cX4_firstOther 20 = .ok (.invokevirtual 177, 3) := by decide +kernel
theorem dX4_firstOther_23 : decode cX4_firstOther 23 = .ok (.istore 5, 2) := by decide +kernel
theorem dX4_firstOther_25 : decode cX4_firstOther 25 = .ok (.iconst 0, 1) := by decide +kernel
theorem dX4_firstOther_26 : decode cX4_firstOther 26 = .ok (.istore 6, 2) := by decide +kernel
theorem dX4_firstOther_28 : decode cX4_firstOther 28 = .ok (.iload 6, 2) := by decide +kernel
theorem dX4_firstOther_30 : decode cX4_firstOther 30 = .ok (.iload 5, 2) := by decide +kernel
theorem dX4_firstOther_32 : decode cX4_firstOther 32 = .ok (.if_icmp .ge 47, 3) := by decide +kernel
theorem dX4_firstOther_35 : decode cX4_firstOther 35 = .ok (.aload_n 0, 1) := by decide +kernel
theorem dX4_firstOther_36 : decode cX4_firstOther 36 = .ok (.getfield 16, 3) := by decide +kernel
theorem dX4_firstOther_39 : decode cX4_firstOther 39 = .ok (.aload_n 0, 1) := by decide +kernel
theorem dX4_firstOther_40 : decode cX4_firstOther 40 = .ok (.aload_n 0, 1) := by decide +kernel
theorem dX4_firstOther_41 : decode cX4_firstOther 41 = .ok (.getfield 16, 3) := by decide +kernel
theorem dX4_firstOther_44 : decode cX4_firstOther 44 = .ok (.invokevirtual 82, 3) := by decide +kernel
theorem dX4_firstOther_47 : decode cX4_firstOther 47 = .ok (.invokevirtual 117, 3) := by decide +kernel
theorem dX4_firstOther_50 : decode cX4_firstOther 50 = .ok (.aload_n 0, 1) := by decide +kernel
theorem dX4_firstOther_51 : decode cX4_firstOther 51 = .ok (.getfield 16, 3) := by decide +kernel
theorem dX4_firstOther_54 : decode cX4_firstOther 54 = .ok (.invokevirtual 121, 3) := by decide +kernel
theorem dX4_firstOther_57 : decode cX4_firstOther 57 = .ok (.aload_n 0, 1) := by decide +kernel
theorem dX4_firstOther_58 : decode cX4_firstOther 58 = .ok (.getfield 45, 3) := by decide +kernel
theorem dX4_firstOther_61 : decode cX4_firstOther 61 = .ok (.iload_n 1, 1) := by decide +kernel
theorem dX4_firstOther_62 : decode cX4_firstOther 62 = .ok (.iload 6, 2) := by decide +kernel
theorem dX4_firstOther_64 : decode cX4_firstOther 64 = .ok (.invokevirtual 249, 3) := by decide +kernel
theorem dX4_firstOther_67 : decode cX4_firstOther 67 = .ok (.if_icmp .eq 6, 3) := by decide +kernel
theorem dX4_firstOther_70 : decode cX4_firstOther 70 = .ok (.iload 6, 2) := by decide +kernel
theorem dX4_firstOther_72 : decode cX4_firstOther 72 = .ok (.ireturn, 1) := by decide +kernel
theorem dX4_firstOther_73 : decode cX4_firstOther 73 = .ok (.iinc 6 1, 3) := by decide +kernel
theorem dX4_firstOther_76 : decode cX4_firstOther 76 = .ok (.goto (-48), 3) := by decide +kernel
theorem dX4_firstOther_79 : decode cX4_firstOther 79 = .ok (.iconst (-1), 1) := by decide +kernel
theorem dX4_firstOther_80 : decode cX4_firstOther 80 = .ok (.ireturn, 1) := by decide +kernel
theorem dX4_fitting_0 : decode cX4_fitting 0 = .ok (.iconst 0, 1) := by decide +kernel
theorem dX4_fitting_1 : decode cX4_fitting 1 = .ok (.istore 5, 2) := by decide +kernel
theorem dX4_fitting_3 : decode cX4_fitting 3 = .ok (.iconst 0, 1) := by decide +kernel
theorem dX4_fitting_4 : decode cX4_fitting 4 = .ok (.istore 6, 2) := by decide +kernel
theorem dX4_fitting_6 : decode cX4_fitting 6 = .ok (.iload 6, 2) := by decide +kernel
theorem dX4_fitting_8 : decode cX4_fitting 8 = .ok (.iload 4, 2) := by decide +kernel
theorem dX4_fitting_10 : decode cX4_fitting 10 = .ok (.if_icmp .ge 31, 3) := by decide +kernel
theorem dX4_fitting_13 : decode cX4_fitting 13 = .ok (.aload_n 0, 1) := by decide +kernel
theorem dX4_fitting_14 : decode cX4_fitting 14 = .ok (.iload_n 1, 1) := by decide +kernel
theorem dX4_fitting_15 : decode cX4_fitting 15 = .ok (.iload_n 2, 1) := by decide +kernel
theorem dX4_fitting_16 : decode cX4_fitting 16 = .ok (.iload_n 3, 1) := by decide +kernel
theorem dX4_fitting_17 : decode cX4_fitting 17 = .ok (.iload 6, 2) := by decide +kernel
theorem dX4_fitting_19 : decode cX4_fitting 19 = .ok (.invokevirtual 179, 3) := by decide +kernel
theorem dX4_fitting_22 : decode cX4_fitting 22 = .ok (.iconst (-1), 1) := by decide +kernel
theorem dX4_fitting_23 : decode cX4_fitting 23 = .ok (.if_icmp .ne 12, 3) := by decide +kernel
theorem dX4_fitting_26 : decode cX4_fitting 26 = .ok (.iload 5, 2) := by decide +kernel
theorem dX4_fitting_28 : decode cX4_fitting 28 = .ok (.iconst 1, 1) := by decide +kernel
theorem dX4_fitting_29 : decode cX4_fitting 29 = .ok (.iload 6, 2) := by decide +kernel
theorem dX4_fitting_31 : decode cX4_fitting 31 = .ok (.ishl, 1) := by decide +kernel
theorem dX4_fitting_32 : decode cX4_fitting 32 = .ok (.ior, 1) := by decide +kernel
theorem dX4_fitting_33 : decode cX4_fitting 33 = .ok (.istore 5, 2) := by decide +kernel
theorem dX4_fitting_35 : decode cX4_fitting 35 = .ok (.iinc 6 1, 3) := by decide +kernel
theorem dX4_fitting_38 : decode cX4_fitting 38 = .ok (.goto (-32), 3) := by decide +kernel
theorem dX4_fitting_41 : decode cX4_fitting 41 = .ok (.iload 5, 2) := by decide +kernel
theorem dX4_fitting_43 : decode cX4_fitting 43 = .ok (.ireturn, 1) := by decide +kernel
theorem dX4_fittingRivers_0 : decode cX4_fittingRivers 0 = .ok (.iconst 0, 1) := by decide +kernel
theorem dX4_fittingRivers_1 : decode cX4_fittingRivers 1 = .ok (.istore_n 2, 1) := by decide +kernel
theorem dX4_fittingRivers_2 : decode cX4_fittingRivers 2 = .ok (.iconst 0, 1) := by decide +kernel
theorem dX4_fittingRivers_3 : decode cX4_fittingRivers 3 = .ok (.istore_n 3, 1) := by decide +kernel
theorem dX4_fittingRivers_4 : decode cX4_fittingRivers 4 = .ok (.iload_n 3, 1) := by decide +kernel
theorem dX4_fittingRivers_5 : decode cX4_fittingRivers 5 = .ok (.bipush 100, 2) := by decide +kernel
theorem dX4_fittingRivers_7 : decode cX4_fittingRivers 7 = .ok (.if_icmp .ge 24, 3) := by decide +kernel
theorem dX4_fittingRivers_10 : decode cX4_fittingRivers 10 = .ok (.aload_n 0, 1) := by decide +kernel
theorem dX4_fittingRivers_11 : decode cX4_fittingRivers 11 = .ok (.iload_n 1, 1) := by decide +kernel
theorem dX4_fittingRivers_12 : decode cX4_fittingRivers 12 = .ok (.iconst 0, 1) := by decide +kernel
theorem dX4_fittingRivers_13 : decode cX4_fittingRivers 13 = .ok (.iconst 0, 1) := by decide +kernel
theorem dX4_fittingRivers_14 : decode cX4_fittingRivers 14 = .ok (.iload_n 3, 1) := by decide +kernel
theorem dX4_fittingRivers_15 : decode cX4_fittingRivers 15 = .ok (.invokevirtual 179, 3) := by decide +kernel
theorem dX4_fittingRivers_18 : decode cX4_fittingRivers 18 = .ok (.iconst (-1), 1) := by decide +kernel
theorem dX4_fittingRivers_19 : decode cX4_fittingRivers 19 = .ok (.if_icmp .ne 6, 3) := by decide +kernel
theorem dX4_fittingRivers_22 : decode cX4_fittingRivers 22 = .ok (.iinc 2 1, 3) := by decide +kernel
theorem dX4_fittingRivers_25 : decode cX4_fittingRivers 25 = .ok (.iinc 3 1, 3) := by decide +kernel
theorem dX4_fittingRivers_28 : decode cX4_fittingRivers 28 = .ok (.goto (-24), 3) := by decide +kernel
theorem dX4_fittingRivers_31 : decode cX4_fittingRivers 31 = .ok (.iload_n 2, 1) := by decide +kernel
theorem dX4_fittingRivers_32 : decode cX4_fittingRivers 32 = .ok (.ireturn, 1) := by decide +kernel
theorem dX4_highestFittingRiver_0 : decode cX4_highestFittingRiver 0 = .ok (.bipush 99, 2) := by decide +kernel
theorem dX4_highestFittingRiver_2 : decode cX4_highestFittingRiver 2 = .ok (.istore_n 2, 1) := by decide +kernel
theorem dX4_highestFittingRiver_3 : decode cX4_highestFittingRiver 3 = .ok (.iload_n 2, 1) := by decide +kernel
theorem dX4_highestFittingRiver_4 : decode cX4_highestFittingRiver 4 = .ok (.ifCond .lt 23, 3) := by decide +kernel
theorem dX4_highestFittingRiver_7 : decode cX4_highestFittingRiver 7 = .ok (.aload_n 0, 1) := by decide +kernel
theorem dX4_highestFittingRiver_8 : decode cX4_highestFittingRiver 8 = .ok (.iload_n 1, 1) := by decide +kernel
theorem dX4_highestFittingRiver_9 : decode cX4_highestFittingRiver 9 = .ok (.iconst 0, 1) := by decide +kernel
theorem dX4_highestFittingRiver_10 : decode cX4_highestFittingRiver 10 = .ok (.iconst 0, 1) := by decide +kernel
theorem dX4_highestFittingRiver_11 : decode cX4_highestFittingRiver 11 = .ok (.iload_n 2, 1) := by decide +kernel
theorem dX4_highestFittingRiver_12 : decode cX4_highestFittingRiver 12 = .ok (.invokevirtual 179, 3) := by decide +kernel
theorem dX4_highestFittingRiver_15 : decode cX4_highestFittingRiver 15 = .ok (.iconst (-1), 1) := by decide +kernel
theorem dX4_highestFittingRiver_16 : decode cX4_highestFittingRiver 16 = .ok (.if_icmp .ne 5, 3) := by decide +kernel
theorem dX4_highestFittingRiver_19 : decode cX4_highestFittingRiver 19 = .ok (.iload_n 2, 1) := by decide +kernel
theorem dX4_highestFittingRiver_20 : decode cX4_highestFittingRiver 20 = .ok (.ireturn, 1) := by decide +kernel
theorem dX4_highestFittingRiver_21 : decode cX4_highestFittingRiver 21 = .ok (.iinc 2 (-1), 3) := by decide +kernel
theorem dX4_highestFittingRiver_24 : decode cX4_highestFittingRiver 24 = .ok (.goto (-21), 3) := by decide +kernel
theorem dX4_highestFittingRiver_27 : decode cX4_highestFittingRiver 27 = .ok (.iconst (-1), 1) := by decide +kernel
theorem dX4_highestFittingRiver_28 : decode cX4_highestFittingRiver 28 = .ok (.ireturn, 1) := by decide +kernel
theorem dX4_commonDivisor_0 : decode cX4_commonDivisor 0 = .ok (.iload_n 0, 1) := by decide +kernel
theorem dX4_commonDivisor_1 : decode cX4_commonDivisor 1 = .ok (.istore_n 2, 1) := by decide +kernel
theorem dX4_commonDivisor_2 : decode cX4_commonDivisor 2 = .ok (.iload_n 1, 1) := by decide +kernel
theorem dX4_commonDivisor_3 : decode cX4_commonDivisor 3 = .ok (.istore_n 3, 1) := by decide +kernel
theorem dX4_commonDivisor_4 : decode cX4_commonDivisor 4 = .ok (.iconst 0, 1) := by decide +kernel
theorem dX4_commonDivisor_5 : decode cX4_commonDivisor 5 = .ok (.istore 4, 2) := by decide +kernel
theorem dX4_commonDivisor_7 : decode cX4_commonDivisor 7 = .ok (.iload 4, 2) := by decide +kernel
theorem dX4_commonDivisor_9 : decode cX4_commonDivisor 9 = .ok (.bipush 64, 2) := by decide +kernel
theorem dX4_commonDivisor_11 : decode cX4_commonDivisor 11 = .ok (.if_icmp .ge 23, 3) := by decide +kernel
theorem dX4_commonDivisor_14 : decode cX4_commonDivisor 14 = .ok (.iload_n 3, 1) := by decide +kernel
theorem dX4_commonDivisor_15 : decode cX4_commonDivisor 15 = .ok (.ifCond .eq 19, 3) := by decide +kernel
theorem dX4_commonDivisor_18 : decode cX4_commonDivisor 18 = .ok (.iload_n 2, 1) := by decide +kernel
theorem dX4_commonDivisor_19 : decode cX4_commonDivisor 19 = .ok (.iload_n 3, 1) := by decide +kernel
theorem dX4_commonDivisor_20 : decode cX4_commonDivisor 20 = .ok (.irem, 1) := by decide +kernel
theorem dX4_commonDivisor_21 : decode cX4_commonDivisor 21 = .ok (.istore 5, 2) := by decide +kernel
theorem dX4_commonDivisor_23 : decode cX4_commonDivisor 23 = .ok (.iload_n 3, 1) := by decide +kernel
theorem dX4_commonDivisor_24 : decode cX4_commonDivisor 24 = .ok (.istore_n 2, 1) := by decide +kernel
theorem dX4_commonDivisor_25 : decode cX4_commonDivisor 25 = .ok (.iload 5, 2) := by decide +kernel
theorem dX4_commonDivisor_27 : decode cX4_commonDivisor 27 = .ok (.istore_n 3, 1) := by decide +kernel
theorem dX4_commonDivisor_28 : decode cX4_commonDivisor 28 = .ok (.iinc 4 1, 3) := by decide +kernel
theorem dX4_commonDivisor_31 : decode cX4_commonDivisor 31 = .ok (.goto (-24), 3) := by decide +kernel
theorem dX4_commonDivisor_34 : decode cX4_commonDivisor 34 = .ok (.iload_n 2, 1) := by decide +kernel
theorem dX4_commonDivisor_35 : decode cX4_commonDivisor 35 = .ok (.iconst 1, 1) := by decide +kernel
theorem dX4_commonDivisor_36 : decode cX4_commonDivisor 36 = .ok (.if_icmp .ge 7, 3) := by decide +kernel
theorem dX4_commonDivisor_39 : decode cX4_commonDivisor 39 = .ok (.iconst 1, 1) := by decide +kernel
theorem dX4_commonDivisor_40 : decode cX4_commonDivisor 40 = .ok (.goto 4, 3) := by decide +kernel
theorem dX4_commonDivisor_43 : decode cX4_commonDivisor 43 = .ok (.iload_n 2, 1) := by decide +kernel
theorem dX4_commonDivisor_44 : decode cX4_commonDivisor 44 = .ok (.ireturn, 1) := by decide +kernel
theorem dX4_comes_0 : decode cX4_comes 0 = .ok (.aload_n 0, 1) := by decide +kernel
theorem dX4_comes_1 : decode cX4_comes 1 = .ok (.getfield 45, 3) := by decide +kernel
theorem dX4_comes_4 : decode cX4_comes 4 = .ok (.iload_n 1, 1) := by decide +kernel
theorem dX4_comes_5 : decode cX4_comes 5 = .ok (.iload_n 2, 1) := by decide +kernel
theorem dX4_comes_6 : decode cX4_comes 6 = .ok (.invokevirtual 249, 3) := by decide +kernel
theorem dX4_comes_9 : decode cX4_comes 9 = .ok (.istore_n 3, 1) := by decide +kernel
theorem dX4_comes_10 : decode cX4_comes 10 = .ok (.aload_n 0, 1) := by decide +kernel
theorem dX4_comes_11 : decode cX4_comes 11 = .ok (.getfield 45, 3) := by decide +kernel
theorem dX4_comes_14 : decode cX4_comes 14 = .ok (.iload_n 1, 1) := by decide +kernel
theorem dX4_comes_15 : decode cX4_comes 15 = .ok (.iload_n 2, 1) := by decide +kernel
theorem dX4_comes_16 : decode cX4_comes 16 = .ok (.iconst 1, 1) := by decide +kernel
theorem dX4_comes_17 : decode cX4_comes 17 = .ok (.iadd, 1) := by decide +kernel
theorem dX4_comes_18 : decode cX4_comes 18 = .ok (.invokevirtual 249, 3) := by decide +kernel
theorem dX4_comes_21 : decode cX4_comes 21 = .ok (.istore 4, 2) := by decide +kernel
theorem dX4_comes_23 : decode cX4_comes 23 = .ok (.aload_n 0, 1) := by decide +kernel
theorem dX4_comes_24 : decode cX4_comes 24 = .ok (.getfield 45, 3) := by decide +kernel
theorem dX4_comes_27 : decode cX4_comes 27 = .ok (.iload_n 1, 1) := by decide +kernel
theorem dX4_comes_28 : decode cX4_comes 28 = .ok (.iload_n 2, 1) := by decide +kernel
theorem dX4_comes_29 : decode cX4_comes 29 = .ok (.iconst 2, 1) := by decide +kernel
theorem dX4_comes_30 : decode cX4_comes 30 = .ok (.iadd, 1) := by decide +kernel
theorem dX4_comes_31 : decode cX4_comes 31 = .ok (.invokevirtual 249, 3) := by decide +kernel
theorem dX4_comes_34 : decode cX4_comes 34 = .ok (.istore 5, 2) := by decide +kernel
theorem dX4_comes_36 : decode cX4_comes 36 = .ok (.iload_n 3, 1) := by decide +kernel
theorem dX4_comes_37 : decode cX4_comes 37 = .ok (.iload 4, 2) := by decide +kernel
theorem dX4_comes_39 : decode cX4_comes 39 = .ok (.iload 5, 2) := by decide +kernel
theorem dX4_comes_41 : decode cX4_comes 41 = .ok (.invokestatic 69, 3) := by decide +kernel
theorem dX4_comes_44 : decode cX4_comes 44 = .ok (.ifCond .eq 15, 3) := by decide +kernel
theorem dX4_comes_47 : decode cX4_comes 47 = .ok (.aload_n 0, 1) := by decide +kernel
theorem dX4_comes_48 : decode cX4_comes 48 = .ok (.getfield 10, 3) := by decide +kernel
theorem dX4_comes_51 : decode cX4_comes 51 = .ok (.getfield 73, 3) := by decide +kernel
theorem dX4_comes_54 : decode cX4_comes 54 = .ok (.bipush 6, 2) := by decide +kernel
theorem dX4_comes_56 : decode cX4_comes 56 = .ok (.if_icmp .lt 5, 3) := by decide +kernel
theorem dX4_comes_59 : decode cX4_comes 59 = .ok (.iconst 0, 1) := by decide +kernel
theorem dX4_comes_60 : decode cX4_comes 60 = .ok (.ireturn, 1) := by decide +kernel
theorem dX4_comes_61 : decode cX4_comes 61 = .ok (.aload_n 0, 1) := by decide +kernel
theorem dX4_comes_62 : decode cX4_comes 62 = .ok (.getfield 10, 3) := by decide +kernel
theorem dX4_comes_65 : decode cX4_comes 65 = .ok (.iload_n 3, 1) := by decide +kernel
theorem dX4_comes_66 : decode cX4_comes 66 = .ok (.iload 4, 2) := by decide +kernel
theorem dX4_comes_68 : decode cX4_comes 68 = .ok (.iload 5, 2) := by decide +kernel
theorem dX4_comes_70 : decode cX4_comes 70 = .ok (.invokevirtual 76, 3) := by decide +kernel
theorem dX4_comes_73 : decode cX4_comes 73 = .ok (.iconst 1, 1) := by decide +kernel
theorem dX4_comes_74 : decode cX4_comes 74 = .ok (.ireturn, 1) := by decide +kernel
theorem dX5_in_0 : decode cX5_in 0 = .ok (.lload_n 0, 1) := by decide +kernel
theorem dX5_in_1 : decode cX5_in 1 = .ok (.lload_n 2, 1) := by decide +kernel
theorem dX5_in_2 : decode cX5_in 2 = .ok (.lcmp, 1) := by decide +kernel
theorem dX5_in_3 : decode cX5_in 3 = .ok (.ifCond .lt 14, 3) := by decide +kernel
theorem dX5_in_6 : decode cX5_in 6 = .ok (.lload_n 0, 1) := by decide +kernel
theorem dX5_in_7 : decode cX5_in 7 = .ok (.lload 4, 2) := by decide +kernel
theorem dX5_in_9 : decode cX5_in 9 = .ok (.lcmp, 1) := by decide +kernel
theorem dX5_in_10 : decode cX5_in 10 = .ok (.ifCond .gt 7, 3) := by decide +kernel
theorem dX5_in_13 : decode cX5_in 13 = .ok (.iconst 1, 1) := by decide +kernel
theorem dX5_in_14 : decode cX5_in 14 = .ok (.goto 4, 3) := by decide +kernel
theorem dX5_in_17 : decode cX5_in 17 = .ok (.iconst 0, 1) := by decide +kernel
theorem dX5_in_18 : decode cX5_in 18 = .ok (.ireturn, 1) := by decide +kernel
theorem dX5_within_0 : decode cX5_within 0 = .ok (.iload_n 0, 1) := by decide +kernel
theorem dX5_within_1 : decode cX5_within 1 = .ok (.iload_n 1, 1) := by decide +kernel
theorem dX5_within_2 : decode cX5_within 2 = .ok (.if_icmp .ge 7, 3) := by decide +kernel
theorem dX5_within_5 : decode cX5_within 5 = .ok (.iload_n 1, 1) := by decide +kernel
theorem dX5_within_6 : decode cX5_within 6 = .ok (.goto 13, 3) := by decide +kernel
theorem dX5_within_9 : decode cX5_within 9 = .ok (.iload_n 0, 1) := by decide +kernel
theorem dX5_within_10 : decode cX5_within 10 = .ok (.iload_n 2, 1) := by decide +kernel
theorem dX5_within_11 : decode cX5_within 11 = .ok (.if_icmp .le 7, 3) := by decide +kernel
theorem dX5_within_14 : decode cX5_within 14 = .ok (.iload_n 2, 1) := by decide +kernel
theorem dX5_within_15 : decode cX5_within 15 = .ok (.goto 4, 3) := by decide +kernel
theorem dX5_within_18 : decode cX5_within 18 = .ok (.iload_n 0, 1) := by decide +kernel
theorem dX5_within_19 : decode cX5_within 19 = .ok (.ireturn, 1) := by decide +kernel
theorem dX5_init_0 : decode cX5_init 0 = .ok (.aload_n 0, 1) := by decide +kernel
theorem dX5_init_1 : decode cX5_init 1 = .ok (.invokespecial 7, 3) := by decide +kernel
theorem dX5_init_4 : decode cX5_init 4 = .ok (.aload_n 0, 1) := by decide +kernel
theorem dX5_init_5 : decode cX5_init 5 = .ok (.sipush 960, 3) := by decide +kernel
theorem dX5_init_8 : decode cX5_init 8 = .ok (.newarray .int, 2) := by decide +kernel
theorem dX5_init_10 : decode cX5_init 10 = .ok (.putfield 13, 3) := by decide +kernel
theorem dX5_init_13 : decode cX5_init 13 = .ok (.aload_n 0, 1) := by decide +kernel
theorem dX5_init_14 : decode cX5_init 14 = .ok (.bipush 6, 2) := by decide +kernel
theorem dX5_init_16 : decode cX5_init 16 = .ok (.newarray .int, 2) := by decide +kernel
theorem dX5_init_18 : decode cX5_init 18 = .ok (.putfield 17, 3) := by decide +kernel
theorem dX5_init_21 : decode cX5_init 21 = .ok (.aload_n 0, 1) := by decide +kernel
theorem dX5_init_22 : decode cX5_init 22 = .ok (.sipush 160, 3) := by decide +kernel
theorem dX5_init_25 : decode cX5_init 25 = .ok (.newarray .int, 2) := by decide +kernel
theorem dX5_init_27 : decode cX5_init 27 = .ok (.putfield 20, 3) := by decide +kernel
theorem dX5_init_30 : decode cX5_init 30 = .ok (.aload_n 0, 1) := by decide +kernel
theorem dX5_init_31 : decode cX5_init 31 = .ok (.bipush 35, 2) := by decide +kernel
theorem dX5_init_33 : decode cX5_init 33 = .ok (.putfield 23, 3) := by decide +kernel
theorem dX5_init_36 : decode cX5_init 36 = .ok (.aload_n 0, 1) := by decide +kernel
theorem dX5_init_37 : decode cX5_init 37 = .ok (.bipush 36, 2) := by decide +kernel
theorem dX5_init_39 : decode cX5_init 39 = .ok (.newarray .int, 2) := by decide +kernel
theorem dX5_init_41 : decode cX5_init 41 = .ok (.putfield 26, 3) := by decide +kernel
theorem dX5_init_44 : decode cX5_init 44 = .ok (.aload_n 0, 1) := by decide +kernel
theorem dX5_init_45 : decode cX5_init 45 = .ok (.bipush 6, 2) := by decide +kernel
theorem dX5_init_47 : decode cX5_init 47 = .ok (.newarray .int, 2) := by decide +kernel
theorem dX5_init_49 : decode cX5_init 49 = .ok (.putfield 29, 3) := by decide +kernel
theorem dX5_init_52 : decode cX5_init 52 = .ok (.aload_n 0, 1) := by decide +kernel
theorem dX5_init_53 : decode cX5_init 53 = .ok (.bipush 18, 2) := by decide +kernel
theorem dX5_init_55 : decode cX5_init 55 = .ok (.newarray .int, 2) := by decide +kernel
theorem dX5_init_57 : decode cX5_init 57 = .ok (.putfield 32, 3) := by decide +kernel
theorem dX5_init_60 : decode cX5_init 60 = .ok (.aload_n 0, 1) := by decide +kernel
theorem dX5_init_61 : decode cX5_init 61 = .ok (.bipush 36, 2) := by decide +kernel
theorem dX5_init_63 : decode cX5_init 63 = .ok (.newarray .int, 2) := by decide +kernel
theorem dX5_init_65 : decode cX5_init 65 = .ok (.putfield 35, 3) := by decide +kernel
theorem dX5_init_68 : decode cX5_init 68 = .ok (.aload_n 0, 1) := by decide +kernel
theorem dX5_init_69 : decode cX5_init 69 = .ok (.bipush 36, 2) := by decide +kernel
theorem dX5_init_71 : decode cX5_init 71 = .ok (.newarray .int, 2) := by decide +kernel
theorem dX5_init_73 : decode cX5_init 73 = .ok (.putfield 38, 3) := by decide +kernel
theorem dX5_init_76 : decode cX5_init 76 = .ok (.aload_n 0, 1) := by decide +kernel
theorem dX5_init_77 : decode cX5_init 77 = .ok (.bipush 31, 2) := by decide +kernel
theorem dX5_init_79 : decode cX5_init 79 = .ok (.newarray .int, 2) := by decide +kernel
theorem dX5_init_81 : decode cX5_init 81 = .ok (.putfield 41, 3) := by decide +kernel
theorem dX5_init_84 : decode cX5_init 84 = .ok (.aload_n 0, 1) := by decide +kernel
theorem dX5_init_85 : decode cX5_init 85 = .ok (.bipush 36, 2) := by decide +kernel
theorem dX5_init_87 : decode cX5_init 87 = .ok (.newarray .int, 2) := by decide +kernel
theorem dX5_init_89 : decode cX5_init 89 = .ok (.putfield 44, 3) := by decide +kernel
theorem dX5_init_92 : decode cX5_init 92 = .ok (.aload_n 0, 1) := by decide +kernel
theorem dX5_init_93 : decode cX5_init 93 = .ok (.bipush 18, 2) := by decide +kernel
theorem dX5_init_95 : decode cX5_init 95 = .ok (.newarray .int, 2) := by decide +kernel
theorem dX5_init_97 : decode cX5_init 97 = .ok (.putfield 47, 3) := by decide +kernel
theorem dX5_init_100 : decode cX5_init 100 = .ok (.aload_n 0, 1) := by decide +kernel
theorem dX5_init_101 : decode cX5_init 101 = .ok (.iconst (-1), 1) := by decide +kernel
theorem dX5_init_102 : decode cX5_init 102 = .ok (.putfield 50, 3) := by decide +kernel
theorem dX5_init_105 : decode cX5_init 105 = .ok (.aload_n 0, 1) := by decide +kernel
theorem dX5_init_106 : decode cX5_init 106 = .ok (.iconst 4, 1) := by decide +kernel
theorem dX5_init_107 : decode cX5_init 107 = .ok (.newarray .boolean, 2) := by decide +kernel
theorem dX5_init_109 : decode cX5_init 109 = .ok (.putfield 53, 3) := by decide +kernel
theorem dX5_init_112 : decode cX5_init 112 = .ok (.aload_n 0, 1) := by decide +kernel
theorem dX5_init_113 : decode cX5_init 113 = .ok (.iconst 4, 1) := by decide +kernel
theorem dX5_init_114 : decode cX5_init 114 = .ok (.newarray .int, 2) := by decide +kernel
theorem dX5_init_116 : decode cX5_init 116 = .ok (.putfield 57, 3) := by decide +kernel
theorem dX5_init_119 : decode cX5_init 119 = .ok (.aload_n 0, 1) := by decide +kernel
theorem dX5_init_120 : decode cX5_init 120 = .ok (.iconst 4, 1) := by decide +kernel
theorem dX5_init_121 : decode cX5_init 121 = .ok (.newarray .int, 2) := by decide +kernel
theorem dX5_init_123 : decode cX5_init 123 = .ok (.putfield 60, 3) := by decide +kernel
theorem dX5_init_126 : decode cX5_init 126 = .ok (.aload_n 0, 1) := by decide +kernel
theorem dX5_init_127 : decode cX5_init 127 = .ok (.sipush 160, 3) := by decide +kernel
theorem dX5_init_130 : decode cX5_init 130 = .ok (.newarray .int, 2) := by decide +kernel
theorem dX5_init_132 : decode cX5_init 132 = .ok (.putfield 63, 3) := by decide +kernel
theorem dX5_init_135 : decode cX5_init 135 = .ok (.iconst 0, 1) := by decide +kernel
theorem dX5_init_136 : decode cX5_init 136 = .ok (.istore_n 1, 1) := by decide +kernel
theorem dX5_init_137 : decode cX5_init 137 = .ok (.iload_n 1, 1) := by decide +kernel
theorem dX5_init_138 : decode cX5_init 138 = .ok (.bipush 12, 2) := by decide +kernel
theorem dX5_init_140 : decode cX5_init 140 = .ok (.if_icmp .ge 42, 3) := by decide +kernel
theorem dX5_init_143 : decode cX5_init 143 = .ok (.aload_n 0, 1) := by decide +kernel
theorem dX5_init_144 : decode cX5_init 144 = .ok (.getfield 26, 3) := by decide +kernel
theorem dX5_init_147 : decode cX5_init 147 = .ok (.iconst 3, 1) := by decide +kernel
theorem dX5_init_148 : decode cX5_init 148 = .ok (.iload_n 1, 1) := by decide +kernel
theorem dX5_init_149 : decode cX5_init 149 = .ok (.imul, 1) := by decide +kernel
theorem dX5_init_150 : decode cX5_init 150 = .ok (.bipush 40, 2) := by decide +kernel
theorem dX5_init_152 : decode cX5_init 152 = .ok (.iastore, 1) := by decide +kernel
theorem dX5_init_153 : decode cX5_init 153 = .ok (.aload_n 0, 1) := by decide +kernel
theorem dX5_init_154 : decode cX5_init 154 = .ok (.getfield 26, 3) := by decide +kernel
theorem dX5_init_157 : decode cX5_init 157 = .ok (.iconst 3, 1) := by decide +kernel
theorem dX5_init_158 : decode cX5_init 158 = .ok (.iload_n 1, 1) := by decide +kernel
theorem dX5_init_159 : decode cX5_init 159 = .ok (.imul, 1) := by decide +kernel
theorem dX5_init_160 : decode cX5_init 160 = .ok (.iconst 1, 1) := by decide +kernel
theorem dX5_init_161 : decode cX5_init 161 = .ok (.iadd, 1) := by decide +kernel
theorem dX5_init_162 : decode cX5_init 162 = .ok (.bipush 20, 2) := by decide +kernel
theorem dX5_init_164 : decode cX5_init 164 = .ok (.iastore, 1) := by decide +kernel
theorem dX5_init_165 : decode cX5_init 165 = .ok (.aload_n 0, 1) := by decide +kernel
theorem dX5_init_166 : decode cX5_init 166 = .ok (.getfield 26, 3) := by decide +kernel
theorem dX5_init_169 : decode cX5_init 169 = .ok (.iconst 3, 1) := by decide +kernel
theorem dX5_init_170 : decode cX5_init 170 = .ok (.iload_n 1, 1) := by decide +kernel
theorem dX5_init_171 : decode cX5_init 171 = .ok (.imul, 1) := by decide +kernel
theorem dX5_init_172 : decode cX5_init 172 = .ok (.iconst 2, 1) := by decide +kernel
theorem dX5_init_173 : decode cX5_init 173 = .ok (.iadd, 1) := by decide +kernel
theorem dX5_init_174 : decode cX5_init 174 = .ok (.iconst 5, 1) := by decide +kernel
theorem dX5_init_175 : decode cX5_init 175 = .ok (.iastore, 1) := by decide +kernel
theorem dX5_init_176 : decode cX5_init 176 = .ok (.iinc 1 1, 3) := by decide +kernel
theorem dX5_init_179 : decode cX5_init 179 = .ok (.goto (-42), 3) := by decide +kernel
theorem dX5_init_182 : decode cX5_init 182 = .ok (.aload_n 0, 1) := by decide +kernel
theorem dX5_init_183 : decode cX5_init 183 = .ok (.iconst 0, 1) := by decide +kernel
theorem dX5_init_184 : decode cX5_init 184 = .ok (.bipush 114, 2) := by decide +kernel
theorem dX5_init_186 : decode cX5_init 186 = .ok (.bipush 97, 2) := by decide +kernel
theorem dX5_init_188 : decode cX5_init 188 = .ok (.bipush 105, 2) := by decide +kernel
theorem dX5_init_190 : decode cX5_init 190 = .ok (.bipush 110, 2) := by decide +kernel
theorem dX5_init_192 : decode cX5_init 192 = .ok (.bipush 115, 2) := by decide +kernel
theorem dX5_init_194 : decode cX5_init 194 = .ok (.bipush 32, 2) := by decide +kernel
theorem dX5_init_196 : decode cX5_init 196 = .ok (.bipush 54, 2) := by decide +kernel
theorem dX5_init_198 : decode cX5_init 198 = .ok (.bipush 32, 2) := by decide +kernel
theorem dX5_init_200 : decode cX5_init 200 = .ok (.invokevirtual 66, 3) := by decide +kernel
theorem dX5_init_203 : decode cX5_init 203 = .ok (.aload_n 0, 1) := by decide +kernel
theorem dX5_init_204 : decode cX5_init 204 = .ok (.bipush 8, 2) := by decide +kernel
theorem dX5_init_206 : decode cX5_init 206 = .ok (.bipush 59, 2) := by decide +kernel
theorem dX5_init_208 : decode cX5_init 208 = .ok (.bipush 32, 2) := by decide +kernel
theorem dX5_init_210 : decode cX5_init 210 = .ok (.bipush 115, 2) := by decide +kernel
theorem dX5_init_212 : decode cX5_init 212 = .ok (.bipush 104, 2) := by decide +kernel
theorem dX5_init_214 : decode cX5_init 214 = .ok (.bipush 114, 2) := by decide +kernel
theorem dX5_init_216 : decode cX5_init 216 = .ok (.bipush 105, 2) := by decide +kernel
theorem dX5_init_218 : decode cX5_init 218 = .ok (.bipush 110, 2) := by decide +kernel
theorem dX5_init_220 : decode cX5_init 220 = .ok (.bipush 107, 2) := by decide +kernel
theorem dX5_init_222 : decode cX5_init 222 = .ok (.invokevirtual 66, 3) := by decide +kernel
theorem dX5_init_225 : decode cX5_init 225 = .ok (.aload_n 0, 1) := by decide +kernel
theorem dX5_init_226 : decode cX5_init 226 = .ok (.bipush 16, 2) := by decide +kernel
theorem dX5_init_228 : decode cX5_init 228 = .ok (.bipush 115, 2) := by decide +kernel
theorem dX5_init_230 : decode cX5_init 230 = .ok (.bipush 32, 2) := by decide +kernel
theorem dX5_init_232 : decode cX5_init 232 = .ok (.bipush 50, 2) := by decide +kernel
theorem dX5_init_234 : decode cX5_init 234 = .ok (.bipush 32, 2) := by decide +kernel
theorem dX5_init_236 : decode cX5_init 236 = .ok (.bipush 59, 2) := by decide +kernel
theorem dX5_init_238 : decode cX5_init 238 = .ok (.bipush 32, 2) := by decide +kernel
theorem dX5_init_240 : decode cX5_init 240 = .ok (.bipush 99, 2) := by decide +kernel
theorem dX5_init_242 : decode cX5_init 242 = .ok (.bipush 97, 2) := by decide +kernel
theorem dX5_init_244 : decode cX5_init 244 = .ok (.invokevirtual 66, 3) := by decide +kernel
theorem dX5_init_247 : decode cX5_init 247 = .ok (.aload_n 0, 1) := by decide +kernel
theorem dX5_init_248 : decode cX5_init 248 = .ok (.bipush 24, 2) := by decide +kernel
theorem dX5_init_250 : decode cX5_init 250 = .ok (.bipush 108, 2) := by decide +kernel
theorem dX5_init_252 : decode cX5_init 252 = .ok (.bipush 108, 2) := by decide +kernel
theorem dX5_init_254 : decode cX5_init 254 = .ok (.bipush 115, 2) := by decide +kernel
theorem dX5_init_256 : decode cX5_init 256 = .ok (.bipush 32, 2) := by decide +kernel
theorem dX5_init_258 : decode cX5_init 258 = .ok (.bipush 51, 2) := by decide +kernel
theorem dX5_init_260 : decode cX5_init 260 = .ok (.bipush 32, 2) := by decide +kernel
theorem dX5_init_262 : decode cX5_init 262 = .ok (.bipush 59, 2) := by decide +kernel
theorem dX5_init_264 : decode cX5_init 264 = .ok (.bipush 32, 2) := by decide +kernel
theorem dX5_init_266 : decode cX5_init 266 = .ok (.invokevirtual 66, 3) := by decide +kernel
theorem dX5_init_269 : decode cX5_init 269 = .ok (.aload_n 0, 1) := by decide +kernel
theorem dX5_init_270 : decode cX5_init 270 = .ok (.getfield 17, 3) := by decide +kernel
theorem dX5_init_273 : decode cX5_init 273 = .ok (.iconst 0, 1) := by decide +kernel
theorem dX5_init_274 : decode cX5_init 274 = .ok (.bipush 32, 2) := by decide +kernel
theorem dX5_init_276 : decode cX5_init 276 = .ok (.iastore, 1) := by decide +kernel
theorem dX5_init_277 : decode cX5_init 277 = .ok (.aload_n 0, 1) := by decide +kernel
theorem dX5_init_278 : decode cX5_init 278 = .ok (.iconst 1, 1) := by decide +kernel
theorem dX5_init_279 : decode cX5_init 279 = .ok (.putfield 70, 3) := by decide +kernel
theorem dX5_init_282 : decode cX5_init 282 = .ok (.return_, 1) := by decide +kernel
theorem dX5_spell_0 : decode cX5_spell 0 = .ok (.aload_n 0, 1) := by decide +kernel
theorem dX5_spell_1 : decode cX5_spell 1 = .ok (.getfield 13, 3) := by decide +kernel
theorem dX5_spell_4 : decode cX5_spell 4 = .ok (.iload_n 1, 1) := by decide +kernel
theorem dX5_spell_5 : decode cX5_spell 5 = .ok (.iload_n 2, 1) := by decide +kernel
theorem dX5_spell_6 : decode cX5_spell 6 = .ok (.iastore, 1) := by decide +kernel
theorem dX5_spell_7 : decode cX5_spell 7 = .ok (.aload_n 0, 1) := by decide +kernel
theorem dX5_spell_8 : decode cX5_spell 8 = .ok (.getfield 13, 3) := by decide +kernel
theorem dX5_spell_11 : decode cX5_spell 11 = .ok (.iload_n 1, 1) := by decide +kernel
theorem dX5_spell_12 : decode cX5_spell 12 = .ok (.iconst 1, 1) := by decide +kernel
theorem dX5_spell_13 : decode cX5_spell 13 = .ok (.iadd, 1) := by decide +kernel
theorem dX5_spell_14 : decode cX5_spell 14 = .ok (.iload_n 3, 1) := by decide +kernel
theorem dX5_spell_15 : decode cX5_spell 15 = .ok (.iastore, 1) := by decide +kernel
theorem dX5_spell_16 : decode cX5_spell 16 = .ok (.aload_n 0, 1) := by decide +kernel
theorem dX5_spell_17 : decode cX5_spell 17 = .ok (.getfield 13, 3) := by decide +kernel
theorem dX5_spell_20 : decode cX5_spell 20 = .ok (.iload_n 1, 1) := by decide +kernel
theorem dX5_spell_21 : decode cX5_spell 21 = .ok (.iconst 2, 1) := by decide +kernel
theorem dX5_spell_22 : decode cX5_spell 22 = .ok (.iadd, 1) := by decide +kernel
theorem dX5_spell_23 : decode cX5_spell 23 = .ok (.iload 4, 2) := by decide +kernel
theorem dX5_spell_25 : decode cX5_spell 25 = .ok (.iastore, 1) := by decide +kernel
theorem dX5_spell_26 : decode cX5_spell 26 = .ok (.aload_n 0, 1) := by decide +kernel
theorem dX5_spell_27 : decode cX5_spell 27 = .ok (.getfield 13, 3) := by decide +kernel
theorem dX5_spell_30 : decode cX5_spell 30 = .ok (.iload_n 1, 1) := by decide +kernel
theorem dX5_spell_31 : decode cX5_spell 31 = .ok (.iconst 3, 1) := by decide +kernel
theorem dX5_spell_32 : decode cX5_spell 32 = .ok (.iadd, 1) := by decide +kernel
theorem dX5_spell_33 : decode cX5_spell 33 = .ok (.iload 5, 2) := by decide +kernel
theorem dX5_spell_35 : decode cX5_spell 35 = .ok (.iastore, 1) := by decide +kernel
theorem dX5_spell_36 : decode cX5_spell 36 = .ok (.aload_n 0, 1) := by decide +kernel
theorem dX5_spell_37 : decode cX5_spell 37 = .ok (.getfield 13, 3) := by decide +kernel
theorem dX5_spell_40 : decode cX5_spell 40 = .ok (.iload_n 1, 1) := by decide +kernel
theorem dX5_spell_41 : decode cX5_spell 41 = .ok (.iconst 4, 1) := by decide +kernel
theorem dX5_spell_42 : decode cX5_spell 42 = .ok (.iadd, 1) := by decide +kernel
theorem dX5_spell_43 : decode cX5_spell 43 = .ok (.iload 6, 2) := by decide +kernel
theorem dX5_spell_45 : decode cX5_spell 45 = .ok (.iastore, 1) := by decide +kernel
theorem dX5_spell_46 : decode cX5_spell 46 = .ok (.aload_n 0, 1) := by decide +kernel
theorem dX5_spell_47 : decode cX5_spell 47 = .ok (.getfield 13, 3) := by decide +kernel
theorem dX5_spell_50 : decode cX5_spell 50 = .ok (.iload_n 1, 1) := by decide +kernel
theorem dX5_spell_51 : decode cX5_spell 51 = .ok (.iconst 5, 1) := by decide +kernel
theorem dX5_spell_52 : decode cX5_spell 52 = .ok (.iadd, 1) := by decide +kernel
theorem dX5_spell_53 : decode cX5_spell 53 = .ok (.iload 7, 2) := by decide +kernel
theorem dX5_spell_55 : decode cX5_spell 55 = .ok (.iastore, 1) := by decide +kernel
theorem dX5_spell_56 : decode cX5_spell 56 = .ok (.aload_n 0, 1) := by decide +kernel
theorem dX5_spell_57 : decode cX5_spell 57 = .ok (.getfield 13, 3) := by decide +kernel
theorem dX5_spell_60 : decode cX5_spell 60 = .ok (.iload_n 1, 1) := by decide +kernel
theorem dX5_spell_61 : decode cX5_spell 61 = .ok (.bipush 6, 2) := by decide +kernel
theorem dX5_spell_63 : decode cX5_spell 63 = .ok (.iadd, 1) := by decide +kernel
theorem dX5_spell_64 : decode cX5_spell 64 = .ok (.iload 8, 2) := by decide +kernel
theorem dX5_spell_66 : decode cX5_spell 66 = .ok (.iastore, 1) := by decide +kernel
theorem dX5_spell_67 : decode cX5_spell 67 = .ok (.aload_n 0, 1) := by decide +kernel
theorem dX5_spell_68 : decode cX5_spell 68 = .ok (.getfield 13, 3) := by decide +kernel
theorem dX5_spell_71 : decode cX5_spell 71 = .ok (.iload_n 1, 1) := by decide +kernel
theorem dX5_spell_72 : decode cX5_spell 72 = .ok (.bipush 7, 2) := by decide +kernel
theorem dX5_spell_74 : decode cX5_spell 74 = .ok (.iadd, 1) := by decide +kernel
theorem dX5_spell_75 : decode cX5_spell 75 = .ok (.iload 9, 2) := by decide +kernel
theorem dX5_spell_77 : decode cX5_spell 77 = .ok (.iastore, 1) := by decide +kernel
theorem dX5_spell_78 : decode cX5_spell 78 = .ok (.return_, 1) := by decide +kernel
theorem dX5_isWork_0 : decode cX5_isWork 0 = .ok (.iload_n 1, 1) := by decide +kernel
theorem dX5_isWork_1 : decode cX5_isWork 1 = .ok (.i2l, 1) := by decide +kernel
theorem dX5_isWork_2 : decode cX5_isWork 2 = .ok (.lconst 0, 1) := by decide +kernel
theorem dX5_isWork_3 : decode cX5_isWork 3 = .ok (.aload_n 0, 1) := by decide +kernel
theorem dX5_isWork_4 : decode cX5_isWork 4 = .ok (.getfield 73, 3) := by decide +kernel
theorem dX5_isWork_7 : decode cX5_isWork 7 = .ok (.iconst 1, 1) := by decide +kernel
theorem dX5_isWork_8 : decode cX5_isWork 8 = .ok (.isub, 1) := by decide +kernel
theorem dX5_isWork_9 : decode cX5_isWork 9 = .ok (.i2l, 1) := by decide +kernel
theorem dX5_isWork_10 : decode cX5_isWork 10 = .ok (.invokestatic 76, 3) := by decide +kernel
theorem dX5_isWork_13 : decode cX5_isWork 13 = .ok (.ireturn, 1) := by decide +kernel
theorem dX5_isCell_0 : decode cX5_isCell 0 = .ok (.iload_n 0, 1) := by decide +kernel
theorem dX5_isCell_1 : decode cX5_isCell 1 = .ok (.i2l, 1) := by decide +kernel
theorem dX5_isCell_2 : decode cX5_isCell 2 = .ok (.lconst 0, 1) := by decide +kernel
theorem dX5_isCell_3 : decode cX5_isCell 3 = .ok (.ldc2_w 80, 3) := by decide +kernel
theorem dX5_isCell_6 : decode cX5_isCell 6 = .ok (.invokestatic 76, 3) := by decide +kernel
theorem dX5_isCell_9 : decode cX5_isCell 9 = .ok (.ireturn, 1) := by decide +kernel
theorem dX5_isOf_0 : decode cX5_isOf 0 = .ok (.iload_n 1, 1) := by decide +kernel
theorem dX5_isOf_1 : decode cX5_isOf 1 = .ok (.iconst 2, 1) := by decide +kernel
theorem dX5_isOf_2 : decode cX5_isOf 2 = .ok (.if_icmp .lt 26, 3) := by decide +kernel
theorem dX5_isOf_5 : decode cX5_isOf 5 = .ok (.iload_n 1, 1) := by decide +kernel
theorem dX5_isOf_6 : decode cX5_isOf 6 = .ok (.iconst 5, 1) := by decide +kernel
theorem dX5_isOf_7 : decode cX5_isOf 7 = .ok (.if_icmp .ge 13, 3) := by decide +kernel
theorem dX5_isOf_10 : decode cX5_isOf 10 = .ok (.iload_n 2, 1) := by decide +kernel
theorem dX5_isOf_11 : decode cX5_isOf 11 = .ok (.invokestatic 82, 3) := by decide +kernel
theorem dX5_isOf_14 : decode cX5_isOf 14 = .ok (.ifCond .eq 18, 3) := by decide +kernel
theorem dX5_isOf_17 : decode cX5_isOf 17 = .ok (.goto 11, 3) := by decide +kernel
theorem dX5_isOf_20 : decode cX5_isOf 20 = .ok (.aload_n 0, 1) := by decide +kernel
theorem dX5_isOf_21 : decode cX5_isOf 21 = .ok (.iload_n 2, 1) := by decide +kernel
theorem dX5_isOf_22 : decode cX5_isOf 22 = .ok (.invokevirtual 86, 3) := by decide +kernel
theorem dX5_isOf_25 : decode cX5_isOf 25 = .ok (.ifCond .eq 7, 3) := by decide +kernel
theorem dX5_isOf_28 : decode cX5_isOf 28 = .ok (.iconst 1, 1) := by decide +kernel
theorem dX5_isOf_29 : decode cX5_isOf 29 = .ok (.goto 4, 3) := by decide +kernel
theorem dX5_isOf_32 : decode cX5_isOf 32 = .ok (.iconst 0, 1) := by decide +kernel
theorem dX5_isOf_33 : decode cX5_isOf 33 = .ok (.ireturn, 1) := by decide +kernel
theorem dX5_mostOf_0 : decode cX5_mostOf 0 = .ok (.iload_n 0, 1) := by decide +kernel
theorem dX5_mostOf_1 : decode cX5_mostOf 1 = .ok (.iconst 5, 1) := by decide +kernel
theorem dX5_mostOf_2 : decode cX5_mostOf 2 = .ok (.if_icmp .ge 28, 3) := by decide +kernel
theorem dX5_mostOf_5 : decode cX5_mostOf 5 = .ok (.iload_n 0, 1) := by decide +kernel
theorem dX5_mostOf_6 : decode cX5_mostOf 6 = .ok (.iconst 1, 1) := by decide +kernel
theorem dX5_mostOf_7 : decode cX5_mostOf 7 = .ok (.if_icmp .ne 9, 3) := by decide +kernel
theorem dX5_mostOf_10 : decode cX5_mostOf 10 = .ok (.sipush 999, 3) := by decide +kernel
theorem dX5_mostOf_13 : decode cX5_mostOf 13 = .ok (.goto 16, 3) := by decide +kernel
theorem dX5_mostOf_16 : decode cX5_mostOf 16 = .ok (.iload_n 0, 1) := by decide +kernel
theorem dX5_mostOf_17 : decode cX5_mostOf 17 = .ok (.iconst 4, 1) := by decide +kernel
theorem dX5_mostOf_18 : decode cX5_mostOf 18 = .ok (.if_icmp .ne 9, 3) := by decide +kernel
theorem dX5_mostOf_21 : decode cX5_mostOf 21 = .ok (.sipush 999, 3) := by decide +kernel
theorem dX5_mostOf_24 : decode cX5_mostOf 24 = .ok (.goto 5, 3) := by decide +kernel
theorem dX5_mostOf_27 : decode cX5_mostOf 27 = .ok (.bipush 99, 2) := by decide +kernel
theorem dX5_mostOf_29 : decode cX5_mostOf 29 = .ok (.ireturn, 1) := by decide +kernel
theorem dX5_mostOf_30 : decode cX5_mostOf 30 = .ok (.iload_n 0, 1) := by decide +kernel
theorem dX5_mostOf_31 : decode cX5_mostOf 31 = .ok (.iconst 5, 1) := by decide +kernel
theorem dX5_mostOf_32 : decode cX5_mostOf 32 = .ok (.if_icmp .ne 8, 3) := by decide +kernel
theorem dX5_mostOf_35 : decode cX5_mostOf 35 = .ok (.bipush 9, 2) := by decide +kernel
theorem dX5_mostOf_37 : decode cX5_mostOf 37 = .ok (.goto 15, 3) := by decide +kernel
theorem dX5_mostOf_40 : decode cX5_mostOf 40 = .ok (.iload_n 0, 1) := by decide +kernel
theorem dX5_mostOf_41 : decode cX5_mostOf 41 = .ok (.bipush 6, 2) := by decide +kernel
theorem dX5_mostOf_43 : decode cX5_mostOf 43 = .ok (.if_icmp .ne 8, 3) := by decide +kernel
theorem dX5_mostOf_46 : decode cX5_mostOf 46 = .ok (.bipush 11, 2) := by decide +kernel
theorem dX5_mostOf_48 : decode cX5_mostOf 48 = .ok (.goto 4, 3) := by decide +kernel
theorem dX5_mostOf_51 : decode cX5_mostOf 51 = .ok (.iconst 1, 1) := by decide +kernel
theorem dX5_mostOf_52 : decode cX5_mostOf 52 = .ok (.ireturn, 1) := by decide +kernel
theorem dX5_set_0 : decode cX5_set 0 = .ok (.iload_n 1, 1) := by decide +kernel
theorem dX5_set_1 : decode cX5_set 1 = .ok (.i2l, 1) := by decide +kernel
theorem dX5_set_2 : decode cX5_set 2 = .ok (.lconst 0, 1) := by decide +kernel
theorem dX5_set_3 : decode cX5_set 3 = .ok (.ldc2_w 89, 3) := by decide +kernel
theorem dX5_set_6 : decode cX5_set 6 = .ok (.invokestatic 76, 3) := by decide +kernel
theorem dX5_set_9 : decode cX5_set 9 = .ok (.ifCond .eq 26, 3) := by decide +kernel
theorem dX5_set_12 : decode cX5_set 12 = .ok (.aload_n 0, 1) := by decide +kernel
theorem dX5_set_13 : decode cX5_set 13 = .ok (.iload_n 1, 1) := by decide +kernel
theorem dX5_set_14 : decode cX5_set 14 = .ok (.iload_n 2, 1) := by decide +kernel
theorem dX5_set_15 : decode cX5_set 15 = .ok (.invokevirtual 91, 3) := by decide +kernel
theorem dX5_set_18 : decode cX5_set 18 = .ok (.ifCond .eq 17, 3) := by decide +kernel
theorem dX5_set_21 : decode cX5_set 21 = .ok (.iload_n 3, 1) := by decide +kernel
theorem dX5_set_22 : decode cX5_set 22 = .ok (.i2l, 1) := by decide +kernel
theorem dX5_set_23 : decode cX5_set 23 = .ok (.lconst 0, 1) := by decide +kernel
theorem dX5_set_24 : decode cX5_set 24 = .ok (.iload_n 1, 1) := by decide +kernel
theorem dX5_set_25 : decode cX5_set 25 = .ok (.invokestatic 95, 3) := by decide +kernel
theorem dX5_set_28 : decode cX5_set 28 = .ok (.i2l, 1) := by decide +kernel
theorem dX5_set_29 : decode cX5_set 29 = .ok (.invokestatic 76, 3) := by decide +kernel
theorem dX5_set_32 : decode cX5_set 32 = .ok (.ifCond .ne 6, 3) := by decide +kernel
theorem dX5_set_35 : decode cX5_set 35 = .ok (.bipush (-2), 2) := by decide +kernel
theorem dX5_set_37 : decode cX5_set 37 = .ok (.ireturn, 1) := by decide +kernel
theorem dX5_set_38 : decode cX5_set 38 = .ok (.aload_n 0, 1) := by decide +kernel
theorem dX5_set_39 : decode cX5_set 39 = .ok (.iload_n 2, 1) := by decide +kernel
theorem dX5_set_40 : decode cX5_set 40 = .ok (.iload_n 1, 1) := by decide +kernel
theorem dX5_set_41 : decode cX5_set 41 = .ok (.invokevirtual 99, 3) := by decide +kernel
theorem dX5_set_44 : decode cX5_set 44 = .ok (.istore 4, 2) := by decide +kernel
theorem dX5_set_46 : decode cX5_set 46 = .ok (.aload_n 0, 1) := by decide +kernel
theorem dX5_set_47 : decode cX5_set 47 = .ok (.iload_n 1, 1) := by decide +kernel
theorem dX5_set_48 : decode cX5_set 48 = .ok (.iload_n 2, 1) := by decide +kernel
theorem dX5_set_49 : decode cX5_set 49 = .ok (.iload_n 3, 1) := by decide +kernel
theorem dX5_set_50 : decode cX5_set 50 = .ok (.invokevirtual 103, 3) := by decide +kernel
theorem dX5_set_53 : decode cX5_set 53 = .ok (.iload 4, 2) := by decide +kernel
theorem dX5_set_55 : decode cX5_set 55 = .ok (.ireturn, 1) := by decide +kernel
theorem dX5_lays_0 : decode cX5_lays 0 = .ok (.iload_n 1, 1) := by decide +kernel
theorem dX5_lays_1 : decode cX5_lays 1 = .ok (.ifCond .ne 11, 3) := by decide +kernel
theorem dX5_lays_4 : decode cX5_lays 4 = .ok (.aload_n 0, 1) := by decide +kernel
theorem dX5_lays_5 : decode cX5_lays 5 = .ok (.iload_n 3, 1) := by decide +kernel
theorem dX5_lays_6 : decode cX5_lays 6 = .ok (.putfield 23, 3) := by decide +kernel
theorem dX5_lays_9 : decode cX5_lays 9 = .ok (.goto 80, 3) := by decide +kernel
theorem dX5_lays_12 : decode cX5_lays 12 = .ok (.iload_n 1, 1) := by decide +kernel
theorem dX5_lays_13 : decode cX5_lays 13 = .ok (.iconst 1, 1) := by decide +kernel
theorem dX5_lays_14 : decode cX5_lays 14 = .ok (.if_icmp .ne 11, 3) := by decide +kernel
theorem dX5_lays_17 : decode cX5_lays 17 = .ok (.aload_n 0, 1) := by decide +kernel
theorem dX5_lays_18 : decode cX5_lays 18 = .ok (.iload_n 3, 1) := by decide +kernel
theorem dX5_lays_19 : decode cX5_lays 19 = .ok (.putfield 107, 3) := by decide +kernel
theorem dX5_lays_22 : decode cX5_lays 22 = .ok (.goto 67, 3) := by decide +kernel
theorem dX5_lays_25 : decode cX5_lays 25 = .ok (.iload_n 1, 1) := by decide +kernel
theorem dX5_lays_26 : decode cX5_lays 26 = .ok (.iconst 5, 1) := by decide +kernel
theorem dX5_lays_27 : decode cX5_lays 27 = .ok (.if_icmp .ge 19, 3) := by decide +kernel
theorem dX5_lays_30 : decode cX5_lays 30 = .ok (.aload_n 0, 1) := by decide +kernel
theorem dX5_lays_31 : decode cX5_lays 31 = .ok (.getfield 26, 3) := by decide +kernel
theorem dX5_lays_34 : decode cX5_lays 34 = .ok (.iconst 3, 1) := by decide +kernel
theorem dX5_lays_35 : decode cX5_lays 35 = .ok (.iload_n 2, 1) := by decide +kernel
theorem dX5_lays_36 : decode cX5_lays 36 = .ok (.imul, 1) := by decide +kernel
theorem dX5_lays_37 : decode cX5_lays 37 = .ok (.iload_n 1, 1) := by decide +kernel
theorem dX5_lays_38 : decode cX5_lays 38 = .ok (.iadd, 1) := by decide +kernel
theorem dX5_lays_39 : decode cX5_lays 39 = .ok (.iconst 2, 1) := by decide +kernel
theorem dX5_lays_40 : decode cX5_lays 40 = .ok (.isub, 1) := by decide +kernel
theorem dX5_lays_41 : decode cX5_lays 41 = .ok (.iload_n 3, 1) := by decide +kernel
theorem dX5_lays_42 : decode cX5_lays 42 = .ok (.iastore, 1) := by decide +kernel
theorem dX5_lays_43 : decode cX5_lays 43 = .ok (.goto 46, 3) := by decide +kernel
theorem dX5_lays_46 : decode cX5_lays 46 = .ok (.iload_n 1, 1) := by decide +kernel
theorem dX5_lays_47 : decode cX5_lays 47 = .ok (.bipush 8, 2) := by decide +kernel
theorem dX5_lays_49 : decode cX5_lays 49 = .ok (.if_icmp .ge 19, 3) := by decide +kernel
theorem dX5_lays_52 : decode cX5_lays 52 = .ok (.aload_n 0, 1) := by decide +kernel
theorem dX5_lays_53 : decode cX5_lays 53 = .ok (.getfield 32, 3) := by decide +kernel
theorem dX5_lays_56 : decode cX5_lays 56 = .ok (.iconst 3, 1) := by decide +kernel
theorem dX5_lays_57 : decode cX5_lays 57 = .ok (.iload_n 2, 1) := by decide +kernel
theorem dX5_lays_58 : decode cX5_lays 58 = .ok (.imul, 1) := by decide +kernel
theorem dX5_lays_59 : decode cX5_lays 59 = .ok (.iload_n 1, 1) := by decide +kernel
theorem dX5_lays_60 : decode cX5_lays 60 = .ok (.iadd, 1) := by decide +kernel
theorem dX5_lays_61 : decode cX5_lays 61 = .ok (.iconst 5, 1) := by decide +kernel
theorem dX5_lays_62 : decode cX5_lays 62 = .ok (.isub, 1) := by decide +kernel
theorem dX5_lays_63 : decode cX5_lays 63 = .ok (.iload_n 3, 1) := by decide +kernel
theorem dX5_lays_64 : decode cX5_lays 64 = .ok (.iastore, 1) := by decide +kernel
theorem dX5_lays_65 : decode cX5_lays 65 = .ok (.goto 24, 3) := by decide +kernel
theorem dX5_lays_68 : decode cX5_lays 68 = .ok (.iload_n 1, 1) := by decide +kernel
theorem dX5_lays_69 : decode cX5_lays 69 = .ok (.bipush 8, 2) := by decide +kernel
theorem dX5_lays_71 : decode cX5_lays 71 = .ok (.if_icmp .ne 13, 3) := by decide +kernel
theorem dX5_lays_74 : decode cX5_lays 74 = .ok (.aload_n 0, 1) := by decide +kernel
theorem dX5_lays_75 : decode cX5_lays 75 = .ok (.getfield 29, 3) := by decide +kernel
theorem dX5_lays_78 : decode cX5_lays 78 = .ok (.iload_n 2, 1) := by decide +kernel
theorem dX5_lays_79 : decode cX5_lays 79 = .ok (.iload_n 3, 1) := by decide +kernel
theorem dX5_lays_80 : decode cX5_lays 80 = .ok (.iastore, 1) := by decide +kernel
theorem dX5_lays_81 : decode cX5_lays 81 = .ok (.goto 8, 3) := by decide +kernel
theorem dX5_lays_84 : decode cX5_lays 84 = .ok (.aload_n 0, 1) := by decide +kernel
theorem dX5_lays_85 : decode cX5_lays 85 = .ok (.iload_n 3, 1) := by decide +kernel
theorem dX5_lays_86 : decode cX5_lays 86 = .ok (.putfield 110, 3) := by decide +kernel
theorem dX5_lays_89 : decode cX5_lays 89 = .ok (.return_, 1) := by decide +kernel
theorem dX5_comes_0 : decode cX5_comes 0 = .ok (.aload_n 0, 1) := by decide +kernel
theorem dX5_comes_1 : decode cX5_comes 1 = .ok (.getfield 29, 3) := by decide +kernel
theorem dX5_comes_4 : decode cX5_comes 4 = .ok (.aload_n 0, 1) := by decide +kernel
theorem dX5_comes_5 : decode cX5_comes 5 = .ok (.getfield 73, 3) := by decide +kernel
theorem dX5_comes_8 : decode cX5_comes 8 = .ok (.iload_n 1, 1) := by decide +kernel
theorem dX5_comes_9 : decode cX5_comes 9 = .ok (.iastore, 1) := by decide +kernel
theorem dX5_comes_10 : decode cX5_comes 10 = .ok (.aload_n 0, 1) := by decide +kernel
theorem dX5_comes_11 : decode cX5_comes 11 = .ok (.getfield 32, 3) := by decide +kernel
theorem dX5_comes_14 : decode cX5_comes 14 = .ok (.iconst 3, 1) := by decide +kernel
theorem dX5_comes_15 : decode cX5_comes 15 = .ok (.aload_n 0, 1) := by decide +kernel
theorem dX5_comes_16 : decode cX5_comes 16 = .ok (.getfield 73, 3) := by decide +kernel
theorem dX5_comes_19 : decode cX5_comes 19 = .ok (.imul, 1) := by decide +kernel
theorem dX5_comes_20 : decode cX5_comes 20 = .ok (.iload_n 2, 1) := by decide +kernel
theorem dX5_comes_21 : decode cX5_comes 21 = .ok (.iastore, 1) := by decide +kernel
theorem dX5_comes_22 : decode cX5_comes 22 = .ok (.aload_n 0, 1) := by decide +kernel
theorem dX5_comes_23 : decode cX5_comes 23 = .ok (.getfield 32, 3) := by decide +kernel
theorem dX5_comes_26 : decode cX5_comes 26 = .ok (.iconst 3, 1) := by decide +kernel
theorem dX5_comes_27 : decode cX5_comes 27 = .ok (.aload_n 0, 1) := by decide +kernel
theorem dX5_comes_28 : decode cX5_comes 28 = .ok (.getfield 73, 3) := by decide +kernel
theorem dX5_comes_31 : decode cX5_comes 31 = .ok (.imul, 1) := by decide +kernel
theorem dX5_comes_32 : decode cX5_comes 32 = .ok (.iconst 1, 1) := by decide +kernel
theorem dX5_comes_33 : decode cX5_comes 33 = .ok (.iadd, 1) := by decide +kernel
theorem dX5_comes_34 : decode cX5_comes 34 = .ok (.iload_n 3, 1) := by decide +kernel
theorem dX5_comes_35 : decode cX5_comes 35 = .ok (.iastore, 1) := by decide +kernel
theorem dX5_comes_36 : decode cX5_comes 36 = .ok (.aload_n 0, 1) := by decide +kernel
theorem dX5_comes_37 : decode cX5_comes 37 = .ok (.getfield 32, 3) := by decide +kernel
theorem dX5_comes_40 : decode cX5_comes 40 = .ok (.iconst 3, 1) := by decide +kernel
theorem dX5_comes_41 : decode cX5_comes 41 = .ok (.aload_n 0, 1) := by decide +kernel
theorem dX5_comes_42 : decode cX5_comes 42 = .ok (.getfield 73, 3) := by decide +kernel
theorem dX5_comes_45 : decode cX5_comes 45 = .ok (.imul, 1) := by decide +kernel
theorem dX5_comes_46 : decode cX5_comes 46 = .ok (.iconst 2, 1) := by decide +kernel
theorem dX5_comes_47 : decode cX5_comes 47 = .ok (.iadd, 1) := by decide +kernel
theorem dX5_comes_48 : decode cX5_comes 48 = .ok (.iconst 1, 1) := by decide +kernel
theorem dX5_comes_49 : decode cX5_comes 49 = .ok (.iastore, 1) := by decide +kernel
theorem dX5_comes_50 : decode cX5_comes 50 = .ok (.aload_n 0, 1) := by decide +kernel
theorem dX5_comes_51 : decode cX5_comes 51 = .ok (.dup, 1) := by decide +kernel
theorem dX5_comes_52 : decode cX5_comes 52 = .ok (.getfield 73, 3) := by decide +kernel
theorem dX5_comes_55 : decode cX5_comes 55 = .ok (.iconst 1, 1) := by decide +kernel
theorem dX5_comes_56 : decode cX5_comes 56 = .ok (.iadd, 1) := by decide +kernel
theorem dX5_comes_57 : decode cX5_comes 57 = .ok (.putfield 73, 3) := by decide +kernel
theorem dX5_comes_60 : decode cX5_comes 60 = .ok (.return_, 1) := by decide +kernel
theorem dX5_work_0 : decode cX5_work 0 = .ok (.iload_n 1, 1) := by decide +kernel
theorem dX5_work_1 : decode cX5_work 1 = .ok (.i2l, 1) := by decide +kernel
theorem dX5_work_2 : decode cX5_work 2 = .ok (.lconst 0, 1) := by decide +kernel
theorem dX5_work_3 : decode cX5_work 3 = .ok (.ldc2_w 113, 3) := by decide +kernel
theorem dX5_work_6 : decode cX5_work 6 = .ok (.invokestatic 76, 3) := by decide +kernel
theorem dX5_work_9 : decode cX5_work 9 = .ok (.ifCond .eq 22, 3) := by decide +kernel
theorem dX5_work_12 : decode cX5_work 12 = .ok (.iload_n 2, 1) := by decide +kernel
theorem dX5_work_13 : decode cX5_work 13 = .ok (.i2l, 1) := by decide +kernel
theorem dX5_work_14 : decode cX5_work 14 = .ok (.lconst 0, 1) := by decide +kernel
theorem dX5_work_15 : decode cX5_work 15 = .ok (.ldc2_w 115, 3) := by decide +kernel
theorem dX5_work_18 : decode cX5_work 18 = .ok (.invokestatic 76, 3) := by decide +kernel
theorem dX5_work_21 : decode cX5_work 21 = .ok (.ifCond .eq 10, 3) := by decide +kernel
theorem dX5_work_24 : decode cX5_work 24 = .ok (.iload_n 3, 1) := by decide +kernel
theorem dX5_work_25 : decode cX5_work 25 = .ok (.invokestatic 82, 3) := by decide +kernel
theorem dX5_work_28 : decode cX5_work 28 = .ok (.ifCond .ne 6, 3) := by decide +kernel
theorem dX5_work_31 : decode cX5_work 31 = .ok (.bipush (-2), 2) := by decide +kernel
theorem dX5_work_33 : decode cX5_work 33 = .ok (.ireturn, 1) := by decide +kernel
theorem dX5_work_34 : decode cX5_work 34 = .ok (.aload_n 0, 1) := by decide +kernel
theorem dX5_work_35 : decode cX5_work 35 = .ok (.getfield 73, 3) := by decide +kernel
theorem dX5_work_38 : decode cX5_work 38 = .ok (.bipush 6, 2) := by decide +kernel
theorem dX5_work_40 : decode cX5_work 40 = .ok (.if_icmp .ne 6, 3) := by decide +kernel
theorem dX5_work_43 : decode cX5_work 43 = .ok (.bipush (-4), 2) := by decide +kernel
theorem dX5_work_45 : decode cX5_work 45 = .ok (.ireturn, 1) := by decide +kernel
theorem dX5_work_46 : decode cX5_work 46 = .ok (.aload_n 0, 1) := by decide +kernel
theorem dX5_work_47 : decode cX5_work 47 = .ok (.iload_n 1, 1) := by decide +kernel
theorem dX5_work_48 : decode cX5_work 48 = .ok (.iload_n 2, 1) := by decide +kernel
theorem dX5_work_49 : decode cX5_work 49 = .ok (.iload_n 3, 1) := by decide +kernel
theorem dX5_work_50 : decode cX5_work 50 = .ok (.invokevirtual 117, 3) := by decide +kernel
theorem dX5_work_53 : decode cX5_work 53 = .ok (.aload_n 0, 1) := by decide +kernel
theorem dX5_work_54 : decode cX5_work 54 = .ok (.getfield 73, 3) := by decide +kernel
theorem dX5_work_57 : decode cX5_work 57 = .ok (.iconst 1, 1) := by decide +kernel
theorem dX5_work_58 : decode cX5_work 58 = .ok (.isub, 1) := by decide +kernel
theorem dX5_work_59 : decode cX5_work 59 = .ok (.ireturn, 1) := by decide +kernel
theorem dX5_told_0 : decode cX5_told 0 = .ok (.iload_n 2, 1) := by decide +kernel
theorem dX5_told_1 : decode cX5_told 1 = .ok (.i2l, 1) := by decide +kernel
theorem dX5_told_2 : decode cX5_told 2 = .ok (.lconst 0, 1) := by decide +kernel
theorem dX5_told_3 : decode cX5_told 3 = .ok (.ldc2_w 120, 3) := by decide +kernel
theorem dX5_told_6 : decode cX5_told 6 = .ok (.invokestatic 76, 3) := by decide +kernel
theorem dX5_told_9 : decode cX5_told 9 = .ok (.ifCond .eq 12, 3) := by decide +kernel
theorem dX5_told_12 : decode cX5_told 12 = .ok (.aload_n 0, 1) := by decide +kernel
theorem dX5_told_13 : decode cX5_told 13 = .ok (.iload_n 2, 1) := by decide +kernel
theorem dX5_told_14 : decode cX5_told 14 = .ok (.iload_n 1, 1) := by decide +kernel
theorem dX5_told_15 : decode cX5_told 15 = .ok (.invokevirtual 91, 3) := by decide +kernel
theorem dX5_told_18 : decode cX5_told 18 = .ok (.ifCond .ne 6, 3) := by decide +kernel
theorem dX5_told_21 : decode cX5_told 21 = .ok (.bipush (-2), 2) := by decide +kernel
theorem dX5_told_23 : decode cX5_told 23 = .ok (.ireturn, 1) := by decide +kernel
theorem dX5_told_24 : decode cX5_told 24 = .ok (.iload_n 2, 1) := by decide +kernel
theorem dX5_told_25 : decode cX5_told 25 = .ok (.iconst 5, 1) := by decide +kernel
theorem dX5_told_26 : decode cX5_told 26 = .ok (.if_icmp .ge 39, 3) := by decide +kernel
theorem dX5_told_29 : decode cX5_told 29 = .ok (.iload_n 2, 1) := by decide +kernel
theorem dX5_told_30 : decode cX5_told 30 = .ok (.ifCond .ne 10, 3) := by decide +kernel
theorem dX5_told_33 : decode cX5_told 33 = .ok (.aload_n 0, 1) := by decide +kernel
theorem dX5_told_34 : decode cX5_told 34 = .ok (.getfield 23, 3) := by decide +kernel
theorem dX5_told_37 : decode cX5_told 37 = .ok (.goto 27, 3) := by decide +kernel
theorem dX5_told_40 : decode cX5_told 40 = .ok (.iload_n 2, 1) := by decide +kernel
theorem dX5_told_41 : decode cX5_told 41 = .ok (.iconst 1, 1) := by decide +kernel
theorem dX5_told_42 : decode cX5_told 42 = .ok (.if_icmp .ne 10, 3) := by decide +kernel
theorem dX5_told_45 : decode cX5_told 45 = .ok (.aload_n 0, 1) := by decide +kernel
theorem dX5_told_46 : decode cX5_told 46 = .ok (.getfield 107, 3) := by decide +kernel
theorem dX5_told_49 : decode cX5_told 49 = .ok (.goto 15, 3) := by decide +kernel
theorem dX5_told_52 : decode cX5_told 52 = .ok (.aload_n 0, 1) := by decide +kernel
theorem dX5_told_53 : decode cX5_told 53 = .ok (.getfield 26, 3) := by decide +kernel
theorem dX5_told_56 : decode cX5_told 56 = .ok (.iconst 3, 1) := by decide +kernel
theorem dX5_told_57 : decode cX5_told 57 = .ok (.iload_n 1, 1) := by decide +kernel
theorem dX5_told_58 : decode cX5_told 58 = .ok (.imul, 1) := by decide +kernel
theorem dX5_told_59 : decode cX5_told 59 = .ok (.iload_n 2, 1) := by decide +kernel
theorem dX5_told_60 : decode cX5_told 60 = .ok (.iadd, 1) := by decide +kernel
theorem dX5_told_61 : decode cX5_told 61 = .ok (.iconst 2, 1) := by decide +kernel
theorem dX5_told_62 : decode cX5_told 62 = .ok (.isub, 1) := by decide +kernel
theorem dX5_told_63 : decode cX5_told 63 = .ok (.iaload, 1) := by decide +kernel
theorem dX5_told_64 : decode cX5_told 64 = .ok (.ireturn, 1) := by decide +kernel
theorem dX5_told_65 : decode cX5_told 65 = .ok (.iload_n 2, 1) := by decide +kernel
theorem dX5_told_66 : decode cX5_told 66 = .ok (.bipush 9, 2) := by decide +kernel
theorem dX5_told_68 : decode cX5_told 68 = .ok (.if_icmp .ge 31, 3) := by decide +kernel
theorem dX5_told_71 : decode cX5_told 71 = .ok (.iload_n 2, 1) := by decide +kernel
theorem dX5_told_72 : decode cX5_told 72 = .ok (.bipush 8, 2) := by decide +kernel
theorem dX5_told_74 : decode cX5_told 74 = .ok (.if_icmp .ge 18, 3) := by decide +kernel
theorem dX5_told_77 : decode cX5_told 77 = .ok (.aload_n 0, 1) := by decide +kernel
theorem dX5_told_78 : decode cX5_told 78 = .ok (.getfield 32, 3) := by decide +kernel
theorem dX5_told_81 : decode cX5_told 81 = .ok (.iconst 3, 1) := by decide +kernel
theorem dX5_told_82 : decode cX5_told 82 = .ok (.iload_n 1, 1) := by decide +kernel
theorem dX5_told_83 : decode cX5_told 83 = .ok (.imul, 1) := by decide +kernel
theorem dX5_told_84 : decode cX5_told 84 = .ok (.iload_n 2, 1) := by decide +kernel
theorem dX5_told_85 : decode cX5_told 85 = .ok (.iadd, 1) := by decide +kernel
theorem dX5_told_86 : decode cX5_told 86 = .ok (.iconst 5, 1) := by decide +kernel
theorem dX5_told_87 : decode cX5_told 87 = .ok (.isub, 1) := by decide +kernel
theorem dX5_told_88 : decode cX5_told 88 = .ok (.iaload, 1) := by decide +kernel
theorem dX5_told_89 : decode cX5_told 89 = .ok (.goto 9, 3) := by decide +kernel
theorem dX5_told_92 : decode cX5_told 92 = .ok (.aload_n 0, 1) := by decide +kernel
theorem dX5_told_93 : decode cX5_told 93 = .ok (.getfield 29, 3) := by decide +kernel
theorem dX5_told_96 : decode cX5_told 96 = .ok (.iload_n 1, 1) := by decide +kernel
theorem dX5_told_97 : decode cX5_told 97 = .ok (.iaload, 1) := by decide +kernel
theorem dX5_told_98 : decode cX5_told 98 = .ok (.ireturn, 1) := by decide +kernel
theorem dX5_told_99 : decode cX5_told 99 = .ok (.iload_n 2, 1) := by decide +kernel
theorem dX5_told_100 : decode cX5_told 100 = .ok (.bipush 9, 2) := by decide +kernel
theorem dX5_told_102 : decode cX5_told 102 = .ok (.if_icmp .ne 21, 3) := by decide +kernel
theorem dX5_told_105 : decode cX5_told 105 = .ok (.aload_n 0, 1) := by decide +kernel
theorem dX5_told_106 : decode cX5_told 106 = .ok (.iload_n 1, 1) := by decide +kernel
theorem dX5_told_107 : decode cX5_told 107 = .ok (.aload_n 0, 1) := by decide +kernel
theorem dX5_told_108 : decode cX5_told 108 = .ok (.getfield 32, 3) := by decide +kernel
theorem dX5_told_111 : decode cX5_told 111 = .ok (.iconst 3, 1) := by decide +kernel
theorem dX5_told_112 : decode cX5_told 112 = .ok (.iload_n 1, 1) := by decide +kernel
theorem dX5_told_113 : decode cX5_told 113 = .ok (.imul, 1) := by decide +kernel
theorem dX5_told_114 : decode cX5_told 114 = .ok (.iconst 1, 1) := by decide +kernel
theorem dX5_told_115 : decode cX5_told 115 = .ok (.iadd, 1) := by decide +kernel
theorem dX5_told_116 : decode cX5_told 116 = .ok (.iaload, 1) := by decide +kernel
theorem dX5_told_117 : decode cX5_told 117 = .ok (.invokevirtual 122, 3) := by decide +kernel
theorem dX5_told_120 : decode cX5_told 120 = .ok (.goto 8, 3) := by decide +kernel
theorem dX5_told_123 : decode cX5_told 123 = .ok (.aload_n 0, 1) := by decide +kernel
theorem dX5_told_124 : decode cX5_told 124 = .ok (.iload_n 1, 1) := by decide +kernel
theorem dX5_told_125 : decode cX5_told 125 = .ok (.invokevirtual 125, 3) := by decide +kernel
theorem dX5_told_128 : decode cX5_told 128 = .ok (.ireturn, 1) := by decide +kernel
theorem dX5_feed_0 : decode cX5_feed 0 = .ok (.iload_n 1, 1) := by decide +kernel
theorem dX5_feed_1 : decode cX5_feed 1 = .ok (.i2l, 1) := by decide +kernel
theorem dX5_feed_2 : decode cX5_feed 2 = .ok (.lconst 0, 1) := by decide +kernel
theorem dX5_feed_3 : decode cX5_feed 3 = .ok (.ldc2_w 128, 3) := by decide +kernel
theorem dX5_feed_6 : decode cX5_feed 6 = .ok (.invokestatic 76, 3) := by decide +kernel
theorem dX5_feed_9 : decode cX5_feed 9 = .ok (.ifCond .ne 6, 3) := by decide +kernel
theorem dX5_feed_12 : decode cX5_feed 12 = .ok (.bipush (-2), 2) := by decide +kernel
theorem dX5_feed_14 : decode cX5_feed 14 = .ok (.ireturn, 1) := by decide +kernel
theorem dX5_feed_15 : decode cX5_feed 15 = .ok (.aload_n 0, 1) := by decide +kernel
theorem dX5_feed_16 : decode cX5_feed 16 = .ok (.getfield 130, 3) := by decide +kernel
theorem dX5_feed_19 : decode cX5_feed 19 = .ok (.sipush 160, 3) := by decide +kernel
theorem dX5_feed_22 : decode cX5_feed 22 = .ok (.if_icmp .ne 6, 3) := by decide +kernel
theorem dX5_feed_25 : decode cX5_feed 25 = .ok (.bipush (-4), 2) := by decide +kernel
theorem dX5_feed_27 : decode cX5_feed 27 = .ok (.ireturn, 1) := by decide +kernel
theorem dX5_feed_28 : decode cX5_feed 28 = .ok (.aload_n 0, 1) := by decide +kernel
theorem dX5_feed_29 : decode cX5_feed 29 = .ok (.getfield 20, 3) := by decide +kernel
theorem dX5_feed_32 : decode cX5_feed 32 = .ok (.aload_n 0, 1) := by decide +kernel
theorem dX5_feed_33 : decode cX5_feed 33 = .ok (.getfield 130, 3) := by decide +kernel
theorem dX5_feed_36 : decode cX5_feed 36 = .ok (.iload_n 1, 1) := by decide +kernel
theorem dX5_feed_37 : decode cX5_feed 37 = .ok (.iastore, 1) := by decide +kernel
theorem dX5_feed_38 : decode cX5_feed 38 = .ok (.aload_n 0, 1) := by decide +kernel
theorem dX5_feed_39 : decode cX5_feed 39 = .ok (.dup, 1) := by decide +kernel
theorem dX5_feed_40 : decode cX5_feed 40 = .ok (.getfield 130, 3) := by decide +kernel
theorem dX5_feed_43 : decode cX5_feed 43 = .ok (.iconst 1, 1) := by decide +kernel
theorem dX5_feed_44 : decode cX5_feed 44 = .ok (.iadd, 1) := by decide +kernel
theorem dX5_feed_45 : decode cX5_feed 45 = .ok (.putfield 130, 3) := by decide +kernel
theorem dX5_feed_48 : decode cX5_feed 48 = .ok (.aload_n 0, 1) := by decide +kernel
theorem dX5_feed_49 : decode cX5_feed 49 = .ok (.getfield 130, 3) := by decide +kernel
theorem dX5_feed_52 : decode cX5_feed 52 = .ok (.ireturn, 1) := by decide +kernel
theorem dX5_byteAt_0 : decode cX5_byteAt 0 = .ok (.iload_n 1, 1) := by decide +kernel
theorem dX5_byteAt_1 : decode cX5_byteAt 1 = .ok (.aload_n 0, 1) := by decide +kernel
theorem dX5_byteAt_2 : decode cX5_byteAt 2 = .ok (.getfield 133, 3) := by decide +kernel
theorem dX5_byteAt_5 : decode cX5_byteAt 5 = .ok (.if_icmp .ge 17, 3) := by decide +kernel
theorem dX5_byteAt_8 : decode cX5_byteAt 8 = .ok (.aload_n 0, 1) := by decide +kernel
theorem dX5_byteAt_9 : decode cX5_byteAt 9 = .ok (.getfield 13, 3) := by decide +kernel
theorem dX5_byteAt_12 : decode cX5_byteAt 12 = .ok (.aload_n 0, 1) := by decide +kernel
theorem dX5_byteAt_13 : decode cX5_byteAt 13 = .ok (.getfield 136, 3) := by decide +kernel
theorem dX5_byteAt_16 : decode cX5_byteAt 16 = .ok (.iload_n 1, 1) := by decide +kernel
theorem dX5_byteAt_17 : decode cX5_byteAt 17 = .ok (.iadd, 1) := by decide +kernel
theorem dX5_byteAt_18 : decode cX5_byteAt 18 = .ok (.iaload, 1) := by decide +kernel
theorem dX5_byteAt_19 : decode cX5_byteAt 19 = .ok (.goto 4, 3) := by decide +kernel
theorem dX5_byteAt_22 : decode cX5_byteAt 22 = .ok (.iconst (-1), 1) := by decide +kernel
theorem dX5_byteAt_23 : decode cX5_byteAt 23 = .ok (.ireturn, 1) := by decide +kernel
theorem dX5_next_0 : decode cX5_next 0 = .ok (.aload_n 0, 1) := by decide +kernel
theorem dX5_next_1 : decode cX5_next 1 = .ok (.aload_n 0, 1) := by decide +kernel
theorem dX5_next_2 : decode cX5_next 2 = .ok (.getfield 139, 3) := by decide +kernel
theorem dX5_next_5 : decode cX5_next 5 = .ok (.invokevirtual 142, 3) := by decide +kernel
theorem dX5_next_8 : decode cX5_next 8 = .ok (.bipush 32, 2) := by decide +kernel
theorem dX5_next_10 : decode cX5_next 10 = .ok (.if_icmp .eq 16, 3) := by decide +kernel
theorem dX5_next_13 : decode cX5_next 13 = .ok (.aload_n 0, 1) := by decide +kernel
theorem dX5_next_14 : decode cX5_next 14 = .ok (.aload_n 0, 1) := by decide +kernel
theorem dX5_next_15 : decode cX5_next 15 = .ok (.getfield 139, 3) := by decide +kernel
theorem dX5_next_18 : decode cX5_next 18 = .ok (.invokevirtual 142, 3) := by decide +kernel
theorem dX5_next_21 : decode cX5_next 21 = .ok (.bipush 10, 2) := by decide +kernel
theorem dX5_next_23 : decode cX5_next 23 = .ok (.if_icmp .ne 16, 3) := by decide +kernel
theorem dX5_next_26 : decode cX5_next 26 = .ok (.aload_n 0, 1) := by decide +kernel
theorem dX5_next_27 : decode cX5_next 27 = .ok (.dup, 1) := by decide +kernel
theorem dX5_next_28 : decode cX5_next 28 = .ok (.getfield 139, 3) := by decide +kernel
theorem dX5_next_31 : decode cX5_next 31 = .ok (.iconst 1, 1) := by decide +kernel
theorem dX5_next_32 : decode cX5_next 32 = .ok (.iadd, 1) := by decide +kernel
theorem dX5_next_33 : decode cX5_next 33 = .ok (.putfield 139, 3) := by decide +kernel
theorem dX5_next_36 : decode cX5_next 36 = .ok (.goto (-36), 3) := by decide +kernel
theorem dX5_next_39 : decode cX5_next 39 = .ok (.aload_n 0, 1) := by decide +kernel
theorem dX5_next_40 : decode cX5_next 40 = .ok (.aload_n 0, 1) := by decide +kernel
theorem dX5_next_41 : decode cX5_next 41 = .ok (.getfield 139, 3) := by decide +kernel
theorem dX5_next_44 : decode cX5_next 44 = .ok (.putfield 145, 3) := by decide +kernel
theorem dX5_next_47 : decode cX5_next 47 = .ok (.aload_n 0, 1) := by decide +kernel
theorem dX5_next_48 : decode cX5_next 48 = .ok (.aload_n 0, 1) := by decide +kernel
theorem dX5_next_49 : decode cX5_next 49 = .ok (.getfield 139, 3) := by decide +kernel
theorem dX5_next_52 : decode cX5_next 52 = .ok (.invokevirtual 142, 3) := by decide +kernel
theorem dX5_next_55 : decode cX5_next 55 = .ok (.istore_n 1, 1) := by decide +kernel
theorem dX5_next_56 : decode cX5_next 56 = .ok (.aload_n 0, 1) := by decide +kernel
theorem dX5_next_57 : decode cX5_next 57 = .ok (.iconst 4, 1) := by decide +kernel
theorem dX5_next_58 : decode cX5_next 58 = .ok (.putfield 148, 3) := by decide +kernel
theorem dX5_next_61 : decode cX5_next 61 = .ok (.iload_n 1, 1) := by decide +kernel
theorem dX5_next_62 : decode cX5_next 62 = .ok (.ifCond .ge 19, 3) := by decide +kernel
theorem dX5_next_65 : decode cX5_next 65 = .ok (.aload_n 0, 1) := by decide +kernel
theorem dX5_next_66 : decode cX5_next 66 = .ok (.iconst 0, 1) := by decide +kernel
theorem dX5_next_67 : decode cX5_next 67 = .ok (.putfield 148, 3) := by decide +kernel
theorem dX5_next_70 : decode cX5_next 70 = .ok (.aload_n 0, 1) := by decide +kernel
theorem dX5_next_71 : decode cX5_next 71 = .ok (.aload_n 0, 1) := by decide +kernel
theorem dX5_next_72 : decode cX5_next 72 = .ok (.getfield 133, 3) := by decide +kernel
theorem dX5_next_75 : decode cX5_next 75 = .ok (.putfield 145, 3) := by decide +kernel
theorem dX5_next_78 : decode cX5_next 78 = .ok (.goto 243, 3) := by decide +kernel
theorem dX5_next_81 : decode cX5_next 81 = .ok (.iload_n 1, 1) := by decide +kernel
theorem dX5_next_82 : decode cX5_next 82 = .ok (.i2l, 1) := by decide +kernel
theorem dX5_next_83 : decode cX5_next 83 = .ok (.ldc2_w 151, 3) := by decide +kernel
theorem dX5_next_86 : decode cX5_next 86 = .ok (.ldc2_w 153, 3) := by decide +kernel
theorem dX5_next_89 : decode cX5_next 89 = .ok (.invokestatic 76, 3) := by decide +kernel
theorem dX5_next_92 : decode cX5_next 92 = .ok (.ifCond .eq 42, 3) := by decide +kernel
theorem dX5_next_95 : decode cX5_next 95 = .ok (.aload_n 0, 1) := by decide +kernel
theorem dX5_next_96 : decode cX5_next 96 = .ok (.iconst 1, 1) := by decide +kernel
theorem dX5_next_97 : decode cX5_next 97 = .ok (.putfield 148, 3) := by decide +kernel
theorem dX5_next_100 : decode cX5_next 100 = .ok (.aload_n 0, 1) := by decide +kernel
theorem dX5_next_101 : decode cX5_next 101 = .ok (.aload_n 0, 1) := by decide +kernel
theorem dX5_next_102 : decode cX5_next 102 = .ok (.getfield 139, 3) := by decide +kernel
theorem dX5_next_105 : decode cX5_next 105 = .ok (.invokevirtual 142, 3) := by decide +kernel
theorem dX5_next_108 : decode cX5_next 108 = .ok (.i2l, 1) := by decide +kernel
theorem dX5_next_109 : decode cX5_next 109 = .ok (.ldc2_w 151, 3) := by decide +kernel
theorem dX5_next_112 : decode cX5_next 112 = .ok (.ldc2_w 153, 3) := by decide +kernel
theorem dX5_next_115 : decode cX5_next 115 = .ok (.invokestatic 76, 3) := by decide +kernel
theorem dX5_next_118 : decode cX5_next 118 = .ok (.ifCond .eq 203, 3) := by decide +kernel
theorem dX5_next_121 : decode cX5_next 121 = .ok (.aload_n 0, 1) := by decide +kernel
theorem dX5_next_122 : decode cX5_next 122 = .ok (.dup, 1) := by decide +kernel
theorem dX5_next_123 : decode cX5_next 123 = .ok (.getfield 139, 3) := by decide +kernel
theorem dX5_next_126 : decode cX5_next 126 = .ok (.iconst 1, 1) := by decide +kernel
theorem dX5_next_127 : decode cX5_next 127 = .ok (.iadd, 1) := by decide +kernel
theorem dX5_next_128 : decode cX5_next 128 = .ok (.putfield 139, 3) := by decide +kernel
theorem dX5_next_131 : decode cX5_next 131 = .ok (.goto (-31), 3) := by decide +kernel
theorem dX5_next_134 : decode cX5_next 134 = .ok (.iload_n 1, 1) := by decide +kernel
theorem dX5_next_135 : decode cX5_next 135 = .ok (.i2l, 1) := by decide +kernel
theorem dX5_next_136 : decode cX5_next 136 = .ok (.ldc2_w 155, 3) := by decide +kernel
theorem dX5_next_139 : decode cX5_next 139 = .ok (.ldc2_w 157, 3) := by decide +kernel
theorem dX5_next_142 : decode cX5_next 142 = .ok (.invokestatic 76, 3) := by decide +kernel
theorem dX5_next_145 : decode cX5_next 145 = .ok (.ifCond .eq 107, 3) := by decide +kernel
theorem dX5_next_148 : decode cX5_next 148 = .ok (.aload_n 0, 1) := by decide +kernel
theorem dX5_next_149 : decode cX5_next 149 = .ok (.iconst 2, 1) := by decide +kernel
theorem dX5_next_150 : decode cX5_next 150 = .ok (.putfield 148, 3) := by decide +kernel
theorem dX5_next_153 : decode cX5_next 153 = .ok (.aload_n 0, 1) := by decide +kernel
theorem dX5_next_154 : decode cX5_next 154 = .ok (.lconst 0, 1) := by decide +kernel
theorem dX5_next_155 : decode cX5_next 155 = .ok (.putfield 159, 3) := by decide +kernel
theorem dX5_next_158 : decode cX5_next 158 = .ok (.iconst 0, 1) := by decide +kernel
theorem dX5_next_159 : decode cX5_next 159 = .ok (.istore_n 2, 1) := by decide +kernel
theorem dX5_next_160 : decode cX5_next 160 = .ok (.aload_n 0, 1) := by decide +kernel
theorem dX5_next_161 : decode cX5_next 161 = .ok (.aload_n 0, 1) := by decide +kernel
theorem dX5_next_162 : decode cX5_next 162 = .ok (.getfield 139, 3) := by decide +kernel
theorem dX5_next_165 : decode cX5_next 165 = .ok (.invokevirtual 142, 3) := by decide +kernel
theorem dX5_next_168 : decode cX5_next 168 = .ok (.i2l, 1) := by decide +kernel
theorem dX5_next_169 : decode cX5_next 169 = .ok (.ldc2_w 155, 3) := by decide +kernel
theorem dX5_next_172 : decode cX5_next 172 = .ok (.ldc2_w 157, 3) := by decide +kernel
theorem dX5_next_175 : decode cX5_next 175 = .ok (.invokestatic 76, 3) := by decide +kernel
theorem dX5_next_178 : decode cX5_next 178 = .ok (.ifCond .eq 57, 3) := by decide +kernel
theorem dX5_next_181 : decode cX5_next 181 = .ok (.aload_n 0, 1) := by decide +kernel
theorem dX5_next_182 : decode cX5_next 182 = .ok (.iload_n 2, 1) := by decide +kernel
theorem dX5_next_183 : decode cX5_next 183 = .ok (.iconst 4, 1) := by decide +kernel
theorem dX5_next_184 : decode cX5_next 184 = .ok (.if_icmp .ge 28, 3) := by decide +kernel
theorem dX5_next_187 : decode cX5_next 187 = .ok (.ldc2_w 120, 3) := by decide +kernel
theorem dX5_next_190 : decode cX5_next 190 = .ok (.aload_n 0, 1) := by decide +kernel
theorem dX5_next_191 : decode cX5_next 191 = .ok (.getfield 159, 3) := by decide +kernel
theorem dX5_next_194 : decode cX5_next 194 = .ok (.lmul, 1) := by decide +kernel
theorem dX5_next_195 : decode cX5_next 195 = .ok (.aload_n 0, 1) := by decide +kernel
theorem dX5_next_196 : decode cX5_next 196 = .ok (.aload_n 0, 1) := by decide +kernel
theorem dX5_next_197 : decode cX5_next 197 = .ok (.getfield 139, 3) := by decide +kernel
theorem dX5_next_200 : decode cX5_next 200 = .ok (.invokevirtual 142, 3) := by decide +kernel
theorem dX5_next_203 : decode cX5_next 203 = .ok (.i2l, 1) := by decide +kernel
theorem dX5_next_204 : decode cX5_next 204 = .ok (.ladd, 1) := by decide +kernel
theorem dX5_next_205 : decode cX5_next 205 = .ok (.ldc2_w 155, 3) := by decide +kernel
theorem dX5_next_208 : decode cX5_next 208 = .ok (.lsub, 1) := by decide +kernel
theorem dX5_next_209 : decode cX5_next 209 = .ok (.goto 7, 3) := by decide +kernel
theorem dX5_next_212 : decode cX5_next 212 = .ok (.aload_n 0, 1) := by decide +kernel
theorem dX5_next_213 : decode cX5_next 213 = .ok (.getfield 159, 3) := by decide +kernel
theorem dX5_next_216 : decode cX5_next 216 = .ok (.putfield 159, 3) := by decide +kernel
theorem dX5_next_219 : decode cX5_next 219 = .ok (.iinc 2 1, 3) := by decide +kernel
theorem dX5_next_222 : decode cX5_next 222 = .ok (.aload_n 0, 1) := by decide +kernel
theorem dX5_next_223 : decode cX5_next 223 = .ok (.dup, 1) := by decide +kernel
theorem dX5_next_224 : decode cX5_next 224 = .ok (.getfield 139, 3) := by decide +kernel
theorem dX5_next_227 : decode cX5_next 227 = .ok (.iconst 1, 1) := by decide +kernel
theorem dX5_next_228 : decode cX5_next 228 = .ok (.iadd, 1) := by decide +kernel
theorem dX5_next_229 : decode cX5_next 229 = .ok (.putfield 139, 3) := by decide +kernel
theorem dX5_next_232 : decode cX5_next 232 = .ok (.goto (-72), 3) := by decide +kernel
theorem dX5_next_235 : decode cX5_next 235 = .ok (.aload_n 0, 1) := by decide +kernel
theorem dX5_next_236 : decode cX5_next 236 = .ok (.iload_n 2, 1) := by decide +kernel
theorem dX5_next_237 : decode cX5_next 237 = .ok (.iconst 4, 1) := by decide +kernel
theorem dX5_next_238 : decode cX5_next 238 = .ok (.if_icmp .le 7, 3) := by decide +kernel
theorem dX5_next_241 : decode cX5_next 241 = .ok (.iconst 4, 1) := by decide +kernel
theorem dX5_next_242 : decode cX5_next 242 = .ok (.goto 4, 3) := by decide +kernel
theorem dX5_next_245 : decode cX5_next 245 = .ok (.iconst 2, 1) := by decide +kernel
theorem dX5_next_246 : decode cX5_next 246 = .ok (.putfield 148, 3) := by decide +kernel
theorem dX5_next_249 : decode cX5_next 249 = .ok (.goto 72, 3) := by decide +kernel
theorem dX5_next_252 : decode cX5_next 252 = .ok (.iload_n 1, 1) := by decide +kernel
theorem dX5_next_253 : decode cX5_next 253 = .ok (.bipush 40, 2) := by decide +kernel
theorem dX5_next_255 : decode cX5_next 255 = .ok (.if_icmp .eq 45, 3) := by decide +kernel
theorem dX5_next_258 : decode cX5_next 258 = .ok (.iload_n 1, 1) := by decide +kernel
theorem dX5_next_259 : decode cX5_next 259 = .ok (.bipush 41, 2) := by decide +kernel
theorem dX5_next_261 : decode cX5_next 261 = .ok (.if_icmp .eq 39, 3) := by decide +kernel
theorem dX5_next_264 : decode cX5_next 264 = .ok (.iload_n 1, 1) := by decide +kernel
theorem dX5_next_265 : decode cX5_next 265 = .ok (.bipush 59, 2) := by decide +kernel
theorem dX5_next_267 : decode cX5_next 267 = .ok (.if_icmp .eq 33, 3) := by decide +kernel
theorem dX5_next_270 : decode cX5_next 270 = .ok (.iload_n 1, 1) := by decide +kernel
theorem dX5_next_271 : decode cX5_next 271 = .ok (.bipush 43, 2) := by decide +kernel
theorem dX5_next_273 : decode cX5_next 273 = .ok (.if_icmp .eq 27, 3) := by decide +kernel
theorem dX5_next_276 : decode cX5_next 276 = .ok (.iload_n 1, 1) := by decide +kernel
theorem dX5_next_277 : decode cX5_next 277 = .ok (.bipush 45, 2) := by decide +kernel
theorem dX5_next_279 : decode cX5_next 279 = .ok (.if_icmp .eq 21, 3) := by decide +kernel
theorem dX5_next_282 : decode cX5_next 282 = .ok (.iload_n 1, 1) := by decide +kernel
theorem dX5_next_283 : decode cX5_next 283 = .ok (.bipush 42, 2) := by decide +kernel
theorem dX5_next_285 : decode cX5_next 285 = .ok (.if_icmp .eq 15, 3) := by decide +kernel
theorem dX5_next_288 : decode cX5_next 288 = .ok (.iload_n 1, 1) := by decide +kernel
theorem dX5_next_289 : decode cX5_next 289 = .ok (.bipush 60, 2) := by decide +kernel
theorem dX5_next_291 : decode cX5_next 291 = .ok (.if_icmp .eq 9, 3) := by decide +kernel
theorem dX5_next_294 : decode cX5_next 294 = .ok (.iload_n 1, 1) := by decide +kernel
theorem dX5_next_295 : decode cX5_next 295 = .ok (.bipush 61, 2) := by decide +kernel
theorem dX5_next_297 : decode cX5_next 297 = .ok (.if_icmp .ne 24, 3) := by decide +kernel
theorem dX5_next_300 : decode cX5_next 300 = .ok (.aload_n 0, 1) := by decide +kernel
theorem dX5_next_301 : decode cX5_next 301 = .ok (.iconst 3, 1) := by decide +kernel
theorem dX5_next_302 : decode cX5_next 302 = .ok (.putfield 148, 3) := by decide +kernel
theorem dX5_next_305 : decode cX5_next 305 = .ok (.aload_n 0, 1) := by decide +kernel
theorem dX5_next_306 : decode cX5_next 306 = .ok (.iload_n 1, 1) := by decide +kernel
theorem dX5_next_307 : decode cX5_next 307 = .ok (.i2l, 1) := by decide +kernel
theorem dX5_next_308 : decode cX5_next 308 = .ok (.putfield 159, 3) := by decide +kernel
theorem dX5_next_311 : decode cX5_next 311 = .ok (.aload_n 0, 1) := by decide +kernel
theorem dX5_next_312 : decode cX5_next 312 = .ok (.dup, 1) := by decide +kernel
theorem dX5_next_313 : decode cX5_next 313 = .ok (.getfield 139, 3) := by decide +kernel
theorem dX5_next_316 : decode cX5_next 316 = .ok (.iconst 1, 1) := by decide +kernel
theorem dX5_next_317 : decode cX5_next 317 = .ok (.iadd, 1) := by decide +kernel
theorem dX5_next_318 : decode cX5_next 318 = .ok (.putfield 139, 3) := by decide +kernel
theorem dX5_next_321 : decode cX5_next 321 = .ok (.return_, 1) := by decide +kernel
theorem dX5_fail_0 : decode cX5_fail 0 = .ok (.aload_n 0, 1) := by decide +kernel
theorem dX5_fail_1 : decode cX5_fail 1 = .ok (.getfield 163, 3) := by decide +kernel
theorem dX5_fail_4 : decode cX5_fail 4 = .ok (.ifCond .ne 16, 3) := by decide +kernel
theorem dX5_fail_7 : decode cX5_fail 7 = .ok (.aload_n 0, 1) := by decide +kernel
theorem dX5_fail_8 : decode cX5_fail 8 = .ok (.iconst 1, 1) := by decide +kernel
theorem dX5_fail_9 : decode cX5_fail 9 = .ok (.putfield 163, 3) := by decide +kernel
theorem dX5_fail_12 : decode cX5_fail 12 = .ok (.aload_n 0, 1) := by decide +kernel
theorem dX5_fail_13 : decode cX5_fail 13 = .ok (.aload_n 0, 1) := by decide +kernel
theorem dX5_fail_14 : decode cX5_fail 14 = .ok (.getfield 145, 3) := by decide +kernel
theorem dX5_fail_17 : decode cX5_fail 17 = .ok (.putfield 167, 3) := by decide +kernel
theorem dX5_fail_20 : decode cX5_fail 20 = .ok (.return_, 1) := by decide +kernel
theorem dX5_isLetter_0 : decode cX5_isLetter 0 = .ok (.aload_n 0, 1) := by decide +kernel
theorem dX5_isLetter_1 : decode cX5_isLetter 1 = .ok (.getfield 145, 3) := by decide +kernel
theorem dX5_isLetter_4 : decode cX5_isLetter 4 = .ok (.iload_n 1, 1) := by decide +kernel
theorem dX5_isLetter_5 : decode cX5_isLetter 5 = .ok (.iadd, 1) := by decide +kernel
theorem dX5_isLetter_6 : decode cX5_isLetter 6 = .ok (.aload_n 0, 1) := by decide +kernel
theorem dX5_isLetter_7 : decode cX5_isLetter 7 = .ok (.getfield 139, 3) := by decide +kernel
theorem dX5_isLetter_10 : decode cX5_isLetter 10 = .ok (.if_icmp .ge 25, 3) := by decide +kernel
theorem dX5_isLetter_13 : decode cX5_isLetter 13 = .ok (.aload_n 0, 1) := by decide +kernel
theorem dX5_isLetter_14 : decode cX5_isLetter 14 = .ok (.aload_n 0, 1) := by decide +kernel
theorem dX5_isLetter_15 : decode cX5_isLetter 15 = .ok (.getfield 145, 3) := by decide +kernel
theorem dX5_isLetter_18 : decode cX5_isLetter 18 = .ok (.iload_n 1, 1) := by decide +kernel
theorem dX5_isLetter_19 : decode cX5_isLetter 19 = .ok (.iadd, 1) := by decide +kernel
theorem dX5_isLetter_20 : decode cX5_isLetter 20 = .ok (.invokevirtual 142, 3) := by decide +kernel
theorem dX5_isLetter_23 : decode cX5_isLetter 23 = .ok (.iload_n 2, 1) := by decide +kernel
theorem dX5_isLetter_24 : decode cX5_isLetter 24 = .ok (.if_icmp .ne 7, 3) := by decide +kernel
theorem dX5_isLetter_27 : decode cX5_isLetter 27 = .ok (.iconst 1, 1) := by decide +kernel
theorem dX5_isLetter_28 : decode cX5_isLetter 28 = .ok (.goto 16, 3) := by decide +kernel
theorem dX5_isLetter_31 : decode cX5_isLetter 31 = .ok (.iconst 0, 1) := by decide +kernel
theorem dX5_isLetter_32 : decode cX5_isLetter 32 = .ok (.goto 12, 3) := by decide +kernel
theorem dX5_isLetter_35 : decode cX5_isLetter 35 = .ok (.iload_n 2, 1) := by decide +kernel
theorem dX5_isLetter_36 : decode cX5_isLetter 36 = .ok (.ifCond .ne 7, 3) := by decide +kernel
theorem dX5_isLetter_39 : decode cX5_isLetter 39 = .ok (.iconst 1, 1) := by decide +kernel
theorem dX5_isLetter_40 : decode cX5_isLetter 40 = .ok (.goto 4, 3) := by decide +kernel
theorem dX5_isLetter_43 : decode cX5_isLetter 43 = .ok (.iconst 0, 1) := by decide +kernel
theorem dX5_isLetter_44 : decode cX5_isLetter 44 = .ok (.ireturn, 1) := by decide +kernel
theorem dX5_isWord_0 : decode cX5_isWord 0 = .ok (.aload_n 0, 1) := by decide +kernel
theorem dX5_isWord_1 : decode cX5_isWord 1 = .ok (.getfield 163, 3) := by decide +kernel
theorem dX5_isWord_4 : decode cX5_isWord 4 = .ok (.ifCond .ne 108, 3) := by decide +kernel
theorem dX5_isWord_7 : decode cX5_isWord 7 = .ok (.aload_n 0, 1) := by decide +kernel
theorem dX5_isWord_8 : decode cX5_isWord 8 = .ok (.getfield 148, 3) := by decide +kernel
theorem dX5_isWord_11 : decode cX5_isWord 11 = .ok (.iconst 1, 1) := by decide +kernel
theorem dX5_isWord_12 : decode cX5_isWord 12 = .ok (.if_icmp .ne 100, 3) := by decide +kernel
theorem dX5_isWord_15 : decode cX5_isWord 15 = .ok (.aload_n 0, 1) := by decide +kernel
theorem dX5_isWord_16 : decode cX5_isWord 16 = .ok (.getfield 139, 3) := by decide +kernel
theorem dX5_isWord_19 : decode cX5_isWord 19 = .ok (.aload_n 0, 1) := by decide +kernel
theorem dX5_isWord_20 : decode cX5_isWord 20 = .ok (.getfield 145, 3) := by decide +kernel
theorem dX5_isWord_23 : decode cX5_isWord 23 = .ok (.bipush 8, 2) := by decide +kernel
theorem dX5_isWord_25 : decode cX5_isWord 25 = .ok (.iadd, 1) := by decide +kernel
theorem dX5_isWord_26 : decode cX5_isWord 26 = .ok (.if_icmp .gt 86, 3) := by decide +kernel
theorem dX5_isWord_29 : decode cX5_isWord 29 = .ok (.aload_n 0, 1) := by decide +kernel
theorem dX5_isWord_30 : decode cX5_isWord 30 = .ok (.iconst 0, 1) := by decide +kernel
theorem dX5_isWord_31 : decode cX5_isWord 31 = .ok (.iload_n 1, 1) := by decide +kernel
theorem dX5_isWord_32 : decode cX5_isWord 32 = .ok (.invokevirtual 170, 3) := by decide +kernel
theorem dX5_isWord_35 : decode cX5_isWord 35 = .ok (.ifCond .eq 77, 3) := by decide +kernel
theorem dX5_isWord_38 : decode cX5_isWord 38 = .ok (.aload_n 0, 1) := by decide +kernel
theorem dX5_isWord_39 : decode cX5_isWord 39 = .ok (.iconst 1, 1) := by decide +kernel
theorem dX5_isWord_40 : decode cX5_isWord 40 = .ok (.iload_n 2, 1) := by decide +kernel
theorem dX5_isWord_41 : decode cX5_isWord 41 = .ok (.invokevirtual 170, 3) := by decide +kernel
theorem dX5_isWord_44 : decode cX5_isWord 44 = .ok (.ifCond .eq 68, 3) := by decide +kernel
theorem dX5_isWord_47 : decode cX5_isWord 47 = .ok (.aload_n 0, 1) := by decide +kernel
theorem dX5_isWord_48 : decode cX5_isWord 48 = .ok (.iconst 2, 1) := by decide +kernel
theorem dX5_isWord_49 : decode cX5_isWord 49 = .ok (.iload_n 3, 1) := by decide +kernel
theorem dX5_isWord_50 : decode cX5_isWord 50 = .ok (.invokevirtual 170, 3) := by decide +kernel
theorem dX5_isWord_53 : decode cX5_isWord 53 = .ok (.ifCond .eq 59, 3) := by decide +kernel
theorem dX5_isWord_56 : decode cX5_isWord 56 = .ok (.aload_n 0, 1) := by decide +kernel
theorem dX5_isWord_57 : decode cX5_isWord 57 = .ok (.iconst 3, 1) := by decide +kernel
theorem dX5_isWord_58 : decode cX5_isWord 58 = .ok (.iload 4, 2) := by decide +kernel
theorem dX5_isWord_60 : decode cX5_isWord 60 = .ok (.invokevirtual 170, 3) := by decide +kernel
theorem dX5_isWord_63 : decode cX5_isWord 63 = .ok (.ifCond .eq 49, 3) := by decide +kernel
theorem dX5_isWord_66 : decode cX5_isWord 66 = .ok (.aload_n 0, 1) := by decide +kernel
theorem dX5_isWord_67 : decode cX5_isWord 67 = .ok (.iconst 4, 1) := by decide +kernel
theorem dX5_isWord_68 : decode cX5_isWord 68 = .ok (.iload 5, 2) := by decide +kernel
theorem dX5_isWord_70 : decode cX5_isWord 70 = .ok (.invokevirtual 170, 3) := by decide +kernel
theorem dX5_isWord_73 : decode cX5_isWord 73 = .ok (.ifCond .eq 39, 3) := by decide +kernel
theorem dX5_isWord_76 : decode cX5_isWord 76 = .ok (.aload_n 0, 1) := by decide +kernel
theorem dX5_isWord_77 : decode cX5_isWord 77 = .ok (.iconst 5, 1) := by decide +kernel
theorem dX5_isWord_78 : decode cX5_isWord 78 = .ok (.iload 6, 2) := by decide +kernel
theorem dX5_isWord_80 : decode cX5_isWord 80 = .ok (.invokevirtual 170, 3) := by decide +kernel
theorem dX5_isWord_83 : decode cX5_isWord 83 = .ok (.ifCond .eq 29, 3) := by decide +kernel
theorem dX5_isWord_86 : decode cX5_isWord 86 = .ok (.aload_n 0, 1) := by decide +kernel
theorem dX5_isWord_87 : decode cX5_isWord 87 = .ok (.bipush 6, 2) := by decide +kernel
theorem dX5_isWord_89 : decode cX5_isWord 89 = .ok (.iload 7, 2) := by decide +kernel
theorem dX5_isWord_91 : decode cX5_isWord 91 = .ok (.invokevirtual 170, 3) := by decide +kernel
theorem dX5_isWord_94 : decode cX5_isWord 94 = .ok (.ifCond .eq 18, 3) := by decide +kernel
theorem dX5_isWord_97 : decode cX5_isWord 97 = .ok (.aload_n 0, 1) := by decide +kernel
theorem dX5_isWord_98 : decode cX5_isWord 98 = .ok (.bipush 7, 2) := by decide +kernel
theorem dX5_isWord_100 : decode cX5_isWord 100 = .ok (.iload 8, 2) := by decide +kernel
theorem dX5_isWord_102 : decode cX5_isWord 102 = .ok (.invokevirtual 170, 3) := by decide +kernel
theorem dX5_isWord_105 : decode cX5_isWord 105 = .ok (.ifCond .eq 7, 3) := by decide +kernel
theorem dX5_isWord_108 : decode cX5_isWord 108 = .ok (.iconst 1, 1) := by decide +kernel
theorem dX5_isWord_109 : decode cX5_isWord 109 = .ok (.goto 4, 3) := by decide +kernel
theorem dX5_isWord_112 : decode cX5_isWord 112 = .ok (.iconst 0, 1) := by decide +kernel
theorem dX5_isWord_113 : decode cX5_isWord 113 = .ok (.ireturn, 1) := by decide +kernel
theorem dX5_isSign_0 : decode cX5_isSign 0 = .ok (.aload_n 0, 1) := by decide +kernel
theorem dX5_isSign_1 : decode cX5_isSign 1 = .ok (.getfield 163, 3) := by decide +kernel
theorem dX5_isSign_4 : decode cX5_isSign 4 = .ok (.ifCond .ne 25, 3) := by decide +kernel
theorem dX5_isSign_7 : decode cX5_isSign 7 = .ok (.aload_n 0, 1) := by decide +kernel
theorem dX5_isSign_8 : decode cX5_isSign 8 = .ok (.getfield 148, 3) := by decide +kernel
theorem dX5_isSign_11 : decode cX5_isSign 11 = .ok (.iconst 3, 1) := by decide +kernel
theorem dX5_isSign_12 : decode cX5_isSign 12 = .ok (.if_icmp .ne 17, 3) := by decide +kernel
theorem dX5_isSign_15 : decode cX5_isSign 15 = .ok (.aload_n 0, 1) := by decide +kernel
theorem dX5_isSign_16 : decode cX5_isSign 16 = .ok (.getfield 159, 3) := by decide +kernel
theorem dX5_isSign_19 : decode cX5_isSign 19 = .ok (.iload_n 1, 1) := by decide +kernel
theorem dX5_isSign_20 : decode cX5_isSign 20 = .ok (.i2l, 1) := by decide +kernel
theorem dX5_isSign_21 : decode cX5_isSign 21 = .ok (.lcmp, 1) := by decide +kernel
theorem dX5_isSign_22 : decode cX5_isSign 22 = .ok (.ifCond .ne 7, 3) := by decide +kernel
theorem dX5_isSign_25 : decode cX5_isSign 25 = .ok (.iconst 1, 1) := by decide +kernel
theorem dX5_isSign_26 : decode cX5_isSign 26 = .ok (.goto 4, 3) := by decide +kernel
theorem dX5_isSign_29 : decode cX5_isSign 29 = .ok (.iconst 0, 1) := by decide +kernel
theorem dX5_isSign_30 : decode cX5_isSign 30 = .ok (.ireturn, 1) := by decide +kernel
theorem dX5_opens_0 : decode cX5_opens 0 = .ok (.aload_n 0, 1) := by decide +kernel
theorem dX5_opens_1 : decode cX5_opens 1 = .ok (.getfield 173, 3) := by decide +kernel
theorem dX5_opens_4 : decode cX5_opens 4 = .ok (.iconst 5, 1) := by decide +kernel
theorem dX5_opens_5 : decode cX5_opens 5 = .ok (.if_icmp .ne 9, 3) := by decide +kernel
theorem dX5_opens_8 : decode cX5_opens 8 = .ok (.aload_n 0, 1) := by decide +kernel
theorem dX5_opens_9 : decode cX5_opens 9 = .ok (.invokevirtual 176, 3) := by decide +kernel
theorem dX5_opens_12 : decode cX5_opens 12 = .ok (.iconst 0, 1) := by decide +kernel
theorem dX5_opens_13 : decode cX5_opens 13 = .ok (.ireturn, 1) := by decide +kernel
theorem dX5_opens_14 : decode cX5_opens 14 = .ok (.aload_n 0, 1) := by decide +kernel
theorem dX5_opens_15 : decode cX5_opens 15 = .ok (.dup, 1) := by decide +kernel
theorem dX5_opens_16 : decode cX5_opens 16 = .ok (.getfield 173, 3) := by decide +kernel
theorem dX5_opens_19 : decode cX5_opens 19 = .ok (.iconst 1, 1) := by decide +kernel
theorem dX5_opens_20 : decode cX5_opens 20 = .ok (.iadd, 1) := by decide +kernel
theorem dX5_opens_21 : decode cX5_opens 21 = .ok (.putfield 173, 3) := by decide +kernel
theorem dX5_opens_24 : decode cX5_opens 24 = .ok (.aload_n 0, 1) := by decide +kernel
theorem dX5_opens_25 : decode cX5_opens 25 = .ok (.invokevirtual 179, 3) := by decide +kernel
theorem dX5_opens_28 : decode cX5_opens 28 = .ok (.iconst 1, 1) := by decide +kernel
theorem dX5_opens_29 : decode cX5_opens 29 = .ok (.ireturn, 1) := by decide +kernel
theorem dX5_name_0 : decode cX5_name 0 = .ok (.aload_n 0, 1) := by decide +kernel
theorem dX5_name_1 : decode cX5_name 1 = .ok (.bipush 104, 2) := by decide +kernel
theorem dX5_name_3 : decode cX5_name 3 = .ok (.bipush 101, 2) := by decide +kernel
theorem dX5_name_5 : decode cX5_name 5 = .ok (.bipush 105, 2) := by decide +kernel
theorem dX5_name_7 : decode cX5_name 7 = .ok (.bipush 103, 2) := by decide +kernel
theorem dX5_name_9 : decode cX5_name 9 = .ok (.bipush 104, 2) := by decide +kernel
theorem dX5_name_11 : decode cX5_name 11 = .ok (.bipush 116, 2) := by decide +kernel
theorem dX5_name_13 : decode cX5_name 13 = .ok (.iconst 0, 1) := by decide +kernel
theorem dX5_name_14 : decode cX5_name 14 = .ok (.iconst 0, 1) := by decide +kernel
theorem dX5_name_15 : decode cX5_name 15 = .ok (.invokevirtual 182, 3) := by decide +kernel
theorem dX5_name_18 : decode cX5_name 18 = .ok (.ifCond .eq 8, 3) := by decide +kernel
theorem dX5_name_21 : decode cX5_name 21 = .ok (.aload_n 0, 1) := by decide +kernel
theorem dX5_name_22 : decode cX5_name 22 = .ok (.getfield 186, 3) := by decide +kernel
theorem dX5_name_25 : decode cX5_name 25 = .ok (.ireturn, 1) := by decide +kernel
theorem dX5_name_26 : decode cX5_name 26 = .ok (.aload_n 0, 1) := by decide +kernel
theorem dX5_name_27 : decode cX5_name 27 = .ok (.bipush 112, 2) := by decide +kernel
theorem dX5_name_29 : decode cX5_name 29 = .ok (.bipush 101, 2) := by decide +kernel
theorem dX5_name_31 : decode cX5_name 31 = .ok (.bipush 97, 2) := by decide +kernel
theorem dX5_name_33 : decode cX5_name 33 = .ok (.bipush 116, 2) := by decide +kernel
theorem dX5_name_35 : decode cX5_name 35 = .ok (.iconst 0, 1) := by decide +kernel
theorem dX5_name_36 : decode cX5_name 36 = .ok (.iconst 0, 1) := by decide +kernel
theorem dX5_name_37 : decode cX5_name 37 = .ok (.iconst 0, 1) := by decide +kernel
theorem dX5_name_38 : decode cX5_name 38 = .ok (.iconst 0, 1) := by decide +kernel
theorem dX5_name_39 : decode cX5_name 39 = .ok (.invokevirtual 182, 3) := by decide +kernel
theorem dX5_name_42 : decode cX5_name 42 = .ok (.ifCond .eq 8, 3) := by decide +kernel
theorem dX5_name_45 : decode cX5_name 45 = .ok (.aload_n 0, 1) := by decide +kernel
theorem dX5_name_46 : decode cX5_name 46 = .ok (.getfield 189, 3) := by decide +kernel
theorem dX5_name_49 : decode cX5_name 49 = .ok (.ireturn, 1) := by decide +kernel
theorem dX5_name_50 : decode cX5_name 50 = .ok (.aload_n 0, 1) := by decide +kernel
theorem dX5_name_51 : decode cX5_name 51 = .ok (.bipush 121, 2) := by decide +kernel
theorem dX5_name_53 : decode cX5_name 53 = .ok (.bipush 101, 2) := by decide +kernel
theorem dX5_name_55 : decode cX5_name 55 = .ok (.bipush 97, 2) := by decide +kernel
theorem dX5_name_57 : decode cX5_name 57 = .ok (.bipush 114, 2) := by decide +kernel
theorem dX5_name_59 : decode cX5_name 59 = .ok (.iconst 0, 1) := by decide +kernel
theorem dX5_name_60 : decode cX5_name 60 = .ok (.iconst 0, 1) := by decide +kernel
theorem dX5_name_61 : decode cX5_name 61 = .ok (.iconst 0, 1) := by decide +kernel
theorem dX5_name_62 : decode cX5_name 62 = .ok (.iconst 0, 1) := by decide +kernel
theorem dX5_name_63 : decode cX5_name 63 = .ok (.invokevirtual 182, 3) := by decide +kernel
theorem dX5_name_66 : decode cX5_name 66 = .ok (.ifCond .eq 8, 3) := by decide +kernel
theorem dX5_name_69 : decode cX5_name 69 = .ok (.aload_n 0, 1) := by decide +kernel
theorem dX5_name_70 : decode cX5_name 70 = .ok (.getfield 192, 3) := by decide +kernel
theorem dX5_name_73 : decode cX5_name 73 = .ok (.ireturn, 1) := by decide +kernel
theorem dX5_name_74 : decode cX5_name 74 = .ok (.aload_n 0, 1) := by decide +kernel
theorem dX5_name_75 : decode cX5_name 75 = .ok (.bipush 110, 2) := by decide +kernel
theorem dX5_name_77 : decode cX5_name 77 = .ok (.bipush 117, 2) := by decide +kernel
theorem dX5_name_79 : decode cX5_name 79 = .ok (.bipush 109, 2) := by decide +kernel
theorem dX5_name_81 : decode cX5_name 81 = .ok (.bipush 98, 2) := by decide +kernel
theorem dX5_name_83 : decode cX5_name 83 = .ok (.bipush 101, 2) := by decide +kernel
theorem dX5_name_85 : decode cX5_name 85 = .ok (.bipush 114, 2) := by decide +kernel
theorem dX5_name_87 : decode cX5_name 87 = .ok (.iconst 0, 1) := by decide +kernel
theorem dX5_name_88 : decode cX5_name 88 = .ok (.iconst 0, 1) := by decide +kernel
theorem dX5_name_89 : decode cX5_name 89 = .ok (.invokevirtual 182, 3) := by decide +kernel
theorem dX5_name_92 : decode cX5_name 92 = .ok (.ifCond .eq 8, 3) := by decide +kernel
theorem dX5_name_95 : decode cX5_name 95 = .ok (.aload_n 0, 1) := by decide +kernel
theorem dX5_name_96 : decode cX5_name 96 = .ok (.getfield 195, 3) := by decide +kernel
theorem dX5_name_99 : decode cX5_name 99 = .ok (.ireturn, 1) := by decide +kernel
theorem dX5_name_100 : decode cX5_name 100 = .ok (.aload_n 0, 1) := by decide +kernel
theorem dX5_name_101 : decode cX5_name 101 = .ok (.bipush 119, 2) := by decide +kernel
theorem dX5_name_103 : decode cX5_name 103 = .ok (.bipush 97, 2) := by decide +kernel
theorem dX5_name_105 : decode cX5_name 105 = .ok (.bipush 116, 2) := by decide +kernel
theorem dX5_name_107 : decode cX5_name 107 = .ok (.bipush 101, 2) := by decide +kernel
theorem dX5_name_109 : decode cX5_name 109 = .ok (.bipush 114, 2) := by decide +kernel
theorem dX5_name_111 : decode cX5_name 111 = .ok (.iconst 0, 1) := by decide +kernel
theorem dX5_name_112 : decode cX5_name 112 = .ok (.iconst 0, 1) := by decide +kernel
theorem dX5_name_113 : decode cX5_name 113 = .ok (.iconst 0, 1) := by decide +kernel
theorem dX5_name_114 : decode cX5_name 114 = .ok (.invokevirtual 182, 3) := by decide +kernel
theorem dX5_name_117 : decode cX5_name 117 = .ok (.ifCond .eq 8, 3) := by decide +kernel
theorem dX5_name_120 : decode cX5_name 120 = .ok (.aload_n 0, 1) := by decide +kernel
theorem dX5_name_121 : decode cX5_name 121 = .ok (.getfield 198, 3) := by decide +kernel
theorem dX5_name_124 : decode cX5_name 124 = .ok (.ireturn, 1) := by decide +kernel
theorem dX5_name_125 : decode cX5_name 125 = .ok (.aload_n 0, 1) := by decide +kernel
theorem dX5_name_126 : decode cX5_name 126 = .ok (.bipush 99, 2) := by decide +kernel
theorem dX5_name_128 : decode cX5_name 128 = .ok (.bipush 101, 2) := by decide +kernel
theorem dX5_name_130 : decode cX5_name 130 = .ok (.bipush 108, 2) := by decide +kernel
theorem dX5_name_132 : decode cX5_name 132 = .ok (.bipush 108, 2) := by decide +kernel
theorem dX5_name_134 : decode cX5_name 134 = .ok (.iconst 0, 1) := by decide +kernel
theorem dX5_name_135 : decode cX5_name 135 = .ok (.iconst 0, 1) := by decide +kernel
theorem dX5_name_136 : decode cX5_name 136 = .ok (.iconst 0, 1) := by decide +kernel
theorem dX5_name_137 : decode cX5_name 137 = .ok (.iconst 0, 1) := by decide +kernel
theorem dX5_name_138 : decode cX5_name 138 = .ok (.invokevirtual 182, 3) := by decide +kernel
theorem dX5_name_141 : decode cX5_name 141 = .ok (.ifCond .eq 8, 3) := by decide +kernel
theorem dX5_name_144 : decode cX5_name 144 = .ok (.aload_n 0, 1) := by decide +kernel
theorem dX5_name_145 : decode cX5_name 145 = .ok (.getfield 201, 3) := by decide +kernel
theorem dX5_name_148 : decode cX5_name 148 = .ok (.ireturn, 1) := by decide +kernel
theorem dX5_name_149 : decode cX5_name 149 = .ok (.aload_n 0, 1) := by decide +kernel
theorem dX5_name_150 : decode cX5_name 150 = .ok (.invokevirtual 176, 3) := by decide +kernel
theorem dX5_name_153 : decode cX5_name 153 = .ok (.iconst 0, 1) := by decide +kernel
theorem dX5_name_154 : decode cX5_name 154 = .ok (.ireturn, 1) := by decide +kernel
theorem dX5_atom5_0 : decode cX5_atom5 0 = .ok (.iconst 0, 1) := by decide +kernel
theorem dX5_atom5_1 : decode cX5_atom5 1 = .ok (.istore_n 1, 1) := by decide +kernel
theorem dX5_atom5_2 : decode cX5_atom5 2 = .ok (.aload_n 0, 1) := by decide +kernel
theorem dX5_atom5_3 : decode cX5_atom5 3 = .ok (.bipush 45, 2) := by decide +kernel
theorem dX5_atom5_5 : decode cX5_atom5 5 = .ok (.invokevirtual 204, 3) := by decide +kernel
theorem dX5_atom5_8 : decode cX5_atom5 8 = .ok (.ifCond .eq 11, 3) := by decide +kernel
theorem dX5_atom5_11 : decode cX5_atom5 11 = .ok (.aload_n 0, 1) := by decide +kernel
theorem dX5_atom5_12 : decode cX5_atom5 12 = .ok (.invokevirtual 207, 3) := by decide +kernel
theorem dX5_atom5_15 : decode cX5_atom5 15 = .ok (.pop, 1) := by decide +kernel
theorem dX5_atom5_16 : decode cX5_atom5 16 = .ok (.goto 86, 3) := by decide +kernel
theorem dX5_atom5_19 : decode cX5_atom5 19 = .ok (.aload_n 0, 1) := by decide +kernel
theorem dX5_atom5_20 : decode cX5_atom5 20 = .ok (.bipush 40, 2) := by decide +kernel
theorem dX5_atom5_22 : decode cX5_atom5 22 = .ok (.invokevirtual 204, 3) := by decide +kernel
theorem dX5_atom5_25 : decode cX5_atom5 25 = .ok (.ifCond .eq 11, 3) := by decide +kernel
theorem dX5_atom5_28 : decode cX5_atom5 28 = .ok (.aload_n 0, 1) := by decide +kernel
theorem dX5_atom5_29 : decode cX5_atom5 29 = .ok (.invokevirtual 207, 3) := by decide +kernel
theorem dX5_atom5_32 : decode cX5_atom5 32 = .ok (.pop, 1) := by decide +kernel
theorem dX5_atom5_33 : decode cX5_atom5 33 = .ok (.goto 69, 3) := by decide +kernel
theorem dX5_atom5_36 : decode cX5_atom5 36 = .ok (.aload_n 0, 1) := by decide +kernel
theorem dX5_atom5_37 : decode cX5_atom5 37 = .ok (.getfield 163, 3) := by decide +kernel
theorem dX5_atom5_40 : decode cX5_atom5 40 = .ok (.ifCond .ne 24, 3) := by decide +kernel
theorem dX5_atom5_43 : decode cX5_atom5 43 = .ok (.aload_n 0, 1) := by decide +kernel
theorem dX5_atom5_44 : decode cX5_atom5 44 = .ok (.getfield 148, 3) := by decide +kernel
theorem dX5_atom5_47 : decode cX5_atom5 47 = .ok (.iconst 2, 1) := by decide +kernel
theorem dX5_atom5_48 : decode cX5_atom5 48 = .ok (.if_icmp .ne 16, 3) := by decide +kernel
theorem dX5_atom5_51 : decode cX5_atom5 51 = .ok (.aload_n 0, 1) := by decide +kernel
theorem dX5_atom5_52 : decode cX5_atom5 52 = .ok (.getfield 159, 3) := by decide +kernel
theorem dX5_atom5_55 : decode cX5_atom5 55 = .ok (.l2i, 1) := by decide +kernel
theorem dX5_atom5_56 : decode cX5_atom5 56 = .ok (.istore_n 1, 1) := by decide +kernel
theorem dX5_atom5_57 : decode cX5_atom5 57 = .ok (.aload_n 0, 1) := by decide +kernel
theorem dX5_atom5_58 : decode cX5_atom5 58 = .ok (.invokevirtual 179, 3) := by decide +kernel
theorem dX5_atom5_61 : decode cX5_atom5 61 = .ok (.goto 41, 3) := by decide +kernel
theorem dX5_atom5_64 : decode cX5_atom5 64 = .ok (.aload_n 0, 1) := by decide +kernel
theorem dX5_atom5_65 : decode cX5_atom5 65 = .ok (.getfield 163, 3) := by decide +kernel
theorem dX5_atom5_68 : decode cX5_atom5 68 = .ok (.ifCond .ne 30, 3) := by decide +kernel
theorem dX5_atom5_71 : decode cX5_atom5 71 = .ok (.aload_n 0, 1) := by decide +kernel
theorem dX5_atom5_72 : decode cX5_atom5 72 = .ok (.getfield 148, 3) := by decide +kernel
theorem dX5_atom5_75 : decode cX5_atom5 75 = .ok (.iconst 1, 1) := by decide +kernel
theorem dX5_atom5_76 : decode cX5_atom5 76 = .ok (.if_icmp .ne 22, 3) := by decide +kernel
theorem dX5_atom5_79 : decode cX5_atom5 79 = .ok (.aload_n 0, 1) := by decide +kernel
theorem dX5_atom5_80 : decode cX5_atom5 80 = .ok (.invokevirtual 211, 3) := by decide +kernel
theorem dX5_atom5_83 : decode cX5_atom5 83 = .ok (.istore_n 1, 1) := by decide +kernel
theorem dX5_atom5_84 : decode cX5_atom5 84 = .ok (.aload_n 0, 1) := by decide +kernel
theorem dX5_atom5_85 : decode cX5_atom5 85 = .ok (.getfield 163, 3) := by decide +kernel
theorem dX5_atom5_88 : decode cX5_atom5 88 = .ok (.ifCond .ne 14, 3) := by decide +kernel
theorem dX5_atom5_91 : decode cX5_atom5 91 = .ok (.aload_n 0, 1) := by decide +kernel
theorem dX5_atom5_92 : decode cX5_atom5 92 = .ok (.invokevirtual 179, 3) := by decide +kernel
theorem dX5_atom5_95 : decode cX5_atom5 95 = .ok (.goto 7, 3) := by decide +kernel
theorem dX5_atom5_98 : decode cX5_atom5 98 = .ok (.aload_n 0, 1) := by decide +kernel
theorem dX5_atom5_99 : decode cX5_atom5 99 = .ok (.invokevirtual 176, 3) := by decide +kernel
theorem dX5_atom5_102 : decode cX5_atom5 102 = .ok (.iload_n 1, 1) := by decide +kernel
theorem dX5_atom5_103 : decode cX5_atom5 103 = .ok (.ireturn, 1) := by decide +kernel
theorem dX5_term5_0 : decode cX5_term5 0 = .ok (.aload_n 0, 1) := by decide +kernel
theorem dX5_term5_1 : decode cX5_term5 1 = .ok (.invokevirtual 215, 3) := by decide +kernel
theorem dX5_term5_4 : decode cX5_term5 4 = .ok (.istore_n 1, 1) := by decide +kernel
theorem dX5_term5_5 : decode cX5_term5 5 = .ok (.aload_n 0, 1) := by decide +kernel
theorem dX5_term5_6 : decode cX5_term5 6 = .ok (.bipush 42, 2) := by decide +kernel
theorem dX5_term5_8 : decode cX5_term5 8 = .ok (.invokevirtual 204, 3) := by decide +kernel
theorem dX5_term5_11 : decode cX5_term5 11 = .ok (.ifCond .eq 17, 3) := by decide +kernel
theorem dX5_term5_14 : decode cX5_term5 14 = .ok (.aload_n 0, 1) := by decide +kernel
theorem dX5_term5_15 : decode cX5_term5 15 = .ok (.invokevirtual 179, 3) := by decide +kernel
theorem dX5_term5_18 : decode cX5_term5 18 = .ok (.iload_n 1, 1) := by decide +kernel
theorem dX5_term5_19 : decode cX5_term5 19 = .ok (.aload_n 0, 1) := by decide +kernel
theorem dX5_term5_20 : decode cX5_term5 20 = .ok (.invokevirtual 215, 3) := by decide +kernel
theorem dX5_term5_23 : decode cX5_term5 23 = .ok (.imul, 1) := by decide +kernel
theorem dX5_term5_24 : decode cX5_term5 24 = .ok (.istore_n 1, 1) := by decide +kernel
theorem dX5_term5_25 : decode cX5_term5 25 = .ok (.goto (-20), 3) := by decide +kernel
theorem dX5_term5_28 : decode cX5_term5 28 = .ok (.iload_n 1, 1) := by decide +kernel
theorem dX5_term5_29 : decode cX5_term5 29 = .ok (.ireturn, 1) := by decide +kernel
theorem dX5_added5_0 : decode cX5_added5 0 = .ok (.aload_n 0, 1) := by decide +kernel
theorem dX5_added5_1 : decode cX5_added5 1 = .ok (.invokevirtual 218, 3) := by decide +kernel
theorem dX5_added5_4 : decode cX5_added5 4 = .ok (.istore_n 1, 1) := by decide +kernel
theorem dX5_added5_5 : decode cX5_added5 5 = .ok (.aload_n 0, 1) := by decide +kernel
theorem dX5_added5_6 : decode cX5_added5 6 = .ok (.bipush 43, 2) := by decide +kernel
theorem dX5_added5_8 : decode cX5_added5 8 = .ok (.invokevirtual 204, 3) := by decide +kernel
theorem dX5_added5_11 : decode cX5_added5 11 = .ok (.ifCond .ne 12, 3) := by decide +kernel
theorem dX5_added5_14 : decode cX5_added5 14 = .ok (.aload_n 0, 1) := by decide +kernel
theorem dX5_added5_15 : decode cX5_added5 15 = .ok (.bipush 45, 2) := by decide +kernel
theorem dX5_added5_17 : decode cX5_added5 17 = .ok (.invokevirtual 204, 3) := by decide +kernel
theorem dX5_added5_20 : decode cX5_added5 20 = .ok (.ifCond .eq 46, 3) := by decide +kernel
theorem dX5_added5_23 : decode cX5_added5 23 = .ok (.aload_n 0, 1) := by decide +kernel
theorem dX5_added5_24 : decode cX5_added5 24 = .ok (.getfield 159, 3) := by decide +kernel
theorem dX5_added5_27 : decode cX5_added5 27 = .ok (.ldc2_w 221, 3) := by decide +kernel
theorem dX5_added5_30 : decode cX5_added5 30 = .ok (.lcmp, 1) := by decide +kernel
theorem dX5_added5_31 : decode cX5_added5 31 = .ok (.ifCond .ne 7, 3) := by decide +kernel
theorem dX5_added5_34 : decode cX5_added5 34 = .ok (.iconst 1, 1) := by decide +kernel
theorem dX5_added5_35 : decode cX5_added5 35 = .ok (.goto 4, 3) := by decide +kernel
theorem dX5_added5_38 : decode cX5_added5 38 = .ok (.iconst 0, 1) := by decide +kernel
theorem dX5_added5_39 : decode cX5_added5 39 = .ok (.istore_n 2, 1) := by decide +kernel
theorem dX5_added5_40 : decode cX5_added5 40 = .ok (.aload_n 0, 1) := by decide +kernel
theorem dX5_added5_41 : decode cX5_added5 41 = .ok (.invokevirtual 179, 3) := by decide +kernel
theorem dX5_added5_44 : decode cX5_added5 44 = .ok (.aload_n 0, 1) := by decide +kernel
theorem dX5_added5_45 : decode cX5_added5 45 = .ok (.invokevirtual 218, 3) := by decide +kernel
theorem dX5_added5_48 : decode cX5_added5 48 = .ok (.istore_n 3, 1) := by decide +kernel
theorem dX5_added5_49 : decode cX5_added5 49 = .ok (.iload_n 2, 1) := by decide +kernel
theorem dX5_added5_50 : decode cX5_added5 50 = .ok (.ifCond .eq 9, 3) := by decide +kernel
theorem dX5_added5_53 : decode cX5_added5 53 = .ok (.iload_n 1, 1) := by decide +kernel
theorem dX5_added5_54 : decode cX5_added5 54 = .ok (.iload_n 3, 1) := by decide +kernel
theorem dX5_added5_55 : decode cX5_added5 55 = .ok (.iadd, 1) := by decide +kernel
theorem dX5_added5_56 : decode cX5_added5 56 = .ok (.goto 6, 3) := by decide +kernel
theorem dX5_added5_59 : decode cX5_added5 59 = .ok (.iload_n 1, 1) := by decide +kernel
theorem dX5_added5_60 : decode cX5_added5 60 = .ok (.iload_n 3, 1) := by decide +kernel
theorem dX5_added5_61 : decode cX5_added5 61 = .ok (.isub, 1) := by decide +kernel
theorem dX5_added5_62 : decode cX5_added5 62 = .ok (.istore_n 1, 1) := by decide +kernel
theorem dX5_added5_63 : decode cX5_added5 63 = .ok (.goto (-58), 3) := by decide +kernel
theorem dX5_added5_66 : decode cX5_added5 66 = .ok (.iload_n 1, 1) := by decide +kernel
theorem dX5_added5_67 : decode cX5_added5 67 = .ok (.ireturn, 1) := by decide +kernel
theorem dX5_not5_0 : decode cX5_not5 0 = .ok (.aload_n 0, 1) := by decide +kernel
theorem dX5_not5_1 : decode cX5_not5 1 = .ok (.bipush 110, 2) := by decide +kernel
theorem dX5_not5_3 : decode cX5_not5 3 = .ok (.bipush 111, 2) := by decide +kernel
theorem dX5_not5_5 : decode cX5_not5 5 = .ok (.bipush 116, 2) := by decide +kernel
theorem dX5_not5_7 : decode cX5_not5 7 = .ok (.iconst 0, 1) := by decide +kernel
theorem dX5_not5_8 : decode cX5_not5 8 = .ok (.iconst 0, 1) := by decide +kernel
theorem dX5_not5_9 : decode cX5_not5 9 = .ok (.iconst 0, 1) := by decide +kernel
theorem dX5_not5_10 : decode cX5_not5 10 = .ok (.iconst 0, 1) := by decide +kernel
theorem dX5_not5_11 : decode cX5_not5 11 = .ok (.iconst 0, 1) := by decide +kernel
theorem dX5_not5_12 : decode cX5_not5 12 = .ok (.invokevirtual 182, 3) := by decide +kernel
theorem dX5_not5_15 : decode cX5_not5 15 = .ok (.ifCond .eq 10, 3) := by decide +kernel
theorem dX5_not5_18 : decode cX5_not5 18 = .ok (.aload_n 0, 1) := by decide +kernel
theorem dX5_not5_19 : decode cX5_not5 19 = .ok (.invokevirtual 207, 3) := by decide +kernel
theorem dX5_not5_22 : decode cX5_not5 22 = .ok (.pop, 1) := by decide +kernel
theorem dX5_not5_23 : decode cX5_not5 23 = .ok (.iconst 0, 1) := by decide +kernel
theorem dX5_not5_24 : decode cX5_not5 24 = .ok (.ireturn, 1) := by decide +kernel
theorem dX5_not5_25 : decode cX5_not5 25 = .ok (.aload_n 0, 1) := by decide +kernel
theorem dX5_not5_26 : decode cX5_not5 26 = .ok (.invokevirtual 223, 3) := by decide +kernel
theorem dX5_not5_29 : decode cX5_not5 29 = .ok (.istore_n 1, 1) := by decide +kernel
theorem dX5_not5_30 : decode cX5_not5 30 = .ok (.aload_n 0, 1) := by decide +kernel
theorem dX5_not5_31 : decode cX5_not5 31 = .ok (.bipush 60, 2) := by decide +kernel
theorem dX5_not5_33 : decode cX5_not5 33 = .ok (.invokevirtual 204, 3) := by decide +kernel
theorem dX5_not5_36 : decode cX5_not5 36 = .ok (.ifCond .ne 14, 3) := by decide +kernel
theorem dX5_not5_39 : decode cX5_not5 39 = .ok (.aload_n 0, 1) := by decide +kernel
theorem dX5_not5_40 : decode cX5_not5 40 = .ok (.bipush 61, 2) := by decide +kernel
theorem dX5_not5_42 : decode cX5_not5 42 = .ok (.invokevirtual 204, 3) := by decide +kernel
theorem dX5_not5_45 : decode cX5_not5 45 = .ok (.ifCond .ne 5, 3) := by decide +kernel
theorem dX5_not5_48 : decode cX5_not5 48 = .ok (.iload_n 1, 1) := by decide +kernel
theorem dX5_not5_49 : decode cX5_not5 49 = .ok (.ireturn, 1) := by decide +kernel
theorem dX5_not5_50 : decode cX5_not5 50 = .ok (.aload_n 0, 1) := by decide +kernel
theorem dX5_not5_51 : decode cX5_not5 51 = .ok (.getfield 159, 3) := by decide +kernel
theorem dX5_not5_54 : decode cX5_not5 54 = .ok (.ldc2_w 226, 3) := by decide +kernel
theorem dX5_not5_57 : decode cX5_not5 57 = .ok (.lcmp, 1) := by decide +kernel
theorem dX5_not5_58 : decode cX5_not5 58 = .ok (.ifCond .ne 7, 3) := by decide +kernel
theorem dX5_not5_61 : decode cX5_not5 61 = .ok (.iconst 1, 1) := by decide +kernel
theorem dX5_not5_62 : decode cX5_not5 62 = .ok (.goto 4, 3) := by decide +kernel
theorem dX5_not5_65 : decode cX5_not5 65 = .ok (.iconst 0, 1) := by decide +kernel
theorem dX5_not5_66 : decode cX5_not5 66 = .ok (.istore_n 2, 1) := by decide +kernel
theorem dX5_not5_67 : decode cX5_not5 67 = .ok (.aload_n 0, 1) := by decide +kernel
theorem dX5_not5_68 : decode cX5_not5 68 = .ok (.invokevirtual 179, 3) := by decide +kernel
theorem dX5_not5_71 : decode cX5_not5 71 = .ok (.aload_n 0, 1) := by decide +kernel
theorem dX5_not5_72 : decode cX5_not5 72 = .ok (.invokevirtual 223, 3) := by decide +kernel
theorem dX5_not5_75 : decode cX5_not5 75 = .ok (.istore_n 3, 1) := by decide +kernel
theorem dX5_not5_76 : decode cX5_not5 76 = .ok (.iload_n 2, 1) := by decide +kernel
theorem dX5_not5_77 : decode cX5_not5 77 = .ok (.ifCond .eq 11, 3) := by decide +kernel
theorem dX5_not5_80 : decode cX5_not5 80 = .ok (.iload_n 1, 1) := by decide +kernel
theorem dX5_not5_81 : decode cX5_not5 81 = .ok (.iload_n 3, 1) := by decide +kernel
theorem dX5_not5_82 : decode cX5_not5 82 = .ok (.if_icmp .ge 15, 3) := by decide +kernel
theorem dX5_not5_85 : decode cX5_not5 85 = .ok (.goto 8, 3) := by decide +kernel
theorem dX5_not5_88 : decode cX5_not5 88 = .ok (.iload_n 1, 1) := by decide +kernel
theorem dX5_not5_89 : decode cX5_not5 89 = .ok (.iload_n 3, 1) := by decide +kernel
theorem dX5_not5_90 : decode cX5_not5 90 = .ok (.if_icmp .ne 7, 3) := by decide +kernel
theorem dX5_not5_93 : decode cX5_not5 93 = .ok (.iconst 1, 1) := by decide +kernel
theorem dX5_not5_94 : decode cX5_not5 94 = .ok (.goto 4, 3) := by decide +kernel
theorem dX5_not5_97 : decode cX5_not5 97 = .ok (.iconst 0, 1) := by decide +kernel
theorem dX5_not5_98 : decode cX5_not5 98 = .ok (.ireturn, 1) := by decide +kernel
theorem dX5_both5_0 : decode cX5_both5 0 = .ok (.aload_n 0, 1) := by decide +kernel
theorem dX5_both5_1 : decode cX5_both5 1 = .ok (.invokevirtual 228, 3) := by decide +kernel
theorem dX5_both5_4 : decode cX5_both5 4 = .ok (.istore_n 1, 1) := by decide +kernel
theorem dX5_both5_5 : decode cX5_both5 5 = .ok (.aload_n 0, 1) := by decide +kernel
theorem dX5_both5_6 : decode cX5_both5 6 = .ok (.bipush 97, 2) := by decide +kernel
theorem dX5_both5_8 : decode cX5_both5 8 = .ok (.bipush 110, 2) := by decide +kernel
theorem dX5_both5_10 : decode cX5_both5 10 = .ok (.bipush 100, 2) := by decide +kernel
theorem dX5_both5_12 : decode cX5_both5 12 = .ok (.iconst 0, 1) := by decide +kernel
theorem dX5_both5_13 : decode cX5_both5 13 = .ok (.iconst 0, 1) := by decide +kernel
theorem dX5_both5_14 : decode cX5_both5 14 = .ok (.iconst 0, 1) := by decide +kernel
theorem dX5_both5_15 : decode cX5_both5 15 = .ok (.iconst 0, 1) := by decide +kernel
theorem dX5_both5_16 : decode cX5_both5 16 = .ok (.iconst 0, 1) := by decide +kernel
theorem dX5_both5_17 : decode cX5_both5 17 = .ok (.invokevirtual 182, 3) := by decide +kernel
theorem dX5_both5_20 : decode cX5_both5 20 = .ok (.ifCond .eq 29, 3) := by decide +kernel
theorem dX5_both5_23 : decode cX5_both5 23 = .ok (.aload_n 0, 1) := by decide +kernel
theorem dX5_both5_24 : decode cX5_both5 24 = .ok (.invokevirtual 179, 3) := by decide +kernel
theorem dX5_both5_27 : decode cX5_both5 27 = .ok (.aload_n 0, 1) := by decide +kernel
theorem dX5_both5_28 : decode cX5_both5 28 = .ok (.invokevirtual 228, 3) := by decide +kernel
theorem dX5_both5_31 : decode cX5_both5 31 = .ok (.istore_n 2, 1) := by decide +kernel
theorem dX5_both5_32 : decode cX5_both5 32 = .ok (.iload_n 1, 1) := by decide +kernel
theorem dX5_both5_33 : decode cX5_both5 33 = .ok (.ifCond .eq 11, 3) := by decide +kernel
theorem dX5_both5_36 : decode cX5_both5 36 = .ok (.iload_n 2, 1) := by decide +kernel
theorem dX5_both5_37 : decode cX5_both5 37 = .ok (.ifCond .eq 7, 3) := by decide +kernel
theorem dX5_both5_40 : decode cX5_both5 40 = .ok (.iconst 1, 1) := by decide +kernel
theorem dX5_both5_41 : decode cX5_both5 41 = .ok (.goto 4, 3) := by decide +kernel
theorem dX5_both5_44 : decode cX5_both5 44 = .ok (.iconst 0, 1) := by decide +kernel
theorem dX5_both5_45 : decode cX5_both5 45 = .ok (.istore_n 1, 1) := by decide +kernel
theorem dX5_both5_46 : decode cX5_both5 46 = .ok (.goto (-41), 3) := by decide +kernel
theorem dX5_both5_49 : decode cX5_both5 49 = .ok (.iload_n 1, 1) := by decide +kernel
theorem dX5_both5_50 : decode cX5_both5 50 = .ok (.ireturn, 1) := by decide +kernel
theorem dX5_either5_0 : decode cX5_either5 0 = .ok (.aload_n 0, 1) := by decide +kernel
theorem dX5_either5_1 : decode cX5_either5 1 = .ok (.invokevirtual 231, 3) := by decide +kernel
theorem dX5_either5_4 : decode cX5_either5 4 = .ok (.istore_n 1, 1) := by decide +kernel
theorem dX5_either5_5 : decode cX5_either5 5 = .ok (.aload_n 0, 1) := by decide +kernel
theorem dX5_either5_6 : decode cX5_either5 6 = .ok (.bipush 111, 2) := by decide +kernel
theorem dX5_either5_8 : decode cX5_either5 8 = .ok (.bipush 114, 2) := by decide +kernel
theorem dX5_either5_10 : decode cX5_either5 10 = .ok (.iconst 0, 1) := by decide +kernel
theorem dX5_either5_11 : decode cX5_either5 11 = .ok (.iconst 0, 1) := by decide +kernel
theorem dX5_either5_12 : decode cX5_either5 12 = .ok (.iconst 0, 1) := by decide +kernel
theorem dX5_either5_13 : decode cX5_either5 13 = .ok (.iconst 0, 1) := by decide +kernel
theorem dX5_either5_14 : decode cX5_either5 14 = .ok (.iconst 0, 1) := by decide +kernel
theorem dX5_either5_15 : decode cX5_either5 15 = .ok (.iconst 0, 1) := by decide +kernel
theorem dX5_either5_16 : decode cX5_either5 16 = .ok (.invokevirtual 182, 3) := by decide +kernel
theorem dX5_either5_19 : decode cX5_either5 19 = .ok (.ifCond .eq 29, 3) := by decide +kernel
theorem dX5_either5_22 : decode cX5_either5 22 = .ok (.aload_n 0, 1) := by decide +kernel
theorem dX5_either5_23 : decode cX5_either5 23 = .ok (.invokevirtual 179, 3) := by decide +kernel
theorem dX5_either5_26 : decode cX5_either5 26 = .ok (.aload_n 0, 1) := by decide +kernel
theorem dX5_either5_27 : decode cX5_either5 27 = .ok (.invokevirtual 231, 3) := by decide +kernel
theorem dX5_either5_30 : decode cX5_either5 30 = .ok (.istore_n 2, 1) := by decide +kernel
theorem dX5_either5_31 : decode cX5_either5 31 = .ok (.iload_n 1, 1) := by decide +kernel
theorem dX5_either5_32 : decode cX5_either5 32 = .ok (.ifCond .ne 7, 3) := by decide +kernel
theorem dX5_either5_35 : decode cX5_either5 35 = .ok (.iload_n 2, 1) := by decide +kernel
theorem dX5_either5_36 : decode cX5_either5 36 = .ok (.ifCond .eq 7, 3) := by decide +kernel
theorem dX5_either5_39 : decode cX5_either5 39 = .ok (.iconst 1, 1) := by decide +kernel
theorem dX5_either5_40 : decode cX5_either5 40 = .ok (.goto 4, 3) := by decide +kernel
theorem dX5_either5_43 : decode cX5_either5 43 = .ok (.iconst 0, 1) := by decide +kernel
theorem dX5_either5_44 : decode cX5_either5 44 = .ok (.istore_n 1, 1) := by decide +kernel
theorem dX5_either5_45 : decode cX5_either5 45 = .ok (.goto (-40), 3) := by decide +kernel
theorem dX5_either5_48 : decode cX5_either5 48 = .ok (.iload_n 1, 1) := by decide +kernel
theorem dX5_either5_49 : decode cX5_either5 49 = .ok (.ireturn, 1) := by decide +kernel
end
section
theorem dX5_atom4_0 : decode cX5_atom4 0 = .ok (.iconst 0, 1) := by decide +kernel
theorem dX5_atom4_1 : decode cX5_atom4 1 = .ok (.istore_n 1, 1) := by decide +kernel
theorem dX5_atom4_2 : decode cX5_atom4 2 = .ok (.aload_n 0, 1) := by decide +kernel
theorem dX5_atom4_3 : decode cX5_atom4 3 = .ok (.bipush 45, 2) := by decide +kernel
theorem dX5_atom4_5 : decode cX5_atom4 5 = .ok (.invokevirtual 204, 3) := by decide +kernel
theorem dX5_atom4_8 : decode cX5_atom4 8 = .ok (.ifCond .eq 29, 3) := by decide +kernel
theorem dX5_atom4_11 : decode cX5_atom4 11 = .ok (.aload_n 0, 1) := by decide +kernel
theorem dX5_atom4_12 : decode cX5_atom4 12 = .ok (.invokevirtual 207, 3) := by decide +kernel
theorem dX5_atom4_15 : decode cX5_atom4 15 = .ok (.ifCond .eq 146, 3) := by decide +kernel
theorem dX5_atom4_18 : decode cX5_atom4 18 = .ok (.aload_n 0, 1) := by decide +kernel
theorem dX5_atom4_19 : decode cX5_atom4 19 = .ok (.invokevirtual 215, 3) := by decide +kernel
theorem dX5_atom4_22 : decode cX5_atom4 22 = .ok (.ineg, 1) := by decide +kernel
theorem dX5_atom4_23 : decode cX5_atom4 23 = .ok (.istore_n 1, 1) := by decide +kernel
theorem dX5_atom4_24 : decode cX5_atom4 24 = .ok (.aload_n 0, 1) := by decide +kernel
theorem dX5_atom4_25 : decode cX5_atom4 25 = .ok (.dup, 1) := by decide +kernel
theorem dX5_atom4_26 : decode cX5_atom4 26 = .ok (.getfield 173, 3) := by decide +kernel
theorem dX5_atom4_29 : decode cX5_atom4 29 = .ok (.iconst 1, 1) := by decide +kernel
theorem dX5_atom4_30 : decode cX5_atom4 30 = .ok (.isub, 1) := by decide +kernel
theorem dX5_atom4_31 : decode cX5_atom4 31 = .ok (.putfield 173, 3) := by decide +kernel
theorem dX5_atom4_34 : decode cX5_atom4 34 = .ok (.goto 127, 3) := by decide +kernel
theorem dX5_atom4_37 : decode cX5_atom4 37 = .ok (.aload_n 0, 1) := by decide +kernel
theorem dX5_atom4_38 : decode cX5_atom4 38 = .ok (.bipush 40, 2) := by decide +kernel
theorem dX5_atom4_40 : decode cX5_atom4 40 = .ok (.invokevirtual 204, 3) := by decide +kernel
theorem dX5_atom4_43 : decode cX5_atom4 43 = .ok (.ifCond .eq 52, 3) := by decide +kernel
theorem dX5_atom4_46 : decode cX5_atom4 46 = .ok (.aload_n 0, 1) := by decide +kernel
theorem dX5_atom4_47 : decode cX5_atom4 47 = .ok (.invokevirtual 207, 3) := by decide +kernel
theorem dX5_atom4_50 : decode cX5_atom4 50 = .ok (.ifCond .eq 111, 3) := by decide +kernel
theorem dX5_atom4_53 : decode cX5_atom4 53 = .ok (.aload_n 0, 1) := by decide +kernel
theorem dX5_atom4_54 : decode cX5_atom4 54 = .ok (.invokevirtual 234, 3) := by decide +kernel
theorem dX5_atom4_57 : decode cX5_atom4 57 = .ok (.istore_n 1, 1) := by decide +kernel
theorem dX5_atom4_58 : decode cX5_atom4 58 = .ok (.aload_n 0, 1) := by decide +kernel
theorem dX5_atom4_59 : decode cX5_atom4 59 = .ok (.bipush 41, 2) := by decide +kernel
theorem dX5_atom4_61 : decode cX5_atom4 61 = .ok (.invokevirtual 204, 3) := by decide +kernel
theorem dX5_atom4_64 : decode cX5_atom4 64 = .ok (.ifCond .ne 7, 3) := by decide +kernel
theorem dX5_atom4_67 : decode cX5_atom4 67 = .ok (.aload_n 0, 1) := by decide +kernel
theorem dX5_atom4_68 : decode cX5_atom4 68 = .ok (.invokevirtual 176, 3) := by decide +kernel
theorem dX5_atom4_71 : decode cX5_atom4 71 = .ok (.aload_n 0, 1) := by decide +kernel
theorem dX5_atom4_72 : decode cX5_atom4 72 = .ok (.dup, 1) := by decide +kernel
theorem dX5_atom4_73 : decode cX5_atom4 73 = .ok (.getfield 173, 3) := by decide +kernel
theorem dX5_atom4_76 : decode cX5_atom4 76 = .ok (.iconst 1, 1) := by decide +kernel
theorem dX5_atom4_77 : decode cX5_atom4 77 = .ok (.isub, 1) := by decide +kernel
theorem dX5_atom4_78 : decode cX5_atom4 78 = .ok (.putfield 173, 3) := by decide +kernel
theorem dX5_atom4_81 : decode cX5_atom4 81 = .ok (.aload_n 0, 1) := by decide +kernel
theorem dX5_atom4_82 : decode cX5_atom4 82 = .ok (.getfield 163, 3) := by decide +kernel
theorem dX5_atom4_85 : decode cX5_atom4 85 = .ok (.ifCond .ne 76, 3) := by decide +kernel
theorem dX5_atom4_88 : decode cX5_atom4 88 = .ok (.aload_n 0, 1) := by decide +kernel
theorem dX5_atom4_89 : decode cX5_atom4 89 = .ok (.invokevirtual 179, 3) := by decide +kernel
theorem dX5_atom4_92 : decode cX5_atom4 92 = .ok (.goto 69, 3) := by decide +kernel
theorem dX5_atom4_95 : decode cX5_atom4 95 = .ok (.aload_n 0, 1) := by decide +kernel
theorem dX5_atom4_96 : decode cX5_atom4 96 = .ok (.getfield 163, 3) := by decide +kernel
theorem dX5_atom4_99 : decode cX5_atom4 99 = .ok (.ifCond .ne 24, 3) := by decide +kernel
theorem dX5_atom4_102 : decode cX5_atom4 102 = .ok (.aload_n 0, 1) := by decide +kernel
theorem dX5_atom4_103 : decode cX5_atom4 103 = .ok (.getfield 148, 3) := by decide +kernel
theorem dX5_atom4_106 : decode cX5_atom4 106 = .ok (.iconst 2, 1) := by decide +kernel
theorem dX5_atom4_107 : decode cX5_atom4 107 = .ok (.if_icmp .ne 16, 3) := by decide +kernel
theorem dX5_atom4_110 : decode cX5_atom4 110 = .ok (.aload_n 0, 1) := by decide +kernel
theorem dX5_atom4_111 : decode cX5_atom4 111 = .ok (.getfield 159, 3) := by decide +kernel
theorem dX5_atom4_114 : decode cX5_atom4 114 = .ok (.l2i, 1) := by decide +kernel
theorem dX5_atom4_115 : decode cX5_atom4 115 = .ok (.istore_n 1, 1) := by decide +kernel
theorem dX5_atom4_116 : decode cX5_atom4 116 = .ok (.aload_n 0, 1) := by decide +kernel
theorem dX5_atom4_117 : decode cX5_atom4 117 = .ok (.invokevirtual 179, 3) := by decide +kernel
theorem dX5_atom4_120 : decode cX5_atom4 120 = .ok (.goto 41, 3) := by decide +kernel
theorem dX5_atom4_123 : decode cX5_atom4 123 = .ok (.aload_n 0, 1) := by decide +kernel
theorem dX5_atom4_124 : decode cX5_atom4 124 = .ok (.getfield 163, 3) := by decide +kernel
theorem dX5_atom4_127 : decode cX5_atom4 127 = .ok (.ifCond .ne 30, 3) := by decide +kernel
theorem dX5_atom4_130 : decode cX5_atom4 130 = .ok (.aload_n 0, 1) := by decide +kernel
theorem dX5_atom4_131 : decode cX5_atom4 131 = .ok (.getfield 148, 3) := by decide +kernel
theorem dX5_atom4_134 : decode cX5_atom4 134 = .ok (.iconst 1, 1) := by decide +kernel
theorem dX5_atom4_135 : decode cX5_atom4 135 = .ok (.if_icmp .ne 22, 3) := by decide +kernel
theorem dX5_atom4_138 : decode cX5_atom4 138 = .ok (.aload_n 0, 1) := by decide +kernel
theorem dX5_atom4_139 : decode cX5_atom4 139 = .ok (.invokevirtual 211, 3) := by decide +kernel
theorem dX5_atom4_142 : decode cX5_atom4 142 = .ok (.istore_n 1, 1) := by decide +kernel
theorem dX5_atom4_143 : decode cX5_atom4 143 = .ok (.aload_n 0, 1) := by decide +kernel
theorem dX5_atom4_144 : decode cX5_atom4 144 = .ok (.getfield 163, 3) := by decide +kernel
theorem dX5_atom4_147 : decode cX5_atom4 147 = .ok (.ifCond .ne 14, 3) := by decide +kernel
theorem dX5_atom4_150 : decode cX5_atom4 150 = .ok (.aload_n 0, 1) := by decide +kernel
theorem dX5_atom4_151 : decode cX5_atom4 151 = .ok (.invokevirtual 179, 3) := by decide +kernel
theorem dX5_atom4_154 : decode cX5_atom4 154 = .ok (.goto 7, 3) := by decide +kernel
theorem dX5_atom4_157 : decode cX5_atom4 157 = .ok (.aload_n 0, 1) := by decide +kernel
theorem dX5_atom4_158 : decode cX5_atom4 158 = .ok (.invokevirtual 176, 3) := by decide +kernel
theorem dX5_atom4_161 : decode cX5_atom4 161 = .ok (.iload_n 1, 1) := by decide +kernel
theorem dX5_atom4_162 : decode cX5_atom4 162 = .ok (.ireturn, 1) := by decide +kernel
theorem dX5_term4_0 : decode cX5_term4 0 = .ok (.aload_n 0, 1) := by decide +kernel
theorem dX5_term4_1 : decode cX5_term4 1 = .ok (.invokevirtual 237, 3) := by decide +kernel
theorem dX5_term4_4 : decode cX5_term4 4 = .ok (.istore_n 1, 1) := by decide +kernel
theorem dX5_term4_5 : decode cX5_term4 5 = .ok (.aload_n 0, 1) := by decide +kernel
theorem dX5_term4_6 : decode cX5_term4 6 = .ok (.bipush 42, 2) := by decide +kernel
theorem dX5_term4_8 : decode cX5_term4 8 = .ok (.invokevirtual 204, 3) := by decide +kernel
theorem dX5_term4_11 : decode cX5_term4 11 = .ok (.ifCond .eq 17, 3) := by decide +kernel
theorem dX5_term4_14 : decode cX5_term4 14 = .ok (.aload_n 0, 1) := by decide +kernel
theorem dX5_term4_15 : decode cX5_term4 15 = .ok (.invokevirtual 179, 3) := by decide +kernel
theorem dX5_term4_18 : decode cX5_term4 18 = .ok (.iload_n 1, 1) := by decide +kernel
theorem dX5_term4_19 : decode cX5_term4 19 = .ok (.aload_n 0, 1) := by decide +kernel
theorem dX5_term4_20 : decode cX5_term4 20 = .ok (.invokevirtual 237, 3) := by decide +kernel
theorem dX5_term4_23 : decode cX5_term4 23 = .ok (.imul, 1) := by decide +kernel
theorem dX5_term4_24 : decode cX5_term4 24 = .ok (.istore_n 1, 1) := by decide +kernel
theorem dX5_term4_25 : decode cX5_term4 25 = .ok (.goto (-20), 3) := by decide +kernel
theorem dX5_term4_28 : decode cX5_term4 28 = .ok (.iload_n 1, 1) := by decide +kernel
theorem dX5_term4_29 : decode cX5_term4 29 = .ok (.ireturn, 1) := by decide +kernel
theorem dX5_added4_0 : decode cX5_added4 0 = .ok (.aload_n 0, 1) := by decide +kernel
theorem dX5_added4_1 : decode cX5_added4 1 = .ok (.invokevirtual 240, 3) := by decide +kernel
theorem dX5_added4_4 : decode cX5_added4 4 = .ok (.istore_n 1, 1) := by decide +kernel
theorem dX5_added4_5 : decode cX5_added4 5 = .ok (.aload_n 0, 1) := by decide +kernel
theorem dX5_added4_6 : decode cX5_added4 6 = .ok (.bipush 43, 2) := by decide +kernel
theorem dX5_added4_8 : decode cX5_added4 8 = .ok (.invokevirtual 204, 3) := by decide +kernel
theorem dX5_added4_11 : decode cX5_added4 11 = .ok (.ifCond .ne 12, 3) := by decide +kernel
theorem dX5_added4_14 : decode cX5_added4 14 = .ok (.aload_n 0, 1) := by decide +kernel
theorem dX5_added4_15 : decode cX5_added4 15 = .ok (.bipush 45, 2) := by decide +kernel
theorem dX5_added4_17 : decode cX5_added4 17 = .ok (.invokevirtual 204, 3) := by decide +kernel
theorem dX5_added4_20 : decode cX5_added4 20 = .ok (.ifCond .eq 46, 3) := by decide +kernel
theorem dX5_added4_23 : decode cX5_added4 23 = .ok (.aload_n 0, 1) := by decide +kernel
theorem dX5_added4_24 : decode cX5_added4 24 = .ok (.getfield 159, 3) := by decide +kernel
theorem dX5_added4_27 : decode cX5_added4 27 = .ok (.ldc2_w 221, 3) := by decide +kernel
theorem dX5_added4_30 : decode cX5_added4 30 = .ok (.lcmp, 1) := by decide +kernel
theorem dX5_added4_31 : decode cX5_added4 31 = .ok (.ifCond .ne 7, 3) := by decide +kernel
theorem dX5_added4_34 : decode cX5_added4 34 = .ok (.iconst 1, 1) := by decide +kernel
theorem dX5_added4_35 : decode cX5_added4 35 = .ok (.goto 4, 3) := by decide +kernel
theorem dX5_added4_38 : decode cX5_added4 38 = .ok (.iconst 0, 1) := by decide +kernel
theorem dX5_added4_39 : decode cX5_added4 39 = .ok (.istore_n 2, 1) := by decide +kernel
theorem dX5_added4_40 : decode cX5_added4 40 = .ok (.aload_n 0, 1) := by decide +kernel
theorem dX5_added4_41 : decode cX5_added4 41 = .ok (.invokevirtual 179, 3) := by decide +kernel
theorem dX5_added4_44 : decode cX5_added4 44 = .ok (.aload_n 0, 1) := by decide +kernel
theorem dX5_added4_45 : decode cX5_added4 45 = .ok (.invokevirtual 240, 3) := by decide +kernel
theorem dX5_added4_48 : decode cX5_added4 48 = .ok (.istore_n 3, 1) := by decide +kernel
theorem dX5_added4_49 : decode cX5_added4 49 = .ok (.iload_n 2, 1) := by decide +kernel
theorem dX5_added4_50 : decode cX5_added4 50 = .ok (.ifCond .eq 9, 3) := by decide +kernel
theorem dX5_added4_53 : decode cX5_added4 53 = .ok (.iload_n 1, 1) := by decide +kernel
theorem dX5_added4_54 : decode cX5_added4 54 = .ok (.iload_n 3, 1) := by decide +kernel
theorem dX5_added4_55 : decode cX5_added4 55 = .ok (.iadd, 1) := by decide +kernel
theorem dX5_added4_56 : decode cX5_added4 56 = .ok (.goto 6, 3) := by decide +kernel
theorem dX5_added4_59 : decode cX5_added4 59 = .ok (.iload_n 1, 1) := by decide +kernel
theorem dX5_added4_60 : decode cX5_added4 60 = .ok (.iload_n 3, 1) := by decide +kernel
theorem dX5_added4_61 : decode cX5_added4 61 = .ok (.isub, 1) := by decide +kernel
theorem dX5_added4_62 : decode cX5_added4 62 = .ok (.istore_n 1, 1) := by decide +kernel
theorem dX5_added4_63 : decode cX5_added4 63 = .ok (.goto (-58), 3) := by decide +kernel
theorem dX5_added4_66 : decode cX5_added4 66 = .ok (.iload_n 1, 1) := by decide +kernel
theorem dX5_added4_67 : decode cX5_added4 67 = .ok (.ireturn, 1) := by decide +kernel
theorem dX5_not4_0 : decode cX5_not4 0 = .ok (.aload_n 0, 1) := by decide +kernel
theorem dX5_not4_1 : decode cX5_not4 1 = .ok (.bipush 110, 2) := by decide +kernel
theorem dX5_not4_3 : decode cX5_not4 3 = .ok (.bipush 111, 2) := by decide +kernel
theorem dX5_not4_5 : decode cX5_not4 5 = .ok (.bipush 116, 2) := by decide +kernel
theorem dX5_not4_7 : decode cX5_not4 7 = .ok (.iconst 0, 1) := by decide +kernel
theorem dX5_not4_8 : decode cX5_not4 8 = .ok (.iconst 0, 1) := by decide +kernel
theorem dX5_not4_9 : decode cX5_not4 9 = .ok (.iconst 0, 1) := by decide +kernel
theorem dX5_not4_10 : decode cX5_not4 10 = .ok (.iconst 0, 1) := by decide +kernel
theorem dX5_not4_11 : decode cX5_not4 11 = .ok (.iconst 0, 1) := by decide +kernel
theorem dX5_not4_12 : decode cX5_not4 12 = .ok (.invokevirtual 182, 3) := by decide +kernel
theorem dX5_not4_15 : decode cX5_not4 15 = .ok (.ifCond .eq 37, 3) := by decide +kernel
theorem dX5_not4_18 : decode cX5_not4 18 = .ok (.aload_n 0, 1) := by decide +kernel
theorem dX5_not4_19 : decode cX5_not4 19 = .ok (.invokevirtual 207, 3) := by decide +kernel
theorem dX5_not4_22 : decode cX5_not4 22 = .ok (.ifCond .ne 5, 3) := by decide +kernel
theorem dX5_not4_25 : decode cX5_not4 25 = .ok (.iconst 0, 1) := by decide +kernel
theorem dX5_not4_26 : decode cX5_not4 26 = .ok (.ireturn, 1) := by decide +kernel
theorem dX5_not4_27 : decode cX5_not4 27 = .ok (.aload_n 0, 1) := by decide +kernel
theorem dX5_not4_28 : decode cX5_not4 28 = .ok (.invokevirtual 228, 3) := by decide +kernel
theorem dX5_not4_31 : decode cX5_not4 31 = .ok (.istore_n 1, 1) := by decide +kernel
theorem dX5_not4_32 : decode cX5_not4 32 = .ok (.aload_n 0, 1) := by decide +kernel
theorem dX5_not4_33 : decode cX5_not4 33 = .ok (.dup, 1) := by decide +kernel
theorem dX5_not4_34 : decode cX5_not4 34 = .ok (.getfield 173, 3) := by decide +kernel
theorem dX5_not4_37 : decode cX5_not4 37 = .ok (.iconst 1, 1) := by decide +kernel
theorem dX5_not4_38 : decode cX5_not4 38 = .ok (.isub, 1) := by decide +kernel
theorem dX5_not4_39 : decode cX5_not4 39 = .ok (.putfield 173, 3) := by decide +kernel
theorem dX5_not4_42 : decode cX5_not4 42 = .ok (.iload_n 1, 1) := by decide +kernel
theorem dX5_not4_43 : decode cX5_not4 43 = .ok (.ifCond .ne 7, 3) := by decide +kernel
theorem dX5_not4_46 : decode cX5_not4 46 = .ok (.iconst 1, 1) := by decide +kernel
theorem dX5_not4_47 : decode cX5_not4 47 = .ok (.goto 4, 3) := by decide +kernel
theorem dX5_not4_50 : decode cX5_not4 50 = .ok (.iconst 0, 1) := by decide +kernel
theorem dX5_not4_51 : decode cX5_not4 51 = .ok (.ireturn, 1) := by decide +kernel
theorem dX5_not4_52 : decode cX5_not4 52 = .ok (.aload_n 0, 1) := by decide +kernel
theorem dX5_not4_53 : decode cX5_not4 53 = .ok (.invokevirtual 243, 3) := by decide +kernel
theorem dX5_not4_56 : decode cX5_not4 56 = .ok (.istore_n 1, 1) := by decide +kernel
theorem dX5_not4_57 : decode cX5_not4 57 = .ok (.aload_n 0, 1) := by decide +kernel
theorem dX5_not4_58 : decode cX5_not4 58 = .ok (.bipush 60, 2) := by decide +kernel
theorem dX5_not4_60 : decode cX5_not4 60 = .ok (.invokevirtual 204, 3) := by decide +kernel
theorem dX5_not4_63 : decode cX5_not4 63 = .ok (.ifCond .ne 14, 3) := by decide +kernel
theorem dX5_not4_66 : decode cX5_not4 66 = .ok (.aload_n 0, 1) := by decide +kernel
theorem dX5_not4_67 : decode cX5_not4 67 = .ok (.bipush 61, 2) := by decide +kernel
theorem dX5_not4_69 : decode cX5_not4 69 = .ok (.invokevirtual 204, 3) := by decide +kernel
theorem dX5_not4_72 : decode cX5_not4 72 = .ok (.ifCond .ne 5, 3) := by decide +kernel
theorem dX5_not4_75 : decode cX5_not4 75 = .ok (.iload_n 1, 1) := by decide +kernel
theorem dX5_not4_76 : decode cX5_not4 76 = .ok (.ireturn, 1) := by decide +kernel
theorem dX5_not4_77 : decode cX5_not4 77 = .ok (.aload_n 0, 1) := by decide +kernel
theorem dX5_not4_78 : decode cX5_not4 78 = .ok (.getfield 159, 3) := by decide +kernel
theorem dX5_not4_81 : decode cX5_not4 81 = .ok (.ldc2_w 226, 3) := by decide +kernel
theorem dX5_not4_84 : decode cX5_not4 84 = .ok (.lcmp, 1) := by decide +kernel
theorem dX5_not4_85 : decode cX5_not4 85 = .ok (.ifCond .ne 7, 3) := by decide +kernel
theorem dX5_not4_88 : decode cX5_not4 88 = .ok (.iconst 1, 1) := by decide +kernel
theorem dX5_not4_89 : decode cX5_not4 89 = .ok (.goto 4, 3) := by decide +kernel
theorem dX5_not4_92 : decode cX5_not4 92 = .ok (.iconst 0, 1) := by decide +kernel
theorem dX5_not4_93 : decode cX5_not4 93 = .ok (.istore_n 2, 1) := by decide +kernel
theorem dX5_not4_94 : decode cX5_not4 94 = .ok (.aload_n 0, 1) := by decide +kernel
theorem dX5_not4_95 : decode cX5_not4 95 = .ok (.invokevirtual 179, 3) := by decide +kernel
theorem dX5_not4_98 : decode cX5_not4 98 = .ok (.aload_n 0, 1) := by decide +kernel
theorem dX5_not4_99 : decode cX5_not4 99 = .ok (.invokevirtual 243, 3) := by decide +kernel
theorem dX5_not4_102 : decode cX5_not4 102 = .ok (.istore_n 3, 1) := by decide +kernel
theorem dX5_not4_103 : decode cX5_not4 103 = .ok (.iload_n 2, 1) := by decide +kernel
theorem dX5_not4_104 : decode cX5_not4 104 = .ok (.ifCond .eq 11, 3) := by decide +kernel
theorem dX5_not4_107 : decode cX5_not4 107 = .ok (.iload_n 1, 1) := by decide +kernel
theorem dX5_not4_108 : decode cX5_not4 108 = .ok (.iload_n 3, 1) := by decide +kernel
theorem dX5_not4_109 : decode cX5_not4 109 = .ok (.if_icmp .ge 15, 3) := by decide +kernel
theorem dX5_not4_112 : decode cX5_not4 112 = .ok (.goto 8, 3) := by decide +kernel
theorem dX5_not4_115 : decode cX5_not4 115 = .ok (.iload_n 1, 1) := by decide +kernel
theorem dX5_not4_116 : decode cX5_not4 116 = .ok (.iload_n 3, 1) := by decide +kernel
theorem dX5_not4_117 : decode cX5_not4 117 = .ok (.if_icmp .ne 7, 3) := by decide +kernel
theorem dX5_not4_120 : decode cX5_not4 120 = .ok (.iconst 1, 1) := by decide +kernel
theorem dX5_not4_121 : decode cX5_not4 121 = .ok (.goto 4, 3) := by decide +kernel
theorem dX5_not4_124 : decode cX5_not4 124 = .ok (.iconst 0, 1) := by decide +kernel
theorem dX5_not4_125 : decode cX5_not4 125 = .ok (.ireturn, 1) := by decide +kernel
theorem dX5_both4_0 : decode cX5_both4 0 = .ok (.aload_n 0, 1) := by decide +kernel
theorem dX5_both4_1 : decode cX5_both4 1 = .ok (.invokevirtual 246, 3) := by decide +kernel
theorem dX5_both4_4 : decode cX5_both4 4 = .ok (.istore_n 1, 1) := by decide +kernel
theorem dX5_both4_5 : decode cX5_both4 5 = .ok (.aload_n 0, 1) := by decide +kernel
theorem dX5_both4_6 : decode cX5_both4 6 = .ok (.bipush 97, 2) := by decide +kernel
theorem dX5_both4_8 : decode cX5_both4 8 = .ok (.bipush 110, 2) := by decide +kernel
theorem dX5_both4_10 : decode cX5_both4 10 = .ok (.bipush 100, 2) := by decide +kernel
theorem dX5_both4_12 : decode cX5_both4 12 = .ok (.iconst 0, 1) := by decide +kernel
theorem dX5_both4_13 : decode cX5_both4 13 = .ok (.iconst 0, 1) := by decide +kernel
theorem dX5_both4_14 : decode cX5_both4 14 = .ok (.iconst 0, 1) := by decide +kernel
theorem dX5_both4_15 : decode cX5_both4 15 = .ok (.iconst 0, 1) := by decide +kernel
theorem dX5_both4_16 : decode cX5_both4 16 = .ok (.iconst 0, 1) := by decide +kernel
theorem dX5_both4_17 : decode cX5_both4 17 = .ok (.invokevirtual 182, 3) := by decide +kernel
theorem dX5_both4_20 : decode cX5_both4 20 = .ok (.ifCond .eq 29, 3) := by decide +kernel
theorem dX5_both4_23 : decode cX5_both4 23 = .ok (.aload_n 0, 1) := by decide +kernel
theorem dX5_both4_24 : decode cX5_both4 24 = .ok (.invokevirtual 179, 3) := by decide +kernel
theorem dX5_both4_27 : decode cX5_both4 27 = .ok (.aload_n 0, 1) := by decide +kernel
theorem dX5_both4_28 : decode cX5_both4 28 = .ok (.invokevirtual 246, 3) := by decide +kernel
theorem dX5_both4_31 : decode cX5_both4 31 = .ok (.istore_n 2, 1) := by decide +kernel
theorem dX5_both4_32 : decode cX5_both4 32 = .ok (.iload_n 1, 1) := by decide +kernel
theorem dX5_both4_33 : decode cX5_both4 33 = .ok (.ifCond .eq 11, 3) := by decide +kernel
theorem dX5_both4_36 : decode cX5_both4 36 = .ok (.iload_n 2, 1) := by decide +kernel
theorem dX5_both4_37 : decode cX5_both4 37 = .ok (.ifCond .eq 7, 3) := by decide +kernel
theorem dX5_both4_40 : decode cX5_both4 40 = .ok (.iconst 1, 1) := by decide +kernel
theorem dX5_both4_41 : decode cX5_both4 41 = .ok (.goto 4, 3) := by decide +kernel
theorem dX5_both4_44 : decode cX5_both4 44 = .ok (.iconst 0, 1) := by decide +kernel
theorem dX5_both4_45 : decode cX5_both4 45 = .ok (.istore_n 1, 1) := by decide +kernel
theorem dX5_both4_46 : decode cX5_both4 46 = .ok (.goto (-41), 3) := by decide +kernel
theorem dX5_both4_49 : decode cX5_both4 49 = .ok (.iload_n 1, 1) := by decide +kernel
theorem dX5_both4_50 : decode cX5_both4 50 = .ok (.ireturn, 1) := by decide +kernel
theorem dX5_either4_0 : decode cX5_either4 0 = .ok (.aload_n 0, 1) := by decide +kernel
theorem dX5_either4_1 : decode cX5_either4 1 = .ok (.invokevirtual 249, 3) := by decide +kernel
theorem dX5_either4_4 : decode cX5_either4 4 = .ok (.istore_n 1, 1) := by decide +kernel
theorem dX5_either4_5 : decode cX5_either4 5 = .ok (.aload_n 0, 1) := by decide +kernel
theorem dX5_either4_6 : decode cX5_either4 6 = .ok (.bipush 111, 2) := by decide +kernel
theorem dX5_either4_8 : decode cX5_either4 8 = .ok (.bipush 114, 2) := by decide +kernel
theorem dX5_either4_10 : decode cX5_either4 10 = .ok (.iconst 0, 1) := by decide +kernel
theorem dX5_either4_11 : decode cX5_either4 11 = .ok (.iconst 0, 1) := by decide +kernel
theorem dX5_either4_12 : decode cX5_either4 12 = .ok (.iconst 0, 1) := by decide +kernel
theorem dX5_either4_13 : decode cX5_either4 13 = .ok (.iconst 0, 1) := by decide +kernel
theorem dX5_either4_14 : decode cX5_either4 14 = .ok (.iconst 0, 1) := by decide +kernel
theorem dX5_either4_15 : decode cX5_either4 15 = .ok (.iconst 0, 1) := by decide +kernel
theorem dX5_either4_16 : decode cX5_either4 16 = .ok (.invokevirtual 182, 3) := by decide +kernel
theorem dX5_either4_19 : decode cX5_either4 19 = .ok (.ifCond .eq 29, 3) := by decide +kernel
theorem dX5_either4_22 : decode cX5_either4 22 = .ok (.aload_n 0, 1) := by decide +kernel
theorem dX5_either4_23 : decode cX5_either4 23 = .ok (.invokevirtual 179, 3) := by decide +kernel
theorem dX5_either4_26 : decode cX5_either4 26 = .ok (.aload_n 0, 1) := by decide +kernel
theorem dX5_either4_27 : decode cX5_either4 27 = .ok (.invokevirtual 249, 3) := by decide +kernel
theorem dX5_either4_30 : decode cX5_either4 30 = .ok (.istore_n 2, 1) := by decide +kernel
theorem dX5_either4_31 : decode cX5_either4 31 = .ok (.iload_n 1, 1) := by decide +kernel
theorem dX5_either4_32 : decode cX5_either4 32 = .ok (.ifCond .ne 7, 3) := by decide +kernel
theorem dX5_either4_35 : decode cX5_either4 35 = .ok (.iload_n 2, 1) := by decide +kernel
theorem dX5_either4_36 : decode cX5_either4 36 = .ok (.ifCond .eq 7, 3) := by decide +kernel
theorem dX5_either4_39 : decode cX5_either4 39 = .ok (.iconst 1, 1) := by decide +kernel
theorem dX5_either4_40 : decode cX5_either4 40 = .ok (.goto 4, 3) := by decide +kernel
theorem dX5_either4_43 : decode cX5_either4 43 = .ok (.iconst 0, 1) := by decide +kernel
theorem dX5_either4_44 : decode cX5_either4 44 = .ok (.istore_n 1, 1) := by decide +kernel
theorem dX5_either4_45 : decode cX5_either4 45 = .ok (.goto (-40), 3) := by decide +kernel
theorem dX5_either4_48 : decode cX5_either4 48 = .ok (.iload_n 1, 1) := by decide +kernel
theorem dX5_either4_49 : decode cX5_either4 49 = .ok (.ireturn, 1) := by decide +kernel
theorem dX5_atom3_0 : decode cX5_atom3 0 = .ok (.iconst 0, 1) := by decide +kernel
theorem dX5_atom3_1 : decode cX5_atom3 1 = .ok (.istore_n 1, 1) := by decide +kernel
theorem dX5_atom3_2 : decode cX5_atom3 2 = .ok (.aload_n 0, 1) := by decide +kernel
theorem dX5_atom3_3 : decode cX5_atom3 3 = .ok (.bipush 45, 2) := by decide +kernel
theorem dX5_atom3_5 : decode cX5_atom3 5 = .ok (.invokevirtual 204, 3) := by decide +kernel
theorem dX5_atom3_8 : decode cX5_atom3 8 = .ok (.ifCond .eq 29, 3) := by decide +kernel
theorem dX5_atom3_11 : decode cX5_atom3 11 = .ok (.aload_n 0, 1) := by decide +kernel
theorem dX5_atom3_12 : decode cX5_atom3 12 = .ok (.invokevirtual 207, 3) := by decide +kernel
theorem dX5_atom3_15 : decode cX5_atom3 15 = .ok (.ifCond .eq 146, 3) := by decide +kernel
theorem dX5_atom3_18 : decode cX5_atom3 18 = .ok (.aload_n 0, 1) := by decide +kernel
theorem dX5_atom3_19 : decode cX5_atom3 19 = .ok (.invokevirtual 237, 3) := by decide +kernel
theorem dX5_atom3_22 : decode cX5_atom3 22 = .ok (.ineg, 1) := by decide +kernel
theorem dX5_atom3_23 : decode cX5_atom3 23 = .ok (.istore_n 1, 1) := by decide +kernel
theorem dX5_atom3_24 : decode cX5_atom3 24 = .ok (.aload_n 0, 1) := by decide +kernel
theorem dX5_atom3_25 : decode cX5_atom3 25 = .ok (.dup, 1) := by decide +kernel
theorem dX5_atom3_26 : decode cX5_atom3 26 = .ok (.getfield 173, 3) := by decide +kernel
theorem dX5_atom3_29 : decode cX5_atom3 29 = .ok (.iconst 1, 1) := by decide +kernel
theorem dX5_atom3_30 : decode cX5_atom3 30 = .ok (.isub, 1) := by decide +kernel
theorem dX5_atom3_31 : decode cX5_atom3 31 = .ok (.putfield 173, 3) := by decide +kernel
theorem dX5_atom3_34 : decode cX5_atom3 34 = .ok (.goto 127, 3) := by decide +kernel
theorem dX5_atom3_37 : decode cX5_atom3 37 = .ok (.aload_n 0, 1) := by decide +kernel
theorem dX5_atom3_38 : decode cX5_atom3 38 = .ok (.bipush 40, 2) := by decide +kernel
theorem dX5_atom3_40 : decode cX5_atom3 40 = .ok (.invokevirtual 204, 3) := by decide +kernel
theorem dX5_atom3_43 : decode cX5_atom3 43 = .ok (.ifCond .eq 52, 3) := by decide +kernel
theorem dX5_atom3_46 : decode cX5_atom3 46 = .ok (.aload_n 0, 1) := by decide +kernel
theorem dX5_atom3_47 : decode cX5_atom3 47 = .ok (.invokevirtual 207, 3) := by decide +kernel
theorem dX5_atom3_50 : decode cX5_atom3 50 = .ok (.ifCond .eq 111, 3) := by decide +kernel
theorem dX5_atom3_53 : decode cX5_atom3 53 = .ok (.aload_n 0, 1) := by decide +kernel
theorem dX5_atom3_54 : decode cX5_atom3 54 = .ok (.invokevirtual 252, 3) := by decide +kernel
theorem dX5_atom3_57 : decode cX5_atom3 57 = .ok (.istore_n 1, 1) := by decide +kernel
theorem dX5_atom3_58 : decode cX5_atom3 58 = .ok (.aload_n 0, 1) := by decide +kernel
theorem dX5_atom3_59 : decode cX5_atom3 59 = .ok (.bipush 41, 2) := by decide +kernel
theorem dX5_atom3_61 : decode cX5_atom3 61 = .ok (.invokevirtual 204, 3) := by decide +kernel
theorem dX5_atom3_64 : decode cX5_atom3 64 = .ok (.ifCond .ne 7, 3) := by decide +kernel
theorem dX5_atom3_67 : decode cX5_atom3 67 = .ok (.aload_n 0, 1) := by decide +kernel
theorem dX5_atom3_68 : decode cX5_atom3 68 = .ok (.invokevirtual 176, 3) := by decide +kernel
theorem dX5_atom3_71 : decode cX5_atom3 71 = .ok (.aload_n 0, 1) := by decide +kernel
theorem dX5_atom3_72 : decode cX5_atom3 72 = .ok (.dup, 1) := by decide +kernel
theorem dX5_atom3_73 : decode cX5_atom3 73 = .ok (.getfield 173, 3) := by decide +kernel
theorem dX5_atom3_76 : decode cX5_atom3 76 = .ok (.iconst 1, 1) := by decide +kernel
theorem dX5_atom3_77 : decode cX5_atom3 77 = .ok (.isub, 1) := by decide +kernel
theorem dX5_atom3_78 : decode cX5_atom3 78 = .ok (.putfield 173, 3) := by decide +kernel
theorem dX5_atom3_81 : decode cX5_atom3 81 = .ok (.aload_n 0, 1) := by decide +kernel
theorem dX5_atom3_82 : decode cX5_atom3 82 = .ok (.getfield 163, 3) := by decide +kernel
theorem dX5_atom3_85 : decode cX5_atom3 85 = .ok (.ifCond .ne 76, 3) := by decide +kernel
theorem dX5_atom3_88 : decode cX5_atom3 88 = .ok (.aload_n 0, 1) := by decide +kernel
theorem dX5_atom3_89 : decode cX5_atom3 89 = .ok (.invokevirtual 179, 3) := by decide +kernel
theorem dX5_atom3_92 : decode cX5_atom3 92 = .ok (.goto 69, 3) := by decide +kernel
theorem dX5_atom3_95 : decode cX5_atom3 95 = .ok (.aload_n 0, 1) := by decide +kernel
theorem dX5_atom3_96 : decode cX5_atom3 96 = .ok (.getfield 163, 3) := by decide +kernel
theorem dX5_atom3_99 : decode cX5_atom3 99 = .ok (.ifCond .ne 24, 3) := by decide +kernel
theorem dX5_atom3_102 : decode cX5_atom3 102 = .ok (.aload_n 0, 1) := by decide +kernel
theorem dX5_atom3_103 : decode cX5_atom3 103 = .ok (.getfield 148, 3) := by decide +kernel
theorem dX5_atom3_106 : decode cX5_atom3 106 = .ok (.iconst 2, 1) := by decide +kernel
theorem dX5_atom3_107 : decode cX5_atom3 107 = .ok (.if_icmp .ne 16, 3) := by decide +kernel
theorem dX5_atom3_110 : decode cX5_atom3 110 = .ok (.aload_n 0, 1) := by decide +kernel
theorem dX5_atom3_111 : decode cX5_atom3 111 = .ok (.getfield 159, 3) := by decide +kernel
theorem dX5_atom3_114 : decode cX5_atom3 114 = .ok (.l2i, 1) := by decide +kernel
theorem dX5_atom3_115 : decode cX5_atom3 115 = .ok (.istore_n 1, 1) := by decide +kernel
theorem dX5_atom3_116 : decode cX5_atom3 116 = .ok (.aload_n 0, 1) := by decide +kernel
theorem dX5_atom3_117 : decode cX5_atom3 117 = .ok (.invokevirtual 179, 3) := by decide +kernel
theorem dX5_atom3_120 : decode cX5_atom3 120 = .ok (.goto 41, 3) := by decide +kernel
theorem dX5_atom3_123 : decode cX5_atom3 123 = .ok (.aload_n 0, 1) := by decide +kernel
theorem dX5_atom3_124 : decode cX5_atom3 124 = .ok (.getfield 163, 3) := by decide +kernel
theorem dX5_atom3_127 : decode cX5_atom3 127 = .ok (.ifCond .ne 30, 3) := by decide +kernel
theorem dX5_atom3_130 : decode cX5_atom3 130 = .ok (.aload_n 0, 1) := by decide +kernel
theorem dX5_atom3_131 : decode cX5_atom3 131 = .ok (.getfield 148, 3) := by decide +kernel
theorem dX5_atom3_134 : decode cX5_atom3 134 = .ok (.iconst 1, 1) := by decide +kernel
theorem dX5_atom3_135 : decode cX5_atom3 135 = .ok (.if_icmp .ne 22, 3) := by decide +kernel
theorem dX5_atom3_138 : decode cX5_atom3 138 = .ok (.aload_n 0, 1) := by decide +kernel
theorem dX5_atom3_139 : decode cX5_atom3 139 = .ok (.invokevirtual 211, 3) := by decide +kernel
theorem dX5_atom3_142 : decode cX5_atom3 142 = .ok (.istore_n 1, 1) := by decide +kernel
theorem dX5_atom3_143 : decode cX5_atom3 143 = .ok (.aload_n 0, 1) := by decide +kernel
theorem dX5_atom3_144 : decode cX5_atom3 144 = .ok (.getfield 163, 3) := by decide +kernel
theorem dX5_atom3_147 : decode cX5_atom3 147 = .ok (.ifCond .ne 14, 3) := by decide +kernel
theorem dX5_atom3_150 : decode cX5_atom3 150 = .ok (.aload_n 0, 1) := by decide +kernel
theorem dX5_atom3_151 : decode cX5_atom3 151 = .ok (.invokevirtual 179, 3) := by decide +kernel
theorem dX5_atom3_154 : decode cX5_atom3 154 = .ok (.goto 7, 3) := by decide +kernel
theorem dX5_atom3_157 : decode cX5_atom3 157 = .ok (.aload_n 0, 1) := by decide +kernel
theorem dX5_atom3_158 : decode cX5_atom3 158 = .ok (.invokevirtual 176, 3) := by decide +kernel
theorem dX5_atom3_161 : decode cX5_atom3 161 = .ok (.iload_n 1, 1) := by decide +kernel
theorem dX5_atom3_162 : decode cX5_atom3 162 = .ok (.ireturn, 1) := by decide +kernel
theorem dX5_term3_0 : decode cX5_term3 0 = .ok (.aload_n 0, 1) := by decide +kernel
theorem dX5_term3_1 : decode cX5_term3 1 = .ok (.invokevirtual 255, 3) := by decide +kernel
theorem dX5_term3_4 : decode cX5_term3 4 = .ok (.istore_n 1, 1) := by decide +kernel
theorem dX5_term3_5 : decode cX5_term3 5 = .ok (.aload_n 0, 1) := by decide +kernel
theorem dX5_term3_6 : decode cX5_term3 6 = .ok (.bipush 42, 2) := by decide +kernel
theorem dX5_term3_8 : decode cX5_term3 8 = .ok (.invokevirtual 204, 3) := by decide +kernel
theorem dX5_term3_11 : decode cX5_term3 11 = .ok (.ifCond .eq 17, 3) := by decide +kernel
theorem dX5_term3_14 : decode cX5_term3 14 = .ok (.aload_n 0, 1) := by decide +kernel
theorem dX5_term3_15 : decode cX5_term3 15 = .ok (.invokevirtual 179, 3) := by decide +kernel
theorem dX5_term3_18 : decode cX5_term3 18 = .ok (.iload_n 1, 1) := by decide +kernel
theorem dX5_term3_19 : decode cX5_term3 19 = .ok (.aload_n 0, 1) := by decide +kernel
theorem dX5_term3_20 : decode cX5_term3 20 = .ok (.invokevirtual 255, 3) := by decide +kernel
theorem dX5_term3_23 : decode cX5_term3 23 = .ok (.imul, 1) := by decide +kernel
theorem dX5_term3_24 : decode cX5_term3 24 = .ok (.istore_n 1, 1) := by decide +kernel
theorem dX5_term3_25 : decode cX5_term3 25 = .ok (.goto (-20), 3) := by decide +kernel
theorem dX5_term3_28 : decode cX5_term3 28 = .ok (.iload_n 1, 1) := by decide +kernel
theorem dX5_term3_29 : decode cX5_term3 29 = .ok (.ireturn, 1) := by decide +kernel
theorem dX5_added3_0 : decode cX5_added3 0 = .ok (.aload_n 0, 1) := by decide +kernel
theorem dX5_added3_1 : decode cX5_added3 1 = .ok (.invokevirtual 258, 3) := by decide +kernel
theorem dX5_added3_4 : decode cX5_added3 4 = .ok (.istore_n 1, 1) := by decide +kernel
theorem dX5_added3_5 : decode cX5_added3 5 = .ok (.aload_n 0, 1) := by decide +kernel
theorem dX5_added3_6 : decode cX5_added3 6 = .ok (.bipush 43, 2) := by decide +kernel
theorem dX5_added3_8 : decode cX5_added3 8 = .ok (.invokevirtual 204, 3) := by decide +kernel
theorem dX5_added3_11 : decode cX5_added3 11 = .ok (.ifCond .ne 12, 3) := by decide +kernel
theorem dX5_added3_14 : decode cX5_added3 14 = .ok (.aload_n 0, 1) := by decide +kernel
theorem dX5_added3_15 : decode cX5_added3 15 = .ok (.bipush 45, 2) := by decide +kernel
theorem dX5_added3_17 : decode cX5_added3 17 = .ok (.invokevirtual 204, 3) := by decide +kernel
theorem dX5_added3_20 : decode cX5_added3 20 = .ok (.ifCond .eq 46, 3) := by decide +kernel
theorem dX5_added3_23 : decode cX5_added3 23 = .ok (.aload_n 0, 1) := by decide +kernel
theorem dX5_added3_24 : decode cX5_added3 24 = .ok (.getfield 159, 3) := by decide +kernel
theorem dX5_added3_27 : decode cX5_added3 27 = .ok (.ldc2_w 221, 3) := by decide +kernel
theorem dX5_added3_30 : decode cX5_added3 30 = .ok (.lcmp, 1) := by decide +kernel
theorem dX5_added3_31 : decode cX5_added3 31 = .ok (.ifCond .ne 7, 3) := by decide +kernel
theorem dX5_added3_34 : decode cX5_added3 34 = .ok (.iconst 1, 1) := by decide +kernel
theorem dX5_added3_35 : decode cX5_added3 35 = .ok (.goto 4, 3) := by decide +kernel
theorem dX5_added3_38 : decode cX5_added3 38 = .ok (.iconst 0, 1) := by decide +kernel
theorem dX5_added3_39 : decode cX5_added3 39 = .ok (.istore_n 2, 1) := by decide +kernel
theorem dX5_added3_40 : decode cX5_added3 40 = .ok (.aload_n 0, 1) := by decide +kernel
theorem dX5_added3_41 : decode cX5_added3 41 = .ok (.invokevirtual 179, 3) := by decide +kernel
theorem dX5_added3_44 : decode cX5_added3 44 = .ok (.aload_n 0, 1) := by decide +kernel
theorem dX5_added3_45 : decode cX5_added3 45 = .ok (.invokevirtual 258, 3) := by decide +kernel
theorem dX5_added3_48 : decode cX5_added3 48 = .ok (.istore_n 3, 1) := by decide +kernel
theorem dX5_added3_49 : decode cX5_added3 49 = .ok (.iload_n 2, 1) := by decide +kernel
theorem dX5_added3_50 : decode cX5_added3 50 = .ok (.ifCond .eq 9, 3) := by decide +kernel
theorem dX5_added3_53 : decode cX5_added3 53 = .ok (.iload_n 1, 1) := by decide +kernel
theorem dX5_added3_54 : decode cX5_added3 54 = .ok (.iload_n 3, 1) := by decide +kernel
theorem dX5_added3_55 : decode cX5_added3 55 = .ok (.iadd, 1) := by decide +kernel
theorem dX5_added3_56 : decode cX5_added3 56 = .ok (.goto 6, 3) := by decide +kernel
theorem dX5_added3_59 : decode cX5_added3 59 = .ok (.iload_n 1, 1) := by decide +kernel
theorem dX5_added3_60 : decode cX5_added3 60 = .ok (.iload_n 3, 1) := by decide +kernel
theorem dX5_added3_61 : decode cX5_added3 61 = .ok (.isub, 1) := by decide +kernel
theorem dX5_added3_62 : decode cX5_added3 62 = .ok (.istore_n 1, 1) := by decide +kernel
theorem dX5_added3_63 : decode cX5_added3 63 = .ok (.goto (-58), 3) := by decide +kernel
theorem dX5_added3_66 : decode cX5_added3 66 = .ok (.iload_n 1, 1) := by decide +kernel
theorem dX5_added3_67 : decode cX5_added3 67 = .ok (.ireturn, 1) := by decide +kernel
theorem dX5_not3_0 : decode cX5_not3 0 = .ok (.aload_n 0, 1) := by decide +kernel
theorem dX5_not3_1 : decode cX5_not3 1 = .ok (.bipush 110, 2) := by decide +kernel
theorem dX5_not3_3 : decode cX5_not3 3 = .ok (.bipush 111, 2) := by decide +kernel
theorem dX5_not3_5 : decode cX5_not3 5 = .ok (.bipush 116, 2) := by decide +kernel
theorem dX5_not3_7 : decode cX5_not3 7 = .ok (.iconst 0, 1) := by decide +kernel
theorem dX5_not3_8 : decode cX5_not3 8 = .ok (.iconst 0, 1) := by decide +kernel
theorem dX5_not3_9 : decode cX5_not3 9 = .ok (.iconst 0, 1) := by decide +kernel
theorem dX5_not3_10 : decode cX5_not3 10 = .ok (.iconst 0, 1) := by decide +kernel
theorem dX5_not3_11 : decode cX5_not3 11 = .ok (.iconst 0, 1) := by decide +kernel
theorem dX5_not3_12 : decode cX5_not3 12 = .ok (.invokevirtual 182, 3) := by decide +kernel
theorem dX5_not3_15 : decode cX5_not3 15 = .ok (.ifCond .eq 37, 3) := by decide +kernel
theorem dX5_not3_18 : decode cX5_not3 18 = .ok (.aload_n 0, 1) := by decide +kernel
theorem dX5_not3_19 : decode cX5_not3 19 = .ok (.invokevirtual 207, 3) := by decide +kernel
theorem dX5_not3_22 : decode cX5_not3 22 = .ok (.ifCond .ne 5, 3) := by decide +kernel
theorem dX5_not3_25 : decode cX5_not3 25 = .ok (.iconst 0, 1) := by decide +kernel
theorem dX5_not3_26 : decode cX5_not3 26 = .ok (.ireturn, 1) := by decide +kernel
theorem dX5_not3_27 : decode cX5_not3 27 = .ok (.aload_n 0, 1) := by decide +kernel
theorem dX5_not3_28 : decode cX5_not3 28 = .ok (.invokevirtual 246, 3) := by decide +kernel
theorem dX5_not3_31 : decode cX5_not3 31 = .ok (.istore_n 1, 1) := by decide +kernel
theorem dX5_not3_32 : decode cX5_not3 32 = .ok (.aload_n 0, 1) := by decide +kernel
theorem dX5_not3_33 : decode cX5_not3 33 = .ok (.dup, 1) := by decide +kernel
theorem dX5_not3_34 : decode cX5_not3 34 = .ok (.getfield 173, 3) := by decide +kernel
theorem dX5_not3_37 : decode cX5_not3 37 = .ok (.iconst 1, 1) := by decide +kernel
theorem dX5_not3_38 : decode cX5_not3 38 = .ok (.isub, 1) := by decide +kernel
theorem dX5_not3_39 : decode cX5_not3 39 = .ok (.putfield 173, 3) := by decide +kernel
theorem dX5_not3_42 : decode cX5_not3 42 = .ok (.iload_n 1, 1) := by decide +kernel
theorem dX5_not3_43 : decode cX5_not3 43 = .ok (.ifCond .ne 7, 3) := by decide +kernel
theorem dX5_not3_46 : decode cX5_not3 46 = .ok (.iconst 1, 1) := by decide +kernel
theorem dX5_not3_47 : decode cX5_not3 47 = .ok (.goto 4, 3) := by decide +kernel
theorem dX5_not3_50 : decode cX5_not3 50 = .ok (.iconst 0, 1) := by decide +kernel
theorem dX5_not3_51 : decode cX5_not3 51 = .ok (.ireturn, 1) := by decide +kernel
theorem dX5_not3_52 : decode cX5_not3 52 = .ok (.aload_n 0, 1) := by decide +kernel
theorem dX5_not3_53 : decode cX5_not3 53 = .ok (.invokevirtual 261, 3) := by decide +kernel
theorem dX5_not3_56 : decode cX5_not3 56 = .ok (.istore_n 1, 1) := by decide +kernel
theorem dX5_not3_57 : decode cX5_not3 57 = .ok (.aload_n 0, 1) := by decide +kernel
theorem dX5_not3_58 : decode cX5_not3 58 = .ok (.bipush 60, 2) := by decide +kernel
theorem dX5_not3_60 : decode cX5_not3 60 = .ok (.invokevirtual 204, 3) := by decide +kernel
theorem dX5_not3_63 : decode cX5_not3 63 = .ok (.ifCond .ne 14, 3) := by decide +kernel
theorem dX5_not3_66 : decode cX5_not3 66 = .ok (.aload_n 0, 1) := by decide +kernel
theorem dX5_not3_67 : decode cX5_not3 67 = .ok (.bipush 61, 2) := by decide +kernel
theorem dX5_not3_69 : decode cX5_not3 69 = .ok (.invokevirtual 204, 3) := by decide +kernel
theorem dX5_not3_72 : decode cX5_not3 72 = .ok (.ifCond .ne 5, 3) := by decide +kernel
theorem dX5_not3_75 : decode cX5_not3 75 = .ok (.iload_n 1, 1) := by decide +kernel
theorem dX5_not3_76 : decode cX5_not3 76 = .ok (.ireturn, 1) := by decide +kernel
theorem dX5_not3_77 : decode cX5_not3 77 = .ok (.aload_n 0, 1) := by decide +kernel
theorem dX5_not3_78 : decode cX5_not3 78 = .ok (.getfield 159, 3) := by decide +kernel
theorem dX5_not3_81 : decode cX5_not3 81 = .ok (.ldc2_w 226, 3) := by decide +kernel
theorem dX5_not3_84 : decode cX5_not3 84 = .ok (.lcmp, 1) := by decide +kernel
theorem dX5_not3_85 : decode cX5_not3 85 = .ok (.ifCond .ne 7, 3) := by decide +kernel
theorem dX5_not3_88 : decode cX5_not3 88 = .ok (.iconst 1, 1) := by decide +kernel
theorem dX5_not3_89 : decode cX5_not3 89 = .ok (.goto 4, 3) := by decide +kernel
theorem dX5_not3_92 : decode cX5_not3 92 = .ok (.iconst 0, 1) := by decide +kernel
theorem dX5_not3_93 : decode cX5_not3 93 = .ok (.istore_n 2, 1) := by decide +kernel
theorem dX5_not3_94 : decode cX5_not3 94 = .ok (.aload_n 0, 1) := by decide +kernel
theorem dX5_not3_95 : decode cX5_not3 95 = .ok (.invokevirtual 179, 3) := by decide +kernel
theorem dX5_not3_98 : decode cX5_not3 98 = .ok (.aload_n 0, 1) := by decide +kernel
theorem dX5_not3_99 : decode cX5_not3 99 = .ok (.invokevirtual 261, 3) := by decide +kernel
theorem dX5_not3_102 : decode cX5_not3 102 = .ok (.istore_n 3, 1) := by decide +kernel
theorem dX5_not3_103 : decode cX5_not3 103 = .ok (.iload_n 2, 1) := by decide +kernel
theorem dX5_not3_104 : decode cX5_not3 104 = .ok (.ifCond .eq 11, 3) := by decide +kernel
theorem dX5_not3_107 : decode cX5_not3 107 = .ok (.iload_n 1, 1) := by decide +kernel
theorem dX5_not3_108 : decode cX5_not3 108 = .ok (.iload_n 3, 1) := by decide +kernel
theorem dX5_not3_109 : decode cX5_not3 109 = .ok (.if_icmp .ge 15, 3) := by decide +kernel
theorem dX5_not3_112 : decode cX5_not3 112 = .ok (.goto 8, 3) := by decide +kernel
theorem dX5_not3_115 : decode cX5_not3 115 = .ok (.iload_n 1, 1) := by decide +kernel
theorem dX5_not3_116 : decode cX5_not3 116 = .ok (.iload_n 3, 1) := by decide +kernel
theorem dX5_not3_117 : decode cX5_not3 117 = .ok (.if_icmp .ne 7, 3) := by decide +kernel
theorem dX5_not3_120 : decode cX5_not3 120 = .ok (.iconst 1, 1) := by decide +kernel
theorem dX5_not3_121 : decode cX5_not3 121 = .ok (.goto 4, 3) := by decide +kernel
theorem dX5_not3_124 : decode cX5_not3 124 = .ok (.iconst 0, 1) := by decide +kernel
theorem dX5_not3_125 : decode cX5_not3 125 = .ok (.ireturn, 1) := by decide +kernel
theorem dX5_both3_0 : decode cX5_both3 0 = .ok (.aload_n 0, 1) := by decide +kernel
theorem dX5_both3_1 : decode cX5_both3 1 = .ok (.invokevirtual 264, 3) := by decide +kernel
theorem dX5_both3_4 : decode cX5_both3 4 = .ok (.istore_n 1, 1) := by decide +kernel
theorem dX5_both3_5 : decode cX5_both3 5 = .ok (.aload_n 0, 1) := by decide +kernel
theorem dX5_both3_6 : decode cX5_both3 6 = .ok (.bipush 97, 2) := by decide +kernel
theorem dX5_both3_8 : decode cX5_both3 8 = .ok (.bipush 110, 2) := by decide +kernel
theorem dX5_both3_10 : decode cX5_both3 10 = .ok (.bipush 100, 2) := by decide +kernel
theorem dX5_both3_12 : decode cX5_both3 12 = .ok (.iconst 0, 1) := by decide +kernel
theorem dX5_both3_13 : decode cX5_both3 13 = .ok (.iconst 0, 1) := by decide +kernel
theorem dX5_both3_14 : decode cX5_both3 14 = .ok (.iconst 0, 1) := by decide +kernel
theorem dX5_both3_15 : decode cX5_both3 15 = .ok (.iconst 0, 1) := by decide +kernel
theorem dX5_both3_16 : decode cX5_both3 16 = .ok (.iconst 0, 1) := by decide +kernel
theorem dX5_both3_17 : decode cX5_both3 17 = .ok (.invokevirtual 182, 3) := by decide +kernel
theorem dX5_both3_20 : decode cX5_both3 20 = .ok (.ifCond .eq 29, 3) := by decide +kernel
theorem dX5_both3_23 : decode cX5_both3 23 = .ok (.aload_n 0, 1) := by decide +kernel
theorem dX5_both3_24 : decode cX5_both3 24 = .ok (.invokevirtual 179, 3) := by decide +kernel
theorem dX5_both3_27 : decode cX5_both3 27 = .ok (.aload_n 0, 1) := by decide +kernel
theorem dX5_both3_28 : decode cX5_both3 28 = .ok (.invokevirtual 264, 3) := by decide +kernel
theorem dX5_both3_31 : decode cX5_both3 31 = .ok (.istore_n 2, 1) := by decide +kernel
theorem dX5_both3_32 : decode cX5_both3 32 = .ok (.iload_n 1, 1) := by decide +kernel
theorem dX5_both3_33 : decode cX5_both3 33 = .ok (.ifCond .eq 11, 3) := by decide +kernel
theorem dX5_both3_36 : decode cX5_both3 36 = .ok (.iload_n 2, 1) := by decide +kernel
theorem dX5_both3_37 : decode cX5_both3 37 = .ok (.ifCond .eq 7, 3) := by decide +kernel
theorem dX5_both3_40 : decode cX5_both3 40 = .ok (.iconst 1, 1) := by decide +kernel
theorem dX5_both3_41 : decode cX5_both3 41 = .ok (.goto 4, 3) := by decide +kernel
theorem dX5_both3_44 : decode cX5_both3 44 = .ok (.iconst 0, 1) := by decide +kernel
theorem dX5_both3_45 : decode cX5_both3 45 = .ok (.istore_n 1, 1) := by decide +kernel
theorem dX5_both3_46 : decode cX5_both3 46 = .ok (.goto (-41), 3) := by decide +kernel
theorem dX5_both3_49 : decode cX5_both3 49 = .ok (.iload_n 1, 1) := by decide +kernel
theorem dX5_both3_50 : decode cX5_both3 50 = .ok (.ireturn, 1) := by decide +kernel
theorem dX5_either3_0 : decode cX5_either3 0 = .ok (.aload_n 0, 1) := by decide +kernel
theorem dX5_either3_1 : decode cX5_either3 1 = .ok (.invokevirtual 267, 3) := by decide +kernel
theorem dX5_either3_4 : decode cX5_either3 4 = .ok (.istore_n 1, 1) := by decide +kernel
theorem dX5_either3_5 : decode cX5_either3 5 = .ok (.aload_n 0, 1) := by decide +kernel
theorem dX5_either3_6 : decode cX5_either3 6 = .ok (.bipush 111, 2) := by decide +kernel
theorem dX5_either3_8 : decode cX5_either3 8 = .ok (.bipush 114, 2) := by decide +kernel
theorem dX5_either3_10 : decode cX5_either3 10 = .ok (.iconst 0, 1) := by decide +kernel
theorem dX5_either3_11 : decode cX5_either3 11 = .ok (.iconst 0, 1) := by decide +kernel
theorem dX5_either3_12 : decode cX5_either3 12 = .ok (.iconst 0, 1) := by decide +kernel
theorem dX5_either3_13 : decode cX5_either3 13 = .ok (.iconst 0, 1) := by decide +kernel
theorem dX5_either3_14 : decode cX5_either3 14 = .ok (.iconst 0, 1) := by decide +kernel
theorem dX5_either3_15 : decode cX5_either3 15 = .ok (.iconst 0, 1) := by decide +kernel
theorem dX5_either3_16 : decode cX5_either3 16 = .ok (.invokevirtual 182, 3) := by decide +kernel
theorem dX5_either3_19 : decode cX5_either3 19 = .ok (.ifCond .eq 29, 3) := by decide +kernel
theorem dX5_either3_22 : decode cX5_either3 22 = .ok (.aload_n 0, 1) := by decide +kernel
theorem dX5_either3_23 : decode cX5_either3 23 = .ok (.invokevirtual 179, 3) := by decide +kernel
theorem dX5_either3_26 : decode cX5_either3 26 = .ok (.aload_n 0, 1) := by decide +kernel
theorem dX5_either3_27 : decode cX5_either3 27 = .ok (.invokevirtual 267, 3) := by decide +kernel
theorem dX5_either3_30 : decode cX5_either3 30 = .ok (.istore_n 2, 1) := by decide +kernel
theorem dX5_either3_31 : decode cX5_either3 31 = .ok (.iload_n 1, 1) := by decide +kernel
theorem dX5_either3_32 : decode cX5_either3 32 = .ok (.ifCond .ne 7, 3) := by decide +kernel
theorem dX5_either3_35 : decode cX5_either3 35 = .ok (.iload_n 2, 1) := by decide +kernel
theorem dX5_either3_36 : decode cX5_either3 36 = .ok (.ifCond .eq 7, 3) := by decide +kernel
theorem dX5_either3_39 : decode cX5_either3 39 = .ok (.iconst 1, 1) := by decide +kernel
theorem dX5_either3_40 : decode cX5_either3 40 = .ok (.goto 4, 3) := by decide +kernel
theorem dX5_either3_43 : decode cX5_either3 43 = .ok (.iconst 0, 1) := by decide +kernel
theorem dX5_either3_44 : decode cX5_either3 44 = .ok (.istore_n 1, 1) := by decide +kernel
theorem dX5_either3_45 : decode cX5_either3 45 = .ok (.goto (-40), 3) := by decide +kernel
theorem dX5_either3_48 : decode cX5_either3 48 = .ok (.iload_n 1, 1) := by decide +kernel
theorem dX5_either3_49 : decode cX5_either3 49 = .ok (.ireturn, 1) := by decide +kernel
theorem dX5_atom2_0 : decode cX5_atom2 0 = .ok (.iconst 0, 1) := by decide +kernel
theorem dX5_atom2_1 : decode cX5_atom2 1 = .ok (.istore_n 1, 1) := by decide +kernel
theorem dX5_atom2_2 : decode cX5_atom2 2 = .ok (.aload_n 0, 1) := by decide +kernel
theorem dX5_atom2_3 : decode cX5_atom2 3 = .ok (.bipush 45, 2) := by decide +kernel
theorem dX5_atom2_5 : decode cX5_atom2 5 = .ok (.invokevirtual 204, 3) := by decide +kernel
theorem dX5_atom2_8 : decode cX5_atom2 8 = .ok (.ifCond .eq 29, 3) := by decide +kernel
theorem dX5_atom2_11 : decode cX5_atom2 11 = .ok (.aload_n 0, 1) := by decide +kernel
theorem dX5_atom2_12 : decode cX5_atom2 12 = .ok (.invokevirtual 207, 3) := by decide +kernel
theorem dX5_atom2_15 : decode cX5_atom2 15 = .ok (.ifCond .eq 146, 3) := by decide +kernel
theorem dX5_atom2_18 : decode cX5_atom2 18 = .ok (.aload_n 0, 1) := by decide +kernel
theorem dX5_atom2_19 : decode cX5_atom2 19 = .ok (.invokevirtual 255, 3) := by decide +kernel
theorem dX5_atom2_22 : decode cX5_atom2 22 = .ok (.ineg, 1) := by decide +kernel
theorem dX5_atom2_23 : decode cX5_atom2 23 = .ok (.istore_n 1, 1) := by decide +kernel
theorem dX5_atom2_24 : decode cX5_atom2 24 = .ok (.aload_n 0, 1) := by decide +kernel
theorem dX5_atom2_25 : decode cX5_atom2 25 = .ok (.dup, 1) := by decide +kernel
theorem dX5_atom2_26 : decode cX5_atom2 26 = .ok (.getfield 173, 3) := by decide +kernel
theorem dX5_atom2_29 : decode cX5_atom2 29 = .ok (.iconst 1, 1) := by decide +kernel
theorem dX5_atom2_30 : decode cX5_atom2 30 = .ok (.isub, 1) := by decide +kernel
theorem dX5_atom2_31 : decode cX5_atom2 31 = .ok (.putfield 173, 3) := by decide +kernel
theorem dX5_atom2_34 : decode cX5_atom2 34 = .ok (.goto 127, 3) := by decide +kernel
theorem dX5_atom2_37 : decode cX5_atom2 37 = .ok (.aload_n 0, 1) := by decide +kernel
theorem dX5_atom2_38 : decode cX5_atom2 38 = .ok (.bipush 40, 2) := by decide +kernel
theorem dX5_atom2_40 : decode cX5_atom2 40 = .ok (.invokevirtual 204, 3) := by decide +kernel
theorem dX5_atom2_43 : decode cX5_atom2 43 = .ok (.ifCond .eq 52, 3) := by decide +kernel
theorem dX5_atom2_46 : decode cX5_atom2 46 = .ok (.aload_n 0, 1) := by decide +kernel
theorem dX5_atom2_47 : decode cX5_atom2 47 = .ok (.invokevirtual 207, 3) := by decide +kernel
theorem dX5_atom2_50 : decode cX5_atom2 50 = .ok (.ifCond .eq 111, 3) := by decide +kernel
theorem dX5_atom2_53 : decode cX5_atom2 53 = .ok (.aload_n 0, 1) := by decide +kernel
theorem dX5_atom2_54 : decode cX5_atom2 54 = .ok (.invokevirtual 270, 3) := by decide +kernel
theorem dX5_atom2_57 : decode cX5_atom2 57 = .ok (.istore_n 1, 1) := by decide +kernel
theorem dX5_atom2_58 : decode cX5_atom2 58 = .ok (.aload_n 0, 1) := by decide +kernel
theorem dX5_atom2_59 : decode cX5_atom2 59 = .ok (.bipush 41, 2) := by decide +kernel
theorem dX5_atom2_61 : decode cX5_atom2 61 = .ok (.invokevirtual 204, 3) := by decide +kernel
theorem dX5_atom2_64 : decode cX5_atom2 64 = .ok (.ifCond .ne 7, 3) := by decide +kernel
theorem dX5_atom2_67 : decode cX5_atom2 67 = .ok (.aload_n 0, 1) := by decide +kernel
theorem dX5_atom2_68 : decode cX5_atom2 68 = .ok (.invokevirtual 176, 3) := by decide +kernel
theorem dX5_atom2_71 : decode cX5_atom2 71 = .ok (.aload_n 0, 1) := by decide +kernel
theorem dX5_atom2_72 : decode cX5_atom2 72 = .ok (.dup, 1) := by decide +kernel
theorem dX5_atom2_73 : decode cX5_atom2 73 = .ok (.getfield 173, 3) := by decide +kernel
theorem dX5_atom2_76 : decode cX5_atom2 76 = .ok (.iconst 1, 1) := by decide +kernel
theorem dX5_atom2_77 : decode cX5_atom2 77 = .ok (.isub, 1) := by decide +kernel
theorem dX5_atom2_78 : decode cX5_atom2 78 = .ok (.putfield 173, 3) := by decide +kernel
theorem dX5_atom2_81 : decode cX5_atom2 81 = .ok (.aload_n 0, 1) := by decide +kernel
theorem dX5_atom2_82 : decode cX5_atom2 82 = .ok (.getfield 163, 3) := by decide +kernel
theorem dX5_atom2_85 : decode cX5_atom2 85 = .ok (.ifCond .ne 76, 3) := by decide +kernel
theorem dX5_atom2_88 : decode cX5_atom2 88 = .ok (.aload_n 0, 1) := by decide +kernel
theorem dX5_atom2_89 : decode cX5_atom2 89 = .ok (.invokevirtual 179, 3) := by decide +kernel
theorem dX5_atom2_92 : decode cX5_atom2 92 = .ok (.goto 69, 3) := by decide +kernel
theorem dX5_atom2_95 : decode cX5_atom2 95 = .ok (.aload_n 0, 1) := by decide +kernel
theorem dX5_atom2_96 : decode cX5_atom2 96 = .ok (.getfield 163, 3) := by decide +kernel
theorem dX5_atom2_99 : decode cX5_atom2 99 = .ok (.ifCond .ne 24, 3) := by decide +kernel
theorem dX5_atom2_102 : decode cX5_atom2 102 = .ok (.aload_n 0, 1) := by decide +kernel
theorem dX5_atom2_103 : decode cX5_atom2 103 = .ok (.getfield 148, 3) := by decide +kernel
theorem dX5_atom2_106 : decode cX5_atom2 106 = .ok (.iconst 2, 1) := by decide +kernel
theorem dX5_atom2_107 : decode cX5_atom2 107 = .ok (.if_icmp .ne 16, 3) := by decide +kernel
theorem dX5_atom2_110 : decode cX5_atom2 110 = .ok (.aload_n 0, 1) := by decide +kernel
theorem dX5_atom2_111 : decode cX5_atom2 111 = .ok (.getfield 159, 3) := by decide +kernel
theorem dX5_atom2_114 : decode cX5_atom2 114 = .ok (.l2i, 1) := by decide +kernel
theorem dX5_atom2_115 : decode cX5_atom2 115 = .ok (.istore_n 1, 1) := by decide +kernel
theorem dX5_atom2_116 : decode cX5_atom2 116 = .ok (.aload_n 0, 1) := by decide +kernel
theorem dX5_atom2_117 : decode cX5_atom2 117 = .ok (.invokevirtual 179, 3) := by decide +kernel
theorem dX5_atom2_120 : decode cX5_atom2 120 = .ok (.goto 41, 3) := by decide +kernel
theorem dX5_atom2_123 : decode cX5_atom2 123 = .ok (.aload_n 0, 1) := by decide +kernel
theorem dX5_atom2_124 : decode cX5_atom2 124 = .ok (.getfield 163, 3) := by decide +kernel
theorem dX5_atom2_127 : decode cX5_atom2 127 = .ok (.ifCond .ne 30, 3) := by decide +kernel
theorem dX5_atom2_130 : decode cX5_atom2 130 = .ok (.aload_n 0, 1) := by decide +kernel
theorem dX5_atom2_131 : decode cX5_atom2 131 = .ok (.getfield 148, 3) := by decide +kernel
theorem dX5_atom2_134 : decode cX5_atom2 134 = .ok (.iconst 1, 1) := by decide +kernel
theorem dX5_atom2_135 : decode cX5_atom2 135 = .ok (.if_icmp .ne 22, 3) := by decide +kernel
theorem dX5_atom2_138 : decode cX5_atom2 138 = .ok (.aload_n 0, 1) := by decide +kernel
theorem dX5_atom2_139 : decode cX5_atom2 139 = .ok (.invokevirtual 211, 3) := by decide +kernel
theorem dX5_atom2_142 : decode cX5_atom2 142 = .ok (.istore_n 1, 1) := by decide +kernel
theorem dX5_atom2_143 : decode cX5_atom2 143 = .ok (.aload_n 0, 1) := by decide +kernel
theorem dX5_atom2_144 : decode cX5_atom2 144 = .ok (.getfield 163, 3) := by decide +kernel
theorem dX5_atom2_147 : decode cX5_atom2 147 = .ok (.ifCond .ne 14, 3) := by decide +kernel
theorem dX5_atom2_150 : decode cX5_atom2 150 = .ok (.aload_n 0, 1) := by decide +kernel
theorem dX5_atom2_151 : decode cX5_atom2 151 = .ok (.invokevirtual 179, 3) := by decide +kernel
theorem dX5_atom2_154 : decode cX5_atom2 154 = .ok (.goto 7, 3) := by decide +kernel
theorem dX5_atom2_157 : decode cX5_atom2 157 = .ok (.aload_n 0, 1) := by decide +kernel
theorem dX5_atom2_158 : decode cX5_atom2 158 = .ok (.invokevirtual 176, 3) := by decide +kernel
theorem dX5_atom2_161 : decode cX5_atom2 161 = .ok (.iload_n 1, 1) := by decide +kernel
theorem dX5_atom2_162 : decode cX5_atom2 162 = .ok (.ireturn, 1) := by decide +kernel
theorem dX5_term2_0 : decode cX5_term2 0 = .ok (.aload_n 0, 1) := by decide +kernel
theorem dX5_term2_1 : decode cX5_term2 1 = .ok (.invokevirtual 273, 3) := by decide +kernel
theorem dX5_term2_4 : decode cX5_term2 4 = .ok (.istore_n 1, 1) := by decide +kernel
theorem dX5_term2_5 : decode cX5_term2 5 = .ok (.aload_n 0, 1) := by decide +kernel
theorem dX5_term2_6 : decode cX5_term2 6 = .ok (.bipush 42, 2) := by decide +kernel
theorem dX5_term2_8 : decode cX5_term2 8 = .ok (.invokevirtual 204, 3) := by decide +kernel
theorem dX5_term2_11 : decode cX5_term2 11 = .ok (.ifCond .eq 17, 3) := by decide +kernel
theorem dX5_term2_14 : decode cX5_term2 14 = .ok (.aload_n 0, 1) := by decide +kernel
theorem dX5_term2_15 : decode cX5_term2 15 = .ok (.invokevirtual 179, 3) := by decide +kernel
theorem dX5_term2_18 : decode cX5_term2 18 = .ok (.iload_n 1, 1) := by decide +kernel
theorem dX5_term2_19 : decode cX5_term2 19 = .ok (.aload_n 0, 1) := by decide +kernel
theorem dX5_term2_20 : decode cX5_term2 20 = .ok (.invokevirtual 273, 3) := by decide +kernel
theorem dX5_term2_23 : decode cX5_term2 23 = .ok (.imul, 1) := by decide +kernel
theorem dX5_term2_24 : decode cX5_term2 24 = .ok (.istore_n 1, 1) := by decide +kernel
theorem dX5_term2_25 : decode cX5_term2 25 = .ok (.goto (-20), 3) := by decide +kernel
theorem dX5_term2_28 : decode cX5_term2 28 = .ok (.iload_n 1, 1) := by decide +kernel
theorem dX5_term2_29 : decode cX5_term2 29 = .ok (.ireturn, 1) := by decide +kernel
theorem dX5_added2_0 : decode cX5_added2 0 = .ok (.aload_n 0, 1) := by decide +kernel
theorem dX5_added2_1 : decode cX5_added2 1 = .ok (.invokevirtual 276, 3) := by decide +kernel
theorem dX5_added2_4 : decode cX5_added2 4 = .ok (.istore_n 1, 1) := by decide +kernel
theorem dX5_added2_5 : decode cX5_added2 5 = .ok (.aload_n 0, 1) := by decide +kernel
theorem dX5_added2_6 : decode cX5_added2 6 = .ok (.bipush 43, 2) := by decide +kernel
theorem dX5_added2_8 : decode cX5_added2 8 = .ok (.invokevirtual 204, 3) := by decide +kernel
theorem dX5_added2_11 : decode cX5_added2 11 = .ok (.ifCond .ne 12, 3) := by decide +kernel
theorem dX5_added2_14 : decode cX5_added2 14 = .ok (.aload_n 0, 1) := by decide +kernel
theorem dX5_added2_15 : decode cX5_added2 15 = .ok (.bipush 45, 2) := by decide +kernel
theorem dX5_added2_17 : decode cX5_added2 17 = .ok (.invokevirtual 204, 3) := by decide +kernel
theorem dX5_added2_20 : decode cX5_added2 20 = .ok (.ifCond .eq 46, 3) := by decide +kernel
theorem dX5_added2_23 : decode cX5_added2 23 = .ok (.aload_n 0, 1) := by decide +kernel
theorem dX5_added2_24 : decode cX5_added2 24 = .ok (.getfield 159, 3) := by decide +kernel
theorem dX5_added2_27 : decode cX5_added2 27 = .ok (.ldc2_w 221, 3) := by decide +kernel
theorem dX5_added2_30 : decode cX5_added2 30 = .ok (.lcmp, 1) := by decide +kernel
theorem dX5_added2_31 : decode cX5_added2 31 = .ok (.ifCond .ne 7, 3) := by decide +kernel
theorem dX5_added2_34 : decode cX5_added2 34 = .ok (.iconst 1, 1) := by decide +kernel
theorem dX5_added2_35 : decode cX5_added2 35 = .ok (.goto 4, 3) := by decide +kernel
theorem dX5_added2_38 : decode cX5_added2 38 = .ok (.iconst 0, 1) := by decide +kernel
theorem dX5_added2_39 : decode cX5_added2 39 = .ok (.istore_n 2, 1) := by decide +kernel
theorem dX5_added2_40 : decode cX5_added2 40 = .ok (.aload_n 0, 1) := by decide +kernel
theorem dX5_added2_41 : decode cX5_added2 41 = .ok (.invokevirtual 179, 3) := by decide +kernel
theorem dX5_added2_44 : decode cX5_added2 44 = .ok (.aload_n 0, 1) := by decide +kernel
theorem dX5_added2_45 : decode cX5_added2 45 = .ok (.invokevirtual 276, 3) := by decide +kernel
theorem dX5_added2_48 : decode cX5_added2 48 = .ok (.istore_n 3, 1) := by decide +kernel
theorem dX5_added2_49 : decode cX5_added2 49 = .ok (.iload_n 2, 1) := by decide +kernel
theorem dX5_added2_50 : decode cX5_added2 50 = .ok (.ifCond .eq 9, 3) := by decide +kernel
theorem dX5_added2_53 : decode cX5_added2 53 = .ok (.iload_n 1, 1) := by decide +kernel
theorem dX5_added2_54 : decode cX5_added2 54 = .ok (.iload_n 3, 1) := by decide +kernel
theorem dX5_added2_55 : decode cX5_added2 55 = .ok (.iadd, 1) := by decide +kernel
theorem dX5_added2_56 : decode cX5_added2 56 = .ok (.goto 6, 3) := by decide +kernel
theorem dX5_added2_59 : decode cX5_added2 59 = .ok (.iload_n 1, 1) := by decide +kernel
theorem dX5_added2_60 : decode cX5_added2 60 = .ok (.iload_n 3, 1) := by decide +kernel
theorem dX5_added2_61 : decode cX5_added2 61 = .ok (.isub, 1) := by decide +kernel
theorem dX5_added2_62 : decode cX5_added2 62 = .ok (.istore_n 1, 1) := by decide +kernel
theorem dX5_added2_63 : decode cX5_added2 63 = .ok (.goto (-58), 3) := by decide +kernel
theorem dX5_added2_66 : decode cX5_added2 66 = .ok (.iload_n 1, 1) := by decide +kernel
theorem dX5_added2_67 : decode cX5_added2 67 = .ok (.ireturn, 1) := by decide +kernel
theorem dX5_not2_0 : decode cX5_not2 0 = .ok (.aload_n 0, 1) := by decide +kernel
theorem dX5_not2_1 : decode cX5_not2 1 = .ok (.bipush 110, 2) := by decide +kernel
theorem dX5_not2_3 : decode cX5_not2 3 = .ok (.bipush 111, 2) := by decide +kernel
theorem dX5_not2_5 : decode cX5_not2 5 = .ok (.bipush 116, 2) := by decide +kernel
theorem dX5_not2_7 : decode cX5_not2 7 = .ok (.iconst 0, 1) := by decide +kernel
theorem dX5_not2_8 : decode cX5_not2 8 = .ok (.iconst 0, 1) := by decide +kernel
theorem dX5_not2_9 : decode cX5_not2 9 = .ok (.iconst 0, 1) := by decide +kernel
theorem dX5_not2_10 : decode cX5_not2 10 = .ok (.iconst 0, 1) := by decide +kernel
theorem dX5_not2_11 : decode cX5_not2 11 = .ok (.iconst 0, 1) := by decide +kernel
theorem dX5_not2_12 : decode cX5_not2 12 = .ok (.invokevirtual 182, 3) := by decide +kernel
theorem dX5_not2_15 : decode cX5_not2 15 = .ok (.ifCond .eq 37, 3) := by decide +kernel
theorem dX5_not2_18 : decode cX5_not2 18 = .ok (.aload_n 0, 1) := by decide +kernel
theorem dX5_not2_19 : decode cX5_not2 19 = .ok (.invokevirtual 207, 3) := by decide +kernel
theorem dX5_not2_22 : decode cX5_not2 22 = .ok (.ifCond .ne 5, 3) := by decide +kernel
theorem dX5_not2_25 : decode cX5_not2 25 = .ok (.iconst 0, 1) := by decide +kernel
theorem dX5_not2_26 : decode cX5_not2 26 = .ok (.ireturn, 1) := by decide +kernel
theorem dX5_not2_27 : decode cX5_not2 27 = .ok (.aload_n 0, 1) := by decide +kernel
theorem dX5_not2_28 : decode cX5_not2 28 = .ok (.invokevirtual 264, 3) := by decide +kernel
theorem dX5_not2_31 : decode cX5_not2 31 = .ok (.istore_n 1, 1) := by decide +kernel
theorem dX5_not2_32 : decode cX5_not2 32 = .ok (.aload_n 0, 1) := by decide +kernel
theorem dX5_not2_33 : decode cX5_not2 33 = .ok (.dup, 1) := by decide +kernel
theorem dX5_not2_34 : decode cX5_not2 34 = .ok (.getfield 173, 3) := by decide +kernel
theorem dX5_not2_37 : decode cX5_not2 37 = .ok (.iconst 1, 1) := by decide +kernel
theorem dX5_not2_38 : decode cX5_not2 38 = .ok (.isub, 1) := by decide +kernel
theorem dX5_not2_39 : decode cX5_not2 39 = .ok (.putfield 173, 3) := by decide +kernel
theorem dX5_not2_42 : decode cX5_not2 42 = .ok (.iload_n 1, 1) := by decide +kernel
theorem dX5_not2_43 : decode cX5_not2 43 = .ok (.ifCond .ne 7, 3) := by decide +kernel
theorem dX5_not2_46 : decode cX5_not2 46 = .ok (.iconst 1, 1) := by decide +kernel
theorem dX5_not2_47 : decode cX5_not2 47 = .ok (.goto 4, 3) := by decide +kernel
theorem dX5_not2_50 : decode cX5_not2 50 = .ok (.iconst 0, 1) := by decide +kernel
theorem dX5_not2_51 : decode cX5_not2 51 = .ok (.ireturn, 1) := by decide +kernel
theorem dX5_not2_52 : decode cX5_not2 52 = .ok (.aload_n 0, 1) := by decide +kernel
theorem dX5_not2_53 : decode cX5_not2 53 = .ok (.invokevirtual 279, 3) := by decide +kernel
theorem dX5_not2_56 : decode cX5_not2 56 = .ok (.istore_n 1, 1) := by decide +kernel
theorem dX5_not2_57 : decode cX5_not2 57 = .ok (.aload_n 0, 1) := by decide +kernel
theorem dX5_not2_58 : decode cX5_not2 58 = .ok (.bipush 60, 2) := by decide +kernel
theorem dX5_not2_60 : decode cX5_not2 60 = .ok (.invokevirtual 204, 3) := by decide +kernel
theorem dX5_not2_63 : decode cX5_not2 63 = .ok (.ifCond .ne 14, 3) := by decide +kernel
theorem dX5_not2_66 : decode cX5_not2 66 = .ok (.aload_n 0, 1) := by decide +kernel
theorem dX5_not2_67 : decode cX5_not2 67 = .ok (.bipush 61, 2) := by decide +kernel
theorem dX5_not2_69 : decode cX5_not2 69 = .ok (.invokevirtual 204, 3) := by decide +kernel
theorem dX5_not2_72 : decode cX5_not2 72 = .ok (.ifCond .ne 5, 3) := by decide +kernel
theorem dX5_not2_75 : decode cX5_not2 75 = .ok (.iload_n 1, 1) := by decide +kernel
theorem dX5_not2_76 : decode cX5_not2 76 = .ok (.ireturn, 1) := by decide +kernel
theorem dX5_not2_77 : decode cX5_not2 77 = .ok (.aload_n 0, 1) := by decide +kernel
theorem dX5_not2_78 : decode cX5_not2 78 = .ok (.getfield 159, 3) := by decide +kernel
theorem dX5_not2_81 : decode cX5_not2 81 = .ok (.ldc2_w 226, 3) := by decide +kernel
theorem dX5_not2_84 : decode cX5_not2 84 = .ok (.lcmp, 1) := by decide +kernel
theorem dX5_not2_85 : decode cX5_not2 85 = .ok (.ifCond .ne 7, 3) := by decide +kernel
theorem dX5_not2_88 : decode cX5_not2 88 = .ok (.iconst 1, 1) := by decide +kernel
theorem dX5_not2_89 : decode cX5_not2 89 = .ok (.goto 4, 3) := by decide +kernel
theorem dX5_not2_92 : decode cX5_not2 92 = .ok (.iconst 0, 1) := by decide +kernel
theorem dX5_not2_93 : decode cX5_not2 93 = .ok (.istore_n 2, 1) := by decide +kernel
theorem dX5_not2_94 : decode cX5_not2 94 = .ok (.aload_n 0, 1) := by decide +kernel
theorem dX5_not2_95 : decode cX5_not2 95 = .ok (.invokevirtual 179, 3) := by decide +kernel
theorem dX5_not2_98 : decode cX5_not2 98 = .ok (.aload_n 0, 1) := by decide +kernel
theorem dX5_not2_99 : decode cX5_not2 99 = .ok (.invokevirtual 279, 3) := by decide +kernel
theorem dX5_not2_102 : decode cX5_not2 102 = .ok (.istore_n 3, 1) := by decide +kernel
theorem dX5_not2_103 : decode cX5_not2 103 = .ok (.iload_n 2, 1) := by decide +kernel
theorem dX5_not2_104 : decode cX5_not2 104 = .ok (.ifCond .eq 11, 3) := by decide +kernel
theorem dX5_not2_107 : decode cX5_not2 107 = .ok (.iload_n 1, 1) := by decide +kernel
theorem dX5_not2_108 : decode cX5_not2 108 = .ok (.iload_n 3, 1) := by decide +kernel
theorem dX5_not2_109 : decode cX5_not2 109 = .ok (.if_icmp .ge 15, 3) := by decide +kernel
theorem dX5_not2_112 : decode cX5_not2 112 = .ok (.goto 8, 3) := by decide +kernel
theorem dX5_not2_115 : decode cX5_not2 115 = .ok (.iload_n 1, 1) := by decide +kernel
theorem dX5_not2_116 : decode cX5_not2 116 = .ok (.iload_n 3, 1) := by decide +kernel
theorem dX5_not2_117 : decode cX5_not2 117 = .ok (.if_icmp .ne 7, 3) := by decide +kernel
theorem dX5_not2_120 : decode cX5_not2 120 = .ok (.iconst 1, 1) := by decide +kernel
theorem dX5_not2_121 : decode cX5_not2 121 = .ok (.goto 4, 3) := by decide +kernel
theorem dX5_not2_124 : decode cX5_not2 124 = .ok (.iconst 0, 1) := by decide +kernel
theorem dX5_not2_125 : decode cX5_not2 125 = .ok (.ireturn, 1) := by decide +kernel
theorem dX5_both2_0 : decode cX5_both2 0 = .ok (.aload_n 0, 1) := by decide +kernel
theorem dX5_both2_1 : decode cX5_both2 1 = .ok (.invokevirtual 282, 3) := by decide +kernel
theorem dX5_both2_4 : decode cX5_both2 4 = .ok (.istore_n 1, 1) := by decide +kernel
theorem dX5_both2_5 : decode cX5_both2 5 = .ok (.aload_n 0, 1) := by decide +kernel
theorem dX5_both2_6 : decode cX5_both2 6 = .ok (.bipush 97, 2) := by decide +kernel
theorem dX5_both2_8 : decode cX5_both2 8 = .ok (.bipush 110, 2) := by decide +kernel
theorem dX5_both2_10 : decode cX5_both2 10 = .ok (.bipush 100, 2) := by decide +kernel
theorem dX5_both2_12 : decode cX5_both2 12 = .ok (.iconst 0, 1) := by decide +kernel
theorem dX5_both2_13 : decode cX5_both2 13 = .ok (.iconst 0, 1) := by decide +kernel
theorem dX5_both2_14 : decode cX5_both2 14 = .ok (.iconst 0, 1) := by decide +kernel
theorem dX5_both2_15 : decode cX5_both2 15 = .ok (.iconst 0, 1) := by decide +kernel
theorem dX5_both2_16 : decode cX5_both2 16 = .ok (.iconst 0, 1) := by decide +kernel
theorem dX5_both2_17 : decode cX5_both2 17 = .ok (.invokevirtual 182, 3) := by decide +kernel
theorem dX5_both2_20 : decode cX5_both2 20 = .ok (.ifCond .eq 29, 3) := by decide +kernel
theorem dX5_both2_23 : decode cX5_both2 23 = .ok (.aload_n 0, 1) := by decide +kernel
theorem dX5_both2_24 : decode cX5_both2 24 = .ok (.invokevirtual 179, 3) := by decide +kernel
theorem dX5_both2_27 : decode cX5_both2 27 = .ok (.aload_n 0, 1) := by decide +kernel
theorem dX5_both2_28 : decode cX5_both2 28 = .ok (.invokevirtual 282, 3) := by decide +kernel
theorem dX5_both2_31 : decode cX5_both2 31 = .ok (.istore_n 2, 1) := by decide +kernel
theorem dX5_both2_32 : decode cX5_both2 32 = .ok (.iload_n 1, 1) := by decide +kernel
theorem dX5_both2_33 : decode cX5_both2 33 = .ok (.ifCond .eq 11, 3) := by decide +kernel
theorem dX5_both2_36 : decode cX5_both2 36 = .ok (.iload_n 2, 1) := by decide +kernel
theorem dX5_both2_37 : decode cX5_both2 37 = .ok (.ifCond .eq 7, 3) := by decide +kernel
theorem dX5_both2_40 : decode cX5_both2 40 = .ok (.iconst 1, 1) := by decide +kernel
theorem dX5_both2_41 : decode cX5_both2 41 = .ok (.goto 4, 3) := by decide +kernel
theorem dX5_both2_44 : decode cX5_both2 44 = .ok (.iconst 0, 1) := by decide +kernel
theorem dX5_both2_45 : decode cX5_both2 45 = .ok (.istore_n 1, 1) := by decide +kernel
theorem dX5_both2_46 : decode cX5_both2 46 = .ok (.goto (-41), 3) := by decide +kernel
theorem dX5_both2_49 : decode cX5_both2 49 = .ok (.iload_n 1, 1) := by decide +kernel
theorem dX5_both2_50 : decode cX5_both2 50 = .ok (.ireturn, 1) := by decide +kernel
theorem dX5_either2_0 : decode cX5_either2 0 = .ok (.aload_n 0, 1) := by decide +kernel
theorem dX5_either2_1 : decode cX5_either2 1 = .ok (.invokevirtual 285, 3) := by decide +kernel
theorem dX5_either2_4 : decode cX5_either2 4 = .ok (.istore_n 1, 1) := by decide +kernel
theorem dX5_either2_5 : decode cX5_either2 5 = .ok (.aload_n 0, 1) := by decide +kernel
theorem dX5_either2_6 : decode cX5_either2 6 = .ok (.bipush 111, 2) := by decide +kernel
theorem dX5_either2_8 : decode cX5_either2 8 = .ok (.bipush 114, 2) := by decide +kernel
theorem dX5_either2_10 : decode cX5_either2 10 = .ok (.iconst 0, 1) := by decide +kernel
theorem dX5_either2_11 : decode cX5_either2 11 = .ok (.iconst 0, 1) := by decide +kernel
theorem dX5_either2_12 : decode cX5_either2 12 = .ok (.iconst 0, 1) := by decide +kernel
theorem dX5_either2_13 : decode cX5_either2 13 = .ok (.iconst 0, 1) := by decide +kernel
theorem dX5_either2_14 : decode cX5_either2 14 = .ok (.iconst 0, 1) := by decide +kernel
theorem dX5_either2_15 : decode cX5_either2 15 = .ok (.iconst 0, 1) := by decide +kernel
theorem dX5_either2_16 : decode cX5_either2 16 = .ok (.invokevirtual 182, 3) := by decide +kernel
theorem dX5_either2_19 : decode cX5_either2 19 = .ok (.ifCond .eq 29, 3) := by decide +kernel
theorem dX5_either2_22 : decode cX5_either2 22 = .ok (.aload_n 0, 1) := by decide +kernel
theorem dX5_either2_23 : decode cX5_either2 23 = .ok (.invokevirtual 179, 3) := by decide +kernel
theorem dX5_either2_26 : decode cX5_either2 26 = .ok (.aload_n 0, 1) := by decide +kernel
theorem dX5_either2_27 : decode cX5_either2 27 = .ok (.invokevirtual 285, 3) := by decide +kernel
theorem dX5_either2_30 : decode cX5_either2 30 = .ok (.istore_n 2, 1) := by decide +kernel
theorem dX5_either2_31 : decode cX5_either2 31 = .ok (.iload_n 1, 1) := by decide +kernel
theorem dX5_either2_32 : decode cX5_either2 32 = .ok (.ifCond .ne 7, 3) := by decide +kernel
theorem dX5_either2_35 : decode cX5_either2 35 = .ok (.iload_n 2, 1) := by decide +kernel
theorem dX5_either2_36 : decode cX5_either2 36 = .ok (.ifCond .eq 7, 3) := by decide +kernel
theorem dX5_either2_39 : decode cX5_either2 39 = .ok (.iconst 1, 1) := by decide +kernel
theorem dX5_either2_40 : decode cX5_either2 40 = .ok (.goto 4, 3) := by decide +kernel
theorem dX5_either2_43 : decode cX5_either2 43 = .ok (.iconst 0, 1) := by decide +kernel
theorem dX5_either2_44 : decode cX5_either2 44 = .ok (.istore_n 1, 1) := by decide +kernel
theorem dX5_either2_45 : decode cX5_either2 45 = .ok (.goto (-40), 3) := by decide +kernel
theorem dX5_either2_48 : decode cX5_either2 48 = .ok (.iload_n 1, 1) := by decide +kernel
theorem dX5_either2_49 : decode cX5_either2 49 = .ok (.ireturn, 1) := by decide +kernel
theorem dX5_atom1_0 : decode cX5_atom1 0 = .ok (.iconst 0, 1) := by decide +kernel
theorem dX5_atom1_1 : decode cX5_atom1 1 = .ok (.istore_n 1, 1) := by decide +kernel
theorem dX5_atom1_2 : decode cX5_atom1 2 = .ok (.aload_n 0, 1) := by decide +kernel
theorem dX5_atom1_3 : decode cX5_atom1 3 = .ok (.bipush 45, 2) := by decide +kernel
theorem dX5_atom1_5 : decode cX5_atom1 5 = .ok (.invokevirtual 204, 3) := by decide +kernel
theorem dX5_atom1_8 : decode cX5_atom1 8 = .ok (.ifCond .eq 29, 3) := by decide +kernel
theorem dX5_atom1_11 : decode cX5_atom1 11 = .ok (.aload_n 0, 1) := by decide +kernel
theorem dX5_atom1_12 : decode cX5_atom1 12 = .ok (.invokevirtual 207, 3) := by decide +kernel
theorem dX5_atom1_15 : decode cX5_atom1 15 = .ok (.ifCond .eq 146, 3) := by decide +kernel
theorem dX5_atom1_18 : decode cX5_atom1 18 = .ok (.aload_n 0, 1) := by decide +kernel
theorem dX5_atom1_19 : decode cX5_atom1 19 = .ok (.invokevirtual 273, 3) := by decide +kernel
theorem dX5_atom1_22 : decode cX5_atom1 22 = .ok (.ineg, 1) := by decide +kernel
theorem dX5_atom1_23 : decode cX5_atom1 23 = .ok (.istore_n 1, 1) := by decide +kernel
theorem dX5_atom1_24 : decode cX5_atom1 24 = .ok (.aload_n 0, 1) := by decide +kernel
theorem dX5_atom1_25 : decode cX5_atom1 25 = .ok (.dup, 1) := by decide +kernel
theorem dX5_atom1_26 : decode cX5_atom1 26 = .ok (.getfield 173, 3) := by decide +kernel
theorem dX5_atom1_29 : decode cX5_atom1 29 = .ok (.iconst 1, 1) := by decide +kernel
theorem dX5_atom1_30 : decode cX5_atom1 30 = .ok (.isub, 1) := by decide +kernel
theorem dX5_atom1_31 : decode cX5_atom1 31 = .ok (.putfield 173, 3) := by decide +kernel
theorem dX5_atom1_34 : decode cX5_atom1 34 = .ok (.goto 127, 3) := by decide +kernel
theorem dX5_atom1_37 : decode cX5_atom1 37 = .ok (.aload_n 0, 1) := by decide +kernel
theorem dX5_atom1_38 : decode cX5_atom1 38 = .ok (.bipush 40, 2) := by decide +kernel
theorem dX5_atom1_40 : decode cX5_atom1 40 = .ok (.invokevirtual 204, 3) := by decide +kernel
theorem dX5_atom1_43 : decode cX5_atom1 43 = .ok (.ifCond .eq 52, 3) := by decide +kernel
theorem dX5_atom1_46 : decode cX5_atom1 46 = .ok (.aload_n 0, 1) := by decide +kernel
theorem dX5_atom1_47 : decode cX5_atom1 47 = .ok (.invokevirtual 207, 3) := by decide +kernel
theorem dX5_atom1_50 : decode cX5_atom1 50 = .ok (.ifCond .eq 111, 3) := by decide +kernel
theorem dX5_atom1_53 : decode cX5_atom1 53 = .ok (.aload_n 0, 1) := by decide +kernel
theorem dX5_atom1_54 : decode cX5_atom1 54 = .ok (.invokevirtual 288, 3) := by decide +kernel
theorem dX5_atom1_57 : decode cX5_atom1 57 = .ok (.istore_n 1, 1) := by decide +kernel
theorem dX5_atom1_58 : decode cX5_atom1 58 = .ok (.aload_n 0, 1) := by decide +kernel
theorem dX5_atom1_59 : decode cX5_atom1 59 = .ok (.bipush 41, 2) := by decide +kernel
theorem dX5_atom1_61 : decode cX5_atom1 61 = .ok (.invokevirtual 204, 3) := by decide +kernel
theorem dX5_atom1_64 : decode cX5_atom1 64 = .ok (.ifCond .ne 7, 3) := by decide +kernel
theorem dX5_atom1_67 : decode cX5_atom1 67 = .ok (.aload_n 0, 1) := by decide +kernel
theorem dX5_atom1_68 : decode cX5_atom1 68 = .ok (.invokevirtual 176, 3) := by decide +kernel
theorem dX5_atom1_71 : decode cX5_atom1 71 = .ok (.aload_n 0, 1) := by decide +kernel
theorem dX5_atom1_72 : decode cX5_atom1 72 = .ok (.dup, 1) := by decide +kernel
theorem dX5_atom1_73 : decode cX5_atom1 73 = .ok (.getfield 173, 3) := by decide +kernel
theorem dX5_atom1_76 : decode cX5_atom1 76 = .ok (.iconst 1, 1) := by decide +kernel
theorem dX5_atom1_77 : decode cX5_atom1 77 = .ok (.isub, 1) := by decide +kernel
theorem dX5_atom1_78 : decode cX5_atom1 78 = .ok (.putfield 173, 3) := by decide +kernel
theorem dX5_atom1_81 : decode cX5_atom1 81 = .ok (.aload_n 0, 1) := by decide +kernel
theorem dX5_atom1_82 : decode cX5_atom1 82 = .ok (.getfield 163, 3) := by decide +kernel
theorem dX5_atom1_85 : decode cX5_atom1 85 = .ok (.ifCond .ne 76, 3) := by decide +kernel
theorem dX5_atom1_88 : decode cX5_atom1 88 = .ok (.aload_n 0, 1) := by decide +kernel
theorem dX5_atom1_89 : decode cX5_atom1 89 = .ok (.invokevirtual 179, 3) := by decide +kernel
theorem dX5_atom1_92 : decode cX5_atom1 92 = .ok (.goto 69, 3) := by decide +kernel
theorem dX5_atom1_95 : decode cX5_atom1 95 = .ok (.aload_n 0, 1) := by decide +kernel
theorem dX5_atom1_96 : decode cX5_atom1 96 = .ok (.getfield 163, 3) := by decide +kernel
theorem dX5_atom1_99 : decode cX5_atom1 99 = .ok (.ifCond .ne 24, 3) := by decide +kernel
theorem dX5_atom1_102 : decode cX5_atom1 102 = .ok (.aload_n 0, 1) := by decide +kernel
theorem dX5_atom1_103 : decode cX5_atom1 103 = .ok (.getfield 148, 3) := by decide +kernel
theorem dX5_atom1_106 : decode cX5_atom1 106 = .ok (.iconst 2, 1) := by decide +kernel
theorem dX5_atom1_107 : decode cX5_atom1 107 = .ok (.if_icmp .ne 16, 3) := by decide +kernel
theorem dX5_atom1_110 : decode cX5_atom1 110 = .ok (.aload_n 0, 1) := by decide +kernel
theorem dX5_atom1_111 : decode cX5_atom1 111 = .ok (.getfield 159, 3) := by decide +kernel
theorem dX5_atom1_114 : decode cX5_atom1 114 = .ok (.l2i, 1) := by decide +kernel
theorem dX5_atom1_115 : decode cX5_atom1 115 = .ok (.istore_n 1, 1) := by decide +kernel
theorem dX5_atom1_116 : decode cX5_atom1 116 = .ok (.aload_n 0, 1) := by decide +kernel
theorem dX5_atom1_117 : decode cX5_atom1 117 = .ok (.invokevirtual 179, 3) := by decide +kernel
theorem dX5_atom1_120 : decode cX5_atom1 120 = .ok (.goto 41, 3) := by decide +kernel
theorem dX5_atom1_123 : decode cX5_atom1 123 = .ok (.aload_n 0, 1) := by decide +kernel
theorem dX5_atom1_124 : decode cX5_atom1 124 = .ok (.getfield 163, 3) := by decide +kernel
theorem dX5_atom1_127 : decode cX5_atom1 127 = .ok (.ifCond .ne 30, 3) := by decide +kernel
theorem dX5_atom1_130 : decode cX5_atom1 130 = .ok (.aload_n 0, 1) := by decide +kernel
theorem dX5_atom1_131 : decode cX5_atom1 131 = .ok (.getfield 148, 3) := by decide +kernel
theorem dX5_atom1_134 : decode cX5_atom1 134 = .ok (.iconst 1, 1) := by decide +kernel
theorem dX5_atom1_135 : decode cX5_atom1 135 = .ok (.if_icmp .ne 22, 3) := by decide +kernel
theorem dX5_atom1_138 : decode cX5_atom1 138 = .ok (.aload_n 0, 1) := by decide +kernel
theorem dX5_atom1_139 : decode cX5_atom1 139 = .ok (.invokevirtual 211, 3) := by decide +kernel
theorem dX5_atom1_142 : decode cX5_atom1 142 = .ok (.istore_n 1, 1) := by decide +kernel
theorem dX5_atom1_143 : decode cX5_atom1 143 = .ok (.aload_n 0, 1) := by decide +kernel
theorem dX5_atom1_144 : decode cX5_atom1 144 = .ok (.getfield 163, 3) := by decide +kernel
theorem dX5_atom1_147 : decode cX5_atom1 147 = .ok (.ifCond .ne 14, 3) := by decide +kernel
theorem dX5_atom1_150 : decode cX5_atom1 150 = .ok (.aload_n 0, 1) := by decide +kernel
theorem dX5_atom1_151 : decode cX5_atom1 151 = .ok (.invokevirtual 179, 3) := by decide +kernel
theorem dX5_atom1_154 : decode cX5_atom1 154 = .ok (.goto 7, 3) := by decide +kernel
theorem dX5_atom1_157 : decode cX5_atom1 157 = .ok (.aload_n 0, 1) := by decide +kernel
theorem dX5_atom1_158 : decode cX5_atom1 158 = .ok (.invokevirtual 176, 3) := by decide +kernel
theorem dX5_atom1_161 : decode cX5_atom1 161 = .ok (.iload_n 1, 1) := by decide +kernel
theorem dX5_atom1_162 : decode cX5_atom1 162 = .ok (.ireturn, 1) := by decide +kernel
theorem dX5_term1_0 : decode cX5_term1 0 = .ok (.aload_n 0, 1) := by decide +kernel
theorem dX5_term1_1 : decode cX5_term1 1 = .ok (.invokevirtual 291, 3) := by decide +kernel
theorem dX5_term1_4 : decode cX5_term1 4 = .ok (.istore_n 1, 1) := by decide +kernel
theorem dX5_term1_5 : decode cX5_term1 5 = .ok (.aload_n 0, 1) := by decide +kernel
theorem dX5_term1_6 : decode cX5_term1 6 = .ok (.bipush 42, 2) := by decide +kernel
theorem dX5_term1_8 : decode cX5_term1 8 = .ok (.invokevirtual 204, 3) := by decide +kernel
theorem dX5_term1_11 : decode cX5_term1 11 = .ok (.ifCond .eq 17, 3) := by decide +kernel
theorem dX5_term1_14 : decode cX5_term1 14 = .ok (.aload_n 0, 1) := by decide +kernel
theorem dX5_term1_15 : decode cX5_term1 15 = .ok (.invokevirtual 179, 3) := by decide +kernel
theorem dX5_term1_18 : decode cX5_term1 18 = .ok (.iload_n 1, 1) := by decide +kernel
theorem dX5_term1_19 : decode cX5_term1 19 = .ok (.aload_n 0, 1) := by decide +kernel
theorem dX5_term1_20 : decode cX5_term1 20 = .ok (.invokevirtual 291, 3) := by decide +kernel
theorem dX5_term1_23 : decode cX5_term1 23 = .ok (.imul, 1) := by decide +kernel
theorem dX5_term1_24 : decode cX5_term1 24 = .ok (.istore_n 1, 1) := by decide +kernel
theorem dX5_term1_25 : decode cX5_term1 25 = .ok (.goto (-20), 3) := by decide +kernel
theorem dX5_term1_28 : decode cX5_term1 28 = .ok (.iload_n 1, 1) := by decide +kernel
theorem dX5_term1_29 : decode cX5_term1 29 = .ok (.ireturn, 1) := by decide +kernel
theorem dX5_added1_0 : decode cX5_added1 0 = .ok (.aload_n 0, 1) := by decide +kernel
theorem dX5_added1_1 : decode cX5_added1 1 = .ok (.invokevirtual 294, 3) := by decide +kernel
theorem dX5_added1_4 : decode cX5_added1 4 = .ok (.istore_n 1, 1) := by decide +kernel
theorem dX5_added1_5 : decode cX5_added1 5 = .ok (.aload_n 0, 1) := by decide +kernel
theorem dX5_added1_6 : decode cX5_added1 6 = .ok (.bipush 43, 2) := by decide +kernel
theorem dX5_added1_8 : decode cX5_added1 8 = .ok (.invokevirtual 204, 3) := by decide +kernel
theorem dX5_added1_11 : decode cX5_added1 11 = .ok (.ifCond .ne 12, 3) := by decide +kernel
theorem dX5_added1_14 : decode cX5_added1 14 = .ok (.aload_n 0, 1) := by decide +kernel
theorem dX5_added1_15 : decode cX5_added1 15 = .ok (.bipush 45, 2) := by decide +kernel
theorem dX5_added1_17 : decode cX5_added1 17 = .ok (.invokevirtual 204, 3) := by decide +kernel
theorem dX5_added1_20 : decode cX5_added1 20 = .ok (.ifCond .eq 46, 3) := by decide +kernel
theorem dX5_added1_23 : decode cX5_added1 23 = .ok (.aload_n 0, 1) := by decide +kernel
theorem dX5_added1_24 : decode cX5_added1 24 = .ok (.getfield 159, 3) := by decide +kernel
theorem dX5_added1_27 : decode cX5_added1 27 = .ok (.ldc2_w 221, 3) := by decide +kernel
theorem dX5_added1_30 : decode cX5_added1 30 = .ok (.lcmp, 1) := by decide +kernel
theorem dX5_added1_31 : decode cX5_added1 31 = .ok (.ifCond .ne 7, 3) := by decide +kernel
theorem dX5_added1_34 : decode cX5_added1 34 = .ok (.iconst 1, 1) := by decide +kernel
theorem dX5_added1_35 : decode cX5_added1 35 = .ok (.goto 4, 3) := by decide +kernel
theorem dX5_added1_38 : decode cX5_added1 38 = .ok (.iconst 0, 1) := by decide +kernel
theorem dX5_added1_39 : decode cX5_added1 39 = .ok (.istore_n 2, 1) := by decide +kernel
theorem dX5_added1_40 : decode cX5_added1 40 = .ok (.aload_n 0, 1) := by decide +kernel
theorem dX5_added1_41 : decode cX5_added1 41 = .ok (.invokevirtual 179, 3) := by decide +kernel
theorem dX5_added1_44 : decode cX5_added1 44 = .ok (.aload_n 0, 1) := by decide +kernel
theorem dX5_added1_45 : decode cX5_added1 45 = .ok (.invokevirtual 294, 3) := by decide +kernel
theorem dX5_added1_48 : decode cX5_added1 48 = .ok (.istore_n 3, 1) := by decide +kernel
theorem dX5_added1_49 : decode cX5_added1 49 = .ok (.iload_n 2, 1) := by decide +kernel
theorem dX5_added1_50 : decode cX5_added1 50 = .ok (.ifCond .eq 9, 3) := by decide +kernel
theorem dX5_added1_53 : decode cX5_added1 53 = .ok (.iload_n 1, 1) := by decide +kernel
theorem dX5_added1_54 : decode cX5_added1 54 = .ok (.iload_n 3, 1) := by decide +kernel
theorem dX5_added1_55 : decode cX5_added1 55 = .ok (.iadd, 1) := by decide +kernel
theorem dX5_added1_56 : decode cX5_added1 56 = .ok (.goto 6, 3) := by decide +kernel
theorem dX5_added1_59 : decode cX5_added1 59 = .ok (.iload_n 1, 1) := by decide +kernel
theorem dX5_added1_60 : decode cX5_added1 60 = .ok (.iload_n 3, 1) := by decide +kernel
theorem dX5_added1_61 : decode cX5_added1 61 = .ok (.isub, 1) := by decide +kernel
theorem dX5_added1_62 : decode cX5_added1 62 = .ok (.istore_n 1, 1) := by decide +kernel
theorem dX5_added1_63 : decode cX5_added1 63 = .ok (.goto (-58), 3) := by decide +kernel
theorem dX5_added1_66 : decode cX5_added1 66 = .ok (.iload_n 1, 1) := by decide +kernel
theorem dX5_added1_67 : decode cX5_added1 67 = .ok (.ireturn, 1) := by decide +kernel
theorem dX5_not1_0 : decode cX5_not1 0 = .ok (.aload_n 0, 1) := by decide +kernel
theorem dX5_not1_1 : decode cX5_not1 1 = .ok (.bipush 110, 2) := by decide +kernel
theorem dX5_not1_3 : decode cX5_not1 3 = .ok (.bipush 111, 2) := by decide +kernel
theorem dX5_not1_5 : decode cX5_not1 5 = .ok (.bipush 116, 2) := by decide +kernel
theorem dX5_not1_7 : decode cX5_not1 7 = .ok (.iconst 0, 1) := by decide +kernel
theorem dX5_not1_8 : decode cX5_not1 8 = .ok (.iconst 0, 1) := by decide +kernel
theorem dX5_not1_9 : decode cX5_not1 9 = .ok (.iconst 0, 1) := by decide +kernel
theorem dX5_not1_10 : decode cX5_not1 10 = .ok (.iconst 0, 1) := by decide +kernel
theorem dX5_not1_11 : decode cX5_not1 11 = .ok (.iconst 0, 1) := by decide +kernel
theorem dX5_not1_12 : decode cX5_not1 12 = .ok (.invokevirtual 182, 3) := by decide +kernel
theorem dX5_not1_15 : decode cX5_not1 15 = .ok (.ifCond .eq 37, 3) := by decide +kernel
theorem dX5_not1_18 : decode cX5_not1 18 = .ok (.aload_n 0, 1) := by decide +kernel
theorem dX5_not1_19 : decode cX5_not1 19 = .ok (.invokevirtual 207, 3) := by decide +kernel
theorem dX5_not1_22 : decode cX5_not1 22 = .ok (.ifCond .ne 5, 3) := by decide +kernel
theorem dX5_not1_25 : decode cX5_not1 25 = .ok (.iconst 0, 1) := by decide +kernel
theorem dX5_not1_26 : decode cX5_not1 26 = .ok (.ireturn, 1) := by decide +kernel
theorem dX5_not1_27 : decode cX5_not1 27 = .ok (.aload_n 0, 1) := by decide +kernel
theorem dX5_not1_28 : decode cX5_not1 28 = .ok (.invokevirtual 282, 3) := by decide +kernel
theorem dX5_not1_31 : decode cX5_not1 31 = .ok (.istore_n 1, 1) := by decide +kernel
theorem dX5_not1_32 : decode cX5_not1 32 = .ok (.aload_n 0, 1) := by decide +kernel
theorem dX5_not1_33 : decode cX5_not1 33 = .ok (.dup, 1) := by decide +kernel
theorem dX5_not1_34 : decode cX5_not1 34 = .ok (.getfield 173, 3) := by decide +kernel
theorem dX5_not1_37 : decode cX5_not1 37 = .ok (.iconst 1, 1) := by decide +kernel
theorem dX5_not1_38 : decode cX5_not1 38 = .ok (.isub, 1) := by decide +kernel
theorem dX5_not1_39 : decode cX5_not1 39 = .ok (.putfield 173, 3) := by decide +kernel
theorem dX5_not1_42 : decode cX5_not1 42 = .ok (.iload_n 1, 1) := by decide +kernel
theorem dX5_not1_43 : decode cX5_not1 43 = .ok (.ifCond .ne 7, 3) := by decide +kernel
theorem dX5_not1_46 : decode cX5_not1 46 = .ok (.iconst 1, 1) := by decide +kernel
theorem dX5_not1_47 : decode cX5_not1 47 = .ok (.goto 4, 3) := by decide +kernel
theorem dX5_not1_50 : decode cX5_not1 50 = .ok (.iconst 0, 1) := by decide +kernel
theorem dX5_not1_51 : decode cX5_not1 51 = .ok (.ireturn, 1) := by decide +kernel
theorem dX5_not1_52 : decode cX5_not1 52 = .ok (.aload_n 0, 1) := by decide +kernel
theorem dX5_not1_53 : decode cX5_not1 53 = .ok (.invokevirtual 297, 3) := by decide +kernel
theorem dX5_not1_56 : decode cX5_not1 56 = .ok (.istore_n 1, 1) := by decide +kernel
theorem dX5_not1_57 : decode cX5_not1 57 = .ok (.aload_n 0, 1) := by decide +kernel
theorem dX5_not1_58 : decode cX5_not1 58 = .ok (.bipush 60, 2) := by decide +kernel
theorem dX5_not1_60 : decode cX5_not1 60 = .ok (.invokevirtual 204, 3) := by decide +kernel
theorem dX5_not1_63 : decode cX5_not1 63 = .ok (.ifCond .ne 14, 3) := by decide +kernel
theorem dX5_not1_66 : decode cX5_not1 66 = .ok (.aload_n 0, 1) := by decide +kernel
theorem dX5_not1_67 : decode cX5_not1 67 = .ok (.bipush 61, 2) := by decide +kernel
theorem dX5_not1_69 : decode cX5_not1 69 = .ok (.invokevirtual 204, 3) := by decide +kernel
theorem dX5_not1_72 : decode cX5_not1 72 = .ok (.ifCond .ne 5, 3) := by decide +kernel
theorem dX5_not1_75 : decode cX5_not1 75 = .ok (.iload_n 1, 1) := by decide +kernel
theorem dX5_not1_76 : decode cX5_not1 76 = .ok (.ireturn, 1) := by decide +kernel
theorem dX5_not1_77 : decode cX5_not1 77 = .ok (.aload_n 0, 1) := by decide +kernel
theorem dX5_not1_78 : decode cX5_not1 78 = .ok (.getfield 159, 3) := by decide +kernel
theorem dX5_not1_81 : decode cX5_not1 81 = .ok (.ldc2_w 226, 3) := by decide +kernel
theorem dX5_not1_84 : decode cX5_not1 84 = .ok (.lcmp, 1) := by decide +kernel
theorem dX5_not1_85 : decode cX5_not1 85 = .ok (.ifCond .ne 7, 3) := by decide +kernel
theorem dX5_not1_88 : decode cX5_not1 88 = .ok (.iconst 1, 1) := by decide +kernel
theorem dX5_not1_89 : decode cX5_not1 89 = .ok (.goto 4, 3) := by decide +kernel
theorem dX5_not1_92 : decode cX5_not1 92 = .ok (.iconst 0, 1) := by decide +kernel
theorem dX5_not1_93 : decode cX5_not1 93 = .ok (.istore_n 2, 1) := by decide +kernel
theorem dX5_not1_94 : decode cX5_not1 94 = .ok (.aload_n 0, 1) := by decide +kernel
theorem dX5_not1_95 : decode cX5_not1 95 = .ok (.invokevirtual 179, 3) := by decide +kernel
theorem dX5_not1_98 : decode cX5_not1 98 = .ok (.aload_n 0, 1) := by decide +kernel
theorem dX5_not1_99 : decode cX5_not1 99 = .ok (.invokevirtual 297, 3) := by decide +kernel
theorem dX5_not1_102 : decode cX5_not1 102 = .ok (.istore_n 3, 1) := by decide +kernel
theorem dX5_not1_103 : decode cX5_not1 103 = .ok (.iload_n 2, 1) := by decide +kernel
theorem dX5_not1_104 : decode cX5_not1 104 = .ok (.ifCond .eq 11, 3) := by decide +kernel
theorem dX5_not1_107 : decode cX5_not1 107 = .ok (.iload_n 1, 1) := by decide +kernel
theorem dX5_not1_108 : decode cX5_not1 108 = .ok (.iload_n 3, 1) := by decide +kernel
theorem dX5_not1_109 : decode cX5_not1 109 = .ok (.if_icmp .ge 15, 3) := by decide +kernel
theorem dX5_not1_112 : decode cX5_not1 112 = .ok (.goto 8, 3) := by decide +kernel
theorem dX5_not1_115 : decode cX5_not1 115 = .ok (.iload_n 1, 1) := by decide +kernel
theorem dX5_not1_116 : decode cX5_not1 116 = .ok (.iload_n 3, 1) := by decide +kernel
theorem dX5_not1_117 : decode cX5_not1 117 = .ok (.if_icmp .ne 7, 3) := by decide +kernel
theorem dX5_not1_120 : decode cX5_not1 120 = .ok (.iconst 1, 1) := by decide +kernel
theorem dX5_not1_121 : decode cX5_not1 121 = .ok (.goto 4, 3) := by decide +kernel
theorem dX5_not1_124 : decode cX5_not1 124 = .ok (.iconst 0, 1) := by decide +kernel
theorem dX5_not1_125 : decode cX5_not1 125 = .ok (.ireturn, 1) := by decide +kernel
theorem dX5_both1_0 : decode cX5_both1 0 = .ok (.aload_n 0, 1) := by decide +kernel
theorem dX5_both1_1 : decode cX5_both1 1 = .ok (.invokevirtual 300, 3) := by decide +kernel
theorem dX5_both1_4 : decode cX5_both1 4 = .ok (.istore_n 1, 1) := by decide +kernel
theorem dX5_both1_5 : decode cX5_both1 5 = .ok (.aload_n 0, 1) := by decide +kernel
theorem dX5_both1_6 : decode cX5_both1 6 = .ok (.bipush 97, 2) := by decide +kernel
theorem dX5_both1_8 : decode cX5_both1 8 = .ok (.bipush 110, 2) := by decide +kernel
theorem dX5_both1_10 : decode cX5_both1 10 = .ok (.bipush 100, 2) := by decide +kernel
theorem dX5_both1_12 : decode cX5_both1 12 = .ok (.iconst 0, 1) := by decide +kernel
theorem dX5_both1_13 : decode cX5_both1 13 = .ok (.iconst 0, 1) := by decide +kernel
theorem dX5_both1_14 : decode cX5_both1 14 = .ok (.iconst 0, 1) := by decide +kernel
theorem dX5_both1_15 : decode cX5_both1 15 = .ok (.iconst 0, 1) := by decide +kernel
theorem dX5_both1_16 : decode cX5_both1 16 = .ok (.iconst 0, 1) := by decide +kernel
theorem dX5_both1_17 : decode cX5_both1 17 = .ok (.invokevirtual 182, 3) := by decide +kernel
theorem dX5_both1_20 : decode cX5_both1 20 = .ok (.ifCond .eq 29, 3) := by decide +kernel
theorem dX5_both1_23 : decode cX5_both1 23 = .ok (.aload_n 0, 1) := by decide +kernel
theorem dX5_both1_24 : decode cX5_both1 24 = .ok (.invokevirtual 179, 3) := by decide +kernel
theorem dX5_both1_27 : decode cX5_both1 27 = .ok (.aload_n 0, 1) := by decide +kernel
theorem dX5_both1_28 : decode cX5_both1 28 = .ok (.invokevirtual 300, 3) := by decide +kernel
theorem dX5_both1_31 : decode cX5_both1 31 = .ok (.istore_n 2, 1) := by decide +kernel
theorem dX5_both1_32 : decode cX5_both1 32 = .ok (.iload_n 1, 1) := by decide +kernel
theorem dX5_both1_33 : decode cX5_both1 33 = .ok (.ifCond .eq 11, 3) := by decide +kernel
theorem dX5_both1_36 : decode cX5_both1 36 = .ok (.iload_n 2, 1) := by decide +kernel
theorem dX5_both1_37 : decode cX5_both1 37 = .ok (.ifCond .eq 7, 3) := by decide +kernel
theorem dX5_both1_40 : decode cX5_both1 40 = .ok (.iconst 1, 1) := by decide +kernel
theorem dX5_both1_41 : decode cX5_both1 41 = .ok (.goto 4, 3) := by decide +kernel
theorem dX5_both1_44 : decode cX5_both1 44 = .ok (.iconst 0, 1) := by decide +kernel
theorem dX5_both1_45 : decode cX5_both1 45 = .ok (.istore_n 1, 1) := by decide +kernel
theorem dX5_both1_46 : decode cX5_both1 46 = .ok (.goto (-41), 3) := by decide +kernel
theorem dX5_both1_49 : decode cX5_both1 49 = .ok (.iload_n 1, 1) := by decide +kernel
theorem dX5_both1_50 : decode cX5_both1 50 = .ok (.ireturn, 1) := by decide +kernel
theorem dX5_either1_0 : decode cX5_either1 0 = .ok (.aload_n 0, 1) := by decide +kernel
theorem dX5_either1_1 : decode cX5_either1 1 = .ok (.invokevirtual 303, 3) := by decide +kernel
theorem dX5_either1_4 : decode cX5_either1 4 = .ok (.istore_n 1, 1) := by decide +kernel
theorem dX5_either1_5 : decode cX5_either1 5 = .ok (.aload_n 0, 1) := by decide +kernel
theorem dX5_either1_6 : decode cX5_either1 6 = .ok (.bipush 111, 2) := by decide +kernel
theorem dX5_either1_8 : decode cX5_either1 8 = .ok (.bipush 114, 2) := by decide +kernel
theorem dX5_either1_10 : decode cX5_either1 10 = .ok (.iconst 0, 1) := by decide +kernel
theorem dX5_either1_11 : decode cX5_either1 11 = .ok (.iconst 0, 1) := by decide +kernel
theorem dX5_either1_12 : decode cX5_either1 12 = .ok (.iconst 0, 1) := by decide +kernel
theorem dX5_either1_13 : decode cX5_either1 13 = .ok (.iconst 0, 1) := by decide +kernel
theorem dX5_either1_14 : decode cX5_either1 14 = .ok (.iconst 0, 1) := by decide +kernel
theorem dX5_either1_15 : decode cX5_either1 15 = .ok (.iconst 0, 1) := by decide +kernel
theorem dX5_either1_16 : decode cX5_either1 16 = .ok (.invokevirtual 182, 3) := by decide +kernel
theorem dX5_either1_19 : decode cX5_either1 19 = .ok (.ifCond .eq 29, 3) := by decide +kernel
theorem dX5_either1_22 : decode cX5_either1 22 = .ok (.aload_n 0, 1) := by decide +kernel
theorem dX5_either1_23 : decode cX5_either1 23 = .ok (.invokevirtual 179, 3) := by decide +kernel
theorem dX5_either1_26 : decode cX5_either1 26 = .ok (.aload_n 0, 1) := by decide +kernel
theorem dX5_either1_27 : decode cX5_either1 27 = .ok (.invokevirtual 303, 3) := by decide +kernel
theorem dX5_either1_30 : decode cX5_either1 30 = .ok (.istore_n 2, 1) := by decide +kernel
theorem dX5_either1_31 : decode cX5_either1 31 = .ok (.iload_n 1, 1) := by decide +kernel
theorem dX5_either1_32 : decode cX5_either1 32 = .ok (.ifCond .ne 7, 3) := by decide +kernel
theorem dX5_either1_35 : decode cX5_either1 35 = .ok (.iload_n 2, 1) := by decide +kernel
theorem dX5_either1_36 : decode cX5_either1 36 = .ok (.ifCond .eq 7, 3) := by decide +kernel
theorem dX5_either1_39 : decode cX5_either1 39 = .ok (.iconst 1, 1) := by decide +kernel
theorem dX5_either1_40 : decode cX5_either1 40 = .ok (.goto 4, 3) := by decide +kernel
theorem dX5_either1_43 : decode cX5_either1 43 = .ok (.iconst 0, 1) := by decide +kernel
theorem dX5_either1_44 : decode cX5_either1 44 = .ok (.istore_n 1, 1) := by decide +kernel
theorem dX5_either1_45 : decode cX5_either1 45 = .ok (.goto (-40), 3) := by decide +kernel
theorem dX5_either1_48 : decode cX5_either1 48 = .ok (.iload_n 1, 1) := by decide +kernel
theorem dX5_either1_49 : decode cX5_either1 49 = .ok (.ireturn, 1) := by decide +kernel
theorem dX5_atom0_0 : decode cX5_atom0 0 = .ok (.iconst 0, 1) := by decide +kernel
theorem dX5_atom0_1 : decode cX5_atom0 1 = .ok (.istore_n 1, 1) := by decide +kernel
theorem dX5_atom0_2 : decode cX5_atom0 2 = .ok (.aload_n 0, 1) := by decide +kernel
theorem dX5_atom0_3 : decode cX5_atom0 3 = .ok (.bipush 45, 2) := by decide +kernel
theorem dX5_atom0_5 : decode cX5_atom0 5 = .ok (.invokevirtual 204, 3) := by decide +kernel
theorem dX5_atom0_8 : decode cX5_atom0 8 = .ok (.ifCond .eq 29, 3) := by decide +kernel
theorem dX5_atom0_11 : decode cX5_atom0 11 = .ok (.aload_n 0, 1) := by decide +kernel
theorem dX5_atom0_12 : decode cX5_atom0 12 = .ok (.invokevirtual 207, 3) := by decide +kernel
theorem dX5_atom0_15 : decode cX5_atom0 15 = .ok (.ifCond .eq 146, 3) := by decide +kernel
theorem dX5_atom0_18 : decode cX5_atom0 18 = .ok (.aload_n 0, 1) := by decide +kernel
theorem dX5_atom0_19 : decode cX5_atom0 19 = .ok (.invokevirtual 291, 3) := by decide +kernel
theorem dX5_atom0_22 : decode cX5_atom0 22 = .ok (.ineg, 1) := by decide +kernel
theorem dX5_atom0_23 : decode cX5_atom0 23 = .ok (.istore_n 1, 1) := by decide +kernel
theorem dX5_atom0_24 : decode cX5_atom0 24 = .ok (.aload_n 0, 1) := by decide +kernel
theorem dX5_atom0_25 : decode cX5_atom0 25 = .ok (.dup, 1) := by decide +kernel
theorem dX5_atom0_26 : decode cX5_atom0 26 = .ok (.getfield 173, 3) := by decide +kernel
theorem dX5_atom0_29 : decode cX5_atom0 29 = .ok (.iconst 1, 1) := by decide +kernel
theorem dX5_atom0_30 : decode cX5_atom0 30 = .ok (.isub, 1) := by decide +kernel
theorem dX5_atom0_31 : decode cX5_atom0 31 = .ok (.putfield 173, 3) := by decide +kernel
theorem dX5_atom0_34 : decode cX5_atom0 34 = .ok (.goto 127, 3) := by decide +kernel
theorem dX5_atom0_37 : decode cX5_atom0 37 = .ok (.aload_n 0, 1) := by decide +kernel
theorem dX5_atom0_38 : decode cX5_atom0 38 = .ok (.bipush 40, 2) := by decide +kernel
theorem dX5_atom0_40 : decode cX5_atom0 40 = .ok (.invokevirtual 204, 3) := by decide +kernel
theorem dX5_atom0_43 : decode cX5_atom0 43 = .ok (.ifCond .eq 52, 3) := by decide +kernel
theorem dX5_atom0_46 : decode cX5_atom0 46 = .ok (.aload_n 0, 1) := by decide +kernel
theorem dX5_atom0_47 : decode cX5_atom0 47 = .ok (.invokevirtual 207, 3) := by decide +kernel
theorem dX5_atom0_50 : decode cX5_atom0 50 = .ok (.ifCond .eq 111, 3) := by decide +kernel
theorem dX5_atom0_53 : decode cX5_atom0 53 = .ok (.aload_n 0, 1) := by decide +kernel
theorem dX5_atom0_54 : decode cX5_atom0 54 = .ok (.invokevirtual 306, 3) := by decide +kernel
theorem dX5_atom0_57 : decode cX5_atom0 57 = .ok (.istore_n 1, 1) := by decide +kernel
theorem dX5_atom0_58 : decode cX5_atom0 58 = .ok (.aload_n 0, 1) := by decide +kernel
theorem dX5_atom0_59 : decode cX5_atom0 59 = .ok (.bipush 41, 2) := by decide +kernel
theorem dX5_atom0_61 : decode cX5_atom0 61 = .ok (.invokevirtual 204, 3) := by decide +kernel
theorem dX5_atom0_64 : decode cX5_atom0 64 = .ok (.ifCond .ne 7, 3) := by decide +kernel
theorem dX5_atom0_67 : decode cX5_atom0 67 = .ok (.aload_n 0, 1) := by decide +kernel
theorem dX5_atom0_68 : decode cX5_atom0 68 = .ok (.invokevirtual 176, 3) := by decide +kernel
theorem dX5_atom0_71 : decode cX5_atom0 71 = .ok (.aload_n 0, 1) := by decide +kernel
theorem dX5_atom0_72 : decode cX5_atom0 72 = .ok (.dup, 1) := by decide +kernel
theorem dX5_atom0_73 : decode cX5_atom0 73 = .ok (.getfield 173, 3) := by decide +kernel
theorem dX5_atom0_76 : decode cX5_atom0 76 = .ok (.iconst 1, 1) := by decide +kernel
theorem dX5_atom0_77 : decode cX5_atom0 77 = .ok (.isub, 1) := by decide +kernel
theorem dX5_atom0_78 : decode cX5_atom0 78 = .ok (.putfield 173, 3) := by decide +kernel
theorem dX5_atom0_81 : decode cX5_atom0 81 = .ok (.aload_n 0, 1) := by decide +kernel
theorem dX5_atom0_82 : decode cX5_atom0 82 = .ok (.getfield 163, 3) := by decide +kernel
theorem dX5_atom0_85 : decode cX5_atom0 85 = .ok (.ifCond .ne 76, 3) := by decide +kernel
theorem dX5_atom0_88 : decode cX5_atom0 88 = .ok (.aload_n 0, 1) := by decide +kernel
theorem dX5_atom0_89 : decode cX5_atom0 89 = .ok (.invokevirtual 179, 3) := by decide +kernel
theorem dX5_atom0_92 : decode cX5_atom0 92 = .ok (.goto 69, 3) := by decide +kernel
theorem dX5_atom0_95 : decode cX5_atom0 95 = .ok (.aload_n 0, 1) := by decide +kernel
theorem dX5_atom0_96 : decode cX5_atom0 96 = .ok (.getfield 163, 3) := by decide +kernel
theorem dX5_atom0_99 : decode cX5_atom0 99 = .ok (.ifCond .ne 24, 3) := by decide +kernel
theorem dX5_atom0_102 : decode cX5_atom0 102 = .ok (.aload_n 0, 1) := by decide +kernel
theorem dX5_atom0_103 : decode cX5_atom0 103 = .ok (.getfield 148, 3) := by decide +kernel
theorem dX5_atom0_106 : decode cX5_atom0 106 = .ok (.iconst 2, 1) := by decide +kernel
theorem dX5_atom0_107 : decode cX5_atom0 107 = .ok (.if_icmp .ne 16, 3) := by decide +kernel
theorem dX5_atom0_110 : decode cX5_atom0 110 = .ok (.aload_n 0, 1) := by decide +kernel
theorem dX5_atom0_111 : decode cX5_atom0 111 = .ok (.getfield 159, 3) := by decide +kernel
theorem dX5_atom0_114 : decode cX5_atom0 114 = .ok (.l2i, 1) := by decide +kernel
theorem dX5_atom0_115 : decode cX5_atom0 115 = .ok (.istore_n 1, 1) := by decide +kernel
theorem dX5_atom0_116 : decode cX5_atom0 116 = .ok (.aload_n 0, 1) := by decide +kernel
theorem dX5_atom0_117 : decode cX5_atom0 117 = .ok (.invokevirtual 179, 3) := by decide +kernel
theorem dX5_atom0_120 : decode cX5_atom0 120 = .ok (.goto 41, 3) := by decide +kernel
theorem dX5_atom0_123 : decode cX5_atom0 123 = .ok (.aload_n 0, 1) := by decide +kernel
theorem dX5_atom0_124 : decode cX5_atom0 124 = .ok (.getfield 163, 3) := by decide +kernel
theorem dX5_atom0_127 : decode cX5_atom0 127 = .ok (.ifCond .ne 30, 3) := by decide +kernel
theorem dX5_atom0_130 : decode cX5_atom0 130 = .ok (.aload_n 0, 1) := by decide +kernel
theorem dX5_atom0_131 : decode cX5_atom0 131 = .ok (.getfield 148, 3) := by decide +kernel
theorem dX5_atom0_134 : decode cX5_atom0 134 = .ok (.iconst 1, 1) := by decide +kernel
theorem dX5_atom0_135 : decode cX5_atom0 135 = .ok (.if_icmp .ne 22, 3) := by decide +kernel
theorem dX5_atom0_138 : decode cX5_atom0 138 = .ok (.aload_n 0, 1) := by decide +kernel
theorem dX5_atom0_139 : decode cX5_atom0 139 = .ok (.invokevirtual 211, 3) := by decide +kernel
theorem dX5_atom0_142 : decode cX5_atom0 142 = .ok (.istore_n 1, 1) := by decide +kernel
theorem dX5_atom0_143 : decode cX5_atom0 143 = .ok (.aload_n 0, 1) := by decide +kernel
theorem dX5_atom0_144 : decode cX5_atom0 144 = .ok (.getfield 163, 3) := by decide +kernel
theorem dX5_atom0_147 : decode cX5_atom0 147 = .ok (.ifCond .ne 14, 3) := by decide +kernel
theorem dX5_atom0_150 : decode cX5_atom0 150 = .ok (.aload_n 0, 1) := by decide +kernel
theorem dX5_atom0_151 : decode cX5_atom0 151 = .ok (.invokevirtual 179, 3) := by decide +kernel
theorem dX5_atom0_154 : decode cX5_atom0 154 = .ok (.goto 7, 3) := by decide +kernel
theorem dX5_atom0_157 : decode cX5_atom0 157 = .ok (.aload_n 0, 1) := by decide +kernel
theorem dX5_atom0_158 : decode cX5_atom0 158 = .ok (.invokevirtual 176, 3) := by decide +kernel
theorem dX5_atom0_161 : decode cX5_atom0 161 = .ok (.iload_n 1, 1) := by decide +kernel
theorem dX5_atom0_162 : decode cX5_atom0 162 = .ok (.ireturn, 1) := by decide +kernel
theorem dX5_term0_0 : decode cX5_term0 0 = .ok (.aload_n 0, 1) := by decide +kernel
theorem dX5_term0_1 : decode cX5_term0 1 = .ok (.invokevirtual 309, 3) := by decide +kernel
theorem dX5_term0_4 : decode cX5_term0 4 = .ok (.istore_n 1, 1) := by decide +kernel
theorem dX5_term0_5 : decode cX5_term0 5 = .ok (.aload_n 0, 1) := by decide +kernel
theorem dX5_term0_6 : decode cX5_term0 6 = .ok (.bipush 42, 2) := by decide +kernel
theorem dX5_term0_8 : decode cX5_term0 8 = .ok (.invokevirtual 204, 3) := by decide +kernel
theorem dX5_term0_11 : decode cX5_term0 11 = .ok (.ifCond .eq 17, 3) := by decide +kernel
theorem dX5_term0_14 : decode cX5_term0 14 = .ok (.aload_n 0, 1) := by decide +kernel
theorem dX5_term0_15 : decode cX5_term0 15 = .ok (.invokevirtual 179, 3) := by decide +kernel
theorem dX5_term0_18 : decode cX5_term0 18 = .ok (.iload_n 1, 1) := by decide +kernel
theorem dX5_term0_19 : decode cX5_term0 19 = .ok (.aload_n 0, 1) := by decide +kernel
theorem dX5_term0_20 : decode cX5_term0 20 = .ok (.invokevirtual 309, 3) := by decide +kernel
theorem dX5_term0_23 : decode cX5_term0 23 = .ok (.imul, 1) := by decide +kernel
theorem dX5_term0_24 : decode cX5_term0 24 = .ok (.istore_n 1, 1) := by decide +kernel
theorem dX5_term0_25 : decode cX5_term0 25 = .ok (.goto (-20), 3) := by decide +kernel
theorem dX5_term0_28 : decode cX5_term0 28 = .ok (.iload_n 1, 1) := by decide +kernel
theorem dX5_term0_29 : decode cX5_term0 29 = .ok (.ireturn, 1) := by decide +kernel
theorem dX5_added0_0 : decode cX5_added0 0 = .ok (.aload_n 0, 1) := by decide +kernel
theorem dX5_added0_1 : decode cX5_added0 1 = .ok (.invokevirtual 312, 3) := by decide +kernel
theorem dX5_added0_4 : decode cX5_added0 4 = .ok (.istore_n 1, 1) := by decide +kernel
theorem dX5_added0_5 : decode cX5_added0 5 = .ok (.aload_n 0, 1) := by decide +kernel
theorem dX5_added0_6 : decode cX5_added0 6 = .ok (.bipush 43, 2) := by decide +kernel
theorem dX5_added0_8 : decode cX5_added0 8 = .ok (.invokevirtual 204, 3) := by decide +kernel
theorem dX5_added0_11 : decode cX5_added0 11 = .ok (.ifCond .ne 12, 3) := by decide +kernel
theorem dX5_added0_14 : decode cX5_added0 14 = .ok (.aload_n 0, 1) := by decide +kernel
theorem dX5_added0_15 : decode cX5_added0 15 = .ok (.bipush 45, 2) := by decide +kernel
theorem dX5_added0_17 : decode cX5_added0 17 = .ok (.invokevirtual 204, 3) := by decide +kernel
theorem dX5_added0_20 : decode cX5_added0 20 = .ok (.ifCond .eq 46, 3) := by decide +kernel
theorem dX5_added0_23 : decode cX5_added0 23 = .ok (.aload_n 0, 1) := by decide +kernel
theorem dX5_added0_24 : decode cX5_added0 24 = .ok (.getfield 159, 3) := by decide +kernel
theorem dX5_added0_27 : decode cX5_added0 27 = .ok (.ldc2_w 221, 3) := by decide +kernel
theorem dX5_added0_30 : decode cX5_added0 30 = .ok (.lcmp, 1) := by decide +kernel
theorem dX5_added0_31 : decode cX5_added0 31 = .ok (.ifCond .ne 7, 3) := by decide +kernel
theorem dX5_added0_34 : decode cX5_added0 34 = .ok (.iconst 1, 1) := by decide +kernel
theorem dX5_added0_35 : decode cX5_added0 35 = .ok (.goto 4, 3) := by decide +kernel
theorem dX5_added0_38 : decode cX5_added0 38 = .ok (.iconst 0, 1) := by decide +kernel
theorem dX5_added0_39 : decode cX5_added0 39 = .ok (.istore_n 2, 1) := by decide +kernel
theorem dX5_added0_40 : decode cX5_added0 40 = .ok (.aload_n 0, 1) := by decide +kernel
theorem dX5_added0_41 : decode cX5_added0 41 = .ok (.invokevirtual 179, 3) := by decide +kernel
theorem dX5_added0_44 : decode cX5_added0 44 = .ok (.aload_n 0, 1) := by decide +kernel
theorem dX5_added0_45 : decode cX5_added0 45 = .ok (.invokevirtual 312, 3) := by decide +kernel
theorem dX5_added0_48 : decode cX5_added0 48 = .ok (.istore_n 3, 1) := by decide +kernel
theorem dX5_added0_49 : decode cX5_added0 49 = .ok (.iload_n 2, 1) := by decide +kernel
theorem dX5_added0_50 : decode cX5_added0 50 = .ok (.ifCond .eq 9, 3) := by decide +kernel
theorem dX5_added0_53 : decode cX5_added0 53 = .ok (.iload_n 1, 1) := by decide +kernel
theorem dX5_added0_54 : decode cX5_added0 54 = .ok (.iload_n 3, 1) := by decide +kernel
theorem dX5_added0_55 : decode cX5_added0 55 = .ok (.iadd, 1) := by decide +kernel
theorem dX5_added0_56 : decode cX5_added0 56 = .ok (.goto 6, 3) := by decide +kernel
theorem dX5_added0_59 : decode cX5_added0 59 = .ok (.iload_n 1, 1) := by decide +kernel
theorem dX5_added0_60 : decode cX5_added0 60 = .ok (.iload_n 3, 1) := by decide +kernel
theorem dX5_added0_61 : decode cX5_added0 61 = .ok (.isub, 1) := by decide +kernel
theorem dX5_added0_62 : decode cX5_added0 62 = .ok (.istore_n 1, 1) := by decide +kernel
theorem dX5_added0_63 : decode cX5_added0 63 = .ok (.goto (-58), 3) := by decide +kernel
theorem dX5_added0_66 : decode cX5_added0 66 = .ok (.iload_n 1, 1) := by decide +kernel
theorem dX5_added0_67 : decode cX5_added0 67 = .ok (.ireturn, 1) := by decide +kernel
theorem dX5_not0_0 : decode cX5_not0 0 = .ok (.aload_n 0, 1) := by decide +kernel
theorem dX5_not0_1 : decode cX5_not0 1 = .ok (.bipush 110, 2) := by decide +kernel
theorem dX5_not0_3 : decode cX5_not0 3 = .ok (.bipush 111, 2) := by decide +kernel
theorem dX5_not0_5 : decode cX5_not0 5 = .ok (.bipush 116, 2) := by decide +kernel
theorem dX5_not0_7 : decode cX5_not0 7 = .ok (.iconst 0, 1) := by decide +kernel
theorem dX5_not0_8 : decode cX5_not0 8 = .ok (.iconst 0, 1) := by decide +kernel
theorem dX5_not0_9 : decode cX5_not0 9 = .ok (.iconst 0, 1) := by decide +kernel
theorem dX5_not0_10 : decode cX5_not0 10 = .ok (.iconst 0, 1) := by decide +kernel
theorem dX5_not0_11 : decode cX5_not0 11 = .ok (.iconst 0, 1) := by decide +kernel
theorem dX5_not0_12 : decode cX5_not0 12 = .ok (.invokevirtual 182, 3) := by decide +kernel
theorem dX5_not0_15 : decode cX5_not0 15 = .ok (.ifCond .eq 37, 3) := by decide +kernel
theorem dX5_not0_18 : decode cX5_not0 18 = .ok (.aload_n 0, 1) := by decide +kernel
theorem dX5_not0_19 : decode cX5_not0 19 = .ok (.invokevirtual 207, 3) := by decide +kernel
theorem dX5_not0_22 : decode cX5_not0 22 = .ok (.ifCond .ne 5, 3) := by decide +kernel
theorem dX5_not0_25 : decode cX5_not0 25 = .ok (.iconst 0, 1) := by decide +kernel
theorem dX5_not0_26 : decode cX5_not0 26 = .ok (.ireturn, 1) := by decide +kernel
theorem dX5_not0_27 : decode cX5_not0 27 = .ok (.aload_n 0, 1) := by decide +kernel
theorem dX5_not0_28 : decode cX5_not0 28 = .ok (.invokevirtual 300, 3) := by decide +kernel
theorem dX5_not0_31 : decode cX5_not0 31 = .ok (.istore_n 1, 1) := by decide +kernel
theorem dX5_not0_32 : decode cX5_not0 32 = .ok (.aload_n 0, 1) := by decide +kernel
theorem dX5_not0_33 : decode cX5_not0 33 = .ok (.dup, 1) := by decide +kernel
theorem dX5_not0_34 : decode cX5_not0 34 = .ok (.getfield 173, 3) := by decide +kernel
theorem dX5_not0_37 : decode cX5_not0 37 = .ok (.iconst 1, 1) := by decide +kernel
theorem dX5_not0_38 : decode cX5_not0 38 = .ok (.isub, 1) := by decide +kernel
theorem dX5_not0_39 : decode cX5_not0 39 = .ok (.putfield 173, 3) := by decide +kernel
theorem dX5_not0_42 : decode cX5_not0 42 = .ok (.iload_n 1, 1) := by decide +kernel
theorem dX5_not0_43 : decode cX5_not0 43 = .ok (.ifCond .ne 7, 3) := by decide +kernel
theorem dX5_not0_46 : decode cX5_not0 46 = .ok (.iconst 1, 1) := by decide +kernel
theorem dX5_not0_47 : decode cX5_not0 47 = .ok (.goto 4, 3) := by decide +kernel
theorem dX5_not0_50 : decode cX5_not0 50 = .ok (.iconst 0, 1) := by decide +kernel
theorem dX5_not0_51 : decode cX5_not0 51 = .ok (.ireturn, 1) := by decide +kernel
theorem dX5_not0_52 : decode cX5_not0 52 = .ok (.aload_n 0, 1) := by decide +kernel
theorem dX5_not0_53 : decode cX5_not0 53 = .ok (.invokevirtual 315, 3) := by decide +kernel
theorem dX5_not0_56 : decode cX5_not0 56 = .ok (.istore_n 1, 1) := by decide +kernel
theorem dX5_not0_57 : decode cX5_not0 57 = .ok (.aload_n 0, 1) := by decide +kernel
theorem dX5_not0_58 : decode cX5_not0 58 = .ok (.bipush 60, 2) := by decide +kernel
theorem dX5_not0_60 : decode cX5_not0 60 = .ok (.invokevirtual 204, 3) := by decide +kernel
theorem dX5_not0_63 : decode cX5_not0 63 = .ok (.ifCond .ne 14, 3) := by decide +kernel
theorem dX5_not0_66 : decode cX5_not0 66 = .ok (.aload_n 0, 1) := by decide +kernel
theorem dX5_not0_67 : decode cX5_not0 67 = .ok (.bipush 61, 2) := by decide +kernel
theorem dX5_not0_69 : decode cX5_not0 69 = .ok (.invokevirtual 204, 3) := by decide +kernel
theorem dX5_not0_72 : decode cX5_not0 72 = .ok (.ifCond .ne 5, 3) := by decide +kernel
theorem dX5_not0_75 : decode cX5_not0 75 = .ok (.iload_n 1, 1) := by decide +kernel
theorem dX5_not0_76 : decode cX5_not0 76 = .ok (.ireturn, 1) := by decide +kernel
theorem dX5_not0_77 : decode cX5_not0 77 = .ok (.aload_n 0, 1) := by decide +kernel
theorem dX5_not0_78 : decode cX5_not0 78 = .ok (.getfield 159, 3) := by decide +kernel
theorem dX5_not0_81 : decode cX5_not0 81 = .ok (.ldc2_w 226, 3) := by decide +kernel
theorem dX5_not0_84 : decode cX5_not0 84 = .ok (.lcmp, 1) := by decide +kernel
theorem dX5_not0_85 : decode cX5_not0 85 = .ok (.ifCond .ne 7, 3) := by decide +kernel
theorem dX5_not0_88 : decode cX5_not0 88 = .ok (.iconst 1, 1) := by decide +kernel
theorem dX5_not0_89 : decode cX5_not0 89 = .ok (.goto 4, 3) := by decide +kernel
theorem dX5_not0_92 : decode cX5_not0 92 = .ok (.iconst 0, 1) := by decide +kernel
theorem dX5_not0_93 : decode cX5_not0 93 = .ok (.istore_n 2, 1) := by decide +kernel
theorem dX5_not0_94 : decode cX5_not0 94 = .ok (.aload_n 0, 1) := by decide +kernel
theorem dX5_not0_95 : decode cX5_not0 95 = .ok (.invokevirtual 179, 3) := by decide +kernel
theorem dX5_not0_98 : decode cX5_not0 98 = .ok (.aload_n 0, 1) := by decide +kernel
theorem dX5_not0_99 : decode cX5_not0 99 = .ok (.invokevirtual 315, 3) := by decide +kernel
theorem dX5_not0_102 : decode cX5_not0 102 = .ok (.istore_n 3, 1) := by decide +kernel
theorem dX5_not0_103 : decode cX5_not0 103 = .ok (.iload_n 2, 1) := by decide +kernel
theorem dX5_not0_104 : decode cX5_not0 104 = .ok (.ifCond .eq 11, 3) := by decide +kernel
theorem dX5_not0_107 : decode cX5_not0 107 = .ok (.iload_n 1, 1) := by decide +kernel
theorem dX5_not0_108 : decode cX5_not0 108 = .ok (.iload_n 3, 1) := by decide +kernel
theorem dX5_not0_109 : decode cX5_not0 109 = .ok (.if_icmp .ge 15, 3) := by decide +kernel
theorem dX5_not0_112 : decode cX5_not0 112 = .ok (.goto 8, 3) := by decide +kernel
theorem dX5_not0_115 : decode cX5_not0 115 = .ok (.iload_n 1, 1) := by decide +kernel
theorem dX5_not0_116 : decode cX5_not0 116 = .ok (.iload_n 3, 1) := by decide +kernel
theorem dX5_not0_117 : decode cX5_not0 117 = .ok (.if_icmp .ne 7, 3) := by decide +kernel
theorem dX5_not0_120 : decode cX5_not0 120 = .ok (.iconst 1, 1) := by decide +kernel
theorem dX5_not0_121 : decode cX5_not0 121 = .ok (.goto 4, 3) := by decide +kernel
theorem dX5_not0_124 : decode cX5_not0 124 = .ok (.iconst 0, 1) := by decide +kernel
theorem dX5_not0_125 : decode cX5_not0 125 = .ok (.ireturn, 1) := by decide +kernel
theorem dX5_both0_0 : decode cX5_both0 0 = .ok (.aload_n 0, 1) := by decide +kernel
theorem dX5_both0_1 : decode cX5_both0 1 = .ok (.invokevirtual 318, 3) := by decide +kernel
theorem dX5_both0_4 : decode cX5_both0 4 = .ok (.istore_n 1, 1) := by decide +kernel
theorem dX5_both0_5 : decode cX5_both0 5 = .ok (.aload_n 0, 1) := by decide +kernel
theorem dX5_both0_6 : decode cX5_both0 6 = .ok (.bipush 97, 2) := by decide +kernel
theorem dX5_both0_8 : decode cX5_both0 8 = .ok (.bipush 110, 2) := by decide +kernel
theorem dX5_both0_10 : decode cX5_both0 10 = .ok (.bipush 100, 2) := by decide +kernel
theorem dX5_both0_12 : decode cX5_both0 12 = .ok (.iconst 0, 1) := by decide +kernel
theorem dX5_both0_13 : decode cX5_both0 13 = .ok (.iconst 0, 1) := by decide +kernel
theorem dX5_both0_14 : decode cX5_both0 14 = .ok (.iconst 0, 1) := by decide +kernel
theorem dX5_both0_15 : decode cX5_both0 15 = .ok (.iconst 0, 1) := by decide +kernel
theorem dX5_both0_16 : decode cX5_both0 16 = .ok (.iconst 0, 1) := by decide +kernel
theorem dX5_both0_17 : decode cX5_both0 17 = .ok (.invokevirtual 182, 3) := by decide +kernel
theorem dX5_both0_20 : decode cX5_both0 20 = .ok (.ifCond .eq 29, 3) := by decide +kernel
theorem dX5_both0_23 : decode cX5_both0 23 = .ok (.aload_n 0, 1) := by decide +kernel
theorem dX5_both0_24 : decode cX5_both0 24 = .ok (.invokevirtual 179, 3) := by decide +kernel
theorem dX5_both0_27 : decode cX5_both0 27 = .ok (.aload_n 0, 1) := by decide +kernel
theorem dX5_both0_28 : decode cX5_both0 28 = .ok (.invokevirtual 318, 3) := by decide +kernel
theorem dX5_both0_31 : decode cX5_both0 31 = .ok (.istore_n 2, 1) := by decide +kernel
theorem dX5_both0_32 : decode cX5_both0 32 = .ok (.iload_n 1, 1) := by decide +kernel
theorem dX5_both0_33 : decode cX5_both0 33 = .ok (.ifCond .eq 11, 3) := by decide +kernel
theorem dX5_both0_36 : decode cX5_both0 36 = .ok (.iload_n 2, 1) := by decide +kernel
theorem dX5_both0_37 : decode cX5_both0 37 = .ok (.ifCond .eq 7, 3) := by decide +kernel
theorem dX5_both0_40 : decode cX5_both0 40 = .ok (.iconst 1, 1) := by decide +kernel
theorem dX5_both0_41 : decode cX5_both0 41 = .ok (.goto 4, 3) := by decide +kernel
theorem dX5_both0_44 : decode cX5_both0 44 = .ok (.iconst 0, 1) := by decide +kernel
theorem dX5_both0_45 : decode cX5_both0 45 = .ok (.istore_n 1, 1) := by decide +kernel
theorem dX5_both0_46 : decode cX5_both0 46 = .ok (.goto (-41), 3) := by decide +kernel
theorem dX5_both0_49 : decode cX5_both0 49 = .ok (.iload_n 1, 1) := by decide +kernel
theorem dX5_both0_50 : decode cX5_both0 50 = .ok (.ireturn, 1) := by decide +kernel
theorem dX5_either0_0 : decode cX5_either0 0 = .ok (.aload_n 0, 1) := by decide +kernel
theorem dX5_either0_1 : decode cX5_either0 1 = .ok (.invokevirtual 321, 3) := by decide +kernel
theorem dX5_either0_4 : decode cX5_either0 4 = .ok (.istore_n 1, 1) := by decide +kernel
theorem dX5_either0_5 : decode cX5_either0 5 = .ok (.aload_n 0, 1) := by decide +kernel
theorem dX5_either0_6 : decode cX5_either0 6 = .ok (.bipush 111, 2) := by decide +kernel
theorem dX5_either0_8 : decode cX5_either0 8 = .ok (.bipush 114, 2) := by decide +kernel
theorem dX5_either0_10 : decode cX5_either0 10 = .ok (.iconst 0, 1) := by decide +kernel
theorem dX5_either0_11 : decode cX5_either0 11 = .ok (.iconst 0, 1) := by decide +kernel
theorem dX5_either0_12 : decode cX5_either0 12 = .ok (.iconst 0, 1) := by decide +kernel
theorem dX5_either0_13 : decode cX5_either0 13 = .ok (.iconst 0, 1) := by decide +kernel
theorem dX5_either0_14 : decode cX5_either0 14 = .ok (.iconst 0, 1) := by decide +kernel
theorem dX5_either0_15 : decode cX5_either0 15 = .ok (.iconst 0, 1) := by decide +kernel
theorem dX5_either0_16 : decode cX5_either0 16 = .ok (.invokevirtual 182, 3) := by decide +kernel
theorem dX5_either0_19 : decode cX5_either0 19 = .ok (.ifCond .eq 29, 3) := by decide +kernel
theorem dX5_either0_22 : decode cX5_either0 22 = .ok (.aload_n 0, 1) := by decide +kernel
theorem dX5_either0_23 : decode cX5_either0 23 = .ok (.invokevirtual 179, 3) := by decide +kernel
theorem dX5_either0_26 : decode cX5_either0 26 = .ok (.aload_n 0, 1) := by decide +kernel
theorem dX5_either0_27 : decode cX5_either0 27 = .ok (.invokevirtual 321, 3) := by decide +kernel
theorem dX5_either0_30 : decode cX5_either0 30 = .ok (.istore_n 2, 1) := by decide +kernel
theorem dX5_either0_31 : decode cX5_either0 31 = .ok (.iload_n 1, 1) := by decide +kernel
theorem dX5_either0_32 : decode cX5_either0 32 = .ok (.ifCond .ne 7, 3) := by decide +kernel
theorem dX5_either0_35 : decode cX5_either0 35 = .ok (.iload_n 2, 1) := by decide +kernel
theorem dX5_either0_36 : decode cX5_either0 36 = .ok (.ifCond .eq 7, 3) := by decide +kernel
theorem dX5_either0_39 : decode cX5_either0 39 = .ok (.iconst 1, 1) := by decide +kernel
theorem dX5_either0_40 : decode cX5_either0 40 = .ok (.goto 4, 3) := by decide +kernel
theorem dX5_either0_43 : decode cX5_either0 43 = .ok (.iconst 0, 1) := by decide +kernel
theorem dX5_either0_44 : decode cX5_either0 44 = .ok (.istore_n 1, 1) := by decide +kernel
theorem dX5_either0_45 : decode cX5_either0 45 = .ok (.goto (-40), 3) := by decide +kernel
theorem dX5_either0_48 : decode cX5_either0 48 = .ok (.iload_n 1, 1) := by decide +kernel
theorem dX5_either0_49 : decode cX5_either0 49 = .ok (.ireturn, 1) := by decide +kernel
theorem dX5_part_0 : decode cX5_part 0 = .ok (.iload_n 1, 1) := by decide +kernel
theorem dX5_part_1 : decode cX5_part 1 = .ok (.ifCond .ne 7, 3) := by decide +kernel
theorem dX5_part_4 : decode cX5_part 4 = .ok (.aload_n 0, 1) := by decide +kernel
theorem dX5_part_5 : decode cX5_part 5 = .ok (.invokevirtual 176, 3) := by decide +kernel
theorem dX5_part_8 : decode cX5_part 8 = .ok (.aload_n 0, 1) := by decide +kernel
theorem dX5_part_9 : decode cX5_part 9 = .ok (.getfield 163, 3) := by decide +kernel
theorem dX5_part_12 : decode cX5_part 12 = .ok (.ifCond .ne 7, 3) := by decide +kernel
theorem dX5_part_15 : decode cX5_part 15 = .ok (.aload_n 0, 1) := by decide +kernel
theorem dX5_part_16 : decode cX5_part 16 = .ok (.invokevirtual 179, 3) := by decide +kernel
theorem dX5_part_19 : decode cX5_part 19 = .ok (.aload_n 0, 1) := by decide +kernel
theorem dX5_part_20 : decode cX5_part 20 = .ok (.getfield 163, 3) := by decide +kernel
theorem dX5_part_23 : decode cX5_part 23 = .ok (.ifCond .eq 7, 3) := by decide +kernel
theorem dX5_part_26 : decode cX5_part 26 = .ok (.iconst 0, 1) := by decide +kernel
theorem dX5_part_27 : decode cX5_part 27 = .ok (.goto 7, 3) := by decide +kernel
theorem dX5_part_30 : decode cX5_part 30 = .ok (.aload_n 0, 1) := by decide +kernel
theorem dX5_part_31 : decode cX5_part 31 = .ok (.invokevirtual 324, 3) := by decide +kernel
theorem dX5_part_34 : decode cX5_part 34 = .ok (.istore_n 2, 1) := by decide +kernel
theorem dX5_part_35 : decode cX5_part 35 = .ok (.aload_n 0, 1) := by decide +kernel
theorem dX5_part_36 : decode cX5_part 36 = .ok (.bipush 59, 2) := by decide +kernel
theorem dX5_part_38 : decode cX5_part 38 = .ok (.invokevirtual 204, 3) := by decide +kernel
theorem dX5_part_41 : decode cX5_part 41 = .ok (.ifCond .ne 7, 3) := by decide +kernel
theorem dX5_part_44 : decode cX5_part 44 = .ok (.aload_n 0, 1) := by decide +kernel
theorem dX5_part_45 : decode cX5_part 45 = .ok (.invokevirtual 176, 3) := by decide +kernel
theorem dX5_part_48 : decode cX5_part 48 = .ok (.aload_n 0, 1) := by decide +kernel
theorem dX5_part_49 : decode cX5_part 49 = .ok (.getfield 163, 3) := by decide +kernel
theorem dX5_part_52 : decode cX5_part 52 = .ok (.ifCond .ne 7, 3) := by decide +kernel
theorem dX5_part_55 : decode cX5_part 55 = .ok (.aload_n 0, 1) := by decide +kernel
theorem dX5_part_56 : decode cX5_part 56 = .ok (.invokevirtual 179, 3) := by decide +kernel
theorem dX5_part_59 : decode cX5_part 59 = .ok (.iload_n 2, 1) := by decide +kernel
theorem dX5_part_60 : decode cX5_part 60 = .ok (.ireturn, 1) := by decide +kernel
theorem dX5_read_0 : decode cX5_read 0 = .ok (.aload_n 0, 1) := by decide +kernel
theorem dX5_read_1 : decode cX5_read 1 = .ok (.sipush 160, 3) := by decide +kernel
theorem dX5_read_4 : decode cX5_read 4 = .ok (.iload_n 1, 1) := by decide +kernel
theorem dX5_read_5 : decode cX5_read 5 = .ok (.imul, 1) := by decide +kernel
theorem dX5_read_6 : decode cX5_read 6 = .ok (.putfield 136, 3) := by decide +kernel
theorem dX5_read_9 : decode cX5_read 9 = .ok (.aload_n 0, 1) := by decide +kernel
theorem dX5_read_10 : decode cX5_read 10 = .ok (.aload_n 0, 1) := by decide +kernel
theorem dX5_read_11 : decode cX5_read 11 = .ok (.getfield 17, 3) := by decide +kernel
theorem dX5_read_14 : decode cX5_read 14 = .ok (.iload_n 1, 1) := by decide +kernel
theorem dX5_read_15 : decode cX5_read 15 = .ok (.iaload, 1) := by decide +kernel
theorem dX5_read_16 : decode cX5_read 16 = .ok (.putfield 133, 3) := by decide +kernel
theorem dX5_read_19 : decode cX5_read 19 = .ok (.aload_n 0, 1) := by decide +kernel
theorem dX5_read_20 : decode cX5_read 20 = .ok (.iconst 0, 1) := by decide +kernel
theorem dX5_read_21 : decode cX5_read 21 = .ok (.putfield 139, 3) := by decide +kernel
theorem dX5_read_24 : decode cX5_read 24 = .ok (.aload_n 0, 1) := by decide +kernel
theorem dX5_read_25 : decode cX5_read 25 = .ok (.iconst 0, 1) := by decide +kernel
theorem dX5_read_26 : decode cX5_read 26 = .ok (.putfield 173, 3) := by decide +kernel
theorem dX5_read_29 : decode cX5_read 29 = .ok (.aload_n 0, 1) := by decide +kernel
theorem dX5_read_30 : decode cX5_read 30 = .ok (.iconst 0, 1) := by decide +kernel
theorem dX5_read_31 : decode cX5_read 31 = .ok (.putfield 163, 3) := by decide +kernel
theorem dX5_read_34 : decode cX5_read 34 = .ok (.aload_n 0, 1) := by decide +kernel
theorem dX5_read_35 : decode cX5_read 35 = .ok (.invokevirtual 179, 3) := by decide +kernel
theorem dX5_read_38 : decode cX5_read 38 = .ok (.aload_n 0, 1) := by decide +kernel
theorem dX5_read_39 : decode cX5_read 39 = .ok (.aload_n 0, 1) := by decide +kernel
theorem dX5_read_40 : decode cX5_read 40 = .ok (.bipush 114, 2) := by decide +kernel
theorem dX5_read_42 : decode cX5_read 42 = .ok (.bipush 97, 2) := by decide +kernel
theorem dX5_read_44 : decode cX5_read 44 = .ok (.bipush 105, 2) := by decide +kernel
theorem dX5_read_46 : decode cX5_read 46 = .ok (.bipush 110, 2) := by decide +kernel
theorem dX5_read_48 : decode cX5_read 48 = .ok (.bipush 115, 2) := by decide +kernel
theorem dX5_read_50 : decode cX5_read 50 = .ok (.iconst 0, 1) := by decide +kernel
theorem dX5_read_51 : decode cX5_read 51 = .ok (.iconst 0, 1) := by decide +kernel
theorem dX5_read_52 : decode cX5_read 52 = .ok (.iconst 0, 1) := by decide +kernel
theorem dX5_read_53 : decode cX5_read 53 = .ok (.invokevirtual 182, 3) := by decide +kernel
theorem dX5_read_56 : decode cX5_read 56 = .ok (.invokevirtual 327, 3) := by decide +kernel
theorem dX5_read_59 : decode cX5_read 59 = .ok (.istore_n 3, 1) := by decide +kernel
theorem dX5_read_60 : decode cX5_read 60 = .ok (.aload_n 0, 1) := by decide +kernel
theorem dX5_read_61 : decode cX5_read 61 = .ok (.getfield 163, 3) := by decide +kernel
theorem dX5_read_64 : decode cX5_read 64 = .ok (.ifCond .eq 7, 3) := by decide +kernel
theorem dX5_read_67 : decode cX5_read 67 = .ok (.iconst 0, 1) := by decide +kernel
theorem dX5_read_68 : decode cX5_read 68 = .ok (.goto 26, 3) := by decide +kernel
theorem dX5_read_71 : decode cX5_read 71 = .ok (.aload_n 0, 1) := by decide +kernel
theorem dX5_read_72 : decode cX5_read 72 = .ok (.aload_n 0, 1) := by decide +kernel
theorem dX5_read_73 : decode cX5_read 73 = .ok (.bipush 115, 2) := by decide +kernel
theorem dX5_read_75 : decode cX5_read 75 = .ok (.bipush 104, 2) := by decide +kernel
theorem dX5_read_77 : decode cX5_read 77 = .ok (.bipush 114, 2) := by decide +kernel
theorem dX5_read_79 : decode cX5_read 79 = .ok (.bipush 105, 2) := by decide +kernel
theorem dX5_read_81 : decode cX5_read 81 = .ok (.bipush 110, 2) := by decide +kernel
theorem dX5_read_83 : decode cX5_read 83 = .ok (.bipush 107, 2) := by decide +kernel
theorem dX5_read_85 : decode cX5_read 85 = .ok (.bipush 115, 2) := by decide +kernel
theorem dX5_read_87 : decode cX5_read 87 = .ok (.iconst 0, 1) := by decide +kernel
theorem dX5_read_88 : decode cX5_read 88 = .ok (.invokevirtual 182, 3) := by decide +kernel
theorem dX5_read_91 : decode cX5_read 91 = .ok (.invokevirtual 327, 3) := by decide +kernel
theorem dX5_read_94 : decode cX5_read 94 = .ok (.istore 4, 2) := by decide +kernel
theorem dX5_read_96 : decode cX5_read 96 = .ok (.aload_n 0, 1) := by decide +kernel
theorem dX5_read_97 : decode cX5_read 97 = .ok (.getfield 163, 3) := by decide +kernel
theorem dX5_read_100 : decode cX5_read 100 = .ok (.ifCond .eq 7, 3) := by decide +kernel
theorem dX5_read_103 : decode cX5_read 103 = .ok (.iconst 0, 1) := by decide +kernel
theorem dX5_read_104 : decode cX5_read 104 = .ok (.goto 24, 3) := by decide +kernel
theorem dX5_read_107 : decode cX5_read 107 = .ok (.aload_n 0, 1) := by decide +kernel
theorem dX5_read_108 : decode cX5_read 108 = .ok (.aload_n 0, 1) := by decide +kernel
theorem dX5_read_109 : decode cX5_read 109 = .ok (.bipush 99, 2) := by decide +kernel
theorem dX5_read_111 : decode cX5_read 111 = .ok (.bipush 97, 2) := by decide +kernel
theorem dX5_read_113 : decode cX5_read 113 = .ok (.bipush 108, 2) := by decide +kernel
theorem dX5_read_115 : decode cX5_read 115 = .ok (.bipush 108, 2) := by decide +kernel
theorem dX5_read_117 : decode cX5_read 117 = .ok (.bipush 115, 2) := by decide +kernel
theorem dX5_read_119 : decode cX5_read 119 = .ok (.iconst 0, 1) := by decide +kernel
theorem dX5_read_120 : decode cX5_read 120 = .ok (.iconst 0, 1) := by decide +kernel
theorem dX5_read_121 : decode cX5_read 121 = .ok (.iconst 0, 1) := by decide +kernel
theorem dX5_read_122 : decode cX5_read 122 = .ok (.invokevirtual 182, 3) := by decide +kernel
theorem dX5_read_125 : decode cX5_read 125 = .ok (.invokevirtual 327, 3) := by decide +kernel
theorem dX5_read_128 : decode cX5_read 128 = .ok (.istore 5, 2) := by decide +kernel
theorem dX5_read_130 : decode cX5_read 130 = .ok (.aload_n 0, 1) := by decide +kernel
theorem dX5_read_131 : decode cX5_read 131 = .ok (.getfield 163, 3) := by decide +kernel
theorem dX5_read_134 : decode cX5_read 134 = .ok (.ifCond .ne 14, 3) := by decide +kernel
theorem dX5_read_137 : decode cX5_read 137 = .ok (.aload_n 0, 1) := by decide +kernel
theorem dX5_read_138 : decode cX5_read 138 = .ok (.getfield 148, 3) := by decide +kernel
theorem dX5_read_141 : decode cX5_read 141 = .ok (.ifCond .eq 7, 3) := by decide +kernel
theorem dX5_read_144 : decode cX5_read 144 = .ok (.aload_n 0, 1) := by decide +kernel
theorem dX5_read_145 : decode cX5_read 145 = .ok (.invokevirtual 176, 3) := by decide +kernel
theorem dX5_read_148 : decode cX5_read 148 = .ok (.iload_n 2, 1) := by decide +kernel
theorem dX5_read_149 : decode cX5_read 149 = .ok (.ifCond .ne 7, 3) := by decide +kernel
theorem dX5_read_152 : decode cX5_read 152 = .ok (.iload_n 3, 1) := by decide +kernel
theorem dX5_read_153 : decode cX5_read 153 = .ok (.goto 15, 3) := by decide +kernel
theorem dX5_read_156 : decode cX5_read 156 = .ok (.iload_n 2, 1) := by decide +kernel
theorem dX5_read_157 : decode cX5_read 157 = .ok (.iconst 1, 1) := by decide +kernel
theorem dX5_read_158 : decode cX5_read 158 = .ok (.if_icmp .ne 8, 3) := by decide +kernel
theorem dX5_read_161 : decode cX5_read 161 = .ok (.iload 4, 2) := by decide +kernel
theorem dX5_read_163 : decode cX5_read 163 = .ok (.goto 5, 3) := by decide +kernel
theorem dX5_read_166 : decode cX5_read 166 = .ok (.iload 5, 2) := by decide +kernel
theorem dX5_read_168 : decode cX5_read 168 = .ok (.ireturn, 1) := by decide +kernel
theorem dX5_text_0 : decode cX5_text 0 = .ok (.aload_n 0, 1) := by decide +kernel
theorem dX5_text_1 : decode cX5_text 1 = .ok (.getfield 70, 3) := by decide +kernel
theorem dX5_text_4 : decode cX5_text 4 = .ok (.bipush 6, 2) := by decide +kernel
theorem dX5_text_6 : decode cX5_text 6 = .ok (.if_icmp .ne 6, 3) := by decide +kernel
theorem dX5_text_9 : decode cX5_text 9 = .ok (.bipush (-4), 2) := by decide +kernel
theorem dX5_text_11 : decode cX5_text 11 = .ok (.ireturn, 1) := by decide +kernel
theorem dX5_text_12 : decode cX5_text 12 = .ok (.iconst 0, 1) := by decide +kernel
theorem dX5_text_13 : decode cX5_text 13 = .ok (.istore_n 1, 1) := by decide +kernel
theorem dX5_text_14 : decode cX5_text 14 = .ok (.iload_n 1, 1) := by decide +kernel
theorem dX5_text_15 : decode cX5_text 15 = .ok (.aload_n 0, 1) := by decide +kernel
theorem dX5_text_16 : decode cX5_text 16 = .ok (.getfield 130, 3) := by decide +kernel
theorem dX5_text_19 : decode cX5_text 19 = .ok (.if_icmp .ge 30, 3) := by decide +kernel
theorem dX5_text_22 : decode cX5_text 22 = .ok (.aload_n 0, 1) := by decide +kernel
theorem dX5_text_23 : decode cX5_text 23 = .ok (.getfield 13, 3) := by decide +kernel
theorem dX5_text_26 : decode cX5_text 26 = .ok (.sipush 160, 3) := by decide +kernel
theorem dX5_text_29 : decode cX5_text 29 = .ok (.aload_n 0, 1) := by decide +kernel
theorem dX5_text_30 : decode cX5_text 30 = .ok (.getfield 70, 3) := by decide +kernel
theorem dX5_text_33 : decode cX5_text 33 = .ok (.imul, 1) := by decide +kernel
theorem dX5_text_34 : decode cX5_text 34 = .ok (.iload_n 1, 1) := by decide +kernel
theorem dX5_text_35 : decode cX5_text 35 = .ok (.iadd, 1) := by decide +kernel
theorem dX5_text_36 : decode cX5_text 36 = .ok (.aload_n 0, 1) := by decide +kernel
theorem dX5_text_37 : decode cX5_text 37 = .ok (.getfield 20, 3) := by decide +kernel
theorem dX5_text_40 : decode cX5_text 40 = .ok (.iload_n 1, 1) := by decide +kernel
theorem dX5_text_41 : decode cX5_text 41 = .ok (.iaload, 1) := by decide +kernel
theorem dX5_text_42 : decode cX5_text 42 = .ok (.iastore, 1) := by decide +kernel
theorem dX5_text_43 : decode cX5_text 43 = .ok (.iinc 1 1, 3) := by decide +kernel
theorem dX5_text_46 : decode cX5_text 46 = .ok (.goto (-32), 3) := by decide +kernel
theorem dX5_text_49 : decode cX5_text 49 = .ok (.aload_n 0, 1) := by decide +kernel
theorem dX5_text_50 : decode cX5_text 50 = .ok (.getfield 17, 3) := by decide +kernel
theorem dX5_text_53 : decode cX5_text 53 = .ok (.aload_n 0, 1) := by decide +kernel
theorem dX5_text_54 : decode cX5_text 54 = .ok (.getfield 70, 3) := by decide +kernel
theorem dX5_text_57 : decode cX5_text 57 = .ok (.aload_n 0, 1) := by decide +kernel
theorem dX5_text_58 : decode cX5_text 58 = .ok (.getfield 130, 3) := by decide +kernel
theorem dX5_text_61 : decode cX5_text 61 = .ok (.iastore, 1) := by decide +kernel
theorem dX5_text_62 : decode cX5_text 62 = .ok (.aload_n 0, 1) := by decide +kernel
theorem dX5_text_63 : decode cX5_text 63 = .ok (.iconst 0, 1) := by decide +kernel
theorem dX5_text_64 : decode cX5_text 64 = .ok (.putfield 130, 3) := by decide +kernel
theorem dX5_text_67 : decode cX5_text 67 = .ok (.aload_n 0, 1) := by decide +kernel
theorem dX5_text_68 : decode cX5_text 68 = .ok (.aload_n 0, 1) := by decide +kernel
theorem dX5_text_69 : decode cX5_text 69 = .ok (.getfield 70, 3) := by decide +kernel
theorem dX5_text_72 : decode cX5_text 72 = .ok (.iconst 0, 1) := by decide +kernel
theorem dX5_text_73 : decode cX5_text 73 = .ok (.invokevirtual 331, 3) := by decide +kernel
theorem dX5_text_76 : decode cX5_text 76 = .ok (.istore_n 1, 1) := by decide +kernel
theorem dX5_text_77 : decode cX5_text 77 = .ok (.aload_n 0, 1) := by decide +kernel
theorem dX5_text_78 : decode cX5_text 78 = .ok (.getfield 163, 3) := by decide +kernel
theorem dX5_text_81 : decode cX5_text 81 = .ok (.ifCond .eq 11, 3) := by decide +kernel
theorem dX5_text_84 : decode cX5_text 84 = .ok (.bipush (-100), 2) := by decide +kernel
theorem dX5_text_86 : decode cX5_text 86 = .ok (.aload_n 0, 1) := by decide +kernel
theorem dX5_text_87 : decode cX5_text 87 = .ok (.getfield 167, 3) := by decide +kernel
theorem dX5_text_90 : decode cX5_text 90 = .ok (.isub, 1) := by decide +kernel
theorem dX5_text_91 : decode cX5_text 91 = .ok (.ireturn, 1) := by decide +kernel
theorem dX5_text_92 : decode cX5_text 92 = .ok (.aload_n 0, 1) := by decide +kernel
theorem dX5_text_93 : decode cX5_text 93 = .ok (.dup, 1) := by decide +kernel
theorem dX5_text_94 : decode cX5_text 94 = .ok (.getfield 70, 3) := by decide +kernel
theorem dX5_text_97 : decode cX5_text 97 = .ok (.iconst 1, 1) := by decide +kernel
theorem dX5_text_98 : decode cX5_text 98 = .ok (.iadd, 1) := by decide +kernel
theorem dX5_text_99 : decode cX5_text 99 = .ok (.putfield 70, 3) := by decide +kernel
theorem dX5_text_102 : decode cX5_text 102 = .ok (.aload_n 0, 1) := by decide +kernel
theorem dX5_text_103 : decode cX5_text 103 = .ok (.getfield 70, 3) := by decide +kernel
theorem dX5_text_106 : decode cX5_text 106 = .ok (.iconst 1, 1) := by decide +kernel
theorem dX5_text_107 : decode cX5_text 107 = .ok (.isub, 1) := by decide +kernel
theorem dX5_text_108 : decode cX5_text 108 = .ok (.ireturn, 1) := by decide +kernel
end
section
theorem dX5_force_0 : decode cX5_force 0 = .ok (.iload_n 1, 1) := by decide +kernel
theorem dX5_force_1 : decode cX5_force 1 = .ok (.i2l, 1) := by decide +kernel
theorem dX5_force_2 : decode cX5_force 2 = .ok (.lconst 0, 1) := by decide +kernel
theorem dX5_force_3 : decode cX5_force 3 = .ok (.aload_n 0, 1) := by decide +kernel
theorem dX5_force_4 : decode cX5_force 4 = .ok (.getfield 70, 3) := by decide +kernel
theorem dX5_force_7 : decode cX5_force 7 = .ok (.iconst 1, 1) := by decide +kernel
theorem dX5_force_8 : decode cX5_force 8 = .ok (.isub, 1) := by decide +kernel
theorem dX5_force_9 : decode cX5_force 9 = .ok (.i2l, 1) := by decide +kernel
theorem dX5_force_10 : decode cX5_force 10 = .ok (.invokestatic 76, 3) := by decide +kernel
theorem dX5_force_13 : decode cX5_force 13 = .ok (.ifCond .ne 6, 3) := by decide +kernel
theorem dX5_force_16 : decode cX5_force 16 = .ok (.bipush (-2), 2) := by decide +kernel
theorem dX5_force_18 : decode cX5_force 18 = .ok (.ireturn, 1) := by decide +kernel
theorem dX5_force_19 : decode cX5_force 19 = .ok (.aload_n 0, 1) := by decide +kernel
theorem dX5_force_20 : decode cX5_force 20 = .ok (.getfield 110, 3) := by decide +kernel
theorem dX5_force_23 : decode cX5_force 23 = .ok (.istore_n 2, 1) := by decide +kernel
theorem dX5_force_24 : decode cX5_force 24 = .ok (.aload_n 0, 1) := by decide +kernel
theorem dX5_force_25 : decode cX5_force 25 = .ok (.iload_n 1, 1) := by decide +kernel
theorem dX5_force_26 : decode cX5_force 26 = .ok (.putfield 110, 3) := by decide +kernel
theorem dX5_force_29 : decode cX5_force 29 = .ok (.iload_n 2, 1) := by decide +kernel
theorem dX5_force_30 : decode cX5_force 30 = .ok (.ireturn, 1) := by decide +kernel
theorem dX5_says_0 : decode cX5_says 0 = .ok (.aload_n 0, 1) := by decide +kernel
theorem dX5_says_1 : decode cX5_says 1 = .ok (.aload_n 0, 1) := by decide +kernel
theorem dX5_says_2 : decode cX5_says 2 = .ok (.getfield 26, 3) := by decide +kernel
theorem dX5_says_5 : decode cX5_says 5 = .ok (.iconst 3, 1) := by decide +kernel
theorem dX5_says_6 : decode cX5_says 6 = .ok (.iload_n 2, 1) := by decide +kernel
theorem dX5_says_7 : decode cX5_says 7 = .ok (.imul, 1) := by decide +kernel
theorem dX5_says_8 : decode cX5_says 8 = .ok (.iaload, 1) := by decide +kernel
theorem dX5_says_9 : decode cX5_says 9 = .ok (.putfield 186, 3) := by decide +kernel
theorem dX5_says_12 : decode cX5_says 12 = .ok (.aload_n 0, 1) := by decide +kernel
theorem dX5_says_13 : decode cX5_says 13 = .ok (.aload_n 0, 1) := by decide +kernel
theorem dX5_says_14 : decode cX5_says 14 = .ok (.getfield 26, 3) := by decide +kernel
theorem dX5_says_17 : decode cX5_says 17 = .ok (.iconst 3, 1) := by decide +kernel
theorem dX5_says_18 : decode cX5_says 18 = .ok (.iload_n 2, 1) := by decide +kernel
theorem dX5_says_19 : decode cX5_says 19 = .ok (.imul, 1) := by decide +kernel
theorem dX5_says_20 : decode cX5_says 20 = .ok (.iconst 1, 1) := by decide +kernel
theorem dX5_says_21 : decode cX5_says 21 = .ok (.iadd, 1) := by decide +kernel
theorem dX5_says_22 : decode cX5_says 22 = .ok (.iaload, 1) := by decide +kernel
theorem dX5_says_23 : decode cX5_says 23 = .ok (.putfield 189, 3) := by decide +kernel
theorem dX5_says_26 : decode cX5_says 26 = .ok (.aload_n 0, 1) := by decide +kernel
theorem dX5_says_27 : decode cX5_says 27 = .ok (.aload_n 0, 1) := by decide +kernel
theorem dX5_says_28 : decode cX5_says 28 = .ok (.getfield 107, 3) := by decide +kernel
theorem dX5_says_31 : decode cX5_says 31 = .ok (.putfield 192, 3) := by decide +kernel
theorem dX5_says_34 : decode cX5_says 34 = .ok (.aload_n 0, 1) := by decide +kernel
theorem dX5_says_35 : decode cX5_says 35 = .ok (.iload_n 3, 1) := by decide +kernel
theorem dX5_says_36 : decode cX5_says 36 = .ok (.putfield 195, 3) := by decide +kernel
theorem dX5_says_39 : decode cX5_says 39 = .ok (.aload_n 0, 1) := by decide +kernel
theorem dX5_says_40 : decode cX5_says 40 = .ok (.aload_n 0, 1) := by decide +kernel
theorem dX5_says_41 : decode cX5_says 41 = .ok (.getfield 26, 3) := by decide +kernel
theorem dX5_says_44 : decode cX5_says 44 = .ok (.iconst 3, 1) := by decide +kernel
theorem dX5_says_45 : decode cX5_says 45 = .ok (.iload_n 2, 1) := by decide +kernel
theorem dX5_says_46 : decode cX5_says 46 = .ok (.imul, 1) := by decide +kernel
theorem dX5_says_47 : decode cX5_says 47 = .ok (.iconst 2, 1) := by decide +kernel
theorem dX5_says_48 : decode cX5_says 48 = .ok (.iadd, 1) := by decide +kernel
theorem dX5_says_49 : decode cX5_says 49 = .ok (.iaload, 1) := by decide +kernel
theorem dX5_says_50 : decode cX5_says 50 = .ok (.putfield 198, 3) := by decide +kernel
theorem dX5_says_53 : decode cX5_says 53 = .ok (.aload_n 0, 1) := by decide +kernel
theorem dX5_says_54 : decode cX5_says 54 = .ok (.iload_n 2, 1) := by decide +kernel
theorem dX5_says_55 : decode cX5_says 55 = .ok (.putfield 201, 3) := by decide +kernel
theorem dX5_says_58 : decode cX5_says 58 = .ok (.aload_n 0, 1) := by decide +kernel
theorem dX5_says_59 : decode cX5_says 59 = .ok (.aload_n 0, 1) := by decide +kernel
theorem dX5_says_60 : decode cX5_says 60 = .ok (.getfield 110, 3) := by decide +kernel
theorem dX5_says_63 : decode cX5_says 63 = .ok (.iload_n 1, 1) := by decide +kernel
theorem dX5_says_64 : decode cX5_says 64 = .ok (.invokevirtual 331, 3) := by decide +kernel
theorem dX5_says_67 : decode cX5_says 67 = .ok (.iconst 0, 1) := by decide +kernel
theorem dX5_says_68 : decode cX5_says 68 = .ok (.iload_n 1, 1) := by decide +kernel
theorem dX5_says_69 : decode cX5_says 69 = .ok (.iconst 1, 1) := by decide +kernel
theorem dX5_says_70 : decode cX5_says 70 = .ok (.if_icmp .ne 8, 3) := by decide +kernel
theorem dX5_says_73 : decode cX5_says 73 = .ok (.bipush 20, 2) := by decide +kernel
theorem dX5_says_75 : decode cX5_says 75 = .ok (.goto 5, 3) := by decide +kernel
theorem dX5_says_78 : decode cX5_says 78 = .ok (.bipush 99, 2) := by decide +kernel
theorem dX5_says_80 : decode cX5_says 80 = .ok (.invokestatic 334, 3) := by decide +kernel
theorem dX5_says_83 : decode cX5_says 83 = .ok (.ireturn, 1) := by decide +kernel
theorem dX5_standOn_0 : decode cX5_standOn 0 = .ok (.iconst 0, 1) := by decide +kernel
theorem dX5_standOn_1 : decode cX5_standOn 1 = .ok (.istore_n 2, 1) := by decide +kernel
theorem dX5_standOn_2 : decode cX5_standOn 2 = .ok (.iconst 0, 1) := by decide +kernel
theorem dX5_standOn_3 : decode cX5_standOn 3 = .ok (.istore_n 3, 1) := by decide +kernel
theorem dX5_standOn_4 : decode cX5_standOn 4 = .ok (.iload_n 3, 1) := by decide +kernel
theorem dX5_standOn_5 : decode cX5_standOn 5 = .ok (.aload_n 0, 1) := by decide +kernel
theorem dX5_standOn_6 : decode cX5_standOn 6 = .ok (.getfield 73, 3) := by decide +kernel
theorem dX5_standOn_9 : decode cX5_standOn 9 = .ok (.if_icmp .ge 31, 3) := by decide +kernel
theorem dX5_standOn_12 : decode cX5_standOn 12 = .ok (.iload_n 2, 1) := by decide +kernel
theorem dX5_standOn_13 : decode cX5_standOn 13 = .ok (.aload_n 0, 1) := by decide +kernel
theorem dX5_standOn_14 : decode cX5_standOn 14 = .ok (.getfield 32, 3) := by decide +kernel
theorem dX5_standOn_17 : decode cX5_standOn 17 = .ok (.iconst 3, 1) := by decide +kernel
theorem dX5_standOn_18 : decode cX5_standOn 18 = .ok (.iload_n 3, 1) := by decide +kernel
theorem dX5_standOn_19 : decode cX5_standOn 19 = .ok (.imul, 1) := by decide +kernel
theorem dX5_standOn_20 : decode cX5_standOn 20 = .ok (.iconst 1, 1) := by decide +kernel
theorem dX5_standOn_21 : decode cX5_standOn 21 = .ok (.iadd, 1) := by decide +kernel
theorem dX5_standOn_22 : decode cX5_standOn 22 = .ok (.iaload, 1) := by decide +kernel
theorem dX5_standOn_23 : decode cX5_standOn 23 = .ok (.iload_n 1, 1) := by decide +kernel
theorem dX5_standOn_24 : decode cX5_standOn 24 = .ok (.if_icmp .ne 7, 3) := by decide +kernel
theorem dX5_standOn_27 : decode cX5_standOn 27 = .ok (.iconst 1, 1) := by decide +kernel
theorem dX5_standOn_28 : decode cX5_standOn 28 = .ok (.goto 4, 3) := by decide +kernel
theorem dX5_standOn_31 : decode cX5_standOn 31 = .ok (.iconst 0, 1) := by decide +kernel
theorem dX5_standOn_32 : decode cX5_standOn 32 = .ok (.iadd, 1) := by decide +kernel
theorem dX5_standOn_33 : decode cX5_standOn 33 = .ok (.istore_n 2, 1) := by decide +kernel
theorem dX5_standOn_34 : decode cX5_standOn 34 = .ok (.iinc 3 1, 3) := by decide +kernel
theorem dX5_standOn_37 : decode cX5_standOn 37 = .ok (.goto (-33), 3) := by decide +kernel
theorem dX5_standOn_40 : decode cX5_standOn 40 = .ok (.iload_n 2, 1) := by decide +kernel
theorem dX5_standOn_41 : decode cX5_standOn 41 = .ok (.ireturn, 1) := by decide +kernel
theorem dX5_asks_0 : decode cX5_asks 0 = .ok (.iload_n 1, 1) := by decide +kernel
theorem dX5_asks_1 : decode cX5_asks 1 = .ok (.i2l, 1) := by decide +kernel
theorem dX5_asks_2 : decode cX5_asks 2 = .ok (.lconst 0, 1) := by decide +kernel
theorem dX5_asks_3 : decode cX5_asks 3 = .ok (.lconst 1, 1) := by decide +kernel
theorem dX5_asks_4 : decode cX5_asks 4 = .ok (.invokestatic 76, 3) := by decide +kernel
theorem dX5_asks_7 : decode cX5_asks 7 = .ok (.ifCond .eq 24, 3) := by decide +kernel
theorem dX5_asks_10 : decode cX5_asks 10 = .ok (.iload_n 2, 1) := by decide +kernel
theorem dX5_asks_11 : decode cX5_asks 11 = .ok (.invokestatic 82, 3) := by decide +kernel
theorem dX5_asks_14 : decode cX5_asks 14 = .ok (.ifCond .eq 17, 3) := by decide +kernel
theorem dX5_asks_17 : decode cX5_asks 17 = .ok (.aload_n 0, 1) := by decide +kernel
theorem dX5_asks_18 : decode cX5_asks 18 = .ok (.iload_n 1, 1) := by decide +kernel
theorem dX5_asks_19 : decode cX5_asks 19 = .ok (.iload_n 2, 1) := by decide +kernel
theorem dX5_asks_20 : decode cX5_asks 20 = .ok (.aload_n 0, 1) := by decide +kernel
theorem dX5_asks_21 : decode cX5_asks 21 = .ok (.iload_n 2, 1) := by decide +kernel
theorem dX5_asks_22 : decode cX5_asks 22 = .ok (.invokevirtual 338, 3) := by decide +kernel
theorem dX5_asks_25 : decode cX5_asks 25 = .ok (.invokevirtual 341, 3) := by decide +kernel
theorem dX5_asks_28 : decode cX5_asks 28 = .ok (.goto 5, 3) := by decide +kernel
theorem dX5_asks_31 : decode cX5_asks 31 = .ok (.bipush (-2), 2) := by decide +kernel
theorem dX5_asks_33 : decode cX5_asks 33 = .ok (.ireturn, 1) := by decide +kernel
theorem dX5_drawsOf_0 : decode cX5_drawsOf 0 = .ok (.aload_n 0, 1) := by decide +kernel
theorem dX5_drawsOf_1 : decode cX5_drawsOf 1 = .ok (.getfield 29, 3) := by decide +kernel
theorem dX5_drawsOf_4 : decode cX5_drawsOf 4 = .ok (.iload_n 1, 1) := by decide +kernel
theorem dX5_drawsOf_5 : decode cX5_drawsOf 5 = .ok (.iaload, 1) := by decide +kernel
theorem dX5_drawsOf_6 : decode cX5_drawsOf 6 = .ok (.istore_n 3, 1) := by decide +kernel
theorem dX5_drawsOf_7 : decode cX5_drawsOf 7 = .ok (.aload_n 0, 1) := by decide +kernel
theorem dX5_drawsOf_8 : decode cX5_drawsOf 8 = .ok (.getfield 32, 3) := by decide +kernel
theorem dX5_drawsOf_11 : decode cX5_drawsOf 11 = .ok (.iconst 3, 1) := by decide +kernel
theorem dX5_drawsOf_12 : decode cX5_drawsOf 12 = .ok (.iload_n 1, 1) := by decide +kernel
theorem dX5_drawsOf_13 : decode cX5_drawsOf 13 = .ok (.imul, 1) := by decide +kernel
theorem dX5_drawsOf_14 : decode cX5_drawsOf 14 = .ok (.iaload, 1) := by decide +kernel
theorem dX5_drawsOf_15 : decode cX5_drawsOf 15 = .ok (.istore 4, 2) := by decide +kernel
theorem dX5_drawsOf_17 : decode cX5_drawsOf 17 = .ok (.aload_n 0, 1) := by decide +kernel
theorem dX5_drawsOf_18 : decode cX5_drawsOf 18 = .ok (.getfield 26, 3) := by decide +kernel
theorem dX5_drawsOf_21 : decode cX5_drawsOf 21 = .ok (.iconst 3, 1) := by decide +kernel
theorem dX5_drawsOf_22 : decode cX5_drawsOf 22 = .ok (.iload_n 2, 1) := by decide +kernel
theorem dX5_drawsOf_23 : decode cX5_drawsOf 23 = .ok (.imul, 1) := by decide +kernel
theorem dX5_drawsOf_24 : decode cX5_drawsOf 24 = .ok (.iconst 2, 1) := by decide +kernel
theorem dX5_drawsOf_25 : decode cX5_drawsOf 25 = .ok (.iadd, 1) := by decide +kernel
theorem dX5_drawsOf_26 : decode cX5_drawsOf 26 = .ok (.iaload, 1) := by decide +kernel
theorem dX5_drawsOf_27 : decode cX5_drawsOf 27 = .ok (.istore 5, 2) := by decide +kernel
theorem dX5_drawsOf_29 : decode cX5_drawsOf 29 = .ok (.iload_n 3, 1) := by decide +kernel
theorem dX5_drawsOf_30 : decode cX5_drawsOf 30 = .ok (.iconst 5, 1) := by decide +kernel
theorem dX5_drawsOf_31 : decode cX5_drawsOf 31 = .ok (.if_icmp .eq 18, 3) := by decide +kernel
theorem dX5_drawsOf_34 : decode cX5_drawsOf 34 = .ok (.iload_n 3, 1) := by decide +kernel
theorem dX5_drawsOf_35 : decode cX5_drawsOf 35 = .ok (.iconst 3, 1) := by decide +kernel
theorem dX5_drawsOf_36 : decode cX5_drawsOf 36 = .ok (.if_icmp .ne 15, 3) := by decide +kernel
theorem dX5_drawsOf_39 : decode cX5_drawsOf 39 = .ok (.aload_n 0, 1) := by decide +kernel
theorem dX5_drawsOf_40 : decode cX5_drawsOf 40 = .ok (.getfield 107, 3) := by decide +kernel
theorem dX5_drawsOf_43 : decode cX5_drawsOf 43 = .ok (.iconst 3, 1) := by decide +kernel
theorem dX5_drawsOf_44 : decode cX5_drawsOf 44 = .ok (.irem, 1) := by decide +kernel
theorem dX5_drawsOf_45 : decode cX5_drawsOf 45 = .ok (.iconst 2, 1) := by decide +kernel
theorem dX5_drawsOf_46 : decode cX5_drawsOf 46 = .ok (.if_icmp .ne 5, 3) := by decide +kernel
theorem dX5_drawsOf_49 : decode cX5_drawsOf 49 = .ok (.iconst 0, 1) := by decide +kernel
theorem dX5_drawsOf_50 : decode cX5_drawsOf 50 = .ok (.ireturn, 1) := by decide +kernel
theorem dX5_drawsOf_51 : decode cX5_drawsOf 51 = .ok (.iload_n 3, 1) := by decide +kernel
theorem dX5_drawsOf_52 : decode cX5_drawsOf 52 = .ok (.iconst 2, 1) := by decide +kernel
theorem dX5_drawsOf_53 : decode cX5_drawsOf 53 = .ok (.if_icmp .ne 10, 3) := by decide +kernel
theorem dX5_drawsOf_56 : decode cX5_drawsOf 56 = .ok (.iload 4, 2) := by decide +kernel
theorem dX5_drawsOf_58 : decode cX5_drawsOf 58 = .ok (.iconst 5, 1) := by decide +kernel
theorem dX5_drawsOf_59 : decode cX5_drawsOf 59 = .ok (.iadd, 1) := by decide +kernel
theorem dX5_drawsOf_60 : decode cX5_drawsOf 60 = .ok (.goto 48, 3) := by decide +kernel
theorem dX5_drawsOf_63 : decode cX5_drawsOf 63 = .ok (.iload_n 3, 1) := by decide +kernel
theorem dX5_drawsOf_64 : decode cX5_drawsOf 64 = .ok (.iconst 4, 1) := by decide +kernel
theorem dX5_drawsOf_65 : decode cX5_drawsOf 65 = .ok (.if_icmp .ne 12, 3) := by decide +kernel
theorem dX5_drawsOf_68 : decode cX5_drawsOf 68 = .ok (.iconst 2, 1) := by decide +kernel
theorem dX5_drawsOf_69 : decode cX5_drawsOf 69 = .ok (.iload 4, 2) := by decide +kernel
theorem dX5_drawsOf_71 : decode cX5_drawsOf 71 = .ok (.iconst 5, 1) := by decide +kernel
theorem dX5_drawsOf_72 : decode cX5_drawsOf 72 = .ok (.iadd, 1) := by decide +kernel
theorem dX5_drawsOf_73 : decode cX5_drawsOf 73 = .ok (.imul, 1) := by decide +kernel
theorem dX5_drawsOf_74 : decode cX5_drawsOf 74 = .ok (.goto 34, 3) := by decide +kernel
theorem dX5_drawsOf_77 : decode cX5_drawsOf 77 = .ok (.iload_n 3, 1) := by decide +kernel
theorem dX5_drawsOf_78 : decode cX5_drawsOf 78 = .ok (.ifCond .eq 28, 3) := by decide +kernel
theorem dX5_drawsOf_81 : decode cX5_drawsOf 81 = .ok (.aload_n 0, 1) := by decide +kernel
theorem dX5_drawsOf_82 : decode cX5_drawsOf 82 = .ok (.getfield 26, 3) := by decide +kernel
theorem dX5_drawsOf_85 : decode cX5_drawsOf 85 = .ok (.iconst 3, 1) := by decide +kernel
theorem dX5_drawsOf_86 : decode cX5_drawsOf 86 = .ok (.iload_n 2, 1) := by decide +kernel
theorem dX5_drawsOf_87 : decode cX5_drawsOf 87 = .ok (.imul, 1) := by decide +kernel
theorem dX5_drawsOf_88 : decode cX5_drawsOf 88 = .ok (.iaload, 1) := by decide +kernel
theorem dX5_drawsOf_89 : decode cX5_drawsOf 89 = .ok (.aload_n 0, 1) := by decide +kernel
theorem dX5_drawsOf_90 : decode cX5_drawsOf 90 = .ok (.getfield 23, 3) := by decide +kernel
theorem dX5_drawsOf_93 : decode cX5_drawsOf 93 = .ok (.if_icmp .le 13, 3) := by decide +kernel
theorem dX5_drawsOf_96 : decode cX5_drawsOf 96 = .ok (.iload 4, 2) := by decide +kernel
theorem dX5_drawsOf_98 : decode cX5_drawsOf 98 = .ok (.iload 5, 2) := by decide +kernel
theorem dX5_drawsOf_100 : decode cX5_drawsOf 100 = .ok (.iconst 2, 1) := by decide +kernel
theorem dX5_drawsOf_101 : decode cX5_drawsOf 101 = .ok (.idiv, 1) := by decide +kernel
theorem dX5_drawsOf_102 : decode cX5_drawsOf 102 = .ok (.iadd, 1) := by decide +kernel
theorem dX5_drawsOf_103 : decode cX5_drawsOf 103 = .ok (.goto 5, 3) := by decide +kernel
theorem dX5_drawsOf_106 : decode cX5_drawsOf 106 = .ok (.iload 4, 2) := by decide +kernel
theorem dX5_drawsOf_108 : decode cX5_drawsOf 108 = .ok (.istore 6, 2) := by decide +kernel
theorem dX5_drawsOf_110 : decode cX5_drawsOf 110 = .ok (.iload 6, 2) := by decide +kernel
theorem dX5_drawsOf_112 : decode cX5_drawsOf 112 = .ok (.iload 5, 2) := by decide +kernel
theorem dX5_drawsOf_114 : decode cX5_drawsOf 114 = .ok (.if_icmp .ge 8, 3) := by decide +kernel
theorem dX5_drawsOf_117 : decode cX5_drawsOf 117 = .ok (.iload 6, 2) := by decide +kernel
theorem dX5_drawsOf_119 : decode cX5_drawsOf 119 = .ok (.goto 5, 3) := by decide +kernel
theorem dX5_drawsOf_122 : decode cX5_drawsOf 122 = .ok (.iload 5, 2) := by decide +kernel
theorem dX5_drawsOf_124 : decode cX5_drawsOf 124 = .ok (.ireturn, 1) := by decide +kernel
theorem dX5_costsOf_0 : decode cX5_costsOf 0 = .ok (.aload_n 0, 1) := by decide +kernel
theorem dX5_costsOf_1 : decode cX5_costsOf 1 = .ok (.getfield 29, 3) := by decide +kernel
theorem dX5_costsOf_4 : decode cX5_costsOf 4 = .ok (.iload_n 1, 1) := by decide +kernel
theorem dX5_costsOf_5 : decode cX5_costsOf 5 = .ok (.iaload, 1) := by decide +kernel
theorem dX5_costsOf_6 : decode cX5_costsOf 6 = .ok (.istore_n 2, 1) := by decide +kernel
theorem dX5_costsOf_7 : decode cX5_costsOf 7 = .ok (.aload_n 0, 1) := by decide +kernel
theorem dX5_costsOf_8 : decode cX5_costsOf 8 = .ok (.getfield 32, 3) := by decide +kernel
theorem dX5_costsOf_11 : decode cX5_costsOf 11 = .ok (.iconst 3, 1) := by decide +kernel
theorem dX5_costsOf_12 : decode cX5_costsOf 12 = .ok (.iload_n 1, 1) := by decide +kernel
theorem dX5_costsOf_13 : decode cX5_costsOf 13 = .ok (.imul, 1) := by decide +kernel
theorem dX5_costsOf_14 : decode cX5_costsOf 14 = .ok (.iaload, 1) := by decide +kernel
theorem dX5_costsOf_15 : decode cX5_costsOf 15 = .ok (.istore_n 3, 1) := by decide +kernel
theorem dX5_costsOf_16 : decode cX5_costsOf 16 = .ok (.aload_n 0, 1) := by decide +kernel
theorem dX5_costsOf_17 : decode cX5_costsOf 17 = .ok (.iconst 2, 1) := by decide +kernel
theorem dX5_costsOf_18 : decode cX5_costsOf 18 = .ok (.aload_n 0, 1) := by decide +kernel
theorem dX5_costsOf_19 : decode cX5_costsOf 19 = .ok (.getfield 32, 3) := by decide +kernel
theorem dX5_costsOf_22 : decode cX5_costsOf 22 = .ok (.iconst 3, 1) := by decide +kernel
theorem dX5_costsOf_23 : decode cX5_costsOf 23 = .ok (.iload_n 1, 1) := by decide +kernel
theorem dX5_costsOf_24 : decode cX5_costsOf 24 = .ok (.imul, 1) := by decide +kernel
theorem dX5_costsOf_25 : decode cX5_costsOf 25 = .ok (.iconst 1, 1) := by decide +kernel
theorem dX5_costsOf_26 : decode cX5_costsOf 26 = .ok (.iadd, 1) := by decide +kernel
theorem dX5_costsOf_27 : decode cX5_costsOf 27 = .ok (.iaload, 1) := by decide +kernel
theorem dX5_costsOf_28 : decode cX5_costsOf 28 = .ok (.iload_n 3, 1) := by decide +kernel
theorem dX5_costsOf_29 : decode cX5_costsOf 29 = .ok (.invokevirtual 341, 3) := by decide +kernel
theorem dX5_costsOf_32 : decode cX5_costsOf 32 = .ok (.istore 4, 2) := by decide +kernel
theorem dX5_costsOf_34 : decode cX5_costsOf 34 = .ok (.iload_n 2, 1) := by decide +kernel
theorem dX5_costsOf_35 : decode cX5_costsOf 35 = .ok (.iconst 1, 1) := by decide +kernel
theorem dX5_costsOf_36 : decode cX5_costsOf 36 = .ok (.if_icmp .ne 10, 3) := by decide +kernel
theorem dX5_costsOf_39 : decode cX5_costsOf 39 = .ok (.iload 4, 2) := by decide +kernel
theorem dX5_costsOf_41 : decode cX5_costsOf 41 = .ok (.iconst 2, 1) := by decide +kernel
theorem dX5_costsOf_42 : decode cX5_costsOf 42 = .ok (.idiv, 1) := by decide +kernel
theorem dX5_costsOf_43 : decode cX5_costsOf 43 = .ok (.goto 45, 3) := by decide +kernel
theorem dX5_costsOf_46 : decode cX5_costsOf 46 = .ok (.iload_n 2, 1) := by decide +kernel
theorem dX5_costsOf_47 : decode cX5_costsOf 47 = .ok (.iconst 3, 1) := by decide +kernel
theorem dX5_costsOf_48 : decode cX5_costsOf 48 = .ok (.if_icmp .ne 12, 3) := by decide +kernel
theorem dX5_costsOf_51 : decode cX5_costsOf 51 = .ok (.iload 4, 2) := by decide +kernel
theorem dX5_costsOf_53 : decode cX5_costsOf 53 = .ok (.iconst 2, 1) := by decide +kernel
theorem dX5_costsOf_54 : decode cX5_costsOf 54 = .ok (.idiv, 1) := by decide +kernel
theorem dX5_costsOf_55 : decode cX5_costsOf 55 = .ok (.iload_n 3, 1) := by decide +kernel
theorem dX5_costsOf_56 : decode cX5_costsOf 56 = .ok (.iadd, 1) := by decide +kernel
theorem dX5_costsOf_57 : decode cX5_costsOf 57 = .ok (.goto 31, 3) := by decide +kernel
theorem dX5_costsOf_60 : decode cX5_costsOf 60 = .ok (.iload_n 2, 1) := by decide +kernel
theorem dX5_costsOf_61 : decode cX5_costsOf 61 = .ok (.iconst 2, 1) := by decide +kernel
theorem dX5_costsOf_62 : decode cX5_costsOf 62 = .ok (.if_icmp .ne 10, 3) := by decide +kernel
theorem dX5_costsOf_65 : decode cX5_costsOf 65 = .ok (.iconst 2, 1) := by decide +kernel
theorem dX5_costsOf_66 : decode cX5_costsOf 66 = .ok (.iload 4, 2) := by decide +kernel
theorem dX5_costsOf_68 : decode cX5_costsOf 68 = .ok (.imul, 1) := by decide +kernel
theorem dX5_costsOf_69 : decode cX5_costsOf 69 = .ok (.goto 19, 3) := by decide +kernel
theorem dX5_costsOf_72 : decode cX5_costsOf 72 = .ok (.iload_n 2, 1) := by decide +kernel
theorem dX5_costsOf_73 : decode cX5_costsOf 73 = .ok (.iconst 4, 1) := by decide +kernel
theorem dX5_costsOf_74 : decode cX5_costsOf 74 = .ok (.if_icmp .ne 12, 3) := by decide +kernel
theorem dX5_costsOf_77 : decode cX5_costsOf 77 = .ok (.iconst 2, 1) := by decide +kernel
theorem dX5_costsOf_78 : decode cX5_costsOf 78 = .ok (.iload 4, 2) := by decide +kernel
theorem dX5_costsOf_80 : decode cX5_costsOf 80 = .ok (.imul, 1) := by decide +kernel
theorem dX5_costsOf_81 : decode cX5_costsOf 81 = .ok (.iload_n 3, 1) := by decide +kernel
theorem dX5_costsOf_82 : decode cX5_costsOf 82 = .ok (.iadd, 1) := by decide +kernel
theorem dX5_costsOf_83 : decode cX5_costsOf 83 = .ok (.goto 5, 3) := by decide +kernel
theorem dX5_costsOf_86 : decode cX5_costsOf 86 = .ok (.iload 4, 2) := by decide +kernel
theorem dX5_costsOf_88 : decode cX5_costsOf 88 = .ok (.ireturn, 1) := by decide +kernel
theorem dX5_isHeld_0 : decode cX5_isHeld 0 = .ok (.iconst 0, 1) := by decide +kernel
theorem dX5_isHeld_1 : decode cX5_isHeld 1 = .ok (.istore_n 2, 1) := by decide +kernel
theorem dX5_isHeld_2 : decode cX5_isHeld 2 = .ok (.iload_n 2, 1) := by decide +kernel
theorem dX5_isHeld_3 : decode cX5_isHeld 3 = .ok (.aload_n 0, 1) := by decide +kernel
theorem dX5_isHeld_4 : decode cX5_isHeld 4 = .ok (.getfield 73, 3) := by decide +kernel
theorem dX5_isHeld_7 : decode cX5_isHeld 7 = .ok (.if_icmp .ge 49, 3) := by decide +kernel
theorem dX5_isHeld_10 : decode cX5_isHeld 10 = .ok (.aload_n 0, 1) := by decide +kernel
theorem dX5_isHeld_11 : decode cX5_isHeld 11 = .ok (.getfield 29, 3) := by decide +kernel
theorem dX5_isHeld_14 : decode cX5_isHeld 14 = .ok (.iload_n 2, 1) := by decide +kernel
theorem dX5_isHeld_15 : decode cX5_isHeld 15 = .ok (.iaload, 1) := by decide +kernel
theorem dX5_isHeld_16 : decode cX5_isHeld 16 = .ok (.iconst 5, 1) := by decide +kernel
theorem dX5_isHeld_17 : decode cX5_isHeld 17 = .ok (.if_icmp .ne 33, 3) := by decide +kernel
theorem dX5_isHeld_20 : decode cX5_isHeld 20 = .ok (.aload_n 0, 1) := by decide +kernel
theorem dX5_isHeld_21 : decode cX5_isHeld 21 = .ok (.getfield 32, 3) := by decide +kernel
theorem dX5_isHeld_24 : decode cX5_isHeld 24 = .ok (.iconst 3, 1) := by decide +kernel
theorem dX5_isHeld_25 : decode cX5_isHeld 25 = .ok (.iload_n 2, 1) := by decide +kernel
theorem dX5_isHeld_26 : decode cX5_isHeld 26 = .ok (.imul, 1) := by decide +kernel
theorem dX5_isHeld_27 : decode cX5_isHeld 27 = .ok (.iconst 2, 1) := by decide +kernel
theorem dX5_isHeld_28 : decode cX5_isHeld 28 = .ok (.iadd, 1) := by decide +kernel
theorem dX5_isHeld_29 : decode cX5_isHeld 29 = .ok (.iaload, 1) := by decide +kernel
theorem dX5_isHeld_30 : decode cX5_isHeld 30 = .ok (.iconst 1, 1) := by decide +kernel
theorem dX5_isHeld_31 : decode cX5_isHeld 31 = .ok (.if_icmp .ne 19, 3) := by decide +kernel
theorem dX5_isHeld_34 : decode cX5_isHeld 34 = .ok (.aload_n 0, 1) := by decide +kernel
theorem dX5_isHeld_35 : decode cX5_isHeld 35 = .ok (.getfield 32, 3) := by decide +kernel
theorem dX5_isHeld_38 : decode cX5_isHeld 38 = .ok (.iconst 3, 1) := by decide +kernel
theorem dX5_isHeld_39 : decode cX5_isHeld 39 = .ok (.iload_n 2, 1) := by decide +kernel
theorem dX5_isHeld_40 : decode cX5_isHeld 40 = .ok (.imul, 1) := by decide +kernel
theorem dX5_isHeld_41 : decode cX5_isHeld 41 = .ok (.iconst 1, 1) := by decide +kernel
theorem dX5_isHeld_42 : decode cX5_isHeld 42 = .ok (.iadd, 1) := by decide +kernel
theorem dX5_isHeld_43 : decode cX5_isHeld 43 = .ok (.iaload, 1) := by decide +kernel
theorem dX5_isHeld_44 : decode cX5_isHeld 44 = .ok (.iload_n 1, 1) := by decide +kernel
theorem dX5_isHeld_45 : decode cX5_isHeld 45 = .ok (.if_icmp .ne 5, 3) := by decide +kernel
theorem dX5_isHeld_48 : decode cX5_isHeld 48 = .ok (.iconst 1, 1) := by decide +kernel
theorem dX5_isHeld_49 : decode cX5_isHeld 49 = .ok (.ireturn, 1) := by decide +kernel
theorem dX5_isHeld_50 : decode cX5_isHeld 50 = .ok (.iinc 2 1, 3) := by decide +kernel
theorem dX5_isHeld_53 : decode cX5_isHeld 53 = .ok (.goto (-51), 3) := by decide +kernel
theorem dX5_isHeld_56 : decode cX5_isHeld 56 = .ok (.iconst 0, 1) := by decide +kernel
theorem dX5_isHeld_57 : decode cX5_isHeld 57 = .ok (.ireturn, 1) := by decide +kernel
theorem dX5_levelOf_0 : decode cX5_levelOf 0 = .ok (.aload_n 0, 1) := by decide +kernel
theorem dX5_levelOf_1 : decode cX5_levelOf 1 = .ok (.getfield 26, 3) := by decide +kernel
theorem dX5_levelOf_4 : decode cX5_levelOf 4 = .ok (.iconst 3, 1) := by decide +kernel
theorem dX5_levelOf_5 : decode cX5_levelOf 5 = .ok (.iload_n 1, 1) := by decide +kernel
theorem dX5_levelOf_6 : decode cX5_levelOf 6 = .ok (.imul, 1) := by decide +kernel
theorem dX5_levelOf_7 : decode cX5_levelOf 7 = .ok (.iaload, 1) := by decide +kernel
theorem dX5_levelOf_8 : decode cX5_levelOf 8 = .ok (.aload_n 0, 1) := by decide +kernel
theorem dX5_levelOf_9 : decode cX5_levelOf 9 = .ok (.getfield 26, 3) := by decide +kernel
theorem dX5_levelOf_12 : decode cX5_levelOf 12 = .ok (.iconst 3, 1) := by decide +kernel
theorem dX5_levelOf_13 : decode cX5_levelOf 13 = .ok (.iload_n 1, 1) := by decide +kernel
theorem dX5_levelOf_14 : decode cX5_levelOf 14 = .ok (.imul, 1) := by decide +kernel
theorem dX5_levelOf_15 : decode cX5_levelOf 15 = .ok (.iconst 2, 1) := by decide +kernel
theorem dX5_levelOf_16 : decode cX5_levelOf 16 = .ok (.iadd, 1) := by decide +kernel
theorem dX5_levelOf_17 : decode cX5_levelOf 17 = .ok (.iaload, 1) := by decide +kernel
theorem dX5_levelOf_18 : decode cX5_levelOf 18 = .ok (.iadd, 1) := by decide +kernel
theorem dX5_levelOf_19 : decode cX5_levelOf 19 = .ok (.ireturn, 1) := by decide +kernel
theorem dX5_adds_0 : decode cX5_adds 0 = .ok (.aload_n 0, 1) := by decide +kernel
theorem dX5_adds_1 : decode cX5_adds 1 = .ok (.getfield 26, 3) := by decide +kernel
theorem dX5_adds_4 : decode cX5_adds 4 = .ok (.iconst 3, 1) := by decide +kernel
theorem dX5_adds_5 : decode cX5_adds 5 = .ok (.iload_n 1, 1) := by decide +kernel
theorem dX5_adds_6 : decode cX5_adds 6 = .ok (.imul, 1) := by decide +kernel
theorem dX5_adds_7 : decode cX5_adds 7 = .ok (.iconst 2, 1) := by decide +kernel
theorem dX5_adds_8 : decode cX5_adds 8 = .ok (.iadd, 1) := by decide +kernel
theorem dX5_adds_9 : decode cX5_adds 9 = .ok (.aload_n 0, 1) := by decide +kernel
theorem dX5_adds_10 : decode cX5_adds 10 = .ok (.getfield 26, 3) := by decide +kernel
theorem dX5_adds_13 : decode cX5_adds 13 = .ok (.iconst 3, 1) := by decide +kernel
theorem dX5_adds_14 : decode cX5_adds 14 = .ok (.iload_n 1, 1) := by decide +kernel
theorem dX5_adds_15 : decode cX5_adds 15 = .ok (.imul, 1) := by decide +kernel
theorem dX5_adds_16 : decode cX5_adds 16 = .ok (.iconst 2, 1) := by decide +kernel
theorem dX5_adds_17 : decode cX5_adds 17 = .ok (.iadd, 1) := by decide +kernel
theorem dX5_adds_18 : decode cX5_adds 18 = .ok (.iaload, 1) := by decide +kernel
theorem dX5_adds_19 : decode cX5_adds 19 = .ok (.iload_n 2, 1) := by decide +kernel
theorem dX5_adds_20 : decode cX5_adds 20 = .ok (.iadd, 1) := by decide +kernel
theorem dX5_adds_21 : decode cX5_adds 21 = .ok (.iconst 0, 1) := by decide +kernel
theorem dX5_adds_22 : decode cX5_adds 22 = .ok (.sipush 999, 3) := by decide +kernel
theorem dX5_adds_25 : decode cX5_adds 25 = .ok (.invokestatic 334, 3) := by decide +kernel
theorem dX5_adds_28 : decode cX5_adds 28 = .ok (.iastore, 1) := by decide +kernel
theorem dX5_adds_29 : decode cX5_adds 29 = .ok (.return_, 1) := by decide +kernel
theorem dX5_draws_0 : decode cX5_draws 0 = .ok (.iload_n 2, 1) := by decide +kernel
theorem dX5_draws_1 : decode cX5_draws 1 = .ok (.invokestatic 82, 3) := by decide +kernel
theorem dX5_draws_4 : decode cX5_draws 4 = .ok (.ifCond .eq 22, 3) := by decide +kernel
theorem dX5_draws_7 : decode cX5_draws 7 = .ok (.aload_n 0, 1) := by decide +kernel
theorem dX5_draws_8 : decode cX5_draws 8 = .ok (.getfield 26, 3) := by decide +kernel
theorem dX5_draws_11 : decode cX5_draws 11 = .ok (.iconst 3, 1) := by decide +kernel
theorem dX5_draws_12 : decode cX5_draws 12 = .ok (.iload_n 2, 1) := by decide +kernel
theorem dX5_draws_13 : decode cX5_draws 13 = .ok (.imul, 1) := by decide +kernel
theorem dX5_draws_14 : decode cX5_draws 14 = .ok (.iconst 2, 1) := by decide +kernel
theorem dX5_draws_15 : decode cX5_draws 15 = .ok (.iadd, 1) := by decide +kernel
theorem dX5_draws_16 : decode cX5_draws 16 = .ok (.dup2, 1) := by decide +kernel
theorem dX5_draws_17 : decode cX5_draws 17 = .ok (.iaload, 1) := by decide +kernel
theorem dX5_draws_18 : decode cX5_draws 18 = .ok (.aload_n 0, 1) := by decide +kernel
theorem dX5_draws_19 : decode cX5_draws 19 = .ok (.iload_n 1, 1) := by decide +kernel
theorem dX5_draws_20 : decode cX5_draws 20 = .ok (.iload_n 2, 1) := by decide +kernel
theorem dX5_draws_21 : decode cX5_draws 21 = .ok (.invokevirtual 122, 3) := by decide +kernel
theorem dX5_draws_24 : decode cX5_draws 24 = .ok (.isub, 1) := by decide +kernel
theorem dX5_draws_25 : decode cX5_draws 25 = .ok (.iastore, 1) := by decide +kernel
theorem dX5_draws_26 : decode cX5_draws 26 = .ok (.return_, 1) := by decide +kernel
theorem dX5_lives_0 : decode cX5_lives 0 = .ok (.iconst 0, 1) := by decide +kernel
theorem dX5_lives_1 : decode cX5_lives 1 = .ok (.istore_n 1, 1) := by decide +kernel
theorem dX5_lives_2 : decode cX5_lives 2 = .ok (.iload_n 1, 1) := by decide +kernel
theorem dX5_lives_3 : decode cX5_lives 3 = .ok (.bipush 12, 2) := by decide +kernel
theorem dX5_lives_5 : decode cX5_lives 5 = .ok (.if_icmp .ge 25, 3) := by decide +kernel
theorem dX5_lives_8 : decode cX5_lives 8 = .ok (.aload_n 0, 1) := by decide +kernel
theorem dX5_lives_9 : decode cX5_lives 9 = .ok (.iload_n 1, 1) := by decide +kernel
theorem dX5_lives_10 : decode cX5_lives 10 = .ok (.aload_n 0, 1) := by decide +kernel
theorem dX5_lives_11 : decode cX5_lives 11 = .ok (.iconst 0, 1) := by decide +kernel
theorem dX5_lives_12 : decode cX5_lives 12 = .ok (.iload_n 1, 1) := by decide +kernel
theorem dX5_lives_13 : decode cX5_lives 13 = .ok (.aload_n 0, 1) := by decide +kernel
theorem dX5_lives_14 : decode cX5_lives 14 = .ok (.iload_n 1, 1) := by decide +kernel
theorem dX5_lives_15 : decode cX5_lives 15 = .ok (.invokevirtual 338, 3) := by decide +kernel
theorem dX5_lives_18 : decode cX5_lives 18 = .ok (.invokevirtual 341, 3) := by decide +kernel
theorem dX5_lives_21 : decode cX5_lives 21 = .ok (.invokevirtual 344, 3) := by decide +kernel
theorem dX5_lives_24 : decode cX5_lives 24 = .ok (.iinc 1 1, 3) := by decide +kernel
theorem dX5_lives_27 : decode cX5_lives 27 = .ok (.goto (-25), 3) := by decide +kernel
theorem dX5_lives_30 : decode cX5_lives 30 = .ok (.bipush 11, 2) := by decide +kernel
theorem dX5_lives_32 : decode cX5_lives 32 = .ok (.istore_n 1, 1) := by decide +kernel
theorem dX5_lives_33 : decode cX5_lives 33 = .ok (.iload_n 1, 1) := by decide +kernel
theorem dX5_lives_34 : decode cX5_lives 34 = .ok (.ifCond .le 85, 3) := by decide +kernel
theorem dX5_lives_37 : decode cX5_lives 37 = .ok (.aload_n 0, 1) := by decide +kernel
theorem dX5_lives_38 : decode cX5_lives 38 = .ok (.iload_n 1, 1) := by decide +kernel
theorem dX5_lives_39 : decode cX5_lives 39 = .ok (.invokevirtual 348, 3) := by decide +kernel
theorem dX5_lives_42 : decode cX5_lives 42 = .ok (.aload_n 0, 1) := by decide +kernel
theorem dX5_lives_43 : decode cX5_lives 43 = .ok (.iload_n 1, 1) := by decide +kernel
theorem dX5_lives_44 : decode cX5_lives 44 = .ok (.iconst 1, 1) := by decide +kernel
theorem dX5_lives_45 : decode cX5_lives 45 = .ok (.isub, 1) := by decide +kernel
theorem dX5_lives_46 : decode cX5_lives 46 = .ok (.invokevirtual 348, 3) := by decide +kernel
theorem dX5_lives_49 : decode cX5_lives 49 = .ok (.isub, 1) := by decide +kernel
theorem dX5_lives_50 : decode cX5_lives 50 = .ok (.istore_n 2, 1) := by decide +kernel
theorem dX5_lives_51 : decode cX5_lives 51 = .ok (.iload_n 2, 1) := by decide +kernel
theorem dX5_lives_52 : decode cX5_lives 52 = .ok (.ifCond .le 61, 3) := by decide +kernel
theorem dX5_lives_55 : decode cX5_lives 55 = .ok (.aload_n 0, 1) := by decide +kernel
theorem dX5_lives_56 : decode cX5_lives 56 = .ok (.iload_n 1, 1) := by decide +kernel
theorem dX5_lives_57 : decode cX5_lives 57 = .ok (.iconst 1, 1) := by decide +kernel
theorem dX5_lives_58 : decode cX5_lives 58 = .ok (.isub, 1) := by decide +kernel
theorem dX5_lives_59 : decode cX5_lives 59 = .ok (.invokevirtual 351, 3) := by decide +kernel
theorem dX5_lives_62 : decode cX5_lives 62 = .ok (.ifCond .ne 51, 3) := by decide +kernel
theorem dX5_lives_65 : decode cX5_lives 65 = .ok (.iload_n 2, 1) := by decide +kernel
theorem dX5_lives_66 : decode cX5_lives 66 = .ok (.iconst 2, 1) := by decide +kernel
theorem dX5_lives_67 : decode cX5_lives 67 = .ok (.idiv, 1) := by decide +kernel
theorem dX5_lives_68 : decode cX5_lives 68 = .ok (.aload_n 0, 1) := by decide +kernel
theorem dX5_lives_69 : decode cX5_lives 69 = .ok (.getfield 26, 3) := by decide +kernel
theorem dX5_lives_72 : decode cX5_lives 72 = .ok (.iconst 3, 1) := by decide +kernel
theorem dX5_lives_73 : decode cX5_lives 73 = .ok (.iload_n 1, 1) := by decide +kernel
theorem dX5_lives_74 : decode cX5_lives 74 = .ok (.imul, 1) := by decide +kernel
theorem dX5_lives_75 : decode cX5_lives 75 = .ok (.iconst 2, 1) := by decide +kernel
theorem dX5_lives_76 : decode cX5_lives 76 = .ok (.iadd, 1) := by decide +kernel
theorem dX5_lives_77 : decode cX5_lives 77 = .ok (.iaload, 1) := by decide +kernel
theorem dX5_lives_78 : decode cX5_lives 78 = .ok (.if_icmp .ge 9, 3) := by decide +kernel
theorem dX5_lives_81 : decode cX5_lives 81 = .ok (.iload_n 2, 1) := by decide +kernel
theorem dX5_lives_82 : decode cX5_lives 82 = .ok (.iconst 2, 1) := by decide +kernel
theorem dX5_lives_83 : decode cX5_lives 83 = .ok (.idiv, 1) := by decide +kernel
theorem dX5_lives_84 : decode cX5_lives 84 = .ok (.goto 13, 3) := by decide +kernel
theorem dX5_lives_87 : decode cX5_lives 87 = .ok (.aload_n 0, 1) := by decide +kernel
theorem dX5_lives_88 : decode cX5_lives 88 = .ok (.getfield 26, 3) := by decide +kernel
theorem dX5_lives_91 : decode cX5_lives 91 = .ok (.iconst 3, 1) := by decide +kernel
theorem dX5_lives_92 : decode cX5_lives 92 = .ok (.iload_n 1, 1) := by decide +kernel
theorem dX5_lives_93 : decode cX5_lives 93 = .ok (.imul, 1) := by decide +kernel
theorem dX5_lives_94 : decode cX5_lives 94 = .ok (.iconst 2, 1) := by decide +kernel
theorem dX5_lives_95 : decode cX5_lives 95 = .ok (.iadd, 1) := by decide +kernel
theorem dX5_lives_96 : decode cX5_lives 96 = .ok (.iaload, 1) := by decide +kernel
theorem dX5_lives_97 : decode cX5_lives 97 = .ok (.istore_n 3, 1) := by decide +kernel
theorem dX5_lives_98 : decode cX5_lives 98 = .ok (.aload_n 0, 1) := by decide +kernel
theorem dX5_lives_99 : decode cX5_lives 99 = .ok (.iload_n 1, 1) := by decide +kernel
theorem dX5_lives_100 : decode cX5_lives 100 = .ok (.iload_n 3, 1) := by decide +kernel
theorem dX5_lives_101 : decode cX5_lives 101 = .ok (.ineg, 1) := by decide +kernel
theorem dX5_lives_102 : decode cX5_lives 102 = .ok (.invokevirtual 344, 3) := by decide +kernel
theorem dX5_lives_105 : decode cX5_lives 105 = .ok (.aload_n 0, 1) := by decide +kernel
theorem dX5_lives_106 : decode cX5_lives 106 = .ok (.iload_n 1, 1) := by decide +kernel
theorem dX5_lives_107 : decode cX5_lives 107 = .ok (.iconst 1, 1) := by decide +kernel
theorem dX5_lives_108 : decode cX5_lives 108 = .ok (.isub, 1) := by decide +kernel
theorem dX5_lives_109 : decode cX5_lives 109 = .ok (.iload_n 3, 1) := by decide +kernel
theorem dX5_lives_110 : decode cX5_lives 110 = .ok (.invokevirtual 344, 3) := by decide +kernel
theorem dX5_lives_113 : decode cX5_lives 113 = .ok (.iinc 1 (-1), 3) := by decide +kernel
theorem dX5_lives_116 : decode cX5_lives 116 = .ok (.goto (-83), 3) := by decide +kernel
theorem dX5_lives_119 : decode cX5_lives 119 = .ok (.aload_n 0, 1) := by decide +kernel
theorem dX5_lives_120 : decode cX5_lives 120 = .ok (.iconst 0, 1) := by decide +kernel
theorem dX5_lives_121 : decode cX5_lives 121 = .ok (.invokevirtual 348, 3) := by decide +kernel
theorem dX5_lives_124 : decode cX5_lives 124 = .ok (.aload_n 0, 1) := by decide +kernel
theorem dX5_lives_125 : decode cX5_lives 125 = .ok (.getfield 23, 3) := by decide +kernel
theorem dX5_lives_128 : decode cX5_lives 128 = .ok (.isub, 1) := by decide +kernel
theorem dX5_lives_129 : decode cX5_lives 129 = .ok (.istore_n 1, 1) := by decide +kernel
theorem dX5_lives_130 : decode cX5_lives 130 = .ok (.iload_n 1, 1) := by decide +kernel
theorem dX5_lives_131 : decode cX5_lives 131 = .ok (.ifCond .le 36, 3) := by decide +kernel
theorem dX5_lives_134 : decode cX5_lives 134 = .ok (.aload_n 0, 1) := by decide +kernel
theorem dX5_lives_135 : decode cX5_lives 135 = .ok (.iconst 0, 1) := by decide +kernel
theorem dX5_lives_136 : decode cX5_lives 136 = .ok (.iload_n 1, 1) := by decide +kernel
theorem dX5_lives_137 : decode cX5_lives 137 = .ok (.iconst 2, 1) := by decide +kernel
theorem dX5_lives_138 : decode cX5_lives 138 = .ok (.idiv, 1) := by decide +kernel
theorem dX5_lives_139 : decode cX5_lives 139 = .ok (.aload_n 0, 1) := by decide +kernel
theorem dX5_lives_140 : decode cX5_lives 140 = .ok (.getfield 26, 3) := by decide +kernel
theorem dX5_lives_143 : decode cX5_lives 143 = .ok (.iconst 2, 1) := by decide +kernel
theorem dX5_lives_144 : decode cX5_lives 144 = .ok (.iaload, 1) := by decide +kernel
theorem dX5_lives_145 : decode cX5_lives 145 = .ok (.if_icmp .ge 9, 3) := by decide +kernel
theorem dX5_lives_148 : decode cX5_lives 148 = .ok (.iload_n 1, 1) := by decide +kernel
theorem dX5_lives_149 : decode cX5_lives 149 = .ok (.iconst 2, 1) := by decide +kernel
theorem dX5_lives_150 : decode cX5_lives 150 = .ok (.idiv, 1) := by decide +kernel
theorem dX5_lives_151 : decode cX5_lives 151 = .ok (.goto 9, 3) := by decide +kernel
theorem dX5_lives_154 : decode cX5_lives 154 = .ok (.aload_n 0, 1) := by decide +kernel
theorem dX5_lives_155 : decode cX5_lives 155 = .ok (.getfield 26, 3) := by decide +kernel
theorem dX5_lives_158 : decode cX5_lives 158 = .ok (.iconst 2, 1) := by decide +kernel
theorem dX5_lives_159 : decode cX5_lives 159 = .ok (.iaload, 1) := by decide +kernel
theorem dX5_lives_160 : decode cX5_lives 160 = .ok (.ineg, 1) := by decide +kernel
theorem dX5_lives_161 : decode cX5_lives 161 = .ok (.invokevirtual 344, 3) := by decide +kernel
theorem dX5_lives_164 : decode cX5_lives 164 = .ok (.goto 20, 3) := by decide +kernel
theorem dX5_lives_167 : decode cX5_lives 167 = .ok (.aload_n 0, 1) := by decide +kernel
theorem dX5_lives_168 : decode cX5_lives 168 = .ok (.iconst 0, 1) := by decide +kernel
theorem dX5_lives_169 : decode cX5_lives 169 = .ok (.invokevirtual 351, 3) := by decide +kernel
theorem dX5_lives_172 : decode cX5_lives 172 = .ok (.ifCond .ne 12, 3) := by decide +kernel
theorem dX5_lives_175 : decode cX5_lives 175 = .ok (.aload_n 0, 1) := by decide +kernel
theorem dX5_lives_176 : decode cX5_lives 176 = .ok (.iconst 0, 1) := by decide +kernel
theorem dX5_lives_177 : decode cX5_lives 177 = .ok (.iload_n 1, 1) := by decide +kernel
theorem dX5_lives_178 : decode cX5_lives 178 = .ok (.ineg, 1) := by decide +kernel
theorem dX5_lives_179 : decode cX5_lives 179 = .ok (.iconst 2, 1) := by decide +kernel
theorem dX5_lives_180 : decode cX5_lives 180 = .ok (.idiv, 1) := by decide +kernel
theorem dX5_lives_181 : decode cX5_lives 181 = .ok (.invokevirtual 344, 3) := by decide +kernel
theorem dX5_lives_184 : decode cX5_lives 184 = .ok (.iconst 0, 1) := by decide +kernel
theorem dX5_lives_185 : decode cX5_lives 185 = .ok (.istore_n 2, 1) := by decide +kernel
theorem dX5_lives_186 : decode cX5_lives 186 = .ok (.iload_n 2, 1) := by decide +kernel
theorem dX5_lives_187 : decode cX5_lives 187 = .ok (.aload_n 0, 1) := by decide +kernel
theorem dX5_lives_188 : decode cX5_lives 188 = .ok (.getfield 73, 3) := by decide +kernel
theorem dX5_lives_191 : decode cX5_lives 191 = .ok (.if_icmp .ge 90, 3) := by decide +kernel
theorem dX5_lives_194 : decode cX5_lives 194 = .ok (.aload_n 0, 1) := by decide +kernel
theorem dX5_lives_195 : decode cX5_lives 195 = .ok (.getfield 32, 3) := by decide +kernel
theorem dX5_lives_198 : decode cX5_lives 198 = .ok (.iconst 3, 1) := by decide +kernel
theorem dX5_lives_199 : decode cX5_lives 199 = .ok (.iload_n 2, 1) := by decide +kernel
theorem dX5_lives_200 : decode cX5_lives 200 = .ok (.imul, 1) := by decide +kernel
theorem dX5_lives_201 : decode cX5_lives 201 = .ok (.iconst 2, 1) := by decide +kernel
theorem dX5_lives_202 : decode cX5_lives 202 = .ok (.iadd, 1) := by decide +kernel
theorem dX5_lives_203 : decode cX5_lives 203 = .ok (.iaload, 1) := by decide +kernel
theorem dX5_lives_204 : decode cX5_lives 204 = .ok (.iconst 1, 1) := by decide +kernel
theorem dX5_lives_205 : decode cX5_lives 205 = .ok (.if_icmp .ne 70, 3) := by decide +kernel
theorem dX5_lives_208 : decode cX5_lives 208 = .ok (.aload_n 0, 1) := by decide +kernel
theorem dX5_lives_209 : decode cX5_lives 209 = .ok (.getfield 32, 3) := by decide +kernel
theorem dX5_lives_212 : decode cX5_lives 212 = .ok (.iconst 3, 1) := by decide +kernel
theorem dX5_lives_213 : decode cX5_lives 213 = .ok (.iload_n 2, 1) := by decide +kernel
theorem dX5_lives_214 : decode cX5_lives 214 = .ok (.imul, 1) := by decide +kernel
theorem dX5_lives_215 : decode cX5_lives 215 = .ok (.iconst 1, 1) := by decide +kernel
theorem dX5_lives_216 : decode cX5_lives 216 = .ok (.iadd, 1) := by decide +kernel
theorem dX5_lives_217 : decode cX5_lives 217 = .ok (.iaload, 1) := by decide +kernel
theorem dX5_lives_218 : decode cX5_lives 218 = .ok (.istore_n 3, 1) := by decide +kernel
theorem dX5_lives_219 : decode cX5_lives 219 = .ok (.aload_n 0, 1) := by decide +kernel
theorem dX5_lives_220 : decode cX5_lives 220 = .ok (.iload_n 2, 1) := by decide +kernel
theorem dX5_lives_221 : decode cX5_lives 221 = .ok (.iload_n 3, 1) := by decide +kernel
theorem dX5_lives_222 : decode cX5_lives 222 = .ok (.invokevirtual 354, 3) := by decide +kernel
theorem dX5_lives_225 : decode cX5_lives 225 = .ok (.aload_n 0, 1) := by decide +kernel
theorem dX5_lives_226 : decode cX5_lives 226 = .ok (.getfield 29, 3) := by decide +kernel
theorem dX5_lives_229 : decode cX5_lives 229 = .ok (.iload_n 2, 1) := by decide +kernel
theorem dX5_lives_230 : decode cX5_lives 230 = .ok (.iaload, 1) := by decide +kernel
theorem dX5_lives_231 : decode cX5_lives 231 = .ok (.iconst 1, 1) := by decide +kernel
theorem dX5_lives_232 : decode cX5_lives 232 = .ok (.if_icmp .eq 13, 3) := by decide +kernel
theorem dX5_lives_235 : decode cX5_lives 235 = .ok (.aload_n 0, 1) := by decide +kernel
theorem dX5_lives_236 : decode cX5_lives 236 = .ok (.getfield 29, 3) := by decide +kernel
theorem dX5_lives_239 : decode cX5_lives 239 = .ok (.iload_n 2, 1) := by decide +kernel
theorem dX5_lives_240 : decode cX5_lives 240 = .ok (.iaload, 1) := by decide +kernel
theorem dX5_lives_241 : decode cX5_lives 241 = .ok (.iconst 4, 1) := by decide +kernel
theorem dX5_lives_242 : decode cX5_lives 242 = .ok (.if_icmp .ne 19, 3) := by decide +kernel
theorem dX5_lives_245 : decode cX5_lives 245 = .ok (.aload_n 0, 1) := by decide +kernel
theorem dX5_lives_246 : decode cX5_lives 246 = .ok (.iload_n 2, 1) := by decide +kernel
theorem dX5_lives_247 : decode cX5_lives 247 = .ok (.iload_n 3, 1) := by decide +kernel
theorem dX5_lives_248 : decode cX5_lives 248 = .ok (.iconst 1, 1) := by decide +kernel
theorem dX5_lives_249 : decode cX5_lives 249 = .ok (.isub, 1) := by decide +kernel
theorem dX5_lives_250 : decode cX5_lives 250 = .ok (.invokevirtual 354, 3) := by decide +kernel
theorem dX5_lives_253 : decode cX5_lives 253 = .ok (.aload_n 0, 1) := by decide +kernel
theorem dX5_lives_254 : decode cX5_lives 254 = .ok (.iload_n 2, 1) := by decide +kernel
theorem dX5_lives_255 : decode cX5_lives 255 = .ok (.iload_n 3, 1) := by decide +kernel
theorem dX5_lives_256 : decode cX5_lives 256 = .ok (.iconst 1, 1) := by decide +kernel
theorem dX5_lives_257 : decode cX5_lives 257 = .ok (.iadd, 1) := by decide +kernel
theorem dX5_lives_258 : decode cX5_lives 258 = .ok (.invokevirtual 354, 3) := by decide +kernel
theorem dX5_lives_261 : decode cX5_lives 261 = .ok (.aload_n 0, 1) := by decide +kernel
theorem dX5_lives_262 : decode cX5_lives 262 = .ok (.dup, 1) := by decide +kernel
theorem dX5_lives_263 : decode cX5_lives 263 = .ok (.getfield 357, 3) := by decide +kernel
theorem dX5_lives_266 : decode cX5_lives 266 = .ok (.aload_n 0, 1) := by decide +kernel
theorem dX5_lives_267 : decode cX5_lives 267 = .ok (.iload_n 2, 1) := by decide +kernel
theorem dX5_lives_268 : decode cX5_lives 268 = .ok (.invokevirtual 125, 3) := by decide +kernel
theorem dX5_lives_271 : decode cX5_lives 271 = .ok (.iadd, 1) := by decide +kernel
theorem dX5_lives_272 : decode cX5_lives 272 = .ok (.putfield 357, 3) := by decide +kernel
theorem dX5_lives_275 : decode cX5_lives 275 = .ok (.iinc 2 1, 3) := by decide +kernel
theorem dX5_lives_278 : decode cX5_lives 278 = .ok (.goto (-92), 3) := by decide +kernel
theorem dX5_lives_281 : decode cX5_lives 281 = .ok (.iconst 0, 1) := by decide +kernel
theorem dX5_lives_282 : decode cX5_lives 282 = .ok (.istore_n 2, 1) := by decide +kernel
theorem dX5_lives_283 : decode cX5_lives 283 = .ok (.iload_n 2, 1) := by decide +kernel
theorem dX5_lives_284 : decode cX5_lives 284 = .ok (.bipush 12, 2) := by decide +kernel
theorem dX5_lives_286 : decode cX5_lives 286 = .ok (.if_icmp .ge 117, 3) := by decide +kernel
theorem dX5_lives_289 : decode cX5_lives 289 = .ok (.aload_n 0, 1) := by decide +kernel
theorem dX5_lives_290 : decode cX5_lives 290 = .ok (.getfield 26, 3) := by decide +kernel
theorem dX5_lives_293 : decode cX5_lives 293 = .ok (.iconst 3, 1) := by decide +kernel
theorem dX5_lives_294 : decode cX5_lives 294 = .ok (.iload_n 2, 1) := by decide +kernel
theorem dX5_lives_295 : decode cX5_lives 295 = .ok (.imul, 1) := by decide +kernel
theorem dX5_lives_296 : decode cX5_lives 296 = .ok (.iconst 2, 1) := by decide +kernel
theorem dX5_lives_297 : decode cX5_lives 297 = .ok (.iadd, 1) := by decide +kernel
theorem dX5_lives_298 : decode cX5_lives 298 = .ok (.iaload, 1) := by decide +kernel
theorem dX5_lives_299 : decode cX5_lives 299 = .ok (.ifCond .ne 98, 3) := by decide +kernel
theorem dX5_lives_302 : decode cX5_lives 302 = .ok (.aload_n 0, 1) := by decide +kernel
theorem dX5_lives_303 : decode cX5_lives 303 = .ok (.iconst 1, 1) := by decide +kernel
theorem dX5_lives_304 : decode cX5_lives 304 = .ok (.iload_n 2, 1) := by decide +kernel
theorem dX5_lives_305 : decode cX5_lives 305 = .ok (.aload_n 0, 1) := by decide +kernel
theorem dX5_lives_306 : decode cX5_lives 306 = .ok (.iload_n 2, 1) := by decide +kernel
theorem dX5_lives_307 : decode cX5_lives 307 = .ok (.invokevirtual 338, 3) := by decide +kernel
theorem dX5_lives_310 : decode cX5_lives 310 = .ok (.invokevirtual 341, 3) := by decide +kernel
theorem dX5_lives_313 : decode cX5_lives 313 = .ok (.istore_n 3, 1) := by decide +kernel
theorem dX5_lives_314 : decode cX5_lives 314 = .ok (.aload_n 0, 1) := by decide +kernel
theorem dX5_lives_315 : decode cX5_lives 315 = .ok (.getfield 26, 3) := by decide +kernel
theorem dX5_lives_318 : decode cX5_lives 318 = .ok (.iconst 3, 1) := by decide +kernel
theorem dX5_lives_319 : decode cX5_lives 319 = .ok (.iload_n 2, 1) := by decide +kernel
theorem dX5_lives_320 : decode cX5_lives 320 = .ok (.imul, 1) := by decide +kernel
theorem dX5_lives_321 : decode cX5_lives 321 = .ok (.iaload, 1) := by decide +kernel
theorem dX5_lives_322 : decode cX5_lives 322 = .ok (.aload_n 0, 1) := by decide +kernel
theorem dX5_lives_323 : decode cX5_lives 323 = .ok (.getfield 26, 3) := by decide +kernel
theorem dX5_lives_326 : decode cX5_lives 326 = .ok (.iconst 3, 1) := by decide +kernel
theorem dX5_lives_327 : decode cX5_lives 327 = .ok (.iload_n 2, 1) := by decide +kernel
theorem dX5_lives_328 : decode cX5_lives 328 = .ok (.imul, 1) := by decide +kernel
theorem dX5_lives_329 : decode cX5_lives 329 = .ok (.iconst 1, 1) := by decide +kernel
theorem dX5_lives_330 : decode cX5_lives 330 = .ok (.iadd, 1) := by decide +kernel
theorem dX5_lives_331 : decode cX5_lives 331 = .ok (.iaload, 1) := by decide +kernel
theorem dX5_lives_332 : decode cX5_lives 332 = .ok (.if_icmp .ge 14, 3) := by decide +kernel
theorem dX5_lives_335 : decode cX5_lives 335 = .ok (.aload_n 0, 1) := by decide +kernel
theorem dX5_lives_336 : decode cX5_lives 336 = .ok (.getfield 26, 3) := by decide +kernel
theorem dX5_lives_339 : decode cX5_lives 339 = .ok (.iconst 3, 1) := by decide +kernel
theorem dX5_lives_340 : decode cX5_lives 340 = .ok (.iload_n 2, 1) := by decide +kernel
theorem dX5_lives_341 : decode cX5_lives 341 = .ok (.imul, 1) := by decide +kernel
theorem dX5_lives_342 : decode cX5_lives 342 = .ok (.iaload, 1) := by decide +kernel
theorem dX5_lives_343 : decode cX5_lives 343 = .ok (.goto 13, 3) := by decide +kernel
theorem dX5_lives_346 : decode cX5_lives 346 = .ok (.aload_n 0, 1) := by decide +kernel
theorem dX5_lives_347 : decode cX5_lives 347 = .ok (.getfield 26, 3) := by decide +kernel
theorem dX5_lives_350 : decode cX5_lives 350 = .ok (.iconst 3, 1) := by decide +kernel
theorem dX5_lives_351 : decode cX5_lives 351 = .ok (.iload_n 2, 1) := by decide +kernel
theorem dX5_lives_352 : decode cX5_lives 352 = .ok (.imul, 1) := by decide +kernel
theorem dX5_lives_353 : decode cX5_lives 353 = .ok (.iconst 1, 1) := by decide +kernel
theorem dX5_lives_354 : decode cX5_lives 354 = .ok (.iadd, 1) := by decide +kernel
theorem dX5_lives_355 : decode cX5_lives 355 = .ok (.iaload, 1) := by decide +kernel
theorem dX5_lives_356 : decode cX5_lives 356 = .ok (.istore 4, 2) := by decide +kernel
theorem dX5_lives_358 : decode cX5_lives 358 = .ok (.iload_n 3, 1) := by decide +kernel
theorem dX5_lives_359 : decode cX5_lives 359 = .ok (.iload 4, 2) := by decide +kernel
theorem dX5_lives_361 : decode cX5_lives 361 = .ok (.if_icmp .ge 7, 3) := by decide +kernel
theorem dX5_lives_364 : decode cX5_lives 364 = .ok (.iload_n 3, 1) := by decide +kernel
theorem dX5_lives_365 : decode cX5_lives 365 = .ok (.goto 5, 3) := by decide +kernel
theorem dX5_lives_368 : decode cX5_lives 368 = .ok (.iload 4, 2) := by decide +kernel
theorem dX5_lives_370 : decode cX5_lives 370 = .ok (.istore_n 3, 1) := by decide +kernel
theorem dX5_lives_371 : decode cX5_lives 371 = .ok (.aload_n 0, 1) := by decide +kernel
theorem dX5_lives_372 : decode cX5_lives 372 = .ok (.getfield 26, 3) := by decide +kernel
theorem dX5_lives_375 : decode cX5_lives 375 = .ok (.iconst 3, 1) := by decide +kernel
theorem dX5_lives_376 : decode cX5_lives 376 = .ok (.iload_n 2, 1) := by decide +kernel
theorem dX5_lives_377 : decode cX5_lives 377 = .ok (.imul, 1) := by decide +kernel
theorem dX5_lives_378 : decode cX5_lives 378 = .ok (.dup2, 1) := by decide +kernel
theorem dX5_lives_379 : decode cX5_lives 379 = .ok (.iaload, 1) := by decide +kernel
theorem dX5_lives_380 : decode cX5_lives 380 = .ok (.iload_n 3, 1) := by decide +kernel
theorem dX5_lives_381 : decode cX5_lives 381 = .ok (.isub, 1) := by decide +kernel
theorem dX5_lives_382 : decode cX5_lives 382 = .ok (.iastore, 1) := by decide +kernel
theorem dX5_lives_383 : decode cX5_lives 383 = .ok (.aload_n 0, 1) := by decide +kernel
theorem dX5_lives_384 : decode cX5_lives 384 = .ok (.getfield 26, 3) := by decide +kernel
theorem dX5_lives_387 : decode cX5_lives 387 = .ok (.iconst 3, 1) := by decide +kernel
theorem dX5_lives_388 : decode cX5_lives 388 = .ok (.iload_n 2, 1) := by decide +kernel
theorem dX5_lives_389 : decode cX5_lives 389 = .ok (.imul, 1) := by decide +kernel
theorem dX5_lives_390 : decode cX5_lives 390 = .ok (.iconst 1, 1) := by decide +kernel
theorem dX5_lives_391 : decode cX5_lives 391 = .ok (.iadd, 1) := by decide +kernel
theorem dX5_lives_392 : decode cX5_lives 392 = .ok (.dup2, 1) := by decide +kernel
theorem dX5_lives_393 : decode cX5_lives 393 = .ok (.iaload, 1) := by decide +kernel
theorem dX5_lives_394 : decode cX5_lives 394 = .ok (.iload_n 3, 1) := by decide +kernel
theorem dX5_lives_395 : decode cX5_lives 395 = .ok (.isub, 1) := by decide +kernel
theorem dX5_lives_396 : decode cX5_lives 396 = .ok (.iastore, 1) := by decide +kernel
theorem dX5_lives_397 : decode cX5_lives 397 = .ok (.iinc 2 1, 3) := by decide +kernel
theorem dX5_lives_400 : decode cX5_lives 400 = .ok (.goto (-117), 3) := by decide +kernel
theorem dX5_lives_403 : decode cX5_lives 403 = .ok (.aload_n 0, 1) := by decide +kernel
theorem dX5_lives_404 : decode cX5_lives 404 = .ok (.dup, 1) := by decide +kernel
theorem dX5_lives_405 : decode cX5_lives 405 = .ok (.getfield 107, 3) := by decide +kernel
theorem dX5_lives_408 : decode cX5_lives 408 = .ok (.iconst 1, 1) := by decide +kernel
theorem dX5_lives_409 : decode cX5_lives 409 = .ok (.iadd, 1) := by decide +kernel
theorem dX5_lives_410 : decode cX5_lives 410 = .ok (.putfield 107, 3) := by decide +kernel
theorem dX5_lives_413 : decode cX5_lives 413 = .ok (.return_, 1) := by decide +kernel
theorem dX5_drySet_0 : decode cX5_drySet 0 = .ok (.iconst 0, 1) := by decide +kernel
theorem dX5_drySet_1 : decode cX5_drySet 1 = .ok (.istore_n 1, 1) := by decide +kernel
theorem dX5_drySet_2 : decode cX5_drySet 2 = .ok (.iconst 0, 1) := by decide +kernel
theorem dX5_drySet_3 : decode cX5_drySet 3 = .ok (.istore_n 2, 1) := by decide +kernel
theorem dX5_drySet_4 : decode cX5_drySet 4 = .ok (.iload_n 2, 1) := by decide +kernel
theorem dX5_drySet_5 : decode cX5_drySet 5 = .ok (.bipush 12, 2) := by decide +kernel
theorem dX5_drySet_7 : decode cX5_drySet 7 = .ok (.if_icmp .ge 32, 3) := by decide +kernel
theorem dX5_drySet_10 : decode cX5_drySet 10 = .ok (.iload_n 1, 1) := by decide +kernel
theorem dX5_drySet_11 : decode cX5_drySet 11 = .ok (.aload_n 0, 1) := by decide +kernel
theorem dX5_drySet_12 : decode cX5_drySet 12 = .ok (.getfield 26, 3) := by decide +kernel
theorem dX5_drySet_15 : decode cX5_drySet 15 = .ok (.iconst 3, 1) := by decide +kernel
theorem dX5_drySet_16 : decode cX5_drySet 16 = .ok (.iload_n 2, 1) := by decide +kernel
theorem dX5_drySet_17 : decode cX5_drySet 17 = .ok (.imul, 1) := by decide +kernel
theorem dX5_drySet_18 : decode cX5_drySet 18 = .ok (.iconst 2, 1) := by decide +kernel
theorem dX5_drySet_19 : decode cX5_drySet 19 = .ok (.iadd, 1) := by decide +kernel
theorem dX5_drySet_20 : decode cX5_drySet 20 = .ok (.iaload, 1) := by decide +kernel
theorem dX5_drySet_21 : decode cX5_drySet 21 = .ok (.ifCond .ne 7, 3) := by decide +kernel
theorem dX5_drySet_24 : decode cX5_drySet 24 = .ok (.iconst 1, 1) := by decide +kernel
theorem dX5_drySet_25 : decode cX5_drySet 25 = .ok (.goto 4, 3) := by decide +kernel
theorem dX5_drySet_28 : decode cX5_drySet 28 = .ok (.iconst 0, 1) := by decide +kernel
theorem dX5_drySet_29 : decode cX5_drySet 29 = .ok (.iload_n 2, 1) := by decide +kernel
theorem dX5_drySet_30 : decode cX5_drySet 30 = .ok (.ishl, 1) := by decide +kernel
theorem dX5_drySet_31 : decode cX5_drySet 31 = .ok (.ior, 1) := by decide +kernel
theorem dX5_drySet_32 : decode cX5_drySet 32 = .ok (.istore_n 1, 1) := by decide +kernel
theorem dX5_drySet_33 : decode cX5_drySet 33 = .ok (.iinc 2 1, 3) := by decide +kernel
theorem dX5_drySet_36 : decode cX5_drySet 36 = .ok (.goto (-32), 3) := by decide +kernel
theorem dX5_drySet_39 : decode cX5_drySet 39 = .ok (.iload_n 1, 1) := by decide +kernel
theorem dX5_drySet_40 : decode cX5_drySet 40 = .ok (.ireturn, 1) := by decide +kernel
theorem dX5_bitsOf_0 : decode cX5_bitsOf 0 = .ok (.iconst 0, 1) := by decide +kernel
theorem dX5_bitsOf_1 : decode cX5_bitsOf 1 = .ok (.istore_n 1, 1) := by decide +kernel
theorem dX5_bitsOf_2 : decode cX5_bitsOf 2 = .ok (.iload_n 0, 1) := by decide +kernel
theorem dX5_bitsOf_3 : decode cX5_bitsOf 3 = .ok (.istore_n 2, 1) := by decide +kernel
theorem dX5_bitsOf_4 : decode cX5_bitsOf 4 = .ok (.iload_n 2, 1) := by decide +kernel
theorem dX5_bitsOf_5 : decode cX5_bitsOf 5 = .ok (.ifCond .eq 15, 3) := by decide +kernel
theorem dX5_bitsOf_8 : decode cX5_bitsOf 8 = .ok (.iinc 1 1, 3) := by decide +kernel
theorem dX5_bitsOf_11 : decode cX5_bitsOf 11 = .ok (.iload_n 2, 1) := by decide +kernel
theorem dX5_bitsOf_12 : decode cX5_bitsOf 12 = .ok (.iload_n 2, 1) := by decide +kernel
theorem dX5_bitsOf_13 : decode cX5_bitsOf 13 = .ok (.iconst 1, 1) := by decide +kernel
theorem dX5_bitsOf_14 : decode cX5_bitsOf 14 = .ok (.isub, 1) := by decide +kernel
theorem dX5_bitsOf_15 : decode cX5_bitsOf 15 = .ok (.iand, 1) := by decide +kernel
theorem dX5_bitsOf_16 : decode cX5_bitsOf 16 = .ok (.istore_n 2, 1) := by decide +kernel
theorem dX5_bitsOf_17 : decode cX5_bitsOf 17 = .ok (.goto (-13), 3) := by decide +kernel
theorem dX5_bitsOf_20 : decode cX5_bitsOf 20 = .ok (.iload_n 1, 1) := by decide +kernel
theorem dX5_bitsOf_21 : decode cX5_bitsOf 21 = .ok (.ireturn, 1) := by decide +kernel
theorem dX5_year_0 : decode cX5_year 0 = .ok (.aload_n 0, 1) := by decide +kernel
theorem dX5_year_1 : decode cX5_year 1 = .ok (.getfield 107, 3) := by decide +kernel
theorem dX5_year_4 : decode cX5_year 4 = .ok (.sipush 999, 3) := by decide +kernel
theorem dX5_year_7 : decode cX5_year 7 = .ok (.if_icmp .ne 6, 3) := by decide +kernel
theorem dX5_year_10 : decode cX5_year 10 = .ok (.bipush (-3), 2) := by decide +kernel
theorem dX5_year_12 : decode cX5_year 12 = .ok (.ireturn, 1) := by decide +kernel
theorem dX5_year_13 : decode cX5_year 13 = .ok (.aload_n 0, 1) := by decide +kernel
theorem dX5_year_14 : decode cX5_year 14 = .ok (.invokevirtual 360, 3) := by decide +kernel
theorem dX5_year_17 : decode cX5_year 17 = .ok (.aload_n 0, 1) := by decide +kernel
theorem dX5_year_18 : decode cX5_year 18 = .ok (.invokevirtual 363, 3) := by decide +kernel
theorem dX5_year_21 : decode cX5_year 21 = .ok (.invokestatic 366, 3) := by decide +kernel
theorem dX5_year_24 : decode cX5_year 24 = .ok (.ireturn, 1) := by decide +kernel
theorem dX5_runs_0 : decode cX5_runs 0 = .ok (.aload_n 0, 1) := by decide +kernel
theorem dX5_runs_1 : decode cX5_runs 1 = .ok (.getfield 107, 3) := by decide +kernel
theorem dX5_runs_4 : decode cX5_runs 4 = .ok (.istore 4, 2) := by decide +kernel
theorem dX5_runs_6 : decode cX5_runs 6 = .ok (.aload_n 0, 1) := by decide +kernel
theorem dX5_runs_7 : decode cX5_runs 7 = .ok (.getfield 357, 3) := by decide +kernel
theorem dX5_runs_10 : decode cX5_runs 10 = .ok (.istore 5, 2) := by decide +kernel
theorem dX5_runs_12 : decode cX5_runs 12 = .ok (.iload_n 3, 1) := by decide +kernel
theorem dX5_runs_13 : decode cX5_runs 13 = .ok (.istore 6, 2) := by decide +kernel
theorem dX5_runs_15 : decode cX5_runs 15 = .ok (.iconst 0, 1) := by decide +kernel
theorem dX5_runs_16 : decode cX5_runs 16 = .ok (.istore 7, 2) := by decide +kernel
theorem dX5_runs_18 : decode cX5_runs 18 = .ok (.iload 7, 2) := by decide +kernel
theorem dX5_runs_20 : decode cX5_runs 20 = .ok (.bipush 36, 2) := by decide +kernel
theorem dX5_runs_22 : decode cX5_runs 22 = .ok (.if_icmp .ge 23, 3) := by decide +kernel
theorem dX5_runs_25 : decode cX5_runs 25 = .ok (.aload_n 0, 1) := by decide +kernel
theorem dX5_runs_26 : decode cX5_runs 26 = .ok (.getfield 35, 3) := by decide +kernel
theorem dX5_runs_29 : decode cX5_runs 29 = .ok (.iload 7, 2) := by decide +kernel
theorem dX5_runs_31 : decode cX5_runs 31 = .ok (.aload_n 0, 1) := by decide +kernel
theorem dX5_runs_32 : decode cX5_runs 32 = .ok (.getfield 26, 3) := by decide +kernel
theorem dX5_runs_35 : decode cX5_runs 35 = .ok (.iload 7, 2) := by decide +kernel
theorem dX5_runs_37 : decode cX5_runs 37 = .ok (.iaload, 1) := by decide +kernel
theorem dX5_runs_38 : decode cX5_runs 38 = .ok (.iastore, 1) := by decide +kernel
theorem dX5_runs_39 : decode cX5_runs 39 = .ok (.iinc 7 1, 3) := by decide +kernel
theorem dX5_runs_42 : decode cX5_runs 42 = .ok (.goto (-24), 3) := by decide +kernel
theorem dX5_runs_45 : decode cX5_runs 45 = .ok (.iconst 0, 1) := by decide +kernel
theorem dX5_runs_46 : decode cX5_runs 46 = .ok (.istore 7, 2) := by decide +kernel
theorem dX5_runs_48 : decode cX5_runs 48 = .ok (.iload 7, 2) := by decide +kernel
theorem dX5_runs_50 : decode cX5_runs 50 = .ok (.iload_n 1, 1) := by decide +kernel
theorem dX5_runs_51 : decode cX5_runs 51 = .ok (.if_icmp .ge 70, 3) := by decide +kernel
theorem dX5_runs_54 : decode cX5_runs 54 = .ok (.iload 6, 2) := by decide +kernel
theorem dX5_runs_56 : decode cX5_runs 56 = .ok (.ldc_w 369, 3) := by decide +kernel
theorem dX5_runs_59 : decode cX5_runs 59 = .ok (.imul, 1) := by decide +kernel
theorem dX5_runs_60 : decode cX5_runs 60 = .ok (.sipush 12345, 3) := by decide +kernel
theorem dX5_runs_63 : decode cX5_runs 63 = .ok (.iadd, 1) := by decide +kernel
theorem dX5_runs_64 : decode cX5_runs 64 = .ok (.istore 6, 2) := by decide +kernel
theorem dX5_runs_66 : decode cX5_runs 66 = .ok (.iconst 0, 1) := by decide +kernel
theorem dX5_runs_67 : decode cX5_runs 67 = .ok (.istore 8, 2) := by decide +kernel
theorem dX5_runs_69 : decode cX5_runs 69 = .ok (.iload 8, 2) := by decide +kernel
theorem dX5_runs_71 : decode cX5_runs 71 = .ok (.bipush 12, 2) := by decide +kernel
theorem dX5_runs_73 : decode cX5_runs 73 = .ok (.if_icmp .ge 27, 3) := by decide +kernel
theorem dX5_runs_76 : decode cX5_runs 76 = .ok (.iload_n 2, 1) := by decide +kernel
theorem dX5_runs_77 : decode cX5_runs 77 = .ok (.ifCond .eq 23, 3) := by decide +kernel
theorem dX5_runs_80 : decode cX5_runs 80 = .ok (.aload_n 0, 1) := by decide +kernel
theorem dX5_runs_81 : decode cX5_runs 81 = .ok (.iload 8, 2) := by decide +kernel
theorem dX5_runs_83 : decode cX5_runs 83 = .ok (.iload 6, 2) := by decide +kernel
theorem dX5_runs_85 : decode cX5_runs 85 = .ok (.bipush 9, 2) := by decide +kernel
theorem dX5_runs_87 : decode cX5_runs 87 = .ok (.iushr, 1) := by decide +kernel
theorem dX5_runs_88 : decode cX5_runs 88 = .ok (.bipush 10, 2) := by decide +kernel
theorem dX5_runs_90 : decode cX5_runs 90 = .ok (.irem, 1) := by decide +kernel
theorem dX5_runs_91 : decode cX5_runs 91 = .ok (.invokevirtual 344, 3) := by decide +kernel
theorem dX5_runs_94 : decode cX5_runs 94 = .ok (.iinc 8 1, 3) := by decide +kernel
theorem dX5_runs_97 : decode cX5_runs 97 = .ok (.goto (-28), 3) := by decide +kernel
theorem dX5_runs_100 : decode cX5_runs 100 = .ok (.aload_n 0, 1) := by decide +kernel
theorem dX5_runs_101 : decode cX5_runs 101 = .ok (.invokevirtual 360, 3) := by decide +kernel
theorem dX5_runs_104 : decode cX5_runs 104 = .ok (.aload_n 0, 1) := by decide +kernel
theorem dX5_runs_105 : decode cX5_runs 105 = .ok (.getfield 41, 3) := by decide +kernel
theorem dX5_runs_108 : decode cX5_runs 108 = .ok (.iload 7, 2) := by decide +kernel
theorem dX5_runs_110 : decode cX5_runs 110 = .ok (.aload_n 0, 1) := by decide +kernel
theorem dX5_runs_111 : decode cX5_runs 111 = .ok (.invokevirtual 363, 3) := by decide +kernel
theorem dX5_runs_114 : decode cX5_runs 114 = .ok (.iastore, 1) := by decide +kernel
theorem dX5_runs_115 : decode cX5_runs 115 = .ok (.iinc 7 1, 3) := by decide +kernel
theorem dX5_runs_118 : decode cX5_runs 118 = .ok (.goto (-70), 3) := by decide +kernel
theorem dX5_runs_121 : decode cX5_runs 121 = .ok (.aload_n 0, 1) := by decide +kernel
theorem dX5_runs_122 : decode cX5_runs 122 = .ok (.aload_n 0, 1) := by decide +kernel
theorem dX5_runs_123 : decode cX5_runs 123 = .ok (.invokevirtual 363, 3) := by decide +kernel
theorem dX5_runs_126 : decode cX5_runs 126 = .ok (.putfield 370, 3) := by decide +kernel
theorem dX5_runs_129 : decode cX5_runs 129 = .ok (.aload_n 0, 1) := by decide +kernel
theorem dX5_runs_130 : decode cX5_runs 130 = .ok (.aload_n 0, 1) := by decide +kernel
theorem dX5_runs_131 : decode cX5_runs 131 = .ok (.getfield 357, 3) := by decide +kernel
theorem dX5_runs_134 : decode cX5_runs 134 = .ok (.iload 5, 2) := by decide +kernel
theorem dX5_runs_136 : decode cX5_runs 136 = .ok (.isub, 1) := by decide +kernel
theorem dX5_runs_137 : decode cX5_runs 137 = .ok (.putfield 373, 3) := by decide +kernel
theorem dX5_runs_140 : decode cX5_runs 140 = .ok (.iconst 0, 1) := by decide +kernel
theorem dX5_runs_141 : decode cX5_runs 141 = .ok (.istore 7, 2) := by decide +kernel
theorem dX5_runs_143 : decode cX5_runs 143 = .ok (.iload 7, 2) := by decide +kernel
theorem dX5_runs_145 : decode cX5_runs 145 = .ok (.bipush 36, 2) := by decide +kernel
theorem dX5_runs_147 : decode cX5_runs 147 = .ok (.if_icmp .ge 37, 3) := by decide +kernel
theorem dX5_runs_150 : decode cX5_runs 150 = .ok (.aload_n 0, 1) := by decide +kernel
theorem dX5_runs_151 : decode cX5_runs 151 = .ok (.getfield 38, 3) := by decide +kernel
theorem dX5_runs_154 : decode cX5_runs 154 = .ok (.iload 7, 2) := by decide +kernel
theorem dX5_runs_156 : decode cX5_runs 156 = .ok (.aload_n 0, 1) := by decide +kernel
theorem dX5_runs_157 : decode cX5_runs 157 = .ok (.getfield 26, 3) := by decide +kernel
theorem dX5_runs_160 : decode cX5_runs 160 = .ok (.iload 7, 2) := by decide +kernel
theorem dX5_runs_162 : decode cX5_runs 162 = .ok (.iaload, 1) := by decide +kernel
theorem dX5_runs_163 : decode cX5_runs 163 = .ok (.iastore, 1) := by decide +kernel
theorem dX5_runs_164 : decode cX5_runs 164 = .ok (.aload_n 0, 1) := by decide +kernel
theorem dX5_runs_165 : decode cX5_runs 165 = .ok (.getfield 26, 3) := by decide +kernel
theorem dX5_runs_168 : decode cX5_runs 168 = .ok (.iload 7, 2) := by decide +kernel
theorem dX5_runs_170 : decode cX5_runs 170 = .ok (.aload_n 0, 1) := by decide +kernel
theorem dX5_runs_171 : decode cX5_runs 171 = .ok (.getfield 35, 3) := by decide +kernel
theorem dX5_runs_174 : decode cX5_runs 174 = .ok (.iload 7, 2) := by decide +kernel
theorem dX5_runs_176 : decode cX5_runs 176 = .ok (.iaload, 1) := by decide +kernel
theorem dX5_runs_177 : decode cX5_runs 177 = .ok (.iastore, 1) := by decide +kernel
theorem dX5_runs_178 : decode cX5_runs 178 = .ok (.iinc 7 1, 3) := by decide +kernel
theorem dX5_runs_181 : decode cX5_runs 181 = .ok (.goto (-38), 3) := by decide +kernel
theorem dX5_runs_184 : decode cX5_runs 184 = .ok (.aload_n 0, 1) := by decide +kernel
theorem dX5_runs_185 : decode cX5_runs 185 = .ok (.iload 4, 2) := by decide +kernel
theorem dX5_runs_187 : decode cX5_runs 187 = .ok (.putfield 107, 3) := by decide +kernel
theorem dX5_runs_190 : decode cX5_runs 190 = .ok (.aload_n 0, 1) := by decide +kernel
theorem dX5_runs_191 : decode cX5_runs 191 = .ok (.iload 5, 2) := by decide +kernel
theorem dX5_runs_193 : decode cX5_runs 193 = .ok (.putfield 357, 3) := by decide +kernel
theorem dX5_runs_196 : decode cX5_runs 196 = .ok (.return_, 1) := by decide +kernel
theorem dX5_dryBehind_0 : decode cX5_dryBehind 0 = .ok (.aload_n 0, 1) := by decide +kernel
theorem dX5_dryBehind_1 : decode cX5_dryBehind 1 = .ok (.iload_n 1, 1) := by decide +kernel
theorem dX5_dryBehind_2 : decode cX5_dryBehind 2 = .ok (.iconst 0, 1) := by decide +kernel
theorem dX5_dryBehind_3 : decode cX5_dryBehind 3 = .ok (.iconst 0, 1) := by decide +kernel
theorem dX5_dryBehind_4 : decode cX5_dryBehind 4 = .ok (.invokevirtual 376, 3) := by decide +kernel
theorem dX5_dryBehind_7 : decode cX5_dryBehind 7 = .ok (.aload_n 0, 1) := by decide +kernel
theorem dX5_dryBehind_8 : decode cX5_dryBehind 8 = .ok (.getfield 370, 3) := by decide +kernel
theorem dX5_dryBehind_11 : decode cX5_dryBehind 11 = .ok (.ireturn, 1) := by decide +kernel
theorem dX5_judged_0 : decode cX5_judged 0 = .ok (.iconst (-1), 1) := by decide +kernel
theorem dX5_judged_1 : decode cX5_judged 1 = .ok (.istore_n 2, 1) := by decide +kernel
theorem dX5_judged_2 : decode cX5_judged 2 = .ok (.iconst 0, 1) := by decide +kernel
theorem dX5_judged_3 : decode cX5_judged 3 = .ok (.istore_n 3, 1) := by decide +kernel
theorem dX5_judged_4 : decode cX5_judged 4 = .ok (.iload_n 3, 1) := by decide +kernel
theorem dX5_judged_5 : decode cX5_judged 5 = .ok (.iload_n 1, 1) := by decide +kernel
theorem dX5_judged_6 : decode cX5_judged 6 = .ok (.if_icmp .ge 41, 3) := by decide +kernel
theorem dX5_judged_9 : decode cX5_judged 9 = .ok (.iload_n 2, 1) := by decide +kernel
theorem dX5_judged_10 : decode cX5_judged 10 = .ok (.iconst (-1), 1) := by decide +kernel
theorem dX5_judged_11 : decode cX5_judged 11 = .ok (.if_icmp .eq 24, 3) := by decide +kernel
theorem dX5_judged_14 : decode cX5_judged 14 = .ok (.aload_n 0, 1) := by decide +kernel
theorem dX5_judged_15 : decode cX5_judged 15 = .ok (.getfield 41, 3) := by decide +kernel
theorem dX5_judged_18 : decode cX5_judged 18 = .ok (.iload_n 3, 1) := by decide +kernel
theorem dX5_judged_19 : decode cX5_judged 19 = .ok (.iaload, 1) := by decide +kernel
theorem dX5_judged_20 : decode cX5_judged 20 = .ok (.invokestatic 366, 3) := by decide +kernel
theorem dX5_judged_23 : decode cX5_judged 23 = .ok (.aload_n 0, 1) := by decide +kernel
theorem dX5_judged_24 : decode cX5_judged 24 = .ok (.getfield 41, 3) := by decide +kernel
theorem dX5_judged_27 : decode cX5_judged 27 = .ok (.iload_n 2, 1) := by decide +kernel
theorem dX5_judged_28 : decode cX5_judged 28 = .ok (.iaload, 1) := by decide +kernel
theorem dX5_judged_29 : decode cX5_judged 29 = .ok (.invokestatic 366, 3) := by decide +kernel
theorem dX5_judged_32 : decode cX5_judged 32 = .ok (.if_icmp .le 7, 3) := by decide +kernel
theorem dX5_judged_35 : decode cX5_judged 35 = .ok (.iload_n 3, 1) := by decide +kernel
theorem dX5_judged_36 : decode cX5_judged 36 = .ok (.goto 4, 3) := by decide +kernel
theorem dX5_judged_39 : decode cX5_judged 39 = .ok (.iload_n 2, 1) := by decide +kernel
theorem dX5_judged_40 : decode cX5_judged 40 = .ok (.istore_n 2, 1) := by decide +kernel
theorem dX5_judged_41 : decode cX5_judged 41 = .ok (.iinc 3 1, 3) := by decide +kernel
theorem dX5_judged_44 : decode cX5_judged 44 = .ok (.goto (-40), 3) := by decide +kernel
theorem dX5_judged_47 : decode cX5_judged 47 = .ok (.iload_n 2, 1) := by decide +kernel
theorem dX5_judged_48 : decode cX5_judged 48 = .ok (.ireturn, 1) := by decide +kernel
theorem dX5_kept_0 : decode cX5_kept 0 = .ok (.iconst 0, 1) := by decide +kernel
theorem dX5_kept_1 : decode cX5_kept 1 = .ok (.istore_n 2, 1) := by decide +kernel
theorem dX5_kept_2 : decode cX5_kept 2 = .ok (.iconst 0, 1) := by decide +kernel
theorem dX5_kept_3 : decode cX5_kept 3 = .ok (.istore_n 3, 1) := by decide +kernel
theorem dX5_kept_4 : decode cX5_kept 4 = .ok (.iconst 0, 1) := by decide +kernel
theorem dX5_kept_5 : decode cX5_kept 5 = .ok (.istore 4, 2) := by decide +kernel
theorem dX5_kept_7 : decode cX5_kept 7 = .ok (.iload 4, 2) := by decide +kernel
theorem dX5_kept_9 : decode cX5_kept 9 = .ok (.iload_n 1, 1) := by decide +kernel
theorem dX5_kept_10 : decode cX5_kept 10 = .ok (.if_icmp .ge 48, 3) := by decide +kernel
theorem dX5_kept_13 : decode cX5_kept 13 = .ok (.aload_n 0, 1) := by decide +kernel
theorem dX5_kept_14 : decode cX5_kept 14 = .ok (.getfield 41, 3) := by decide +kernel
theorem dX5_kept_17 : decode cX5_kept 17 = .ok (.iload 4, 2) := by decide +kernel
theorem dX5_kept_19 : decode cX5_kept 19 = .ok (.iaload, 1) := by decide +kernel
theorem dX5_kept_20 : decode cX5_kept 20 = .ok (.invokestatic 366, 3) := by decide +kernel
theorem dX5_kept_23 : decode cX5_kept 23 = .ok (.istore 5, 2) := by decide +kernel
theorem dX5_kept_25 : decode cX5_kept 25 = .ok (.iload_n 3, 1) := by decide +kernel
theorem dX5_kept_26 : decode cX5_kept 26 = .ok (.iload 5, 2) := by decide +kernel
theorem dX5_kept_28 : decode cX5_kept 28 = .ok (.iload_n 2, 1) := by decide +kernel
theorem dX5_kept_29 : decode cX5_kept 29 = .ok (.if_icmp .lt 7, 3) := by decide +kernel
theorem dX5_kept_32 : decode cX5_kept 32 = .ok (.iconst 1, 1) := by decide +kernel
theorem dX5_kept_33 : decode cX5_kept 33 = .ok (.goto 4, 3) := by decide +kernel
theorem dX5_kept_36 : decode cX5_kept 36 = .ok (.iconst 0, 1) := by decide +kernel
theorem dX5_kept_37 : decode cX5_kept 37 = .ok (.iadd, 1) := by decide +kernel
theorem dX5_kept_38 : decode cX5_kept 38 = .ok (.istore_n 3, 1) := by decide +kernel
theorem dX5_kept_39 : decode cX5_kept 39 = .ok (.iload 5, 2) := by decide +kernel
theorem dX5_kept_41 : decode cX5_kept 41 = .ok (.iload_n 2, 1) := by decide +kernel
theorem dX5_kept_42 : decode cX5_kept 42 = .ok (.if_icmp .le 8, 3) := by decide +kernel
theorem dX5_kept_45 : decode cX5_kept 45 = .ok (.iload 5, 2) := by decide +kernel
theorem dX5_kept_47 : decode cX5_kept 47 = .ok (.goto 4, 3) := by decide +kernel
theorem dX5_kept_50 : decode cX5_kept 50 = .ok (.iload_n 2, 1) := by decide +kernel
theorem dX5_kept_51 : decode cX5_kept 51 = .ok (.istore_n 2, 1) := by decide +kernel
theorem dX5_kept_52 : decode cX5_kept 52 = .ok (.iinc 4 1, 3) := by decide +kernel
theorem dX5_kept_55 : decode cX5_kept 55 = .ok (.goto (-48), 3) := by decide +kernel
theorem dX5_kept_58 : decode cX5_kept 58 = .ok (.iload_n 3, 1) := by decide +kernel
theorem dX5_kept_59 : decode cX5_kept 59 = .ok (.ireturn, 1) := by decide +kernel
theorem dX5_run_0 : decode cX5_run 0 = .ok (.iload_n 2, 1) := by decide +kernel
theorem dX5_run_1 : decode cX5_run 1 = .ok (.i2l, 1) := by decide +kernel
theorem dX5_run_2 : decode cX5_run 2 = .ok (.lconst 0, 1) := by decide +kernel
theorem dX5_run_3 : decode cX5_run 3 = .ok (.ldc2_w 380, 3) := by decide +kernel
theorem dX5_run_6 : decode cX5_run 6 = .ok (.invokestatic 76, 3) := by decide +kernel
theorem dX5_run_9 : decode cX5_run 9 = .ok (.ifCond .ne 33, 3) := by decide +kernel
theorem dX5_run_12 : decode cX5_run 12 = .ok (.iload_n 2, 1) := by decide +kernel
theorem dX5_run_13 : decode cX5_run 13 = .ok (.bipush 100, 2) := by decide +kernel
theorem dX5_run_15 : decode cX5_run 15 = .ok (.idiv, 1) := by decide +kernel
theorem dX5_run_16 : decode cX5_run 16 = .ok (.i2l, 1) := by decide +kernel
theorem dX5_run_17 : decode cX5_run 17 = .ok (.lconst 1, 1) := by decide +kernel
theorem dX5_run_18 : decode cX5_run 18 = .ok (.ldc2_w 382, 3) := by decide +kernel
theorem dX5_run_21 : decode cX5_run 21 = .ok (.invokestatic 76, 3) := by decide +kernel
theorem dX5_run_24 : decode cX5_run 24 = .ok (.ifCond .eq 22, 3) := by decide +kernel
theorem dX5_run_27 : decode cX5_run 27 = .ok (.iload_n 2, 1) := by decide +kernel
theorem dX5_run_28 : decode cX5_run 28 = .ok (.bipush 100, 2) := by decide +kernel
theorem dX5_run_30 : decode cX5_run 30 = .ok (.irem, 1) := by decide +kernel
theorem dX5_run_31 : decode cX5_run 31 = .ok (.i2l, 1) := by decide +kernel
theorem dX5_run_32 : decode cX5_run 32 = .ok (.lconst 0, 1) := by decide +kernel
theorem dX5_run_33 : decode cX5_run 33 = .ok (.ldc2_w 80, 3) := by decide +kernel
theorem dX5_run_36 : decode cX5_run 36 = .ok (.invokestatic 76, 3) := by decide +kernel
theorem dX5_run_39 : decode cX5_run 39 = .ok (.ifCond .eq 7, 3) := by decide +kernel
theorem dX5_run_42 : decode cX5_run 42 = .ok (.iconst 1, 1) := by decide +kernel
theorem dX5_run_43 : decode cX5_run 43 = .ok (.goto 4, 3) := by decide +kernel
theorem dX5_run_46 : decode cX5_run 46 = .ok (.iconst 0, 1) := by decide +kernel
theorem dX5_run_47 : decode cX5_run 47 = .ok (.istore_n 3, 1) := by decide +kernel
theorem dX5_run_48 : decode cX5_run 48 = .ok (.iload_n 1, 1) := by decide +kernel
theorem dX5_run_49 : decode cX5_run 49 = .ok (.i2l, 1) := by decide +kernel
theorem dX5_run_50 : decode cX5_run 50 = .ok (.lconst 0, 1) := by decide +kernel
theorem dX5_run_51 : decode cX5_run 51 = .ok (.ldc2_w 384, 3) := by decide +kernel
theorem dX5_run_54 : decode cX5_run 54 = .ok (.invokestatic 76, 3) := by decide +kernel
theorem dX5_run_57 : decode cX5_run 57 = .ok (.ifCond .eq 7, 3) := by decide +kernel
theorem dX5_run_60 : decode cX5_run 60 = .ok (.iload_n 3, 1) := by decide +kernel
theorem dX5_run_61 : decode cX5_run 61 = .ok (.ifCond .ne 6, 3) := by decide +kernel
theorem dX5_run_64 : decode cX5_run 64 = .ok (.bipush (-2), 2) := by decide +kernel
theorem dX5_run_66 : decode cX5_run 66 = .ok (.ireturn, 1) := by decide +kernel
theorem dX5_run_67 : decode cX5_run 67 = .ok (.aload_n 0, 1) := by decide +kernel
theorem dX5_run_68 : decode cX5_run 68 = .ok (.iload_n 1, 1) := by decide +kernel
theorem dX5_run_69 : decode cX5_run 69 = .ok (.iconst 0, 1) := by decide +kernel
theorem dX5_run_70 : decode cX5_run 70 = .ok (.iconst 0, 1) := by decide +kernel
theorem dX5_run_71 : decode cX5_run 71 = .ok (.invokevirtual 376, 3) := by decide +kernel
theorem dX5_run_74 : decode cX5_run 74 = .ok (.iload_n 2, 1) := by decide +kernel
theorem dX5_run_75 : decode cX5_run 75 = .ok (.iconst 4, 1) := by decide +kernel
theorem dX5_run_76 : decode cX5_run 76 = .ok (.if_icmp .le 22, 3) := by decide +kernel
theorem dX5_run_79 : decode cX5_run 79 = .ok (.aload_n 0, 1) := by decide +kernel
theorem dX5_run_80 : decode cX5_run 80 = .ok (.getfield 38, 3) := by decide +kernel
theorem dX5_run_83 : decode cX5_run 83 = .ok (.iconst 3, 1) := by decide +kernel
theorem dX5_run_84 : decode cX5_run 84 = .ok (.iload_n 2, 1) := by decide +kernel
theorem dX5_run_85 : decode cX5_run 85 = .ok (.bipush 100, 2) := by decide +kernel
theorem dX5_run_87 : decode cX5_run 87 = .ok (.irem, 1) := by decide +kernel
theorem dX5_run_88 : decode cX5_run 88 = .ok (.imul, 1) := by decide +kernel
theorem dX5_run_89 : decode cX5_run 89 = .ok (.iload_n 2, 1) := by decide +kernel
theorem dX5_run_90 : decode cX5_run 90 = .ok (.bipush 100, 2) := by decide +kernel
theorem dX5_run_92 : decode cX5_run 92 = .ok (.idiv, 1) := by decide +kernel
theorem dX5_run_93 : decode cX5_run 93 = .ok (.iadd, 1) := by decide +kernel
theorem dX5_run_94 : decode cX5_run 94 = .ok (.iconst 1, 1) := by decide +kernel
theorem dX5_run_95 : decode cX5_run 95 = .ok (.isub, 1) := by decide +kernel
theorem dX5_run_96 : decode cX5_run 96 = .ok (.iaload, 1) := by decide +kernel
theorem dX5_run_97 : decode cX5_run 97 = .ok (.ireturn, 1) := by decide +kernel
theorem dX5_run_98 : decode cX5_run 98 = .ok (.iload_n 2, 1) := by decide +kernel
theorem dX5_run_99 : decode cX5_run 99 = .ok (.iconst 2, 1) := by decide +kernel
theorem dX5_run_100 : decode cX5_run 100 = .ok (.if_icmp .ge 19, 3) := by decide +kernel
theorem dX5_run_103 : decode cX5_run 103 = .ok (.iload_n 2, 1) := by decide +kernel
theorem dX5_run_104 : decode cX5_run 104 = .ok (.ifCond .ne 10, 3) := by decide +kernel
theorem dX5_run_107 : decode cX5_run 107 = .ok (.aload_n 0, 1) := by decide +kernel
theorem dX5_run_108 : decode cX5_run 108 = .ok (.getfield 370, 3) := by decide +kernel
theorem dX5_run_111 : decode cX5_run 111 = .ok (.goto 7, 3) := by decide +kernel
theorem dX5_run_114 : decode cX5_run 114 = .ok (.aload_n 0, 1) := by decide +kernel
theorem dX5_run_115 : decode cX5_run 115 = .ok (.getfield 373, 3) := by decide +kernel
theorem dX5_run_118 : decode cX5_run 118 = .ok (.ireturn, 1) := by decide +kernel
theorem dX5_run_119 : decode cX5_run 119 = .ok (.aload_n 0, 1) := by decide +kernel
theorem dX5_run_120 : decode cX5_run 120 = .ok (.iload_n 1, 1) := by decide +kernel
theorem dX5_run_121 : decode cX5_run 121 = .ok (.invokevirtual 386, 3) := by decide +kernel
theorem dX5_run_124 : decode cX5_run 124 = .ok (.istore 4, 2) := by decide +kernel
theorem dX5_run_126 : decode cX5_run 126 = .ok (.iload_n 2, 1) := by decide +kernel
theorem dX5_run_127 : decode cX5_run 127 = .ok (.iconst 2, 1) := by decide +kernel
theorem dX5_run_128 : decode cX5_run 128 = .ok (.if_icmp .ne 8, 3) := by decide +kernel
theorem dX5_run_131 : decode cX5_run 131 = .ok (.iload 4, 2) := by decide +kernel
theorem dX5_run_133 : decode cX5_run 133 = .ok (.goto 36, 3) := by decide +kernel
theorem dX5_run_136 : decode cX5_run 136 = .ok (.iload_n 2, 1) := by decide +kernel
theorem dX5_run_137 : decode cX5_run 137 = .ok (.iconst 4, 1) := by decide +kernel
theorem dX5_run_138 : decode cX5_run 138 = .ok (.if_icmp .ne 11, 3) := by decide +kernel
theorem dX5_run_141 : decode cX5_run 141 = .ok (.aload_n 0, 1) := by decide +kernel
theorem dX5_run_142 : decode cX5_run 142 = .ok (.iload_n 1, 1) := by decide +kernel
theorem dX5_run_143 : decode cX5_run 143 = .ok (.invokevirtual 389, 3) := by decide +kernel
theorem dX5_run_146 : decode cX5_run 146 = .ok (.goto 23, 3) := by decide +kernel
theorem dX5_run_149 : decode cX5_run 149 = .ok (.iload 4, 2) := by decide +kernel
theorem dX5_run_151 : decode cX5_run 151 = .ok (.iconst (-1), 1) := by decide +kernel
theorem dX5_run_152 : decode cX5_run 152 = .ok (.if_icmp .ne 7, 3) := by decide +kernel
theorem dX5_run_155 : decode cX5_run 155 = .ok (.iconst (-1), 1) := by decide +kernel
theorem dX5_run_156 : decode cX5_run 156 = .ok (.goto 13, 3) := by decide +kernel
theorem dX5_run_159 : decode cX5_run 159 = .ok (.aload_n 0, 1) := by decide +kernel
theorem dX5_run_160 : decode cX5_run 160 = .ok (.getfield 41, 3) := by decide +kernel
theorem dX5_run_163 : decode cX5_run 163 = .ok (.iload 4, 2) := by decide +kernel
theorem dX5_run_165 : decode cX5_run 165 = .ok (.iaload, 1) := by decide +kernel
theorem dX5_run_166 : decode cX5_run 166 = .ok (.invokestatic 366, 3) := by decide +kernel
theorem dX5_run_169 : decode cX5_run 169 = .ok (.ireturn, 1) := by decide +kernel
theorem dX5_first_0 : decode cX5_first 0 = .ok (.iload_n 1, 1) := by decide +kernel
theorem dX5_first_1 : decode cX5_first 1 = .ok (.i2l, 1) := by decide +kernel
theorem dX5_first_2 : decode cX5_first 2 = .ok (.lconst 0, 1) := by decide +kernel
theorem dX5_first_3 : decode cX5_first 3 = .ok (.ldc2_w 384, 3) := by decide +kernel
theorem dX5_first_6 : decode cX5_first 6 = .ok (.invokestatic 76, 3) := by decide +kernel
theorem dX5_first_9 : decode cX5_first 9 = .ok (.ifCond .eq 15, 3) := by decide +kernel
theorem dX5_first_12 : decode cX5_first 12 = .ok (.iload_n 2, 1) := by decide +kernel
theorem dX5_first_13 : decode cX5_first 13 = .ok (.i2l, 1) := by decide +kernel
theorem dX5_first_14 : decode cX5_first 14 = .ok (.lconst 1, 1) := by decide +kernel
theorem dX5_first_15 : decode cX5_first 15 = .ok (.ldc2_w 392, 3) := by decide +kernel
theorem dX5_first_18 : decode cX5_first 18 = .ok (.invokestatic 76, 3) := by decide +kernel
theorem dX5_first_21 : decode cX5_first 21 = .ok (.ifCond .ne 6, 3) := by decide +kernel
theorem dX5_first_24 : decode cX5_first 24 = .ok (.bipush (-2), 2) := by decide +kernel
theorem dX5_first_26 : decode cX5_first 26 = .ok (.ireturn, 1) := by decide +kernel
theorem dX5_first_27 : decode cX5_first 27 = .ok (.aload_n 0, 1) := by decide +kernel
theorem dX5_first_28 : decode cX5_first 28 = .ok (.iload_n 1, 1) := by decide +kernel
theorem dX5_first_29 : decode cX5_first 29 = .ok (.iconst 0, 1) := by decide +kernel
theorem dX5_first_30 : decode cX5_first 30 = .ok (.iconst 0, 1) := by decide +kernel
theorem dX5_first_31 : decode cX5_first 31 = .ok (.invokevirtual 376, 3) := by decide +kernel
theorem dX5_first_34 : decode cX5_first 34 = .ok (.iconst 0, 1) := by decide +kernel
theorem dX5_first_35 : decode cX5_first 35 = .ok (.istore_n 3, 1) := by decide +kernel
theorem dX5_first_36 : decode cX5_first 36 = .ok (.iload_n 3, 1) := by decide +kernel
theorem dX5_first_37 : decode cX5_first 37 = .ok (.iload_n 1, 1) := by decide +kernel
theorem dX5_first_38 : decode cX5_first 38 = .ok (.if_icmp .ge 24, 3) := by decide +kernel
theorem dX5_first_41 : decode cX5_first 41 = .ok (.aload_n 0, 1) := by decide +kernel
theorem dX5_first_42 : decode cX5_first 42 = .ok (.getfield 41, 3) := by decide +kernel
theorem dX5_first_45 : decode cX5_first 45 = .ok (.iload_n 3, 1) := by decide +kernel
theorem dX5_first_46 : decode cX5_first 46 = .ok (.iaload, 1) := by decide +kernel
theorem dX5_first_47 : decode cX5_first 47 = .ok (.invokestatic 366, 3) := by decide +kernel
theorem dX5_first_50 : decode cX5_first 50 = .ok (.iload_n 2, 1) := by decide +kernel
theorem dX5_first_51 : decode cX5_first 51 = .ok (.if_icmp .lt 5, 3) := by decide +kernel
theorem dX5_first_54 : decode cX5_first 54 = .ok (.iload_n 3, 1) := by decide +kernel
theorem dX5_first_55 : decode cX5_first 55 = .ok (.ireturn, 1) := by decide +kernel
theorem dX5_first_56 : decode cX5_first 56 = .ok (.iinc 3 1, 3) := by decide +kernel
theorem dX5_first_59 : decode cX5_first 59 = .ok (.goto (-23), 3) := by decide +kernel
theorem dX5_first_62 : decode cX5_first 62 = .ok (.iconst (-1), 1) := by decide +kernel
theorem dX5_first_63 : decode cX5_first 63 = .ok (.ireturn, 1) := by decide +kernel
theorem dX5_where_0 : decode cX5_where 0 = .ok (.iload_n 1, 1) := by decide +kernel
theorem dX5_where_1 : decode cX5_where 1 = .ok (.i2l, 1) := by decide +kernel
theorem dX5_where_2 : decode cX5_where 2 = .ok (.lconst 0, 1) := by decide +kernel
theorem dX5_where_3 : decode cX5_where 3 = .ok (.ldc2_w 394, 3) := by decide +kernel
theorem dX5_where_6 : decode cX5_where 6 = .ok (.invokestatic 76, 3) := by decide +kernel
theorem dX5_where_9 : decode cX5_where 9 = .ok (.ifCond .eq 25, 3) := by decide +kernel
theorem dX5_where_12 : decode cX5_where 12 = .ok (.iload_n 2, 1) := by decide +kernel
theorem dX5_where_13 : decode cX5_where 13 = .ok (.i2l, 1) := by decide +kernel
theorem dX5_where_14 : decode cX5_where 14 = .ok (.lconst 0, 1) := by decide +kernel
theorem dX5_where_15 : decode cX5_where 15 = .ok (.ldc2_w 384, 3) := by decide +kernel
theorem dX5_where_18 : decode cX5_where 18 = .ok (.invokestatic 76, 3) := by decide +kernel
theorem dX5_where_21 : decode cX5_where 21 = .ok (.ifCond .eq 13, 3) := by decide +kernel
theorem dX5_where_24 : decode cX5_where 24 = .ok (.iload_n 3, 1) := by decide +kernel
theorem dX5_where_25 : decode cX5_where 25 = .ok (.i2l, 1) := by decide +kernel
theorem dX5_where_26 : decode cX5_where 26 = .ok (.lconst 0, 1) := by decide +kernel
theorem dX5_where_27 : decode cX5_where 27 = .ok (.lconst 1, 1) := by decide +kernel
theorem dX5_where_28 : decode cX5_where 28 = .ok (.invokestatic 76, 3) := by decide +kernel
theorem dX5_where_31 : decode cX5_where 31 = .ok (.ifCond .ne 6, 3) := by decide +kernel
theorem dX5_where_34 : decode cX5_where 34 = .ok (.bipush (-2), 2) := by decide +kernel
theorem dX5_where_36 : decode cX5_where 36 = .ok (.ireturn, 1) := by decide +kernel
theorem dX5_where_37 : decode cX5_where 37 = .ok (.aload_n 0, 1) := by decide +kernel
theorem dX5_where_38 : decode cX5_where 38 = .ok (.getfield 73, 3) := by decide +kernel
theorem dX5_where_41 : decode cX5_where 41 = .ok (.bipush 6, 2) := by decide +kernel
theorem dX5_where_43 : decode cX5_where 43 = .ok (.if_icmp .ne 6, 3) := by decide +kernel
theorem dX5_where_46 : decode cX5_where 46 = .ok (.bipush (-4), 2) := by decide +kernel
theorem dX5_where_48 : decode cX5_where 48 = .ok (.ireturn, 1) := by decide +kernel
theorem dX5_where_49 : decode cX5_where 49 = .ok (.iconst (-1), 1) := by decide +kernel
theorem dX5_where_50 : decode cX5_where 50 = .ok (.istore 4, 2) := by decide +kernel
theorem dX5_where_52 : decode cX5_where 52 = .ok (.iconst (-1), 1) := by decide +kernel
theorem dX5_where_53 : decode cX5_where 53 = .ok (.istore 5, 2) := by decide +kernel
theorem dX5_where_55 : decode cX5_where 55 = .ok (.iconst 0, 1) := by decide +kernel
theorem dX5_where_56 : decode cX5_where 56 = .ok (.istore 6, 2) := by decide +kernel
theorem dX5_where_58 : decode cX5_where 58 = .ok (.iload 6, 2) := by decide +kernel
theorem dX5_where_60 : decode cX5_where 60 = .ok (.bipush 12, 2) := by decide +kernel
theorem dX5_where_62 : decode cX5_where 62 = .ok (.if_icmp .ge 58, 3) := by decide +kernel
theorem dX5_where_65 : decode cX5_where 65 = .ok (.aload_n 0, 1) := by decide +kernel
theorem dX5_where_66 : decode cX5_where 66 = .ok (.iload_n 1, 1) := by decide +kernel
theorem dX5_where_67 : decode cX5_where 67 = .ok (.bipush 10, 2) := by decide +kernel
theorem dX5_where_69 : decode cX5_where 69 = .ok (.idiv, 1) := by decide +kernel
theorem dX5_where_70 : decode cX5_where 70 = .ok (.iload_n 1, 1) := by decide +kernel
theorem dX5_where_71 : decode cX5_where 71 = .ok (.bipush 10, 2) := by decide +kernel
theorem dX5_where_73 : decode cX5_where 73 = .ok (.irem, 1) := by decide +kernel
theorem dX5_where_74 : decode cX5_where 74 = .ok (.iload 6, 2) := by decide +kernel
theorem dX5_where_76 : decode cX5_where 76 = .ok (.invokevirtual 117, 3) := by decide +kernel
theorem dX5_where_79 : decode cX5_where 79 = .ok (.aload_n 0, 1) := by decide +kernel
theorem dX5_where_80 : decode cX5_where 80 = .ok (.iload_n 2, 1) := by decide +kernel
theorem dX5_where_81 : decode cX5_where 81 = .ok (.invokevirtual 396, 3) := by decide +kernel
theorem dX5_where_84 : decode cX5_where 84 = .ok (.invokestatic 366, 3) := by decide +kernel
theorem dX5_where_87 : decode cX5_where 87 = .ok (.istore 7, 2) := by decide +kernel
theorem dX5_where_89 : decode cX5_where 89 = .ok (.aload_n 0, 1) := by decide +kernel
theorem dX5_where_90 : decode cX5_where 90 = .ok (.dup, 1) := by decide +kernel
theorem dX5_where_91 : decode cX5_where 91 = .ok (.getfield 73, 3) := by decide +kernel
theorem dX5_where_94 : decode cX5_where 94 = .ok (.iconst 1, 1) := by decide +kernel
theorem dX5_where_95 : decode cX5_where 95 = .ok (.isub, 1) := by decide +kernel
theorem dX5_where_96 : decode cX5_where 96 = .ok (.putfield 73, 3) := by decide +kernel
theorem dX5_where_99 : decode cX5_where 99 = .ok (.iload 7, 2) := by decide +kernel
theorem dX5_where_101 : decode cX5_where 101 = .ok (.iload 5, 2) := by decide +kernel
theorem dX5_where_103 : decode cX5_where 103 = .ok (.if_icmp .le 11, 3) := by decide +kernel
theorem dX5_where_106 : decode cX5_where 106 = .ok (.iload 6, 2) := by decide +kernel
theorem dX5_where_108 : decode cX5_where 108 = .ok (.istore 4, 2) := by decide +kernel
theorem dX5_where_110 : decode cX5_where 110 = .ok (.iload 7, 2) := by decide +kernel
theorem dX5_where_112 : decode cX5_where 112 = .ok (.istore 5, 2) := by decide +kernel
theorem dX5_where_114 : decode cX5_where 114 = .ok (.iinc 6 1, 3) := by decide +kernel
theorem dX5_where_117 : decode cX5_where 117 = .ok (.goto (-59), 3) := by decide +kernel
theorem dX5_where_120 : decode cX5_where 120 = .ok (.iload_n 3, 1) := by decide +kernel
theorem dX5_where_121 : decode cX5_where 121 = .ok (.ifCond .ne 8, 3) := by decide +kernel
theorem dX5_where_124 : decode cX5_where 124 = .ok (.iload 4, 2) := by decide +kernel
theorem dX5_where_126 : decode cX5_where 126 = .ok (.goto 5, 3) := by decide +kernel
theorem dX5_where_129 : decode cX5_where 129 = .ok (.iload 5, 2) := by decide +kernel
theorem dX5_where_131 : decode cX5_where 131 = .ok (.ireturn, 1) := by decide +kernel
theorem dX5_dryWithout_0 : decode cX5_dryWithout 0 = .ok (.aload_n 0, 1) := by decide +kernel
theorem dX5_dryWithout_1 : decode cX5_dryWithout 1 = .ok (.getfield 32, 3) := by decide +kernel
theorem dX5_dryWithout_4 : decode cX5_dryWithout 4 = .ok (.iconst 3, 1) := by decide +kernel
theorem dX5_dryWithout_5 : decode cX5_dryWithout 5 = .ok (.iload_n 1, 1) := by decide +kernel
theorem dX5_dryWithout_6 : decode cX5_dryWithout 6 = .ok (.imul, 1) := by decide +kernel
theorem dX5_dryWithout_7 : decode cX5_dryWithout 7 = .ok (.iconst 2, 1) := by decide +kernel
theorem dX5_dryWithout_8 : decode cX5_dryWithout 8 = .ok (.iadd, 1) := by decide +kernel
theorem dX5_dryWithout_9 : decode cX5_dryWithout 9 = .ok (.iaload, 1) := by decide +kernel
theorem dX5_dryWithout_10 : decode cX5_dryWithout 10 = .ok (.istore_n 3, 1) := by decide +kernel
theorem dX5_dryWithout_11 : decode cX5_dryWithout 11 = .ok (.aload_n 0, 1) := by decide +kernel
theorem dX5_dryWithout_12 : decode cX5_dryWithout 12 = .ok (.getfield 32, 3) := by decide +kernel
theorem dX5_dryWithout_15 : decode cX5_dryWithout 15 = .ok (.iconst 3, 1) := by decide +kernel
theorem dX5_dryWithout_16 : decode cX5_dryWithout 16 = .ok (.iload_n 1, 1) := by decide +kernel
theorem dX5_dryWithout_17 : decode cX5_dryWithout 17 = .ok (.imul, 1) := by decide +kernel
theorem dX5_dryWithout_18 : decode cX5_dryWithout 18 = .ok (.iconst 2, 1) := by decide +kernel
theorem dX5_dryWithout_19 : decode cX5_dryWithout 19 = .ok (.iadd, 1) := by decide +kernel
theorem dX5_dryWithout_20 : decode cX5_dryWithout 20 = .ok (.iconst 0, 1) := by decide +kernel
theorem dX5_dryWithout_21 : decode cX5_dryWithout 21 = .ok (.iastore, 1) := by decide +kernel
theorem dX5_dryWithout_22 : decode cX5_dryWithout 22 = .ok (.aload_n 0, 1) := by decide +kernel
theorem dX5_dryWithout_23 : decode cX5_dryWithout 23 = .ok (.iload_n 2, 1) := by decide +kernel
theorem dX5_dryWithout_24 : decode cX5_dryWithout 24 = .ok (.invokevirtual 396, 3) := by decide +kernel
theorem dX5_dryWithout_27 : decode cX5_dryWithout 27 = .ok (.istore 4, 2) := by decide +kernel
theorem dX5_dryWithout_29 : decode cX5_dryWithout 29 = .ok (.aload_n 0, 1) := by decide +kernel
theorem dX5_dryWithout_30 : decode cX5_dryWithout 30 = .ok (.getfield 32, 3) := by decide +kernel
theorem dX5_dryWithout_33 : decode cX5_dryWithout 33 = .ok (.iconst 3, 1) := by decide +kernel
theorem dX5_dryWithout_34 : decode cX5_dryWithout 34 = .ok (.iload_n 1, 1) := by decide +kernel
theorem dX5_dryWithout_35 : decode cX5_dryWithout 35 = .ok (.imul, 1) := by decide +kernel
theorem dX5_dryWithout_36 : decode cX5_dryWithout 36 = .ok (.iconst 2, 1) := by decide +kernel
theorem dX5_dryWithout_37 : decode cX5_dryWithout 37 = .ok (.iadd, 1) := by decide +kernel
theorem dX5_dryWithout_38 : decode cX5_dryWithout 38 = .ok (.iload_n 3, 1) := by decide +kernel
theorem dX5_dryWithout_39 : decode cX5_dryWithout 39 = .ok (.iastore, 1) := by decide +kernel
theorem dX5_dryWithout_40 : decode cX5_dryWithout 40 = .ok (.iload 4, 2) := by decide +kernel
theorem dX5_dryWithout_42 : decode cX5_dryWithout 42 = .ok (.ireturn, 1) := by decide +kernel
theorem dX5_idle_0 : decode cX5_idle 0 = .ok (.iload_n 1, 1) := by decide +kernel
theorem dX5_idle_1 : decode cX5_idle 1 = .ok (.i2l, 1) := by decide +kernel
theorem dX5_idle_2 : decode cX5_idle 2 = .ok (.lconst 0, 1) := by decide +kernel
theorem dX5_idle_3 : decode cX5_idle 3 = .ok (.ldc2_w 384, 3) := by decide +kernel
theorem dX5_idle_6 : decode cX5_idle 6 = .ok (.invokestatic 76, 3) := by decide +kernel
theorem dX5_idle_9 : decode cX5_idle 9 = .ok (.ifCond .ne 6, 3) := by decide +kernel
theorem dX5_idle_12 : decode cX5_idle 12 = .ok (.bipush (-2), 2) := by decide +kernel
theorem dX5_idle_14 : decode cX5_idle 14 = .ok (.ireturn, 1) := by decide +kernel
theorem dX5_idle_15 : decode cX5_idle 15 = .ok (.aload_n 0, 1) := by decide +kernel
theorem dX5_idle_16 : decode cX5_idle 16 = .ok (.iload_n 1, 1) := by decide +kernel
theorem dX5_idle_17 : decode cX5_idle 17 = .ok (.invokevirtual 396, 3) := by decide +kernel
theorem dX5_idle_20 : decode cX5_idle 20 = .ok (.invokestatic 366, 3) := by decide +kernel
theorem dX5_idle_23 : decode cX5_idle 23 = .ok (.istore_n 2, 1) := by decide +kernel
theorem dX5_idle_24 : decode cX5_idle 24 = .ok (.iconst 0, 1) := by decide +kernel
theorem dX5_idle_25 : decode cX5_idle 25 = .ok (.istore_n 3, 1) := by decide +kernel
theorem dX5_idle_26 : decode cX5_idle 26 = .ok (.iload_n 3, 1) := by decide +kernel
theorem dX5_idle_27 : decode cX5_idle 27 = .ok (.aload_n 0, 1) := by decide +kernel
theorem dX5_idle_28 : decode cX5_idle 28 = .ok (.getfield 73, 3) := by decide +kernel
theorem dX5_idle_31 : decode cX5_idle 31 = .ok (.if_icmp .ge 38, 3) := by decide +kernel
theorem dX5_idle_34 : decode cX5_idle 34 = .ok (.aload_n 0, 1) := by decide +kernel
theorem dX5_idle_35 : decode cX5_idle 35 = .ok (.getfield 32, 3) := by decide +kernel
theorem dX5_idle_38 : decode cX5_idle 38 = .ok (.iconst 3, 1) := by decide +kernel
theorem dX5_idle_39 : decode cX5_idle 39 = .ok (.iload_n 3, 1) := by decide +kernel
theorem dX5_idle_40 : decode cX5_idle 40 = .ok (.imul, 1) := by decide +kernel
theorem dX5_idle_41 : decode cX5_idle 41 = .ok (.iconst 2, 1) := by decide +kernel
theorem dX5_idle_42 : decode cX5_idle 42 = .ok (.iadd, 1) := by decide +kernel
theorem dX5_idle_43 : decode cX5_idle 43 = .ok (.iaload, 1) := by decide +kernel
theorem dX5_idle_44 : decode cX5_idle 44 = .ok (.iconst 1, 1) := by decide +kernel
theorem dX5_idle_45 : decode cX5_idle 45 = .ok (.if_icmp .ne 18, 3) := by decide +kernel
theorem dX5_idle_48 : decode cX5_idle 48 = .ok (.aload_n 0, 1) := by decide +kernel
theorem dX5_idle_49 : decode cX5_idle 49 = .ok (.iload_n 3, 1) := by decide +kernel
theorem dX5_idle_50 : decode cX5_idle 50 = .ok (.iload_n 1, 1) := by decide +kernel
theorem dX5_idle_51 : decode cX5_idle 51 = .ok (.invokevirtual 399, 3) := by decide +kernel
theorem dX5_idle_54 : decode cX5_idle 54 = .ok (.invokestatic 366, 3) := by decide +kernel
theorem dX5_idle_57 : decode cX5_idle 57 = .ok (.iload_n 2, 1) := by decide +kernel
theorem dX5_idle_58 : decode cX5_idle 58 = .ok (.if_icmp .lt 5, 3) := by decide +kernel
theorem dX5_idle_61 : decode cX5_idle 61 = .ok (.iload_n 3, 1) := by decide +kernel
theorem dX5_idle_62 : decode cX5_idle 62 = .ok (.ireturn, 1) := by decide +kernel
theorem dX5_idle_63 : decode cX5_idle 63 = .ok (.iinc 3 1, 3) := by decide +kernel
theorem dX5_idle_66 : decode cX5_idle 66 = .ok (.goto (-40), 3) := by decide +kernel
theorem dX5_idle_69 : decode cX5_idle 69 = .ok (.iconst (-1), 1) := by decide +kernel
theorem dX5_idle_70 : decode cX5_idle 70 = .ok (.ireturn, 1) := by decide +kernel
theorem dX5_low_0 : decode cX5_low 0 = .ok (.iload_n 1, 1) := by decide +kernel
theorem dX5_low_1 : decode cX5_low 1 = .ok (.i2l, 1) := by decide +kernel
theorem dX5_low_2 : decode cX5_low 2 = .ok (.lconst 0, 1) := by decide +kernel
theorem dX5_low_3 : decode cX5_low 3 = .ok (.ldc2_w 384, 3) := by decide +kernel
theorem dX5_low_6 : decode cX5_low 6 = .ok (.invokestatic 76, 3) := by decide +kernel
theorem dX5_low_9 : decode cX5_low 9 = .ok (.ifCond .eq 15, 3) := by decide +kernel
theorem dX5_low_12 : decode cX5_low 12 = .ok (.iload_n 2, 1) := by decide +kernel
theorem dX5_low_13 : decode cX5_low 13 = .ok (.i2l, 1) := by decide +kernel
theorem dX5_low_14 : decode cX5_low 14 = .ok (.lconst 1, 1) := by decide +kernel
theorem dX5_low_15 : decode cX5_low 15 = .ok (.ldc2_w 392, 3) := by decide +kernel
theorem dX5_low_18 : decode cX5_low 18 = .ok (.invokestatic 76, 3) := by decide +kernel
theorem dX5_low_21 : decode cX5_low 21 = .ok (.ifCond .ne 6, 3) := by decide +kernel
theorem dX5_low_24 : decode cX5_low 24 = .ok (.bipush (-2), 2) := by decide +kernel
theorem dX5_low_26 : decode cX5_low 26 = .ok (.ireturn, 1) := by decide +kernel
theorem dX5_low_27 : decode cX5_low 27 = .ok (.aload_n 0, 1) := by decide +kernel
theorem dX5_low_28 : decode cX5_low 28 = .ok (.getfield 23, 3) := by decide +kernel
theorem dX5_low_31 : decode cX5_low 31 = .ok (.istore_n 3, 1) := by decide +kernel
theorem dX5_low_32 : decode cX5_low 32 = .ok (.iconst (-1), 1) := by decide +kernel
theorem dX5_low_33 : decode cX5_low 33 = .ok (.istore 4, 2) := by decide +kernel
theorem dX5_low_35 : decode cX5_low 35 = .ok (.bipush 99, 2) := by decide +kernel
theorem dX5_low_37 : decode cX5_low 37 = .ok (.istore 5, 2) := by decide +kernel
theorem dX5_low_39 : decode cX5_low 39 = .ok (.iload 5, 2) := by decide +kernel
theorem dX5_low_41 : decode cX5_low 41 = .ok (.ifCond .lt 41, 3) := by decide +kernel
theorem dX5_low_44 : decode cX5_low 44 = .ok (.iload 4, 2) := by decide +kernel
theorem dX5_low_46 : decode cX5_low 46 = .ok (.iconst (-1), 1) := by decide +kernel
theorem dX5_low_47 : decode cX5_low 47 = .ok (.if_icmp .ne 35, 3) := by decide +kernel
theorem dX5_low_50 : decode cX5_low 50 = .ok (.aload_n 0, 1) := by decide +kernel
theorem dX5_low_51 : decode cX5_low 51 = .ok (.iload 5, 2) := by decide +kernel
theorem dX5_low_53 : decode cX5_low 53 = .ok (.putfield 23, 3) := by decide +kernel
theorem dX5_low_56 : decode cX5_low 56 = .ok (.aload_n 0, 1) := by decide +kernel
theorem dX5_low_57 : decode cX5_low 57 = .ok (.iload_n 1, 1) := by decide +kernel
theorem dX5_low_58 : decode cX5_low 58 = .ok (.invokevirtual 396, 3) := by decide +kernel
theorem dX5_low_61 : decode cX5_low 61 = .ok (.invokestatic 366, 3) := by decide +kernel
theorem dX5_low_64 : decode cX5_low 64 = .ok (.iload_n 2, 1) := by decide +kernel
theorem dX5_low_65 : decode cX5_low 65 = .ok (.if_icmp .lt 8, 3) := by decide +kernel
theorem dX5_low_68 : decode cX5_low 68 = .ok (.iload 5, 2) := by decide +kernel
theorem dX5_low_70 : decode cX5_low 70 = .ok (.goto 4, 3) := by decide +kernel
theorem dX5_low_73 : decode cX5_low 73 = .ok (.iconst (-1), 1) := by decide +kernel
theorem dX5_low_74 : decode cX5_low 74 = .ok (.istore 4, 2) := by decide +kernel
theorem dX5_low_76 : decode cX5_low 76 = .ok (.iinc 5 (-1), 3) := by decide +kernel
theorem dX5_low_79 : decode cX5_low 79 = .ok (.goto (-40), 3) := by decide +kernel
theorem dX5_low_82 : decode cX5_low 82 = .ok (.aload_n 0, 1) := by decide +kernel
theorem dX5_low_83 : decode cX5_low 83 = .ok (.iload_n 3, 1) := by decide +kernel
theorem dX5_low_84 : decode cX5_low 84 = .ok (.putfield 23, 3) := by decide +kernel
theorem dX5_low_87 : decode cX5_low 87 = .ok (.iload 4, 2) := by decide +kernel
theorem dX5_low_89 : decode cX5_low 89 = .ok (.ireturn, 1) := by decide +kernel
theorem dX5_floods_0 : decode cX5_floods 0 = .ok (.aload_n 0, 1) := by decide +kernel
theorem dX5_floods_1 : decode cX5_floods 1 = .ok (.iload_n 1, 1) := by decide +kernel
theorem dX5_floods_2 : decode cX5_floods 2 = .ok (.invokevirtual 86, 3) := by decide +kernel
theorem dX5_floods_5 : decode cX5_floods 5 = .ok (.ifCond .eq 15, 3) := by decide +kernel
theorem dX5_floods_8 : decode cX5_floods 8 = .ok (.iload_n 2, 1) := by decide +kernel
theorem dX5_floods_9 : decode cX5_floods 9 = .ok (.i2l, 1) := by decide +kernel
theorem dX5_floods_10 : decode cX5_floods 10 = .ok (.lconst 0, 1) := by decide +kernel
theorem dX5_floods_11 : decode cX5_floods 11 = .ok (.ldc2_w 384, 3) := by decide +kernel
theorem dX5_floods_14 : decode cX5_floods 14 = .ok (.invokestatic 76, 3) := by decide +kernel
theorem dX5_floods_17 : decode cX5_floods 17 = .ok (.ifCond .ne 6, 3) := by decide +kernel
theorem dX5_floods_20 : decode cX5_floods 20 = .ok (.bipush (-2), 2) := by decide +kernel
theorem dX5_floods_22 : decode cX5_floods 22 = .ok (.ireturn, 1) := by decide +kernel
theorem dX5_floods_23 : decode cX5_floods 23 = .ok (.aload_n 0, 1) := by decide +kernel
theorem dX5_floods_24 : decode cX5_floods 24 = .ok (.iload_n 1, 1) := by decide +kernel
theorem dX5_floods_25 : decode cX5_floods 25 = .ok (.iload_n 2, 1) := by decide +kernel
theorem dX5_floods_26 : decode cX5_floods 26 = .ok (.invokevirtual 399, 3) := by decide +kernel
theorem dX5_floods_29 : decode cX5_floods 29 = .ok (.istore_n 3, 1) := by decide +kernel
theorem dX5_floods_30 : decode cX5_floods 30 = .ok (.iload_n 3, 1) := by decide +kernel
theorem dX5_floods_31 : decode cX5_floods 31 = .ok (.aload_n 0, 1) := by decide +kernel
theorem dX5_floods_32 : decode cX5_floods 32 = .ok (.iload_n 2, 1) := by decide +kernel
theorem dX5_floods_33 : decode cX5_floods 33 = .ok (.invokevirtual 396, 3) := by decide +kernel
theorem dX5_floods_36 : decode cX5_floods 36 = .ok (.iconst (-1), 1) := by decide +kernel
theorem dX5_floods_37 : decode cX5_floods 37 = .ok (.ixor, 1) := by decide +kernel
theorem dX5_floods_38 : decode cX5_floods 38 = .ok (.iand, 1) := by decide +kernel
theorem dX5_floods_39 : decode cX5_floods 39 = .ok (.ireturn, 1) := by decide +kernel
theorem dX5_firstOther_0 : decode cX5_firstOther 0 = .ok (.aload_n 0, 1) := by decide +kernel
theorem dX5_firstOther_1 : decode cX5_firstOther 1 = .ok (.aload_n 0, 1) := by decide +kernel
theorem dX5_firstOther_2 : decode cX5_firstOther 2 = .ok (.getfield 60, 3) := by decide +kernel
theorem dX5_firstOther_5 : decode cX5_firstOther 5 = .ok (.iload_n 1, 1) := by decide +kernel
theorem dX5_firstOther_6 : decode cX5_firstOther 6 = .ok (.iaload, 1) := by decide +kernel
theorem dX5_firstOther_7 : decode cX5_firstOther 7 = .ok (.iconst 0, 1) := by decide +kernel
theorem dX5_firstOther_8 : decode cX5_firstOther 8 = .ok (.iconst 0, 1) := by decide +kernel
theorem dX5_firstOther_9 : decode cX5_firstOther 9 = .ok (.invokevirtual 376, 3) := by decide +kernel
theorem dX5_firstOther_12 : decode cX5_firstOther 12 = .ok (.iconst 0, 1) := by decide +kernel
theorem dX5_firstOther_13 : decode cX5_firstOther 13 = .ok (.istore_n 2, 1) := by decide +kernel
theorem dX5_firstOther_14 : decode cX5_firstOther 14 = .ok (.iload_n 2, 1) := by decide +kernel
theorem dX5_firstOther_15 : decode cX5_firstOther 15 = .ok (.aload_n 0, 1) := by decide +kernel
theorem dX5_firstOther_16 : decode cX5_firstOther 16 = .ok (.getfield 60, 3) := by decide +kernel
theorem dX5_firstOther_19 : decode cX5_firstOther 19 = .ok (.iload_n 1, 1) := by decide +kernel
theorem dX5_firstOther_20 : decode cX5_firstOther 20 = .ok (.iaload, 1) := by decide +kernel
theorem dX5_firstOther_21 : decode cX5_firstOther 21 = .ok (.if_icmp .ge 31, 3) := by decide +kernel
theorem dX5_firstOther_24 : decode cX5_firstOther 24 = .ok (.aload_n 0, 1) := by decide +kernel
theorem dX5_firstOther_25 : decode cX5_firstOther 25 = .ok (.getfield 41, 3) := by decide +kernel
theorem dX5_firstOther_28 : decode cX5_firstOther 28 = .ok (.iload_n 2, 1) := by decide +kernel
theorem dX5_firstOther_29 : decode cX5_firstOther 29 = .ok (.iaload, 1) := by decide +kernel
theorem dX5_firstOther_30 : decode cX5_firstOther 30 = .ok (.aload_n 0, 1) := by decide +kernel
theorem dX5_firstOther_31 : decode cX5_firstOther 31 = .ok (.getfield 63, 3) := by decide +kernel
theorem dX5_firstOther_34 : decode cX5_firstOther 34 = .ok (.bipush 40, 2) := by decide +kernel
theorem dX5_firstOther_36 : decode cX5_firstOther 36 = .ok (.iload_n 1, 1) := by decide +kernel
theorem dX5_firstOther_37 : decode cX5_firstOther 37 = .ok (.imul, 1) := by decide +kernel
theorem dX5_firstOther_38 : decode cX5_firstOther 38 = .ok (.iload_n 2, 1) := by decide +kernel
theorem dX5_firstOther_39 : decode cX5_firstOther 39 = .ok (.iadd, 1) := by decide +kernel
theorem dX5_firstOther_40 : decode cX5_firstOther 40 = .ok (.iaload, 1) := by decide +kernel
theorem dX5_firstOther_41 : decode cX5_firstOther 41 = .ok (.if_icmp .eq 5, 3) := by decide +kernel
theorem dX5_firstOther_44 : decode cX5_firstOther 44 = .ok (.iload_n 2, 1) := by decide +kernel
theorem dX5_firstOther_45 : decode cX5_firstOther 45 = .ok (.ireturn, 1) := by decide +kernel
theorem dX5_firstOther_46 : decode cX5_firstOther 46 = .ok (.iinc 2 1, 3) := by decide +kernel
theorem dX5_firstOther_49 : decode cX5_firstOther 49 = .ok (.goto (-35), 3) := by decide +kernel
theorem dX5_firstOther_52 : decode cX5_firstOther 52 = .ok (.iconst (-1), 1) := by decide +kernel
theorem dX5_firstOther_53 : decode cX5_firstOther 53 = .ok (.ireturn, 1) := by decide +kernel
theorem dX5_tells_0 : decode cX5_tells 0 = .ok (.iload_n 1, 1) := by decide +kernel
theorem dX5_tells_1 : decode cX5_tells 1 = .ok (.invokestatic 402, 3) := by decide +kernel
theorem dX5_tells_4 : decode cX5_tells 4 = .ok (.ifCond .eq 40, 3) := by decide +kernel
theorem dX5_tells_7 : decode cX5_tells 7 = .ok (.iload_n 2, 1) := by decide +kernel
theorem dX5_tells_8 : decode cX5_tells 8 = .ok (.i2l, 1) := by decide +kernel
theorem dX5_tells_9 : decode cX5_tells 9 = .ok (.lconst 0, 1) := by decide +kernel
theorem dX5_tells_10 : decode cX5_tells 10 = .ok (.ldc2_w 382, 3) := by decide +kernel
theorem dX5_tells_13 : decode cX5_tells 13 = .ok (.invokestatic 76, 3) := by decide +kernel
theorem dX5_tells_16 : decode cX5_tells 16 = .ok (.ifCond .ne 31, 3) := by decide +kernel
theorem dX5_tells_19 : decode cX5_tells 19 = .ok (.iload_n 2, 1) := by decide +kernel
theorem dX5_tells_20 : decode cX5_tells 20 = .ok (.i2l, 1) := by decide +kernel
theorem dX5_tells_21 : decode cX5_tells 21 = .ok (.ldc2_w 120, 3) := by decide +kernel
theorem dX5_tells_24 : decode cX5_tells 24 = .ok (.ldc2_w 405, 3) := by decide +kernel
theorem dX5_tells_27 : decode cX5_tells 27 = .ok (.invokestatic 76, 3) := by decide +kernel
theorem dX5_tells_30 : decode cX5_tells 30 = .ok (.ifCond .eq 14, 3) := by decide +kernel
theorem dX5_tells_33 : decode cX5_tells 33 = .ok (.aload_n 0, 1) := by decide +kernel
theorem dX5_tells_34 : decode cX5_tells 34 = .ok (.iload_n 2, 1) := by decide +kernel
theorem dX5_tells_35 : decode cX5_tells 35 = .ok (.bipush 10, 2) := by decide +kernel
theorem dX5_tells_37 : decode cX5_tells 37 = .ok (.irem, 1) := by decide +kernel
theorem dX5_tells_38 : decode cX5_tells 38 = .ok (.invokevirtual 86, 3) := by decide +kernel
theorem dX5_tells_41 : decode cX5_tells 41 = .ok (.ifCond .ne 6, 3) := by decide +kernel
theorem dX5_tells_44 : decode cX5_tells 44 = .ok (.bipush (-2), 2) := by decide +kernel
theorem dX5_tells_46 : decode cX5_tells 46 = .ok (.ireturn, 1) := by decide +kernel
theorem dX5_tells_47 : decode cX5_tells 47 = .ok (.aload_n 0, 1) := by decide +kernel
theorem dX5_tells_48 : decode cX5_tells 48 = .ok (.getfield 53, 3) := by decide +kernel
theorem dX5_tells_51 : decode cX5_tells 51 = .ok (.iload_n 1, 1) := by decide +kernel
theorem dX5_tells_52 : decode cX5_tells 52 = .ok (.baload, 1) := by decide +kernel
theorem dX5_tells_53 : decode cX5_tells 53 = .ok (.ifCond .ne 6, 3) := by decide +kernel
theorem dX5_tells_56 : decode cX5_tells 56 = .ok (.bipush (-11), 2) := by decide +kernel
theorem dX5_tells_58 : decode cX5_tells 58 = .ok (.ireturn, 1) := by decide +kernel
theorem dX5_tells_59 : decode cX5_tells 59 = .ok (.aload_n 0, 1) := by decide +kernel
theorem dX5_tells_60 : decode cX5_tells 60 = .ok (.getfield 60, 3) := by decide +kernel
theorem dX5_tells_63 : decode cX5_tells 63 = .ok (.iload_n 1, 1) := by decide +kernel
theorem dX5_tells_64 : decode cX5_tells 64 = .ok (.iaload, 1) := by decide +kernel
theorem dX5_tells_65 : decode cX5_tells 65 = .ok (.bipush 30, 2) := by decide +kernel
theorem dX5_tells_67 : decode cX5_tells 67 = .ok (.if_icmp .le 6, 3) := by decide +kernel
theorem dX5_tells_70 : decode cX5_tells 70 = .ok (.bipush (-2), 2) := by decide +kernel
theorem dX5_tells_72 : decode cX5_tells 72 = .ok (.ireturn, 1) := by decide +kernel
theorem dX5_tells_73 : decode cX5_tells 73 = .ok (.iload_n 2, 1) := by decide +kernel
theorem dX5_tells_74 : decode cX5_tells 74 = .ok (.ifCond .ne 9, 3) := by decide +kernel
theorem dX5_tells_77 : decode cX5_tells 77 = .ok (.aload_n 0, 1) := by decide +kernel
theorem dX5_tells_78 : decode cX5_tells 78 = .ok (.iload_n 1, 1) := by decide +kernel
theorem dX5_tells_79 : decode cX5_tells 79 = .ok (.invokevirtual 407, 3) := by decide +kernel
theorem dX5_tells_82 : decode cX5_tells 82 = .ok (.ireturn, 1) := by decide +kernel
theorem dX5_tells_83 : decode cX5_tells 83 = .ok (.iload_n 2, 1) := by decide +kernel
theorem dX5_tells_84 : decode cX5_tells 84 = .ok (.bipush 10, 2) := by decide +kernel
theorem dX5_tells_86 : decode cX5_tells 86 = .ok (.irem, 1) := by decide +kernel
theorem dX5_tells_87 : decode cX5_tells 87 = .ok (.istore_n 3, 1) := by decide +kernel
theorem dX5_tells_88 : decode cX5_tells 88 = .ok (.iload_n 2, 1) := by decide +kernel
theorem dX5_tells_89 : decode cX5_tells 89 = .ok (.iconst 1, 1) := by decide +kernel
theorem dX5_tells_90 : decode cX5_tells 90 = .ok (.if_icmp .ne 8, 3) := by decide +kernel
theorem dX5_tells_93 : decode cX5_tells 93 = .ok (.bipush 9, 2) := by decide +kernel
theorem dX5_tells_95 : decode cX5_tells 95 = .ok (.goto 35, 3) := by decide +kernel
theorem dX5_tells_98 : decode cX5_tells 98 = .ok (.iload_n 2, 1) := by decide +kernel
theorem dX5_tells_99 : decode cX5_tells 99 = .ok (.iconst 4, 1) := by decide +kernel
theorem dX5_tells_100 : decode cX5_tells 100 = .ok (.if_icmp .ge 7, 3) := by decide +kernel
theorem dX5_tells_103 : decode cX5_tells 103 = .ok (.iconst 0, 1) := by decide +kernel
theorem dX5_tells_104 : decode cX5_tells 104 = .ok (.goto 26, 3) := by decide +kernel
theorem dX5_tells_107 : decode cX5_tells 107 = .ok (.iload_n 2, 1) := by decide +kernel
theorem dX5_tells_108 : decode cX5_tells 108 = .ok (.bipush 20, 2) := by decide +kernel
theorem dX5_tells_110 : decode cX5_tells 110 = .ok (.if_icmp .ge 8, 3) := by decide +kernel
theorem dX5_tells_113 : decode cX5_tells 113 = .ok (.bipush 8, 2) := by decide +kernel
theorem dX5_tells_115 : decode cX5_tells 115 = .ok (.goto 15, 3) := by decide +kernel
theorem dX5_tells_118 : decode cX5_tells 118 = .ok (.iload_n 2, 1) := by decide +kernel
theorem dX5_tells_119 : decode cX5_tells 119 = .ok (.bipush 30, 2) := by decide +kernel
theorem dX5_tells_121 : decode cX5_tells 121 = .ok (.if_icmp .ge 7, 3) := by decide +kernel
theorem dX5_tells_124 : decode cX5_tells 124 = .ok (.iconst 5, 1) := by decide +kernel
theorem dX5_tells_125 : decode cX5_tells 125 = .ok (.goto 5, 3) := by decide +kernel
theorem dX5_tells_128 : decode cX5_tells 128 = .ok (.bipush 6, 2) := by decide +kernel
theorem dX5_tells_130 : decode cX5_tells 130 = .ok (.istore 4, 2) := by decide +kernel
theorem dX5_tells_132 : decode cX5_tells 132 = .ok (.iload 4, 2) := by decide +kernel
theorem dX5_tells_134 : decode cX5_tells 134 = .ok (.bipush 9, 2) := by decide +kernel
theorem dX5_tells_136 : decode cX5_tells 136 = .ok (.if_icmp .ne 10, 3) := by decide +kernel
theorem dX5_tells_139 : decode cX5_tells 139 = .ok (.aload_n 0, 1) := by decide +kernel
theorem dX5_tells_140 : decode cX5_tells 140 = .ok (.getfield 110, 3) := by decide +kernel
theorem dX5_tells_143 : decode cX5_tells 143 = .ok (.goto 10, 3) := by decide +kernel
theorem dX5_tells_146 : decode cX5_tells 146 = .ok (.aload_n 0, 1) := by decide +kernel
theorem dX5_tells_147 : decode cX5_tells 147 = .ok (.iload_n 3, 1) := by decide +kernel
theorem dX5_tells_148 : decode cX5_tells 148 = .ok (.iload 4, 2) := by decide +kernel
theorem dX5_tells_150 : decode cX5_tells 150 = .ok (.invokevirtual 99, 3) := by decide +kernel
theorem dX5_tells_153 : decode cX5_tells 153 = .ok (.istore 5, 2) := by decide +kernel
theorem dX5_tells_155 : decode cX5_tells 155 = .ok (.iload 4, 2) := by decide +kernel
theorem dX5_tells_157 : decode cX5_tells 157 = .ok (.bipush 9, 2) := by decide +kernel
theorem dX5_tells_159 : decode cX5_tells 159 = .ok (.if_icmp .ne 12, 3) := by decide +kernel
theorem dX5_tells_162 : decode cX5_tells 162 = .ok (.aload_n 0, 1) := by decide +kernel
theorem dX5_tells_163 : decode cX5_tells 163 = .ok (.getfield 70, 3) := by decide +kernel
theorem dX5_tells_166 : decode cX5_tells 166 = .ok (.iconst 1, 1) := by decide +kernel
theorem dX5_tells_167 : decode cX5_tells 167 = .ok (.isub, 1) := by decide +kernel
theorem dX5_tells_168 : decode cX5_tells 168 = .ok (.goto 19, 3) := by decide +kernel
theorem dX5_tells_171 : decode cX5_tells 171 = .ok (.iload 4, 2) := by decide +kernel
theorem dX5_tells_173 : decode cX5_tells 173 = .ok (.bipush 8, 2) := by decide +kernel
theorem dX5_tells_175 : decode cX5_tells 175 = .ok (.if_icmp .ne 7, 3) := by decide +kernel
theorem dX5_tells_178 : decode cX5_tells 178 = .ok (.iconst 5, 1) := by decide +kernel
theorem dX5_tells_179 : decode cX5_tells 179 = .ok (.goto 8, 3) := by decide +kernel
theorem dX5_tells_182 : decode cX5_tells 182 = .ok (.iload 4, 2) := by decide +kernel
theorem dX5_tells_184 : decode cX5_tells 184 = .ok (.invokestatic 95, 3) := by decide +kernel
theorem dX5_tells_187 : decode cX5_tells 187 = .ok (.istore 6, 2) := by decide +kernel
theorem dX5_tells_189 : decode cX5_tells 189 = .ok (.iconst 0, 1) := by decide +kernel
theorem dX5_tells_190 : decode cX5_tells 190 = .ok (.istore 7, 2) := by decide +kernel
theorem dX5_tells_192 : decode cX5_tells 192 = .ok (.iconst 0, 1) := by decide +kernel
theorem dX5_tells_193 : decode cX5_tells 193 = .ok (.istore 8, 2) := by decide +kernel
theorem dX5_tells_195 : decode cX5_tells 195 = .ok (.iconst (-1), 1) := by decide +kernel
theorem dX5_tells_196 : decode cX5_tells 196 = .ok (.istore 9, 2) := by decide +kernel
theorem dX5_tells_198 : decode cX5_tells 198 = .ok (.iconst 0, 1) := by decide +kernel
theorem dX5_tells_199 : decode cX5_tells 199 = .ok (.istore 10, 2) := by decide +kernel
theorem dX5_tells_201 : decode cX5_tells 201 = .ok (.iload 10, 2) := by decide +kernel
theorem dX5_tells_203 : decode cX5_tells 203 = .ok (.iload 6, 2) := by decide +kernel
theorem dX5_tells_205 : decode cX5_tells 205 = .ok (.if_icmp .gt 52, 3) := by decide +kernel
theorem dX5_tells_208 : decode cX5_tells 208 = .ok (.aload_n 0, 1) := by decide +kernel
theorem dX5_tells_209 : decode cX5_tells 209 = .ok (.iload 4, 2) := by decide +kernel
theorem dX5_tells_211 : decode cX5_tells 211 = .ok (.iload_n 3, 1) := by decide +kernel
theorem dX5_tells_212 : decode cX5_tells 212 = .ok (.iload 10, 2) := by decide +kernel
theorem dX5_tells_214 : decode cX5_tells 214 = .ok (.invokevirtual 103, 3) := by decide +kernel
theorem dX5_tells_217 : decode cX5_tells 217 = .ok (.aload_n 0, 1) := by decide +kernel
theorem dX5_tells_218 : decode cX5_tells 218 = .ok (.iload_n 1, 1) := by decide +kernel
theorem dX5_tells_219 : decode cX5_tells 219 = .ok (.invokevirtual 407, 3) := by decide +kernel
theorem dX5_tells_222 : decode cX5_tells 222 = .ok (.iconst (-1), 1) := by decide +kernel
theorem dX5_tells_223 : decode cX5_tells 223 = .ok (.if_icmp .ne 28, 3) := by decide +kernel
theorem dX5_tells_226 : decode cX5_tells 226 = .ok (.iload 7, 2) := by decide +kernel
theorem dX5_tells_228 : decode cX5_tells 228 = .ok (.iload 4, 2) := by decide +kernel
theorem dX5_tells_230 : decode cX5_tells 230 = .ok (.ifCond .ne 7, 3) := by decide +kernel
theorem dX5_tells_233 : decode cX5_tells 233 = .ok (.iconst 0, 1) := by decide +kernel
theorem dX5_tells_234 : decode cX5_tells 234 = .ok (.goto 7, 3) := by decide +kernel
theorem dX5_tells_237 : decode cX5_tells 237 = .ok (.iconst 1, 1) := by decide +kernel
theorem dX5_tells_238 : decode cX5_tells 238 = .ok (.iload 10, 2) := by decide +kernel
theorem dX5_tells_240 : decode cX5_tells 240 = .ok (.ishl, 1) := by decide +kernel
theorem dX5_tells_241 : decode cX5_tells 241 = .ok (.ior, 1) := by decide +kernel
theorem dX5_tells_242 : decode cX5_tells 242 = .ok (.istore 7, 2) := by decide +kernel
theorem dX5_tells_244 : decode cX5_tells 244 = .ok (.iinc 8 1, 3) := by decide +kernel
theorem dX5_tells_247 : decode cX5_tells 247 = .ok (.iload 10, 2) := by decide +kernel
theorem dX5_tells_249 : decode cX5_tells 249 = .ok (.istore 9, 2) := by decide +kernel
theorem dX5_tells_251 : decode cX5_tells 251 = .ok (.iinc 10 1, 3) := by decide +kernel
theorem dX5_tells_254 : decode cX5_tells 254 = .ok (.goto (-53), 3) := by decide +kernel
theorem dX5_tells_257 : decode cX5_tells 257 = .ok (.aload_n 0, 1) := by decide +kernel
theorem dX5_tells_258 : decode cX5_tells 258 = .ok (.iload 4, 2) := by decide +kernel
theorem dX5_tells_260 : decode cX5_tells 260 = .ok (.iload_n 3, 1) := by decide +kernel
theorem dX5_tells_261 : decode cX5_tells 261 = .ok (.iload 5, 2) := by decide +kernel
theorem dX5_tells_263 : decode cX5_tells 263 = .ok (.invokevirtual 103, 3) := by decide +kernel
theorem dX5_tells_266 : decode cX5_tells 266 = .ok (.iload_n 2, 1) := by decide +kernel
theorem dX5_tells_267 : decode cX5_tells 267 = .ok (.iconst 2, 1) := by decide +kernel
theorem dX5_tells_268 : decode cX5_tells 268 = .ok (.if_icmp .ne 8, 3) := by decide +kernel
theorem dX5_tells_271 : decode cX5_tells 271 = .ok (.iload 8, 2) := by decide +kernel
theorem dX5_tells_273 : decode cX5_tells 273 = .ok (.goto 15, 3) := by decide +kernel
theorem dX5_tells_276 : decode cX5_tells 276 = .ok (.iload_n 2, 1) := by decide +kernel
theorem dX5_tells_277 : decode cX5_tells 277 = .ok (.iconst 3, 1) := by decide +kernel
theorem dX5_tells_278 : decode cX5_tells 278 = .ok (.if_icmp .ne 8, 3) := by decide +kernel
theorem dX5_tells_281 : decode cX5_tells 281 = .ok (.iload 9, 2) := by decide +kernel
theorem dX5_tells_283 : decode cX5_tells 283 = .ok (.goto 5, 3) := by decide +kernel
theorem dX5_tells_286 : decode cX5_tells 286 = .ok (.iload 7, 2) := by decide +kernel
theorem dX5_tells_288 : decode cX5_tells 288 = .ok (.ireturn, 1) := by decide +kernel
theorem dX5_film_0 : decode cX5_film 0 = .ok (.iload_n 1, 1) := by decide +kernel
theorem dX5_film_1 : decode cX5_film 1 = .ok (.invokestatic 402, 3) := by decide +kernel
theorem dX5_film_4 : decode cX5_film 4 = .ok (.ifCond .eq 15, 3) := by decide +kernel
theorem dX5_film_7 : decode cX5_film 7 = .ok (.iload_n 2, 1) := by decide +kernel
theorem dX5_film_8 : decode cX5_film 8 = .ok (.i2l, 1) := by decide +kernel
theorem dX5_film_9 : decode cX5_film 9 = .ok (.lconst 0, 1) := by decide +kernel
theorem dX5_film_10 : decode cX5_film 10 = .ok (.ldc2_w 384, 3) := by decide +kernel
theorem dX5_film_13 : decode cX5_film 13 = .ok (.invokestatic 76, 3) := by decide +kernel
theorem dX5_film_16 : decode cX5_film 16 = .ok (.ifCond .ne 6, 3) := by decide +kernel
theorem dX5_film_19 : decode cX5_film 19 = .ok (.bipush (-2), 2) := by decide +kernel
theorem dX5_film_21 : decode cX5_film 21 = .ok (.ireturn, 1) := by decide +kernel
theorem dX5_film_22 : decode cX5_film 22 = .ok (.aload_n 0, 1) := by decide +kernel
theorem dX5_film_23 : decode cX5_film 23 = .ok (.iload_n 2, 1) := by decide +kernel
theorem dX5_film_24 : decode cX5_film 24 = .ok (.iconst 0, 1) := by decide +kernel
theorem dX5_film_25 : decode cX5_film 25 = .ok (.iconst 0, 1) := by decide +kernel
theorem dX5_film_26 : decode cX5_film 26 = .ok (.invokevirtual 376, 3) := by decide +kernel
theorem dX5_film_29 : decode cX5_film 29 = .ok (.aload_n 0, 1) := by decide +kernel
theorem dX5_film_30 : decode cX5_film 30 = .ok (.iload_n 1, 1) := by decide +kernel
theorem dX5_film_31 : decode cX5_film 31 = .ok (.iconst 1, 1) := by decide +kernel
theorem dX5_film_32 : decode cX5_film 32 = .ok (.iload_n 2, 1) := by decide +kernel
theorem dX5_film_33 : decode cX5_film 33 = .ok (.invokevirtual 410, 3) := by decide +kernel
theorem dX5_film_36 : decode cX5_film 36 = .ok (.pop, 1) := by decide +kernel
theorem dX5_film_37 : decode cX5_film 37 = .ok (.iconst 0, 1) := by decide +kernel
theorem dX5_film_38 : decode cX5_film 38 = .ok (.istore_n 3, 1) := by decide +kernel
theorem dX5_film_39 : decode cX5_film 39 = .ok (.iload_n 3, 1) := by decide +kernel
theorem dX5_film_40 : decode cX5_film 40 = .ok (.iload_n 2, 1) := by decide +kernel
theorem dX5_film_41 : decode cX5_film 41 = .ok (.if_icmp .ge 26, 3) := by decide +kernel
theorem dX5_film_44 : decode cX5_film 44 = .ok (.aload_n 0, 1) := by decide +kernel
theorem dX5_film_45 : decode cX5_film 45 = .ok (.getfield 63, 3) := by decide +kernel
theorem dX5_film_48 : decode cX5_film 48 = .ok (.bipush 40, 2) := by decide +kernel
theorem dX5_film_50 : decode cX5_film 50 = .ok (.iload_n 1, 1) := by decide +kernel
theorem dX5_film_51 : decode cX5_film 51 = .ok (.imul, 1) := by decide +kernel
theorem dX5_film_52 : decode cX5_film 52 = .ok (.iload_n 3, 1) := by decide +kernel
theorem dX5_film_53 : decode cX5_film 53 = .ok (.iadd, 1) := by decide +kernel
theorem dX5_film_54 : decode cX5_film 54 = .ok (.aload_n 0, 1) := by decide +kernel
theorem dX5_film_55 : decode cX5_film 55 = .ok (.getfield 41, 3) := by decide +kernel
theorem dX5_film_58 : decode cX5_film 58 = .ok (.iload_n 3, 1) := by decide +kernel
theorem dX5_film_59 : decode cX5_film 59 = .ok (.iaload, 1) := by decide +kernel
theorem dX5_film_60 : decode cX5_film 60 = .ok (.iastore, 1) := by decide +kernel
theorem dX5_film_61 : decode cX5_film 61 = .ok (.iinc 3 1, 3) := by decide +kernel
theorem dX5_film_64 : decode cX5_film 64 = .ok (.goto (-25), 3) := by decide +kernel
theorem dX5_film_67 : decode cX5_film 67 = .ok (.iload_n 2, 1) := by decide +kernel
theorem dX5_film_68 : decode cX5_film 68 = .ok (.ireturn, 1) := by decide +kernel
theorem dX5_dryBy_0 : decode cX5_dryBy 0 = .ok (.aload_n 0, 1) := by decide +kernel
theorem dX5_dryBy_1 : decode cX5_dryBy 1 = .ok (.iload_n 2, 1) := by decide +kernel
theorem dX5_dryBy_2 : decode cX5_dryBy 2 = .ok (.iconst 1, 1) := by decide +kernel
theorem dX5_dryBy_3 : decode cX5_dryBy 3 = .ok (.iload_n 1, 1) := by decide +kernel
theorem dX5_dryBy_4 : decode cX5_dryBy 4 = .ok (.invokevirtual 376, 3) := by decide +kernel
theorem dX5_dryBy_7 : decode cX5_dryBy 7 = .ok (.aload_n 0, 1) := by decide +kernel
theorem dX5_dryBy_8 : decode cX5_dryBy 8 = .ok (.getfield 370, 3) := by decide +kernel
theorem dX5_dryBy_11 : decode cX5_dryBy 11 = .ok (.invokestatic 366, 3) := by decide +kernel
theorem dX5_dryBy_14 : decode cX5_dryBy 14 = .ok (.ireturn, 1) := by decide +kernel
theorem dX5_drawn_0 : decode cX5_drawn 0 = .ok (.iload_n 2, 1) := by decide +kernel
theorem dX5_drawn_1 : decode cX5_drawn 1 = .ok (.i2l, 1) := by decide +kernel
theorem dX5_drawn_2 : decode cX5_drawn 2 = .ok (.lconst 0, 1) := by decide +kernel
theorem dX5_drawn_3 : decode cX5_drawn 3 = .ok (.ldc2_w 384, 3) := by decide +kernel
theorem dX5_drawn_6 : decode cX5_drawn 6 = .ok (.invokestatic 76, 3) := by decide +kernel
theorem dX5_drawn_9 : decode cX5_drawn 9 = .ok (.ifCond .eq 12, 3) := by decide +kernel
theorem dX5_drawn_12 : decode cX5_drawn 12 = .ok (.aload_n 0, 1) := by decide +kernel
theorem dX5_drawn_13 : decode cX5_drawn 13 = .ok (.iload_n 1, 1) := by decide +kernel
theorem dX5_drawn_14 : decode cX5_drawn 14 = .ok (.iload_n 2, 1) := by decide +kernel
theorem dX5_drawn_15 : decode cX5_drawn 15 = .ok (.invokevirtual 413, 3) := by decide +kernel
theorem dX5_drawn_18 : decode cX5_drawn 18 = .ok (.goto 5, 3) := by decide +kernel
theorem dX5_drawn_21 : decode cX5_drawn 21 = .ok (.bipush (-2), 2) := by decide +kernel
theorem dX5_drawn_23 : decode cX5_drawn 23 = .ok (.ireturn, 1) := by decide +kernel
theorem dX5_chance_0 : decode cX5_chance 0 = .ok (.iload_n 2, 1) := by decide +kernel
theorem dX5_chance_1 : decode cX5_chance 1 = .ok (.i2l, 1) := by decide +kernel
theorem dX5_chance_2 : decode cX5_chance 2 = .ok (.lconst 1, 1) := by decide +kernel
theorem dX5_chance_3 : decode cX5_chance 3 = .ok (.ldc2_w 416, 3) := by decide +kernel
theorem dX5_chance_6 : decode cX5_chance 6 = .ok (.invokestatic 76, 3) := by decide +kernel
theorem dX5_chance_9 : decode cX5_chance 9 = .ok (.ifCond .eq 35, 3) := by decide +kernel
theorem dX5_chance_12 : decode cX5_chance 12 = .ok (.iload_n 3, 1) := by decide +kernel
theorem dX5_chance_13 : decode cX5_chance 13 = .ok (.i2l, 1) := by decide +kernel
theorem dX5_chance_14 : decode cX5_chance 14 = .ok (.lconst 0, 1) := by decide +kernel
theorem dX5_chance_15 : decode cX5_chance 15 = .ok (.ldc2_w 418, 3) := by decide +kernel
theorem dX5_chance_18 : decode cX5_chance 18 = .ok (.invokestatic 76, 3) := by decide +kernel
theorem dX5_chance_21 : decode cX5_chance 21 = .ok (.ifCond .eq 23, 3) := by decide +kernel
theorem dX5_chance_24 : decode cX5_chance 24 = .ok (.iload_n 3, 1) := by decide +kernel
theorem dX5_chance_25 : decode cX5_chance 25 = .ok (.bipush 100, 2) := by decide +kernel
theorem dX5_chance_27 : decode cX5_chance 27 = .ok (.irem, 1) := by decide +kernel
theorem dX5_chance_28 : decode cX5_chance 28 = .ok (.bipush 12, 2) := by decide +kernel
theorem dX5_chance_30 : decode cX5_chance 30 = .ok (.if_icmp .gt 14, 3) := by decide +kernel
theorem dX5_chance_33 : decode cX5_chance 33 = .ok (.iload 4, 2) := by decide +kernel
theorem dX5_chance_35 : decode cX5_chance 35 = .ok (.i2l, 1) := by decide +kernel
theorem dX5_chance_36 : decode cX5_chance 36 = .ok (.lconst 0, 1) := by decide +kernel
theorem dX5_chance_37 : decode cX5_chance 37 = .ok (.lconst 1, 1) := by decide +kernel
theorem dX5_chance_38 : decode cX5_chance 38 = .ok (.invokestatic 76, 3) := by decide +kernel
theorem dX5_chance_41 : decode cX5_chance 41 = .ok (.ifCond .ne 7, 3) := by decide +kernel
theorem dX5_chance_44 : decode cX5_chance 44 = .ok (.ldc2_w 420, 3) := by decide +kernel
theorem dX5_chance_47 : decode cX5_chance 47 = .ok (.lreturn, 1) := by decide +kernel
theorem dX5_chance_48 : decode cX5_chance 48 = .ok (.lconst 0, 1) := by decide +kernel
theorem dX5_chance_49 : decode cX5_chance 49 = .ok (.lstore 5, 2) := by decide +kernel
theorem dX5_chance_51 : decode cX5_chance 51 = .ok (.iconst 0, 1) := by decide +kernel
theorem dX5_chance_52 : decode cX5_chance 52 = .ok (.istore 7, 2) := by decide +kernel
theorem dX5_chance_54 : decode cX5_chance 54 = .ok (.iload 7, 2) := by decide +kernel
theorem dX5_chance_56 : decode cX5_chance 56 = .ok (.iload_n 2, 1) := by decide +kernel
theorem dX5_chance_57 : decode cX5_chance 57 = .ok (.if_icmp .ge 38, 3) := by decide +kernel
theorem dX5_chance_60 : decode cX5_chance 60 = .ok (.lload 5, 2) := by decide +kernel
theorem dX5_chance_62 : decode cX5_chance 62 = .ok (.aload_n 0, 1) := by decide +kernel
theorem dX5_chance_63 : decode cX5_chance 63 = .ok (.iload_n 1, 1) := by decide +kernel
theorem dX5_chance_64 : decode cX5_chance 64 = .ok (.iload 7, 2) := by decide +kernel
theorem dX5_chance_66 : decode cX5_chance 66 = .ok (.iadd, 1) := by decide +kernel
theorem dX5_chance_67 : decode cX5_chance 67 = .ok (.iload_n 3, 1) := by decide +kernel
theorem dX5_chance_68 : decode cX5_chance 68 = .ok (.bipush 100, 2) := by decide +kernel
theorem dX5_chance_70 : decode cX5_chance 70 = .ok (.idiv, 1) := by decide +kernel
theorem dX5_chance_71 : decode cX5_chance 71 = .ok (.invokevirtual 413, 3) := by decide +kernel
theorem dX5_chance_74 : decode cX5_chance 74 = .ok (.iload_n 3, 1) := by decide +kernel
theorem dX5_chance_75 : decode cX5_chance 75 = .ok (.bipush 100, 2) := by decide +kernel
theorem dX5_chance_77 : decode cX5_chance 77 = .ok (.irem, 1) := by decide +kernel
theorem dX5_chance_78 : decode cX5_chance 78 = .ok (.if_icmp .lt 7, 3) := by decide +kernel
theorem dX5_chance_81 : decode cX5_chance 81 = .ok (.lconst 1, 1) := by decide +kernel
theorem dX5_chance_82 : decode cX5_chance 82 = .ok (.goto 4, 3) := by decide +kernel
theorem dX5_chance_85 : decode cX5_chance 85 = .ok (.lconst 0, 1) := by decide +kernel
theorem dX5_chance_86 : decode cX5_chance 86 = .ok (.ladd, 1) := by decide +kernel
theorem dX5_chance_87 : decode cX5_chance 87 = .ok (.lstore 5, 2) := by decide +kernel
theorem dX5_chance_89 : decode cX5_chance 89 = .ok (.iinc 7 1, 3) := by decide +kernel
theorem dX5_chance_92 : decode cX5_chance 92 = .ok (.goto (-38), 3) := by decide +kernel
theorem dX5_chance_95 : decode cX5_chance 95 = .ok (.lload 5, 2) := by decide +kernel
theorem dX5_chance_97 : decode cX5_chance 97 = .ok (.lstore 7, 2) := by decide +kernel
theorem dX5_chance_99 : decode cX5_chance 99 = .ok (.iload_n 2, 1) := by decide +kernel
theorem dX5_chance_100 : decode cX5_chance 100 = .ok (.i2l, 1) := by decide +kernel
theorem dX5_chance_101 : decode cX5_chance 101 = .ok (.lstore 9, 2) := by decide +kernel
theorem dX5_chance_103 : decode cX5_chance 103 = .ok (.lload 9, 2) := by decide +kernel
theorem dX5_chance_105 : decode cX5_chance 105 = .ok (.lconst 0, 1) := by decide +kernel
theorem dX5_chance_106 : decode cX5_chance 106 = .ok (.lcmp, 1) := by decide +kernel
theorem dX5_chance_107 : decode cX5_chance 107 = .ok (.ifCond .eq 21, 3) := by decide +kernel
theorem dX5_chance_110 : decode cX5_chance 110 = .ok (.lload 7, 2) := by decide +kernel
theorem dX5_chance_112 : decode cX5_chance 112 = .ok (.lload 9, 2) := by decide +kernel
theorem dX5_chance_114 : decode cX5_chance 114 = .ok (.lrem, 1) := by decide +kernel
theorem dX5_chance_115 : decode cX5_chance 115 = .ok (.lstore 11, 2) := by decide +kernel
theorem dX5_chance_117 : decode cX5_chance 117 = .ok (.lload 9, 2) := by decide +kernel
theorem dX5_chance_119 : decode cX5_chance 119 = .ok (.lstore 7, 2) := by decide +kernel
theorem dX5_chance_121 : decode cX5_chance 121 = .ok (.lload 11, 2) := by decide +kernel
theorem dX5_chance_123 : decode cX5_chance 123 = .ok (.lstore 9, 2) := by decide +kernel
theorem dX5_chance_125 : decode cX5_chance 125 = .ok (.goto (-22), 3) := by decide +kernel
theorem dX5_chance_128 : decode cX5_chance 128 = .ok (.iload 4, 2) := by decide +kernel
theorem dX5_chance_130 : decode cX5_chance 130 = .ok (.ifCond .ne 11, 3) := by decide +kernel
theorem dX5_chance_133 : decode cX5_chance 133 = .ok (.lload 5, 2) := by decide +kernel
theorem dX5_chance_135 : decode cX5_chance 135 = .ok (.lload 7, 2) := by decide +kernel
theorem dX5_chance_137 : decode cX5_chance 137 = .ok (.ldiv, 1) := by decide +kernel
theorem dX5_chance_138 : decode cX5_chance 138 = .ok (.goto 8, 3) := by decide +kernel
theorem dX5_chance_141 : decode cX5_chance 141 = .ok (.iload_n 2, 1) := by decide +kernel
theorem dX5_chance_142 : decode cX5_chance 142 = .ok (.i2l, 1) := by decide +kernel
theorem dX5_chance_143 : decode cX5_chance 143 = .ok (.lload 7, 2) := by decide +kernel
theorem dX5_chance_145 : decode cX5_chance 145 = .ok (.ldiv, 1) := by decide +kernel
theorem dX5_chance_146 : decode cX5_chance 146 = .ok (.lreturn, 1) := by decide +kernel
end
section
theorem dX5_image_0 : decode cX5_image 0 = .ok (.iconst 0, 1) := by decide +kernel
theorem dX5_image_1 : decode cX5_image 1 = .ok (.istore_n 1, 1) := by decide +kernel
theorem dX5_image_2 : decode cX5_image 2 = .ok (.iload_n 1, 1) := by decide +kernel
theorem dX5_image_3 : decode cX5_image 3 = .ok (.bipush 36, 2) := by decide +kernel
theorem dX5_image_5 : decode cX5_image 5 = .ok (.if_icmp .ge 21, 3) := by decide +kernel
theorem dX5_image_8 : decode cX5_image 8 = .ok (.aload_n 0, 1) := by decide +kernel
theorem dX5_image_9 : decode cX5_image 9 = .ok (.getfield 44, 3) := by decide +kernel
theorem dX5_image_12 : decode cX5_image 12 = .ok (.iload_n 1, 1) := by decide +kernel
theorem dX5_image_13 : decode cX5_image 13 = .ok (.aload_n 0, 1) := by decide +kernel
theorem dX5_image_14 : decode cX5_image 14 = .ok (.getfield 26, 3) := by decide +kernel
theorem dX5_image_17 : decode cX5_image 17 = .ok (.iload_n 1, 1) := by decide +kernel
theorem dX5_image_18 : decode cX5_image 18 = .ok (.iaload, 1) := by decide +kernel
theorem dX5_image_19 : decode cX5_image 19 = .ok (.iastore, 1) := by decide +kernel
theorem dX5_image_20 : decode cX5_image 20 = .ok (.iinc 1 1, 3) := by decide +kernel
theorem dX5_image_23 : decode cX5_image 23 = .ok (.goto (-21), 3) := by decide +kernel
theorem dX5_image_26 : decode cX5_image 26 = .ok (.iconst 0, 1) := by decide +kernel
theorem dX5_image_27 : decode cX5_image 27 = .ok (.istore_n 1, 1) := by decide +kernel
theorem dX5_image_28 : decode cX5_image 28 = .ok (.iload_n 1, 1) := by decide +kernel
theorem dX5_image_29 : decode cX5_image 29 = .ok (.bipush 18, 2) := by decide +kernel
theorem dX5_image_31 : decode cX5_image 31 = .ok (.if_icmp .ge 21, 3) := by decide +kernel
theorem dX5_image_34 : decode cX5_image 34 = .ok (.aload_n 0, 1) := by decide +kernel
theorem dX5_image_35 : decode cX5_image 35 = .ok (.getfield 47, 3) := by decide +kernel
theorem dX5_image_38 : decode cX5_image 38 = .ok (.iload_n 1, 1) := by decide +kernel
theorem dX5_image_39 : decode cX5_image 39 = .ok (.aload_n 0, 1) := by decide +kernel
theorem dX5_image_40 : decode cX5_image 40 = .ok (.getfield 32, 3) := by decide +kernel
theorem dX5_image_43 : decode cX5_image 43 = .ok (.iload_n 1, 1) := by decide +kernel
theorem dX5_image_44 : decode cX5_image 44 = .ok (.iaload, 1) := by decide +kernel
theorem dX5_image_45 : decode cX5_image 45 = .ok (.iastore, 1) := by decide +kernel
theorem dX5_image_46 : decode cX5_image 46 = .ok (.iinc 1 1, 3) := by decide +kernel
theorem dX5_image_49 : decode cX5_image 49 = .ok (.goto (-21), 3) := by decide +kernel
theorem dX5_image_52 : decode cX5_image 52 = .ok (.aload_n 0, 1) := by decide +kernel
theorem dX5_image_53 : decode cX5_image 53 = .ok (.aload_n 0, 1) := by decide +kernel
theorem dX5_image_54 : decode cX5_image 54 = .ok (.getfield 73, 3) := by decide +kernel
theorem dX5_image_57 : decode cX5_image 57 = .ok (.putfield 50, 3) := by decide +kernel
theorem dX5_image_60 : decode cX5_image 60 = .ok (.aload_n 0, 1) := by decide +kernel
theorem dX5_image_61 : decode cX5_image 61 = .ok (.aload_n 0, 1) := by decide +kernel
theorem dX5_image_62 : decode cX5_image 62 = .ok (.getfield 23, 3) := by decide +kernel
theorem dX5_image_65 : decode cX5_image 65 = .ok (.putfield 422, 3) := by decide +kernel
theorem dX5_image_68 : decode cX5_image 68 = .ok (.aload_n 0, 1) := by decide +kernel
theorem dX5_image_69 : decode cX5_image 69 = .ok (.aload_n 0, 1) := by decide +kernel
theorem dX5_image_70 : decode cX5_image 70 = .ok (.getfield 107, 3) := by decide +kernel
theorem dX5_image_73 : decode cX5_image 73 = .ok (.putfield 425, 3) := by decide +kernel
theorem dX5_image_76 : decode cX5_image 76 = .ok (.aload_n 0, 1) := by decide +kernel
theorem dX5_image_77 : decode cX5_image 77 = .ok (.aload_n 0, 1) := by decide +kernel
theorem dX5_image_78 : decode cX5_image 78 = .ok (.getfield 357, 3) := by decide +kernel
theorem dX5_image_81 : decode cX5_image 81 = .ok (.putfield 428, 3) := by decide +kernel
theorem dX5_image_84 : decode cX5_image 84 = .ok (.aload_n 0, 1) := by decide +kernel
theorem dX5_image_85 : decode cX5_image 85 = .ok (.aload_n 0, 1) := by decide +kernel
theorem dX5_image_86 : decode cX5_image 86 = .ok (.getfield 110, 3) := by decide +kernel
theorem dX5_image_89 : decode cX5_image 89 = .ok (.putfield 431, 3) := by decide +kernel
theorem dX5_image_92 : decode cX5_image 92 = .ok (.aload_n 0, 1) := by decide +kernel
theorem dX5_image_93 : decode cX5_image 93 = .ok (.getfield 73, 3) := by decide +kernel
theorem dX5_image_96 : decode cX5_image 96 = .ok (.ireturn, 1) := by decide +kernel
theorem dX5_back_0 : decode cX5_back 0 = .ok (.aload_n 0, 1) := by decide +kernel
theorem dX5_back_1 : decode cX5_back 1 = .ok (.getfield 50, 3) := by decide +kernel
theorem dX5_back_4 : decode cX5_back 4 = .ok (.iconst (-1), 1) := by decide +kernel
theorem dX5_back_5 : decode cX5_back 5 = .ok (.if_icmp .ne 6, 3) := by decide +kernel
theorem dX5_back_8 : decode cX5_back 8 = .ok (.bipush (-3), 2) := by decide +kernel
theorem dX5_back_10 : decode cX5_back 10 = .ok (.ireturn, 1) := by decide +kernel
theorem dX5_back_11 : decode cX5_back 11 = .ok (.iconst 0, 1) := by decide +kernel
theorem dX5_back_12 : decode cX5_back 12 = .ok (.istore_n 1, 1) := by decide +kernel
theorem dX5_back_13 : decode cX5_back 13 = .ok (.iload_n 1, 1) := by decide +kernel
theorem dX5_back_14 : decode cX5_back 14 = .ok (.bipush 36, 2) := by decide +kernel
theorem dX5_back_16 : decode cX5_back 16 = .ok (.if_icmp .ge 21, 3) := by decide +kernel
theorem dX5_back_19 : decode cX5_back 19 = .ok (.aload_n 0, 1) := by decide +kernel
theorem dX5_back_20 : decode cX5_back 20 = .ok (.getfield 26, 3) := by decide +kernel
theorem dX5_back_23 : decode cX5_back 23 = .ok (.iload_n 1, 1) := by decide +kernel
theorem dX5_back_24 : decode cX5_back 24 = .ok (.aload_n 0, 1) := by decide +kernel
theorem dX5_back_25 : decode cX5_back 25 = .ok (.getfield 44, 3) := by decide +kernel
theorem dX5_back_28 : decode cX5_back 28 = .ok (.iload_n 1, 1) := by decide +kernel
theorem dX5_back_29 : decode cX5_back 29 = .ok (.iaload, 1) := by decide +kernel
theorem dX5_back_30 : decode cX5_back 30 = .ok (.iastore, 1) := by decide +kernel
theorem dX5_back_31 : decode cX5_back 31 = .ok (.iinc 1 1, 3) := by decide +kernel
theorem dX5_back_34 : decode cX5_back 34 = .ok (.goto (-21), 3) := by decide +kernel
theorem dX5_back_37 : decode cX5_back 37 = .ok (.iconst 0, 1) := by decide +kernel
theorem dX5_back_38 : decode cX5_back 38 = .ok (.istore_n 1, 1) := by decide +kernel
theorem dX5_back_39 : decode cX5_back 39 = .ok (.iload_n 1, 1) := by decide +kernel
theorem dX5_back_40 : decode cX5_back 40 = .ok (.bipush 18, 2) := by decide +kernel
theorem dX5_back_42 : decode cX5_back 42 = .ok (.if_icmp .ge 21, 3) := by decide +kernel
theorem dX5_back_45 : decode cX5_back 45 = .ok (.aload_n 0, 1) := by decide +kernel
theorem dX5_back_46 : decode cX5_back 46 = .ok (.getfield 32, 3) := by decide +kernel
theorem dX5_back_49 : decode cX5_back 49 = .ok (.iload_n 1, 1) := by decide +kernel
theorem dX5_back_50 : decode cX5_back 50 = .ok (.aload_n 0, 1) := by decide +kernel
theorem dX5_back_51 : decode cX5_back 51 = .ok (.getfield 47, 3) := by decide +kernel
theorem dX5_back_54 : decode cX5_back 54 = .ok (.iload_n 1, 1) := by decide +kernel
theorem dX5_back_55 : decode cX5_back 55 = .ok (.iaload, 1) := by decide +kernel
theorem dX5_back_56 : decode cX5_back 56 = .ok (.iastore, 1) := by decide +kernel
theorem dX5_back_57 : decode cX5_back 57 = .ok (.iinc 1 1, 3) := by decide +kernel
theorem dX5_back_60 : decode cX5_back 60 = .ok (.goto (-21), 3) := by decide +kernel
theorem dX5_back_63 : decode cX5_back 63 = .ok (.aload_n 0, 1) := by decide +kernel
theorem dX5_back_64 : decode cX5_back 64 = .ok (.aload_n 0, 1) := by decide +kernel
theorem dX5_back_65 : decode cX5_back 65 = .ok (.getfield 50, 3) := by decide +kernel
theorem dX5_back_68 : decode cX5_back 68 = .ok (.putfield 73, 3) := by decide +kernel
theorem dX5_back_71 : decode cX5_back 71 = .ok (.aload_n 0, 1) := by decide +kernel
theorem dX5_back_72 : decode cX5_back 72 = .ok (.aload_n 0, 1) := by decide +kernel
theorem dX5_back_73 : decode cX5_back 73 = .ok (.getfield 422, 3) := by decide +kernel
theorem dX5_back_76 : decode cX5_back 76 = .ok (.putfield 23, 3) := by decide +kernel
theorem dX5_back_79 : decode cX5_back 79 = .ok (.aload_n 0, 1) := by decide +kernel
theorem dX5_back_80 : decode cX5_back 80 = .ok (.aload_n 0, 1) := by decide +kernel
theorem dX5_back_81 : decode cX5_back 81 = .ok (.getfield 425, 3) := by decide +kernel
theorem dX5_back_84 : decode cX5_back 84 = .ok (.putfield 107, 3) := by decide +kernel
theorem dX5_back_87 : decode cX5_back 87 = .ok (.aload_n 0, 1) := by decide +kernel
theorem dX5_back_88 : decode cX5_back 88 = .ok (.aload_n 0, 1) := by decide +kernel
theorem dX5_back_89 : decode cX5_back 89 = .ok (.getfield 428, 3) := by decide +kernel
theorem dX5_back_92 : decode cX5_back 92 = .ok (.putfield 357, 3) := by decide +kernel
theorem dX5_back_95 : decode cX5_back 95 = .ok (.aload_n 0, 1) := by decide +kernel
theorem dX5_back_96 : decode cX5_back 96 = .ok (.aload_n 0, 1) := by decide +kernel
theorem dX5_back_97 : decode cX5_back 97 = .ok (.getfield 431, 3) := by decide +kernel
theorem dX5_back_100 : decode cX5_back 100 = .ok (.putfield 110, 3) := by decide +kernel
theorem dX5_back_103 : decode cX5_back 103 = .ok (.aload_n 0, 1) := by decide +kernel
theorem dX5_back_104 : decode cX5_back 104 = .ok (.getfield 73, 3) := by decide +kernel
theorem dX5_back_107 : decode cX5_back 107 = .ok (.ireturn, 1) := by decide +kernel
theorem dX5_count_0 : decode cX5_count 0 = .ok (.iload_n 1, 1) := by decide +kernel
theorem dX5_count_1 : decode cX5_count 1 = .ok (.i2l, 1) := by decide +kernel
theorem dX5_count_2 : decode cX5_count 2 = .ok (.lconst 0, 1) := by decide +kernel
theorem dX5_count_3 : decode cX5_count 3 = .ok (.ldc2_w 89, 3) := by decide +kernel
theorem dX5_count_6 : decode cX5_count 6 = .ok (.invokestatic 76, 3) := by decide +kernel
theorem dX5_count_9 : decode cX5_count 9 = .ok (.ifCond .ne 6, 3) := by decide +kernel
theorem dX5_count_12 : decode cX5_count 12 = .ok (.bipush (-2), 2) := by decide +kernel
theorem dX5_count_14 : decode cX5_count 14 = .ok (.ireturn, 1) := by decide +kernel
theorem dX5_count_15 : decode cX5_count 15 = .ok (.iload_n 1, 1) := by decide +kernel
theorem dX5_count_16 : decode cX5_count 16 = .ok (.iconst 1, 1) := by decide +kernel
theorem dX5_count_17 : decode cX5_count 17 = .ok (.if_icmp .le 72, 3) := by decide +kernel
theorem dX5_count_20 : decode cX5_count 20 = .ok (.iload_n 1, 1) := by decide +kernel
theorem dX5_count_21 : decode cX5_count 21 = .ok (.iconst 2, 1) := by decide +kernel
theorem dX5_count_22 : decode cX5_count 22 = .ok (.if_icmp .ne 13, 3) := by decide +kernel
theorem dX5_count_25 : decode cX5_count 25 = .ok (.aload_n 0, 1) := by decide +kernel
theorem dX5_count_26 : decode cX5_count 26 = .ok (.invokevirtual 363, 3) := by decide +kernel
theorem dX5_count_29 : decode cX5_count 29 = .ok (.invokestatic 366, 3) := by decide +kernel
theorem dX5_count_32 : decode cX5_count 32 = .ok (.goto 56, 3) := by decide +kernel
theorem dX5_count_35 : decode cX5_count 35 = .ok (.iload_n 1, 1) := by decide +kernel
theorem dX5_count_36 : decode cX5_count 36 = .ok (.iconst 3, 1) := by decide +kernel
theorem dX5_count_37 : decode cX5_count 37 = .ok (.if_icmp .ne 10, 3) := by decide +kernel
theorem dX5_count_40 : decode cX5_count 40 = .ok (.aload_n 0, 1) := by decide +kernel
theorem dX5_count_41 : decode cX5_count 41 = .ok (.getfield 107, 3) := by decide +kernel
theorem dX5_count_44 : decode cX5_count 44 = .ok (.goto 44, 3) := by decide +kernel
theorem dX5_count_47 : decode cX5_count 47 = .ok (.iload_n 1, 1) := by decide +kernel
theorem dX5_count_48 : decode cX5_count 48 = .ok (.iconst 4, 1) := by decide +kernel
theorem dX5_count_49 : decode cX5_count 49 = .ok (.if_icmp .ne 10, 3) := by decide +kernel
theorem dX5_count_52 : decode cX5_count 52 = .ok (.aload_n 0, 1) := by decide +kernel
theorem dX5_count_53 : decode cX5_count 53 = .ok (.getfield 357, 3) := by decide +kernel
theorem dX5_count_56 : decode cX5_count 56 = .ok (.goto 32, 3) := by decide +kernel
theorem dX5_count_59 : decode cX5_count 59 = .ok (.iload_n 1, 1) := by decide +kernel
theorem dX5_count_60 : decode cX5_count 60 = .ok (.iconst 5, 1) := by decide +kernel
theorem dX5_count_61 : decode cX5_count 61 = .ok (.if_icmp .ne 10, 3) := by decide +kernel
theorem dX5_count_64 : decode cX5_count 64 = .ok (.aload_n 0, 1) := by decide +kernel
theorem dX5_count_65 : decode cX5_count 65 = .ok (.getfield 70, 3) := by decide +kernel
theorem dX5_count_68 : decode cX5_count 68 = .ok (.goto 20, 3) := by decide +kernel
theorem dX5_count_71 : decode cX5_count 71 = .ok (.iload_n 1, 1) := by decide +kernel
theorem dX5_count_72 : decode cX5_count 72 = .ok (.bipush 6, 2) := by decide +kernel
theorem dX5_count_74 : decode cX5_count 74 = .ok (.if_icmp .ne 10, 3) := by decide +kernel
theorem dX5_count_77 : decode cX5_count 77 = .ok (.aload_n 0, 1) := by decide +kernel
theorem dX5_count_78 : decode cX5_count 78 = .ok (.getfield 130, 3) := by decide +kernel
theorem dX5_count_81 : decode cX5_count 81 = .ok (.goto 7, 3) := by decide +kernel
theorem dX5_count_84 : decode cX5_count 84 = .ok (.aload_n 0, 1) := by decide +kernel
theorem dX5_count_85 : decode cX5_count 85 = .ok (.getfield 110, 3) := by decide +kernel
theorem dX5_count_88 : decode cX5_count 88 = .ok (.ireturn, 1) := by decide +kernel
theorem dX5_count_89 : decode cX5_count 89 = .ok (.iconst 0, 1) := by decide +kernel
theorem dX5_count_90 : decode cX5_count 90 = .ok (.istore_n 2, 1) := by decide +kernel
theorem dX5_count_91 : decode cX5_count 91 = .ok (.iconst 0, 1) := by decide +kernel
theorem dX5_count_92 : decode cX5_count 92 = .ok (.istore_n 3, 1) := by decide +kernel
theorem dX5_count_93 : decode cX5_count 93 = .ok (.iload_n 3, 1) := by decide +kernel
theorem dX5_count_94 : decode cX5_count 94 = .ok (.aload_n 0, 1) := by decide +kernel
theorem dX5_count_95 : decode cX5_count 95 = .ok (.getfield 73, 3) := by decide +kernel
theorem dX5_count_98 : decode cX5_count 98 = .ok (.if_icmp .ge 22, 3) := by decide +kernel
theorem dX5_count_101 : decode cX5_count 101 = .ok (.iload_n 2, 1) := by decide +kernel
theorem dX5_count_102 : decode cX5_count 102 = .ok (.aload_n 0, 1) := by decide +kernel
theorem dX5_count_103 : decode cX5_count 103 = .ok (.getfield 32, 3) := by decide +kernel
theorem dX5_count_106 : decode cX5_count 106 = .ok (.iconst 3, 1) := by decide +kernel
theorem dX5_count_107 : decode cX5_count 107 = .ok (.iload_n 3, 1) := by decide +kernel
theorem dX5_count_108 : decode cX5_count 108 = .ok (.imul, 1) := by decide +kernel
theorem dX5_count_109 : decode cX5_count 109 = .ok (.iconst 2, 1) := by decide +kernel
theorem dX5_count_110 : decode cX5_count 110 = .ok (.iadd, 1) := by decide +kernel
theorem dX5_count_111 : decode cX5_count 111 = .ok (.iaload, 1) := by decide +kernel
theorem dX5_count_112 : decode cX5_count 112 = .ok (.iadd, 1) := by decide +kernel
theorem dX5_count_113 : decode cX5_count 113 = .ok (.istore_n 2, 1) := by decide +kernel
theorem dX5_count_114 : decode cX5_count 114 = .ok (.iinc 3 1, 3) := by decide +kernel
theorem dX5_count_117 : decode cX5_count 117 = .ok (.goto (-24), 3) := by decide +kernel
theorem dX5_count_120 : decode cX5_count 120 = .ok (.iload_n 1, 1) := by decide +kernel
theorem dX5_count_121 : decode cX5_count 121 = .ok (.ifCond .ne 10, 3) := by decide +kernel
theorem dX5_count_124 : decode cX5_count 124 = .ok (.aload_n 0, 1) := by decide +kernel
theorem dX5_count_125 : decode cX5_count 125 = .ok (.getfield 73, 3) := by decide +kernel
theorem dX5_count_128 : decode cX5_count 128 = .ok (.goto 4, 3) := by decide +kernel
theorem dX5_count_131 : decode cX5_count 131 = .ok (.iload_n 2, 1) := by decide +kernel
theorem dX5_count_132 : decode cX5_count 132 = .ok (.ireturn, 1) := by decide +kernel
theorem dX5_isSheet_0 : decode cX5_isSheet 0 = .ok (.iload_n 0, 1) := by decide +kernel
theorem dX5_isSheet_1 : decode cX5_isSheet 1 = .ok (.i2l, 1) := by decide +kernel
theorem dX5_isSheet_2 : decode cX5_isSheet 2 = .ok (.lconst 0, 1) := by decide +kernel
theorem dX5_isSheet_3 : decode cX5_isSheet 3 = .ok (.ldc2_w 382, 3) := by decide +kernel
theorem dX5_isSheet_6 : decode cX5_isSheet 6 = .ok (.invokestatic 76, 3) := by decide +kernel
theorem dX5_isSheet_9 : decode cX5_isSheet 9 = .ok (.ireturn, 1) := by decide +kernel
theorem dX5_sheet_0 : decode cX5_sheet 0 = .ok (.iload_n 1, 1) := by decide +kernel
theorem dX5_sheet_1 : decode cX5_sheet 1 = .ok (.invokestatic 402, 3) := by decide +kernel
theorem dX5_sheet_4 : decode cX5_sheet 4 = .ok (.ifCond .eq 27, 3) := by decide +kernel
theorem dX5_sheet_7 : decode cX5_sheet 7 = .ok (.iload_n 2, 1) := by decide +kernel
theorem dX5_sheet_8 : decode cX5_sheet 8 = .ok (.i2l, 1) := by decide +kernel
theorem dX5_sheet_9 : decode cX5_sheet 9 = .ok (.ldc2_w 434, 3) := by decide +kernel
theorem dX5_sheet_12 : decode cX5_sheet 12 = .ok (.ldc2_w 436, 3) := by decide +kernel
theorem dX5_sheet_15 : decode cX5_sheet 15 = .ok (.invokestatic 76, 3) := by decide +kernel
theorem dX5_sheet_18 : decode cX5_sheet 18 = .ok (.ifCond .eq 13, 3) := by decide +kernel
theorem dX5_sheet_21 : decode cX5_sheet 21 = .ok (.iload_n 2, 1) := by decide +kernel
theorem dX5_sheet_22 : decode cX5_sheet 22 = .ok (.ifCond .lt 12, 3) := by decide +kernel
theorem dX5_sheet_25 : decode cX5_sheet 25 = .ok (.iload_n 3, 1) := by decide +kernel
theorem dX5_sheet_26 : decode cX5_sheet 26 = .ok (.bipush 40, 2) := by decide +kernel
theorem dX5_sheet_28 : decode cX5_sheet 28 = .ok (.if_icmp .le 6, 3) := by decide +kernel
theorem dX5_sheet_31 : decode cX5_sheet 31 = .ok (.bipush (-2), 2) := by decide +kernel
theorem dX5_sheet_33 : decode cX5_sheet 33 = .ok (.ireturn, 1) := by decide +kernel
theorem dX5_sheet_34 : decode cX5_sheet 34 = .ok (.iload_n 2, 1) := by decide +kernel
theorem dX5_sheet_35 : decode cX5_sheet 35 = .ok (.ifCond .lt 10, 3) := by decide +kernel
theorem dX5_sheet_38 : decode cX5_sheet 38 = .ok (.iload_n 3, 1) := by decide +kernel
theorem dX5_sheet_39 : decode cX5_sheet 39 = .ok (.ifCond .ge 6, 3) := by decide +kernel
theorem dX5_sheet_42 : decode cX5_sheet 42 = .ok (.bipush (-14), 2) := by decide +kernel
theorem dX5_sheet_44 : decode cX5_sheet 44 = .ok (.ireturn, 1) := by decide +kernel
theorem dX5_sheet_45 : decode cX5_sheet 45 = .ok (.aload_n 0, 1) := by decide +kernel
theorem dX5_sheet_46 : decode cX5_sheet 46 = .ok (.getfield 53, 3) := by decide +kernel
theorem dX5_sheet_49 : decode cX5_sheet 49 = .ok (.iload_n 1, 1) := by decide +kernel
theorem dX5_sheet_50 : decode cX5_sheet 50 = .ok (.iload_n 2, 1) := by decide +kernel
theorem dX5_sheet_51 : decode cX5_sheet 51 = .ok (.ifCond .lt 7, 3) := by decide +kernel
theorem dX5_sheet_54 : decode cX5_sheet 54 = .ok (.iconst 1, 1) := by decide +kernel
theorem dX5_sheet_55 : decode cX5_sheet 55 = .ok (.goto 4, 3) := by decide +kernel
theorem dX5_sheet_58 : decode cX5_sheet 58 = .ok (.iconst 0, 1) := by decide +kernel
theorem dX5_sheet_59 : decode cX5_sheet 59 = .ok (.bastore, 1) := by decide +kernel
theorem dX5_sheet_60 : decode cX5_sheet 60 = .ok (.aload_n 0, 1) := by decide +kernel
theorem dX5_sheet_61 : decode cX5_sheet 61 = .ok (.getfield 57, 3) := by decide +kernel
theorem dX5_sheet_64 : decode cX5_sheet 64 = .ok (.iload_n 1, 1) := by decide +kernel
theorem dX5_sheet_65 : decode cX5_sheet 65 = .ok (.iload_n 2, 1) := by decide +kernel
theorem dX5_sheet_66 : decode cX5_sheet 66 = .ok (.iastore, 1) := by decide +kernel
theorem dX5_sheet_67 : decode cX5_sheet 67 = .ok (.aload_n 0, 1) := by decide +kernel
theorem dX5_sheet_68 : decode cX5_sheet 68 = .ok (.getfield 60, 3) := by decide +kernel
theorem dX5_sheet_71 : decode cX5_sheet 71 = .ok (.iload_n 1, 1) := by decide +kernel
theorem dX5_sheet_72 : decode cX5_sheet 72 = .ok (.iload_n 3, 1) := by decide +kernel
theorem dX5_sheet_73 : decode cX5_sheet 73 = .ok (.iastore, 1) := by decide +kernel
theorem dX5_sheet_74 : decode cX5_sheet 74 = .ok (.iconst 0, 1) := by decide +kernel
theorem dX5_sheet_75 : decode cX5_sheet 75 = .ok (.istore 4, 2) := by decide +kernel
theorem dX5_sheet_77 : decode cX5_sheet 77 = .ok (.iload 4, 2) := by decide +kernel
theorem dX5_sheet_79 : decode cX5_sheet 79 = .ok (.iload_n 3, 1) := by decide +kernel
theorem dX5_sheet_80 : decode cX5_sheet 80 = .ok (.if_icmp .ge 26, 3) := by decide +kernel
theorem dX5_sheet_83 : decode cX5_sheet 83 = .ok (.iload_n 2, 1) := by decide +kernel
theorem dX5_sheet_84 : decode cX5_sheet 84 = .ok (.ifCond .lt 22, 3) := by decide +kernel
theorem dX5_sheet_87 : decode cX5_sheet 87 = .ok (.aload_n 0, 1) := by decide +kernel
theorem dX5_sheet_88 : decode cX5_sheet 88 = .ok (.getfield 63, 3) := by decide +kernel
theorem dX5_sheet_91 : decode cX5_sheet 91 = .ok (.bipush 40, 2) := by decide +kernel
theorem dX5_sheet_93 : decode cX5_sheet 93 = .ok (.iload_n 1, 1) := by decide +kernel
theorem dX5_sheet_94 : decode cX5_sheet 94 = .ok (.imul, 1) := by decide +kernel
theorem dX5_sheet_95 : decode cX5_sheet 95 = .ok (.iload 4, 2) := by decide +kernel
theorem dX5_sheet_97 : decode cX5_sheet 97 = .ok (.iadd, 1) := by decide +kernel
theorem dX5_sheet_98 : decode cX5_sheet 98 = .ok (.iconst 0, 1) := by decide +kernel
theorem dX5_sheet_99 : decode cX5_sheet 99 = .ok (.iastore, 1) := by decide +kernel
theorem dX5_sheet_100 : decode cX5_sheet 100 = .ok (.iinc 4 1, 3) := by decide +kernel
theorem dX5_sheet_103 : decode cX5_sheet 103 = .ok (.goto (-26), 3) := by decide +kernel
theorem dX5_sheet_106 : decode cX5_sheet 106 = .ok (.iconst 1, 1) := by decide +kernel
theorem dX5_sheet_107 : decode cX5_sheet 107 = .ok (.ireturn, 1) := by decide +kernel
theorem dX5_cell_0 : decode cX5_cell 0 = .ok (.iload_n 1, 1) := by decide +kernel
theorem dX5_cell_1 : decode cX5_cell 1 = .ok (.invokestatic 402, 3) := by decide +kernel
theorem dX5_cell_4 : decode cX5_cell 4 = .ok (.ifCond .ne 6, 3) := by decide +kernel
theorem dX5_cell_7 : decode cX5_cell 7 = .ok (.bipush (-2), 2) := by decide +kernel
theorem dX5_cell_9 : decode cX5_cell 9 = .ok (.ireturn, 1) := by decide +kernel
theorem dX5_cell_10 : decode cX5_cell 10 = .ok (.aload_n 0, 1) := by decide +kernel
theorem dX5_cell_11 : decode cX5_cell 11 = .ok (.getfield 53, 3) := by decide +kernel
theorem dX5_cell_14 : decode cX5_cell 14 = .ok (.iload_n 1, 1) := by decide +kernel
theorem dX5_cell_15 : decode cX5_cell 15 = .ok (.baload, 1) := by decide +kernel
theorem dX5_cell_16 : decode cX5_cell 16 = .ok (.ifCond .ne 6, 3) := by decide +kernel
theorem dX5_cell_19 : decode cX5_cell 19 = .ok (.bipush (-11), 2) := by decide +kernel
theorem dX5_cell_21 : decode cX5_cell 21 = .ok (.ireturn, 1) := by decide +kernel
theorem dX5_cell_22 : decode cX5_cell 22 = .ok (.iload_n 2, 1) := by decide +kernel
theorem dX5_cell_23 : decode cX5_cell 23 = .ok (.i2l, 1) := by decide +kernel
theorem dX5_cell_24 : decode cX5_cell 24 = .ok (.lconst 0, 1) := by decide +kernel
theorem dX5_cell_25 : decode cX5_cell 25 = .ok (.aload_n 0, 1) := by decide +kernel
theorem dX5_cell_26 : decode cX5_cell 26 = .ok (.getfield 60, 3) := by decide +kernel
theorem dX5_cell_29 : decode cX5_cell 29 = .ok (.iload_n 1, 1) := by decide +kernel
theorem dX5_cell_30 : decode cX5_cell 30 = .ok (.iaload, 1) := by decide +kernel
theorem dX5_cell_31 : decode cX5_cell 31 = .ok (.iconst 1, 1) := by decide +kernel
theorem dX5_cell_32 : decode cX5_cell 32 = .ok (.isub, 1) := by decide +kernel
theorem dX5_cell_33 : decode cX5_cell 33 = .ok (.i2l, 1) := by decide +kernel
theorem dX5_cell_34 : decode cX5_cell 34 = .ok (.invokestatic 76, 3) := by decide +kernel
theorem dX5_cell_37 : decode cX5_cell 37 = .ok (.ifCond .ne 6, 3) := by decide +kernel
theorem dX5_cell_40 : decode cX5_cell 40 = .ok (.bipush (-12), 2) := by decide +kernel
theorem dX5_cell_42 : decode cX5_cell 42 = .ok (.ireturn, 1) := by decide +kernel
theorem dX5_cell_43 : decode cX5_cell 43 = .ok (.aload_n 0, 1) := by decide +kernel
theorem dX5_cell_44 : decode cX5_cell 44 = .ok (.getfield 63, 3) := by decide +kernel
theorem dX5_cell_47 : decode cX5_cell 47 = .ok (.bipush 40, 2) := by decide +kernel
theorem dX5_cell_49 : decode cX5_cell 49 = .ok (.iload_n 1, 1) := by decide +kernel
theorem dX5_cell_50 : decode cX5_cell 50 = .ok (.imul, 1) := by decide +kernel
theorem dX5_cell_51 : decode cX5_cell 51 = .ok (.iload_n 2, 1) := by decide +kernel
theorem dX5_cell_52 : decode cX5_cell 52 = .ok (.iadd, 1) := by decide +kernel
theorem dX5_cell_53 : decode cX5_cell 53 = .ok (.aload_n 0, 1) := by decide +kernel
theorem dX5_cell_54 : decode cX5_cell 54 = .ok (.getfield 57, 3) := by decide +kernel
theorem dX5_cell_57 : decode cX5_cell 57 = .ok (.iload_n 1, 1) := by decide +kernel
theorem dX5_cell_58 : decode cX5_cell 58 = .ok (.iaload, 1) := by decide +kernel
theorem dX5_cell_59 : decode cX5_cell 59 = .ok (.ifCond .ne 8, 3) := by decide +kernel
theorem dX5_cell_62 : decode cX5_cell 62 = .ok (.iload_n 3, 1) := by decide +kernel
theorem dX5_cell_63 : decode cX5_cell 63 = .ok (.i2b, 1) := by decide +kernel
theorem dX5_cell_64 : decode cX5_cell 64 = .ok (.goto 19, 3) := by decide +kernel
theorem dX5_cell_67 : decode cX5_cell 67 = .ok (.aload_n 0, 1) := by decide +kernel
theorem dX5_cell_68 : decode cX5_cell 68 = .ok (.getfield 57, 3) := by decide +kernel
theorem dX5_cell_71 : decode cX5_cell 71 = .ok (.iload_n 1, 1) := by decide +kernel
theorem dX5_cell_72 : decode cX5_cell 72 = .ok (.iaload, 1) := by decide +kernel
theorem dX5_cell_73 : decode cX5_cell 73 = .ok (.iconst 1, 1) := by decide +kernel
theorem dX5_cell_74 : decode cX5_cell 74 = .ok (.if_icmp .ne 8, 3) := by decide +kernel
theorem dX5_cell_77 : decode cX5_cell 77 = .ok (.iload_n 3, 1) := by decide +kernel
theorem dX5_cell_78 : decode cX5_cell 78 = .ok (.i2s, 1) := by decide +kernel
theorem dX5_cell_79 : decode cX5_cell 79 = .ok (.goto 4, 3) := by decide +kernel
theorem dX5_cell_82 : decode cX5_cell 82 = .ok (.iload_n 3, 1) := by decide +kernel
theorem dX5_cell_83 : decode cX5_cell 83 = .ok (.iastore, 1) := by decide +kernel
theorem dX5_cell_84 : decode cX5_cell 84 = .ok (.iconst 1, 1) := by decide +kernel
theorem dX5_cell_85 : decode cX5_cell 85 = .ok (.ireturn, 1) := by decide +kernel
theorem dX5_copy_0 : decode cX5_copy 0 = .ok (.iload_n 1, 1) := by decide +kernel
theorem dX5_copy_1 : decode cX5_copy 1 = .ok (.invokestatic 402, 3) := by decide +kernel
theorem dX5_copy_4 : decode cX5_copy 4 = .ok (.ifCond .eq 10, 3) := by decide +kernel
theorem dX5_copy_7 : decode cX5_copy 7 = .ok (.iload_n 3, 1) := by decide +kernel
theorem dX5_copy_8 : decode cX5_copy 8 = .ok (.invokestatic 402, 3) := by decide +kernel
theorem dX5_copy_11 : decode cX5_copy 11 = .ok (.ifCond .ne 6, 3) := by decide +kernel
theorem dX5_copy_14 : decode cX5_copy 14 = .ok (.bipush (-2), 2) := by decide +kernel
theorem dX5_copy_16 : decode cX5_copy 16 = .ok (.ireturn, 1) := by decide +kernel
theorem dX5_copy_17 : decode cX5_copy 17 = .ok (.aload_n 0, 1) := by decide +kernel
theorem dX5_copy_18 : decode cX5_copy 18 = .ok (.getfield 53, 3) := by decide +kernel
theorem dX5_copy_21 : decode cX5_copy 21 = .ok (.iload_n 1, 1) := by decide +kernel
theorem dX5_copy_22 : decode cX5_copy 22 = .ok (.baload, 1) := by decide +kernel
theorem dX5_copy_23 : decode cX5_copy 23 = .ok (.ifCond .eq 12, 3) := by decide +kernel
theorem dX5_copy_26 : decode cX5_copy 26 = .ok (.aload_n 0, 1) := by decide +kernel
theorem dX5_copy_27 : decode cX5_copy 27 = .ok (.getfield 53, 3) := by decide +kernel
theorem dX5_copy_30 : decode cX5_copy 30 = .ok (.iload_n 3, 1) := by decide +kernel
theorem dX5_copy_31 : decode cX5_copy 31 = .ok (.baload, 1) := by decide +kernel
theorem dX5_copy_32 : decode cX5_copy 32 = .ok (.ifCond .ne 6, 3) := by decide +kernel
theorem dX5_copy_35 : decode cX5_copy 35 = .ok (.bipush (-11), 2) := by decide +kernel
theorem dX5_copy_37 : decode cX5_copy 37 = .ok (.ireturn, 1) := by decide +kernel
theorem dX5_copy_38 : decode cX5_copy 38 = .ok (.aload_n 0, 1) := by decide +kernel
theorem dX5_copy_39 : decode cX5_copy 39 = .ok (.getfield 57, 3) := by decide +kernel
theorem dX5_copy_42 : decode cX5_copy 42 = .ok (.iload_n 1, 1) := by decide +kernel
theorem dX5_copy_43 : decode cX5_copy 43 = .ok (.iaload, 1) := by decide +kernel
theorem dX5_copy_44 : decode cX5_copy 44 = .ok (.aload_n 0, 1) := by decide +kernel
theorem dX5_copy_45 : decode cX5_copy 45 = .ok (.getfield 57, 3) := by decide +kernel
theorem dX5_copy_48 : decode cX5_copy 48 = .ok (.iload_n 3, 1) := by decide +kernel
theorem dX5_copy_49 : decode cX5_copy 49 = .ok (.iaload, 1) := by decide +kernel
theorem dX5_copy_50 : decode cX5_copy 50 = .ok (.if_icmp .eq 6, 3) := by decide +kernel
theorem dX5_copy_53 : decode cX5_copy 53 = .ok (.bipush (-13), 2) := by decide +kernel
theorem dX5_copy_55 : decode cX5_copy 55 = .ok (.ireturn, 1) := by decide +kernel
theorem dX5_copy_56 : decode cX5_copy 56 = .ok (.iload 5, 2) := by decide +kernel
theorem dX5_copy_58 : decode cX5_copy 58 = .ok (.ifCond .lt 39, 3) := by decide +kernel
theorem dX5_copy_61 : decode cX5_copy 61 = .ok (.iload_n 2, 1) := by decide +kernel
theorem dX5_copy_62 : decode cX5_copy 62 = .ok (.ifCond .lt 35, 3) := by decide +kernel
theorem dX5_copy_65 : decode cX5_copy 65 = .ok (.iload 4, 2) := by decide +kernel
theorem dX5_copy_67 : decode cX5_copy 67 = .ok (.ifCond .lt 30, 3) := by decide +kernel
theorem dX5_copy_70 : decode cX5_copy 70 = .ok (.iload_n 2, 1) := by decide +kernel
theorem dX5_copy_71 : decode cX5_copy 71 = .ok (.aload_n 0, 1) := by decide +kernel
theorem dX5_copy_72 : decode cX5_copy 72 = .ok (.getfield 60, 3) := by decide +kernel
theorem dX5_copy_75 : decode cX5_copy 75 = .ok (.iload_n 1, 1) := by decide +kernel
theorem dX5_copy_76 : decode cX5_copy 76 = .ok (.iaload, 1) := by decide +kernel
theorem dX5_copy_77 : decode cX5_copy 77 = .ok (.iload 5, 2) := by decide +kernel
theorem dX5_copy_79 : decode cX5_copy 79 = .ok (.isub, 1) := by decide +kernel
theorem dX5_copy_80 : decode cX5_copy 80 = .ok (.if_icmp .gt 17, 3) := by decide +kernel
theorem dX5_copy_83 : decode cX5_copy 83 = .ok (.iload 4, 2) := by decide +kernel
theorem dX5_copy_85 : decode cX5_copy 85 = .ok (.aload_n 0, 1) := by decide +kernel
theorem dX5_copy_86 : decode cX5_copy 86 = .ok (.getfield 60, 3) := by decide +kernel
theorem dX5_copy_89 : decode cX5_copy 89 = .ok (.iload_n 3, 1) := by decide +kernel
theorem dX5_copy_90 : decode cX5_copy 90 = .ok (.iaload, 1) := by decide +kernel
theorem dX5_copy_91 : decode cX5_copy 91 = .ok (.iload 5, 2) := by decide +kernel
theorem dX5_copy_93 : decode cX5_copy 93 = .ok (.isub, 1) := by decide +kernel
theorem dX5_copy_94 : decode cX5_copy 94 = .ok (.if_icmp .le 6, 3) := by decide +kernel
theorem dX5_copy_97 : decode cX5_copy 97 = .ok (.bipush (-12), 2) := by decide +kernel
theorem dX5_copy_99 : decode cX5_copy 99 = .ok (.ireturn, 1) := by decide +kernel
theorem dX5_copy_100 : decode cX5_copy 100 = .ok (.iload_n 1, 1) := by decide +kernel
theorem dX5_copy_101 : decode cX5_copy 101 = .ok (.iload_n 3, 1) := by decide +kernel
theorem dX5_copy_102 : decode cX5_copy 102 = .ok (.if_icmp .ne 13, 3) := by decide +kernel
theorem dX5_copy_105 : decode cX5_copy 105 = .ok (.iload_n 2, 1) := by decide +kernel
theorem dX5_copy_106 : decode cX5_copy 106 = .ok (.iload 4, 2) := by decide +kernel
theorem dX5_copy_108 : decode cX5_copy 108 = .ok (.if_icmp .ge 7, 3) := by decide +kernel
theorem dX5_copy_111 : decode cX5_copy 111 = .ok (.iconst 1, 1) := by decide +kernel
theorem dX5_copy_112 : decode cX5_copy 112 = .ok (.goto 4, 3) := by decide +kernel
theorem dX5_copy_115 : decode cX5_copy 115 = .ok (.iconst 0, 1) := by decide +kernel
theorem dX5_copy_116 : decode cX5_copy 116 = .ok (.istore 6, 2) := by decide +kernel
theorem dX5_copy_118 : decode cX5_copy 118 = .ok (.iconst 0, 1) := by decide +kernel
theorem dX5_copy_119 : decode cX5_copy 119 = .ok (.istore 7, 2) := by decide +kernel
theorem dX5_copy_121 : decode cX5_copy 121 = .ok (.iload 7, 2) := by decide +kernel
theorem dX5_copy_123 : decode cX5_copy 123 = .ok (.iload 5, 2) := by decide +kernel
theorem dX5_copy_125 : decode cX5_copy 125 = .ok (.if_icmp .ge 57, 3) := by decide +kernel
theorem dX5_copy_128 : decode cX5_copy 128 = .ok (.iload 6, 2) := by decide +kernel
theorem dX5_copy_130 : decode cX5_copy 130 = .ok (.ifCond .eq 13, 3) := by decide +kernel
theorem dX5_copy_133 : decode cX5_copy 133 = .ok (.iload 5, 2) := by decide +kernel
theorem dX5_copy_135 : decode cX5_copy 135 = .ok (.iconst 1, 1) := by decide +kernel
theorem dX5_copy_136 : decode cX5_copy 136 = .ok (.isub, 1) := by decide +kernel
theorem dX5_copy_137 : decode cX5_copy 137 = .ok (.iload 7, 2) := by decide +kernel
theorem dX5_copy_139 : decode cX5_copy 139 = .ok (.isub, 1) := by decide +kernel
theorem dX5_copy_140 : decode cX5_copy 140 = .ok (.goto 5, 3) := by decide +kernel
theorem dX5_copy_143 : decode cX5_copy 143 = .ok (.iload 7, 2) := by decide +kernel
theorem dX5_copy_145 : decode cX5_copy 145 = .ok (.istore 8, 2) := by decide +kernel
theorem dX5_copy_147 : decode cX5_copy 147 = .ok (.aload_n 0, 1) := by decide +kernel
theorem dX5_copy_148 : decode cX5_copy 148 = .ok (.getfield 63, 3) := by decide +kernel
theorem dX5_copy_151 : decode cX5_copy 151 = .ok (.bipush 40, 2) := by decide +kernel
theorem dX5_copy_153 : decode cX5_copy 153 = .ok (.iload_n 3, 1) := by decide +kernel
theorem dX5_copy_154 : decode cX5_copy 154 = .ok (.imul, 1) := by decide +kernel
theorem dX5_copy_155 : decode cX5_copy 155 = .ok (.iload 4, 2) := by decide +kernel
theorem dX5_copy_157 : decode cX5_copy 157 = .ok (.iadd, 1) := by decide +kernel
theorem dX5_copy_158 : decode cX5_copy 158 = .ok (.iload 8, 2) := by decide +kernel
theorem dX5_copy_160 : decode cX5_copy 160 = .ok (.iadd, 1) := by decide +kernel
theorem dX5_copy_161 : decode cX5_copy 161 = .ok (.aload_n 0, 1) := by decide +kernel
theorem dX5_copy_162 : decode cX5_copy 162 = .ok (.getfield 63, 3) := by decide +kernel
theorem dX5_copy_165 : decode cX5_copy 165 = .ok (.bipush 40, 2) := by decide +kernel
theorem dX5_copy_167 : decode cX5_copy 167 = .ok (.iload_n 1, 1) := by decide +kernel
theorem dX5_copy_168 : decode cX5_copy 168 = .ok (.imul, 1) := by decide +kernel
theorem dX5_copy_169 : decode cX5_copy 169 = .ok (.iload_n 2, 1) := by decide +kernel
theorem dX5_copy_170 : decode cX5_copy 170 = .ok (.iadd, 1) := by decide +kernel
theorem dX5_copy_171 : decode cX5_copy 171 = .ok (.iload 8, 2) := by decide +kernel
theorem dX5_copy_173 : decode cX5_copy 173 = .ok (.iadd, 1) := by decide +kernel
theorem dX5_copy_174 : decode cX5_copy 174 = .ok (.iaload, 1) := by decide +kernel
theorem dX5_copy_175 : decode cX5_copy 175 = .ok (.iastore, 1) := by decide +kernel
theorem dX5_copy_176 : decode cX5_copy 176 = .ok (.iinc 7 1, 3) := by decide +kernel
theorem dX5_copy_179 : decode cX5_copy 179 = .ok (.goto (-58), 3) := by decide +kernel
theorem dX5_copy_182 : decode cX5_copy 182 = .ok (.iload 5, 2) := by decide +kernel
theorem dX5_copy_184 : decode cX5_copy 184 = .ok (.ireturn, 1) := by decide +kernel
theorem dX5_works_0 : decode cX5_works 0 = .ok (.iload_n 1, 1) := by decide +kernel
theorem dX5_works_1 : decode cX5_works 1 = .ok (.invokestatic 402, 3) := by decide +kernel
theorem dX5_works_4 : decode cX5_works 4 = .ok (.ifCond .eq 28, 3) := by decide +kernel
theorem dX5_works_7 : decode cX5_works 7 = .ok (.iload_n 2, 1) := by decide +kernel
theorem dX5_works_8 : decode cX5_works 8 = .ok (.i2l, 1) := by decide +kernel
theorem dX5_works_9 : decode cX5_works 9 = .ok (.lconst 0, 1) := by decide +kernel
theorem dX5_works_10 : decode cX5_works 10 = .ok (.ldc2_w 436, 3) := by decide +kernel
theorem dX5_works_13 : decode cX5_works 13 = .ok (.invokestatic 76, 3) := by decide +kernel
theorem dX5_works_16 : decode cX5_works 16 = .ok (.ifCond .eq 16, 3) := by decide +kernel
theorem dX5_works_19 : decode cX5_works 19 = .ok (.iload 4, 2) := by decide +kernel
theorem dX5_works_21 : decode cX5_works 21 = .ok (.i2l, 1) := by decide +kernel
theorem dX5_works_22 : decode cX5_works 22 = .ok (.lconst 0, 1) := by decide +kernel
theorem dX5_works_23 : decode cX5_works 23 = .ok (.ldc2_w 438, 3) := by decide +kernel
theorem dX5_works_26 : decode cX5_works 26 = .ok (.invokestatic 76, 3) := by decide +kernel
theorem dX5_works_29 : decode cX5_works 29 = .ok (.ifCond .ne 6, 3) := by decide +kernel
theorem dX5_works_32 : decode cX5_works 32 = .ok (.bipush (-2), 2) := by decide +kernel
theorem dX5_works_34 : decode cX5_works 34 = .ok (.ireturn, 1) := by decide +kernel
theorem dX5_works_35 : decode cX5_works 35 = .ok (.aload_n 0, 1) := by decide +kernel
theorem dX5_works_36 : decode cX5_works 36 = .ok (.getfield 53, 3) := by decide +kernel
theorem dX5_works_39 : decode cX5_works 39 = .ok (.iload_n 1, 1) := by decide +kernel
theorem dX5_works_40 : decode cX5_works 40 = .ok (.baload, 1) := by decide +kernel
theorem dX5_works_41 : decode cX5_works 41 = .ok (.ifCond .eq 16, 3) := by decide +kernel
theorem dX5_works_44 : decode cX5_works 44 = .ok (.aload_n 0, 1) := by decide +kernel
theorem dX5_works_45 : decode cX5_works 45 = .ok (.getfield 57, 3) := by decide +kernel
theorem dX5_works_48 : decode cX5_works 48 = .ok (.iload_n 1, 1) := by decide +kernel
theorem dX5_works_49 : decode cX5_works 49 = .ok (.iaload, 1) := by decide +kernel
theorem dX5_works_50 : decode cX5_works 50 = .ok (.iload_n 2, 1) := by decide +kernel
theorem dX5_works_51 : decode cX5_works 51 = .ok (.if_icmp .eq 6, 3) := by decide +kernel
theorem dX5_works_54 : decode cX5_works 54 = .ok (.bipush (-13), 2) := by decide +kernel
theorem dX5_works_56 : decode cX5_works 56 = .ok (.ireturn, 1) := by decide +kernel
theorem dX5_works_57 : decode cX5_works 57 = .ok (.aload_n 0, 1) := by decide +kernel
theorem dX5_works_58 : decode cX5_works 58 = .ok (.getfield 53, 3) := by decide +kernel
theorem dX5_works_61 : decode cX5_works 61 = .ok (.iload_n 1, 1) := by decide +kernel
theorem dX5_works_62 : decode cX5_works 62 = .ok (.baload, 1) := by decide +kernel
theorem dX5_works_63 : decode cX5_works 63 = .ok (.ifCond .ne 6, 3) := by decide +kernel
theorem dX5_works_66 : decode cX5_works 66 = .ok (.bipush (-11), 2) := by decide +kernel
theorem dX5_works_68 : decode cX5_works 68 = .ok (.ireturn, 1) := by decide +kernel
theorem dX5_works_69 : decode cX5_works 69 = .ok (.iconst 0, 1) := by decide +kernel
theorem dX5_works_70 : decode cX5_works 70 = .ok (.istore 5, 2) := by decide +kernel
theorem dX5_works_72 : decode cX5_works 72 = .ok (.iconst 0, 1) := by decide +kernel
theorem dX5_works_73 : decode cX5_works 73 = .ok (.istore 6, 2) := by decide +kernel
theorem dX5_works_75 : decode cX5_works 75 = .ok (.iload 6, 2) := by decide +kernel
theorem dX5_works_77 : decode cX5_works 77 = .ok (.iload 4, 2) := by decide +kernel
theorem dX5_works_79 : decode cX5_works 79 = .ok (.if_icmp .ge 88, 3) := by decide +kernel
theorem dX5_works_82 : decode cX5_works 82 = .ok (.iload_n 3, 1) := by decide +kernel
theorem dX5_works_83 : decode cX5_works 83 = .ok (.ifCond .lt 20, 3) := by decide +kernel
theorem dX5_works_86 : decode cX5_works 86 = .ok (.iload_n 3, 1) := by decide +kernel
theorem dX5_works_87 : decode cX5_works 87 = .ok (.aload_n 0, 1) := by decide +kernel
theorem dX5_works_88 : decode cX5_works 88 = .ok (.getfield 60, 3) := by decide +kernel
theorem dX5_works_91 : decode cX5_works 91 = .ok (.iload_n 1, 1) := by decide +kernel
theorem dX5_works_92 : decode cX5_works 92 = .ok (.iaload, 1) := by decide +kernel
theorem dX5_works_93 : decode cX5_works 93 = .ok (.iconst 3, 1) := by decide +kernel
theorem dX5_works_94 : decode cX5_works 94 = .ok (.iload 6, 2) := by decide +kernel
theorem dX5_works_96 : decode cX5_works 96 = .ok (.imul, 1) := by decide +kernel
theorem dX5_works_97 : decode cX5_works 97 = .ok (.isub, 1) := by decide +kernel
theorem dX5_works_98 : decode cX5_works 98 = .ok (.iconst 3, 1) := by decide +kernel
theorem dX5_works_99 : decode cX5_works 99 = .ok (.isub, 1) := by decide +kernel
theorem dX5_works_100 : decode cX5_works 100 = .ok (.if_icmp .le 6, 3) := by decide +kernel
theorem dX5_works_103 : decode cX5_works 103 = .ok (.bipush (-12), 2) := by decide +kernel
theorem dX5_works_105 : decode cX5_works 105 = .ok (.ireturn, 1) := by decide +kernel
theorem dX5_works_106 : decode cX5_works 106 = .ok (.bipush 40, 2) := by decide +kernel
theorem dX5_works_108 : decode cX5_works 108 = .ok (.iload_n 1, 1) := by decide +kernel
theorem dX5_works_109 : decode cX5_works 109 = .ok (.imul, 1) := by decide +kernel
theorem dX5_works_110 : decode cX5_works 110 = .ok (.iload_n 3, 1) := by decide +kernel
theorem dX5_works_111 : decode cX5_works 111 = .ok (.iadd, 1) := by decide +kernel
theorem dX5_works_112 : decode cX5_works 112 = .ok (.iconst 3, 1) := by decide +kernel
theorem dX5_works_113 : decode cX5_works 113 = .ok (.iload 6, 2) := by decide +kernel
theorem dX5_works_115 : decode cX5_works 115 = .ok (.imul, 1) := by decide +kernel
theorem dX5_works_116 : decode cX5_works 116 = .ok (.iadd, 1) := by decide +kernel
theorem dX5_works_117 : decode cX5_works 117 = .ok (.istore 7, 2) := by decide +kernel
theorem dX5_works_119 : decode cX5_works 119 = .ok (.iload 5, 2) := by decide +kernel
theorem dX5_works_121 : decode cX5_works 121 = .ok (.aload_n 0, 1) := by decide +kernel
theorem dX5_works_122 : decode cX5_works 122 = .ok (.aload_n 0, 1) := by decide +kernel
theorem dX5_works_123 : decode cX5_works 123 = .ok (.getfield 63, 3) := by decide +kernel
theorem dX5_works_126 : decode cX5_works 126 = .ok (.iload 7, 2) := by decide +kernel
theorem dX5_works_128 : decode cX5_works 128 = .ok (.iaload, 1) := by decide +kernel
theorem dX5_works_129 : decode cX5_works 129 = .ok (.aload_n 0, 1) := by decide +kernel
theorem dX5_works_130 : decode cX5_works 130 = .ok (.getfield 63, 3) := by decide +kernel
theorem dX5_works_133 : decode cX5_works 133 = .ok (.iload 7, 2) := by decide +kernel
theorem dX5_works_135 : decode cX5_works 135 = .ok (.iconst 1, 1) := by decide +kernel
theorem dX5_works_136 : decode cX5_works 136 = .ok (.iadd, 1) := by decide +kernel
theorem dX5_works_137 : decode cX5_works 137 = .ok (.iaload, 1) := by decide +kernel
theorem dX5_works_138 : decode cX5_works 138 = .ok (.aload_n 0, 1) := by decide +kernel
theorem dX5_works_139 : decode cX5_works 139 = .ok (.getfield 63, 3) := by decide +kernel
theorem dX5_works_142 : decode cX5_works 142 = .ok (.iload 7, 2) := by decide +kernel
theorem dX5_works_144 : decode cX5_works 144 = .ok (.iconst 2, 1) := by decide +kernel
theorem dX5_works_145 : decode cX5_works 145 = .ok (.iadd, 1) := by decide +kernel
theorem dX5_works_146 : decode cX5_works 146 = .ok (.iaload, 1) := by decide +kernel
theorem dX5_works_147 : decode cX5_works 147 = .ok (.invokevirtual 440, 3) := by decide +kernel
theorem dX5_works_150 : decode cX5_works 150 = .ok (.ifCond .lt 7, 3) := by decide +kernel
theorem dX5_works_153 : decode cX5_works 153 = .ok (.iconst 1, 1) := by decide +kernel
theorem dX5_works_154 : decode cX5_works 154 = .ok (.goto 4, 3) := by decide +kernel
theorem dX5_works_157 : decode cX5_works 157 = .ok (.iconst 0, 1) := by decide +kernel
theorem dX5_works_158 : decode cX5_works 158 = .ok (.iadd, 1) := by decide +kernel
theorem dX5_works_159 : decode cX5_works 159 = .ok (.istore 5, 2) := by decide +kernel
theorem dX5_works_161 : decode cX5_works 161 = .ok (.iinc 6 1, 3) := by decide +kernel
theorem dX5_works_164 : decode cX5_works 164 = .ok (.goto (-89), 3) := by decide +kernel
theorem dX5_works_167 : decode cX5_works 167 = .ok (.iload 5, 2) := by decide +kernel
theorem dX5_works_169 : decode cX5_works 169 = .ok (.ireturn, 1) := by decide +kernel
theorem dX5_over_0 : decode cX5_over 0 = .ok (.iload_n 0, 1) := by decide +kernel
theorem dX5_over_1 : decode cX5_over 1 = .ok (.ifCond .ne 7, 3) := by decide +kernel
theorem dX5_over_4 : decode cX5_over 4 = .ok (.iconst (-1), 1) := by decide +kernel
theorem dX5_over_5 : decode cX5_over 5 = .ok (.goto 22, 3) := by decide +kernel
theorem dX5_over_8 : decode cX5_over 8 = .ok (.iload_n 0, 1) := by decide +kernel
theorem dX5_over_9 : decode cX5_over 9 = .ok (.iconst 3, 1) := by decide +kernel
theorem dX5_over_10 : decode cX5_over 10 = .ok (.if_icmp .ne 7, 3) := by decide +kernel
theorem dX5_over_13 : decode cX5_over 13 = .ok (.iconst 1, 1) := by decide +kernel
theorem dX5_over_14 : decode cX5_over 14 = .ok (.goto 13, 3) := by decide +kernel
theorem dX5_over_17 : decode cX5_over 17 = .ok (.iload_n 0, 1) := by decide +kernel
theorem dX5_over_18 : decode cX5_over 18 = .ok (.iconst 4, 1) := by decide +kernel
theorem dX5_over_19 : decode cX5_over 19 = .ok (.if_icmp .ne 7, 3) := by decide +kernel
theorem dX5_over_22 : decode cX5_over 22 = .ok (.iconst 2, 1) := by decide +kernel
theorem dX5_over_23 : decode cX5_over 23 = .ok (.goto 4, 3) := by decide +kernel
theorem dX5_over_26 : decode cX5_over 26 = .ok (.iconst 0, 1) := by decide +kernel
theorem dX5_over_27 : decode cX5_over 27 = .ok (.ireturn, 1) := by decide +kernel
theorem dX5_taken_0 : decode cX5_taken 0 = .ok (.iload_n 2, 1) := by decide +kernel
theorem dX5_taken_1 : decode cX5_taken 1 = .ok (.i2l, 1) := by decide +kernel
theorem dX5_taken_2 : decode cX5_taken 2 = .ok (.lconst 0, 1) := by decide +kernel
theorem dX5_taken_3 : decode cX5_taken 3 = .ok (.ldc2_w 113, 3) := by decide +kernel
theorem dX5_taken_6 : decode cX5_taken 6 = .ok (.invokestatic 76, 3) := by decide +kernel
theorem dX5_taken_9 : decode cX5_taken 9 = .ok (.ifCond .ne 6, 3) := by decide +kernel
theorem dX5_taken_12 : decode cX5_taken 12 = .ok (.bipush (-2), 2) := by decide +kernel
theorem dX5_taken_14 : decode cX5_taken 14 = .ok (.ireturn, 1) := by decide +kernel
theorem dX5_taken_15 : decode cX5_taken 15 = .ok (.aload_n 0, 1) := by decide +kernel
theorem dX5_taken_16 : decode cX5_taken 16 = .ok (.iload_n 1, 1) := by decide +kernel
theorem dX5_taken_17 : decode cX5_taken 17 = .ok (.invokevirtual 86, 3) := by decide +kernel
theorem dX5_taken_20 : decode cX5_taken 20 = .ok (.ifCond .ne 6, 3) := by decide +kernel
theorem dX5_taken_23 : decode cX5_taken 23 = .ok (.bipush (-11), 2) := by decide +kernel
theorem dX5_taken_25 : decode cX5_taken 25 = .ok (.ireturn, 1) := by decide +kernel
theorem dX5_taken_26 : decode cX5_taken 26 = .ok (.aload_n 0, 1) := by decide +kernel
theorem dX5_taken_27 : decode cX5_taken 27 = .ok (.getfield 29, 3) := by decide +kernel
theorem dX5_taken_30 : decode cX5_taken 30 = .ok (.iload_n 1, 1) := by decide +kernel
theorem dX5_taken_31 : decode cX5_taken 31 = .ok (.iaload, 1) := by decide +kernel
theorem dX5_taken_32 : decode cX5_taken 32 = .ok (.istore_n 3, 1) := by decide +kernel
theorem dX5_taken_33 : decode cX5_taken 33 = .ok (.iload_n 3, 1) := by decide +kernel
theorem dX5_taken_34 : decode cX5_taken 34 = .ok (.iconst (-1), 1) := by decide +kernel
theorem dX5_taken_35 : decode cX5_taken 35 = .ok (.if_icmp .eq 16, 3) := by decide +kernel
theorem dX5_taken_38 : decode cX5_taken 38 = .ok (.iload_n 3, 1) := by decide +kernel
theorem dX5_taken_39 : decode cX5_taken 39 = .ok (.iload_n 2, 1) := by decide +kernel
theorem dX5_taken_40 : decode cX5_taken 40 = .ok (.if_icmp .eq 11, 3) := by decide +kernel
theorem dX5_taken_43 : decode cX5_taken 43 = .ok (.iload_n 3, 1) := by decide +kernel
theorem dX5_taken_44 : decode cX5_taken 44 = .ok (.invokestatic 443, 3) := by decide +kernel
theorem dX5_taken_47 : decode cX5_taken 47 = .ok (.istore_n 3, 1) := by decide +kernel
theorem dX5_taken_48 : decode cX5_taken 48 = .ok (.goto (-15), 3) := by decide +kernel
theorem dX5_taken_51 : decode cX5_taken 51 = .ok (.iload_n 3, 1) := by decide +kernel
theorem dX5_taken_52 : decode cX5_taken 52 = .ok (.iload_n 2, 1) := by decide +kernel
theorem dX5_taken_53 : decode cX5_taken 53 = .ok (.if_icmp .ne 14, 3) := by decide +kernel
theorem dX5_taken_56 : decode cX5_taken 56 = .ok (.aload_n 0, 1) := by decide +kernel
theorem dX5_taken_57 : decode cX5_taken 57 = .ok (.getfield 32, 3) := by decide +kernel
theorem dX5_taken_60 : decode cX5_taken 60 = .ok (.iconst 3, 1) := by decide +kernel
theorem dX5_taken_61 : decode cX5_taken 61 = .ok (.iload_n 1, 1) := by decide +kernel
theorem dX5_taken_62 : decode cX5_taken 62 = .ok (.imul, 1) := by decide +kernel
theorem dX5_taken_63 : decode cX5_taken 63 = .ok (.iaload, 1) := by decide +kernel
theorem dX5_taken_64 : decode cX5_taken 64 = .ok (.goto 5, 3) := by decide +kernel
theorem dX5_taken_67 : decode cX5_taken 67 = .ok (.bipush (-13), 2) := by decide +kernel
theorem dX5_taken_69 : decode cX5_taken 69 = .ok (.ireturn, 1) := by decide +kernel
theorem dJ6_bitCount_0f7a4_0 : decode cJ6_bitCount_0f7a4 0 = .ok (.iload_n 0, 1) := by decide +kernel
theorem dJ6_bitCount_0f7a4_1 : decode cJ6_bitCount_0f7a4 1 = .ok (.iload_n 0, 1) := by decide +kernel
theorem dJ6_bitCount_0f7a4_2 : decode cJ6_bitCount_0f7a4 2 = .ok (.iconst 1, 1) := by decide +kernel
theorem dJ6_bitCount_0f7a4_3 : decode cJ6_bitCount_0f7a4 3 = .ok (.iushr, 1) := by decide +kernel
theorem dJ6_bitCount_0f7a4_4 : decode cJ6_bitCount_0f7a4 4 = .ok (.ldc_w 265, 3) := by decide +kernel
theorem dJ6_bitCount_0f7a4_7 : decode cJ6_bitCount_0f7a4 7 = .ok (.iand, 1) := by decide +kernel
theorem dJ6_bitCount_0f7a4_8 : decode cJ6_bitCount_0f7a4 8 = .ok (.isub, 1) := by decide +kernel
theorem dJ6_bitCount_0f7a4_9 : decode cJ6_bitCount_0f7a4 9 = .ok (.istore_n 0, 1) := by decide +kernel
theorem dJ6_bitCount_0f7a4_10 : decode cJ6_bitCount_0f7a4 10 = .ok (.iload_n 0, 1) := by decide +kernel
theorem dJ6_bitCount_0f7a4_11 : decode cJ6_bitCount_0f7a4 11 = .ok (.ldc_w 266, 3) := by decide +kernel
theorem dJ6_bitCount_0f7a4_14 : decode cJ6_bitCount_0f7a4 14 = .ok (.iand, 1) := by decide +kernel
theorem dJ6_bitCount_0f7a4_15 : decode cJ6_bitCount_0f7a4 15 = .ok (.iload_n 0, 1) := by decide +kernel
theorem dJ6_bitCount_0f7a4_16 : decode cJ6_bitCount_0f7a4 16 = .ok (.iconst 2, 1) := by decide +kernel
theorem dJ6_bitCount_0f7a4_17 : decode cJ6_bitCount_0f7a4 17 = .ok (.iushr, 1) := by decide +kernel
theorem dJ6_bitCount_0f7a4_18 : decode cJ6_bitCount_0f7a4 18 = .ok (.ldc_w 266, 3) := by decide +kernel
theorem dJ6_bitCount_0f7a4_21 : decode cJ6_bitCount_0f7a4 21 = .ok (.iand, 1) := by decide +kernel
theorem dJ6_bitCount_0f7a4_22 : decode cJ6_bitCount_0f7a4 22 = .ok (.iadd, 1) := by decide +kernel
theorem dJ6_bitCount_0f7a4_23 : decode cJ6_bitCount_0f7a4 23 = .ok (.istore_n 0, 1) := by decide +kernel
theorem dJ6_bitCount_0f7a4_24 : decode cJ6_bitCount_0f7a4 24 = .ok (.iload_n 0, 1) := by decide +kernel
theorem dJ6_bitCount_0f7a4_25 : decode cJ6_bitCount_0f7a4 25 = .ok (.iload_n 0, 1) := by decide +kernel
theorem dJ6_bitCount_0f7a4_26 : decode cJ6_bitCount_0f7a4 26 = .ok (.iconst 4, 1) := by decide +kernel
theorem dJ6_bitCount_0f7a4_27 : decode cJ6_bitCount_0f7a4 27 = .ok (.iushr, 1) := by decide +kernel
theorem dJ6_bitCount_0f7a4_28 : decode cJ6_bitCount_0f7a4 28 = .ok (.iadd, 1) := by decide +kernel
theorem dJ6_bitCount_0f7a4_29 : decode cJ6_bitCount_0f7a4 29 = .ok (.ldc_w 267, 3) := by decide +kernel
theorem dJ6_bitCount_0f7a4_32 : decode cJ6_bitCount_0f7a4 32 = .ok (.iand, 1) := by decide +kernel
theorem dJ6_bitCount_0f7a4_33 : decode cJ6_bitCount_0f7a4 33 = .ok (.istore_n 0, 1) := by decide +kernel
theorem dJ6_bitCount_0f7a4_34 : decode cJ6_bitCount_0f7a4 34 = .ok (.iload_n 0, 1) := by decide +kernel
theorem dJ6_bitCount_0f7a4_35 : decode cJ6_bitCount_0f7a4 35 = .ok (.iload_n 0, 1) := by decide +kernel
theorem dJ6_bitCount_0f7a4_36 : decode cJ6_bitCount_0f7a4 36 = .ok (.bipush 8, 2) := by decide +kernel
theorem dJ6_bitCount_0f7a4_38 : decode cJ6_bitCount_0f7a4 38 = .ok (.iushr, 1) := by decide +kernel
theorem dJ6_bitCount_0f7a4_39 : decode cJ6_bitCount_0f7a4 39 = .ok (.iadd, 1) := by decide +kernel
theorem dJ6_bitCount_0f7a4_40 : decode cJ6_bitCount_0f7a4 40 = .ok (.istore_n 0, 1) := by decide +kernel
theorem dJ6_bitCount_0f7a4_41 : decode cJ6_bitCount_0f7a4 41 = .ok (.iload_n 0, 1) := by decide +kernel
theorem dJ6_bitCount_0f7a4_42 : decode cJ6_bitCount_0f7a4 42 = .ok (.iload_n 0, 1) := by decide +kernel
theorem dJ6_bitCount_0f7a4_43 : decode cJ6_bitCount_0f7a4 43 = .ok (.bipush 16, 2) := by decide +kernel
theorem dJ6_bitCount_0f7a4_45 : decode cJ6_bitCount_0f7a4 45 = .ok (.iushr, 1) := by decide +kernel
theorem dJ6_bitCount_0f7a4_46 : decode cJ6_bitCount_0f7a4 46 = .ok (.iadd, 1) := by decide +kernel
theorem dJ6_bitCount_0f7a4_47 : decode cJ6_bitCount_0f7a4 47 = .ok (.istore_n 0, 1) := by decide +kernel
theorem dJ6_bitCount_0f7a4_48 : decode cJ6_bitCount_0f7a4 48 = .ok (.iload_n 0, 1) := by decide +kernel
theorem dJ6_bitCount_0f7a4_49 : decode cJ6_bitCount_0f7a4 49 = .ok (.bipush 63, 2) := by decide +kernel
theorem dJ6_bitCount_0f7a4_51 : decode cJ6_bitCount_0f7a4 51 = .ok (.iand, 1) := by decide +kernel
theorem dJ6_bitCount_0f7a4_52 : decode cJ6_bitCount_0f7a4 52 = .ok (.ireturn, 1) := by decide +kernel
theorem dJ9_max_7cf53_0 : decode cJ9_max_7cf53 0 = .ok (.iload_n 0, 1) := by decide +kernel
theorem dJ9_max_7cf53_1 : decode cJ9_max_7cf53 1 = .ok (.iload_n 1, 1) := by decide +kernel
theorem dJ9_max_7cf53_2 : decode cJ9_max_7cf53 2 = .ok (.if_icmp .lt 7, 3) := by decide +kernel
theorem dJ9_max_7cf53_5 : decode cJ9_max_7cf53 5 = .ok (.iload_n 0, 1) := by decide +kernel
theorem dJ9_max_7cf53_6 : decode cJ9_max_7cf53 6 = .ok (.goto 4, 3) := by decide +kernel
theorem dJ9_max_7cf53_9 : decode cJ9_max_7cf53 9 = .ok (.iload_n 1, 1) := by decide +kernel
theorem dJ9_max_7cf53_10 : decode cJ9_max_7cf53 10 = .ok (.ireturn, 1) := by decide +kernel
theorem dJ9_min_7cf53_0 : decode cJ9_min_7cf53 0 = .ok (.iload_n 0, 1) := by decide +kernel
theorem dJ9_min_7cf53_1 : decode cJ9_min_7cf53 1 = .ok (.iload_n 1, 1) := by decide +kernel
theorem dJ9_min_7cf53_2 : decode cJ9_min_7cf53 2 = .ok (.if_icmp .gt 7, 3) := by decide +kernel
theorem dJ9_min_7cf53_5 : decode cJ9_min_7cf53 5 = .ok (.iload_n 0, 1) := by decide +kernel
theorem dJ9_min_7cf53_6 : decode cJ9_min_7cf53 6 = .ok (.goto 4, 3) := by decide +kernel
theorem dJ9_min_7cf53_9 : decode cJ9_min_7cf53 9 = .ok (.iload_n 1, 1) := by decide +kernel
theorem dJ9_min_7cf53_10 : decode cJ9_min_7cf53 10 = .ok (.ireturn, 1) := by decide +kernel
theorem dJ0_length_8abf5_0 : decode cJ0_length_8abf5 0 = .ok (.aload_n 0, 1) := by decide +kernel
theorem dJ0_length_8abf5_1 : decode cJ0_length_8abf5 1 = .ok (.getfield 9, 3) := by decide +kernel
theorem dJ0_length_8abf5_4 : decode cJ0_length_8abf5 4 = .ok (.arraylength, 1) := by decide +kernel
theorem dJ0_length_8abf5_5 : decode cJ0_length_8abf5 5 = .ok (.aload_n 0, 1) := by decide +kernel
theorem dJ0_length_8abf5_6 : decode cJ0_length_8abf5 6 = .ok (.invokevirtual 335, 3) := by decide +kernel
theorem dJ0_length_8abf5_9 : decode cJ0_length_8abf5 9 = .ok (.ishr, 1) := by decide +kernel
theorem dJ0_length_8abf5_10 : decode cJ0_length_8abf5 10 = .ok (.ireturn, 1) := by decide +kernel
theorem dJ0_charAt_5068e_0 : decode cJ0_charAt_5068e 0 = .ok (.aload_n 0, 1) := by decide +kernel
theorem dJ0_charAt_5068e_1 : decode cJ0_charAt_5068e 1 = .ok (.invokevirtual 492, 3) := by decide +kernel
theorem dJ0_charAt_5068e_4 : decode cJ0_charAt_5068e 4 = .ok (.ifCond .eq 12, 3) := by decide +kernel
theorem dJ0_charAt_5068e_7 : decode cJ0_charAt_5068e 7 = .ok (.aload_n 0, 1) := by decide +kernel
theorem dJ0_charAt_5068e_8 : decode cJ0_charAt_5068e 8 = .ok (.getfield 9, 3) := by decide +kernel
theorem dJ0_charAt_5068e_11 : decode cJ0_charAt_5068e 11 = .ok (.iload_n 1, 1) := by decide +kernel
theorem dJ0_charAt_5068e_12 : decode cJ0_charAt_5068e 12 = .ok (.invokestatic 495, 3) := by decide +kernel
theorem dJ0_charAt_5068e_15 : decode cJ0_charAt_5068e 15 = .ok (.ireturn, 1) := by decide +kernel
theorem dJ0_charAt_5068e_16 : decode cJ0_charAt_5068e 16 = .ok (.aload_n 0, 1) := by decide +kernel
theorem dJ0_charAt_5068e_17 : decode cJ0_charAt_5068e 17 = .ok (.getfield 9, 3) := by decide +kernel
theorem dJ0_charAt_5068e_20 : decode cJ0_charAt_5068e 20 = .ok (.iload_n 1, 1) := by decide +kernel
theorem dJ0_charAt_5068e_21 : decode cJ0_charAt_5068e 21 = .ok (.invokestatic 498, 3) := by decide +kernel
theorem dJ0_charAt_5068e_24 : decode cJ0_charAt_5068e 24 = .ok (.ireturn, 1) := by decide +kernel
theorem dJ0_coder_7d493_0 : decode cJ0_coder_7d493 0 = .ok (.getstatic 38, 3) := by decide +kernel
theorem dJ0_coder_7d493_3 : decode cJ0_coder_7d493 3 = .ok (.ifCond .eq 10, 3) := by decide +kernel
theorem dJ0_coder_7d493_6 : decode cJ0_coder_7d493 6 = .ok (.aload_n 0, 1) := by decide +kernel
theorem dJ0_coder_7d493_7 : decode cJ0_coder_7d493 7 = .ok (.getfield 15, 3) := by decide +kernel
theorem dJ0_coder_7d493_10 : decode cJ0_coder_7d493 10 = .ok (.goto 4, 3) := by decide +kernel
theorem dJ0_coder_7d493_13 : decode cJ0_coder_7d493 13 = .ok (.iconst 1, 1) := by decide +kernel
theorem dJ0_coder_7d493_14 : decode cJ0_coder_7d493 14 = .ok (.ireturn, 1) := by decide +kernel
theorem dJ0_isLatin1_aae02_0 : decode cJ0_isLatin1_aae02 0 = .ok (.getstatic 38, 3) := by decide +kernel
theorem dJ0_isLatin1_aae02_3 : decode cJ0_isLatin1_aae02 3 = .ok (.ifCond .eq 14, 3) := by decide +kernel
theorem dJ0_isLatin1_aae02_6 : decode cJ0_isLatin1_aae02 6 = .ok (.aload_n 0, 1) := by decide +kernel
theorem dJ0_isLatin1_aae02_7 : decode cJ0_isLatin1_aae02 7 = .ok (.getfield 15, 3) := by decide +kernel
theorem dJ0_isLatin1_aae02_10 : decode cJ0_isLatin1_aae02 10 = .ok (.ifCond .ne 7, 3) := by decide +kernel
theorem dJ0_isLatin1_aae02_13 : decode cJ0_isLatin1_aae02 13 = .ok (.iconst 1, 1) := by decide +kernel
theorem dJ0_isLatin1_aae02_14 : decode cJ0_isLatin1_aae02 14 = .ok (.goto 4, 3) := by decide +kernel
theorem dJ0_isLatin1_aae02_17 : decode cJ0_isLatin1_aae02 17 = .ok (.iconst 0, 1) := by decide +kernel
theorem dJ0_isLatin1_aae02_18 : decode cJ0_isLatin1_aae02 18 = .ok (.ireturn, 1) := by decide +kernel
theorem dJ0_checkIndex_df160_0 : decode cJ0_checkIndex_df160 0 = .ok (.iload_n 0, 1) := by decide +kernel
theorem dJ0_checkIndex_df160_1 : decode cJ0_checkIndex_df160 1 = .ok (.iload_n 1, 1) := by decide +kernel
theorem dJ0_checkIndex_df160_2 : decode cJ0_checkIndex_df160 2 = .ok (.getstatic 1053, 3) := by decide +kernel
theorem dJ0_checkIndex_df160_5 : decode cJ0_checkIndex_df160 5 = .ok (.invokestatic 1059, 3) := by decide +kernel
theorem dJ0_checkIndex_df160_8 : decode cJ0_checkIndex_df160 8 = .ok (.pop, 1) := by decide +kernel
theorem dJ0_checkIndex_df160_9 : decode cJ0_checkIndex_df160 9 = .ok (.return_, 1) := by decide +kernel
theorem dJ1_charAt_3b067_0 : decode cJ1_charAt_3b067 0 = .ok (.iload_n 1, 1) := by decide +kernel
theorem dJ1_charAt_3b067_1 : decode cJ1_charAt_3b067 1 = .ok (.aload_n 0, 1) := by decide +kernel
theorem dJ1_charAt_3b067_2 : decode cJ1_charAt_3b067 2 = .ok (.arraylength, 1) := by decide +kernel
theorem dJ1_charAt_3b067_3 : decode cJ1_charAt_3b067 3 = .ok (.invokestatic 9, 3) := by decide +kernel
theorem dJ1_charAt_3b067_6 : decode cJ1_charAt_3b067 6 = .ok (.aload_n 0, 1) := by decide +kernel
theorem dJ1_charAt_3b067_7 : decode cJ1_charAt_3b067 7 = .ok (.iload_n 1, 1) := by decide +kernel
theorem dJ1_charAt_3b067_8 : decode cJ1_charAt_3b067 8 = .ok (.baload, 1) := by decide +kernel
theorem dJ1_charAt_3b067_9 : decode cJ1_charAt_3b067 9 = .ok (.sipush 255, 3) := by decide +kernel
theorem dJ1_charAt_3b067_12 : decode cJ1_charAt_3b067 12 = .ok (.iand, 1) := by decide +kernel
theorem dJ1_charAt_3b067_13 : decode cJ1_charAt_3b067 13 = .ok (.i2c, 1) := by decide +kernel
theorem dJ1_charAt_3b067_14 : decode cJ1_charAt_3b067 14 = .ok (.ireturn, 1) := by decide +kernel
theorem dJ2_getChar_3b067_0 : decode cJ2_getChar_3b067 0 = .ok (.getstatic 44, 3) := by decide +kernel
theorem dJ2_getChar_3b067_3 : decode cJ2_getChar_3b067 3 = .ok (.ifCond .ne 25, 3) := by decide +kernel
theorem dJ2_getChar_3b067_6 : decode cJ2_getChar_3b067 6 = .ok (.iload_n 1, 1) := by decide +kernel
theorem dJ2_getChar_3b067_7 : decode cJ2_getChar_3b067 7 = .ok (.ifCond .lt 11, 3) := by decide +kernel
theorem dJ2_getChar_3b067_10 : decode cJ2_getChar_3b067 10 = .ok (.iload_n 1, 1) := by decide +kernel
theorem dJ2_getChar_3b067_11 : decode cJ2_getChar_3b067 11 = .ok (.aload_n 0, 1) := by decide +kernel
theorem dJ2_getChar_3b067_12 : decode cJ2_getChar_3b067 12 = .ok (.invokestatic 48, 3) := by decide +kernel
theorem dJ2_getChar_3b067_15 : decode cJ2_getChar_3b067 15 = .ok (.if_icmp .lt 13, 3) := by decide +kernel
theorem dJ2_getChar_3b067_18 : decode cJ2_getChar_3b067 18 = .ok (.new 52, 3) := by decide +kernel
theorem dJ2_getChar_3b067_21 : decode cJ2_getChar_3b067 21 = .ok (.dup, 1) := by decide +kernel
theorem dJ2_getChar_3b067_22 : decode cJ2_getChar_3b067 22 = .ok (.ldc 54, 2) := by decide +kernel
theorem dJ2_getChar_3b067_24 : decode cJ2_getChar_3b067 24 = .ok (.invokespecial 56, 3) := by decide +kernel
theorem dJ2_getChar_3b067_27 : decode cJ2_getChar_3b067 27 = .ok (.athrow, 1) := by decide +kernel
theorem dJ2_getChar_3b067_28 : decode cJ2_getChar_3b067 28 = .ok (.iload_n 1, 1) := by decide +kernel
theorem dJ2_getChar_3b067_29 : decode cJ2_getChar_3b067 29 = .ok (.iconst 1, 1) := by decide +kernel
theorem dJ2_getChar_3b067_30 : decode cJ2_getChar_3b067 30 = .ok (.ishl, 1) := by decide +kernel
theorem dJ2_getChar_3b067_31 : decode cJ2_getChar_3b067 31 = .ok (.istore_n 1, 1) := by decide +kernel
theorem dJ2_getChar_3b067_32 : decode cJ2_getChar_3b067 32 = .ok (.aload_n 0, 1) := by decide +kernel
theorem dJ2_getChar_3b067_33 : decode cJ2_getChar_3b067 33 = .ok (.iload_n 1, 1) := by decide +kernel
theorem dJ2_getChar_3b067_34 : decode cJ2_getChar_3b067 34 = .ok (.iinc 1 1, 3) := by decide +kernel
theorem dJ2_getChar_3b067_37 : decode cJ2_getChar_3b067 37 = .ok (.baload, 1) := by decide +kernel
theorem dJ2_getChar_3b067_38 : decode cJ2_getChar_3b067 38 = .ok (.sipush 255, 3) := by decide +kernel
theorem dJ2_getChar_3b067_41 : decode cJ2_getChar_3b067 41 = .ok (.iand, 1) := by decide +kernel
theorem dJ2_getChar_3b067_42 : decode cJ2_getChar_3b067 42 = .ok (.getstatic 59, 3) := by decide +kernel
theorem dJ2_getChar_3b067_45 : decode cJ2_getChar_3b067 45 = .ok (.ishl, 1) := by decide +kernel
theorem dJ2_getChar_3b067_46 : decode cJ2_getChar_3b067 46 = .ok (.aload_n 0, 1) := by decide +kernel
theorem dJ2_getChar_3b067_47 : decode cJ2_getChar_3b067 47 = .ok (.iload_n 1, 1) := by decide +kernel
theorem dJ2_getChar_3b067_48 : decode cJ2_getChar_3b067 48 = .ok (.baload, 1) := by decide +kernel
theorem dJ2_getChar_3b067_49 : decode cJ2_getChar_3b067 49 = .ok (.sipush 255, 3) := by decide +kernel
theorem dJ2_getChar_3b067_52 : decode cJ2_getChar_3b067 52 = .ok (.iand, 1) := by decide +kernel
theorem dJ2_getChar_3b067_53 : decode cJ2_getChar_3b067 53 = .ok (.getstatic 63, 3) := by decide +kernel
theorem dJ2_getChar_3b067_56 : decode cJ2_getChar_3b067 56 = .ok (.ishl, 1) := by decide +kernel
theorem dJ2_getChar_3b067_57 : decode cJ2_getChar_3b067 57 = .ok (.ior, 1) := by decide +kernel
theorem dJ2_getChar_3b067_58 : decode cJ2_getChar_3b067 58 = .ok (.i2c, 1) := by decide +kernel
theorem dJ2_getChar_3b067_59 : decode cJ2_getChar_3b067 59 = .ok (.ireturn, 1) := by decide +kernel
theorem dJ2_length_9d52b_0 : decode cJ2_length_9d52b 0 = .ok (.aload_n 0, 1) := by decide +kernel
theorem dJ2_length_9d52b_1 : decode cJ2_length_9d52b 1 = .ok (.arraylength, 1) := by decide +kernel
theorem dJ2_length_9d52b_2 : decode cJ2_length_9d52b 2 = .ok (.iconst 1, 1) := by decide +kernel
theorem dJ2_length_9d52b_3 : decode cJ2_length_9d52b 3 = .ok (.ishr, 1) := by decide +kernel
theorem dJ2_length_9d52b_4 : decode cJ2_length_9d52b 4 = .ok (.ireturn, 1) := by decide +kernel
theorem dJ2_charAt_3b067_0 : decode cJ2_charAt_3b067 0 = .ok (.iload_n 1, 1) := by decide +kernel
theorem dJ2_charAt_3b067_1 : decode cJ2_charAt_3b067 1 = .ok (.aload_n 0, 1) := by decide +kernel
theorem dJ2_charAt_3b067_2 : decode cJ2_charAt_3b067 2 = .ok (.invokestatic 67, 3) := by decide +kernel
theorem dJ2_charAt_3b067_5 : decode cJ2_charAt_3b067 5 = .ok (.aload_n 0, 1) := by decide +kernel
theorem dJ2_charAt_3b067_6 : decode cJ2_charAt_3b067 6 = .ok (.iload_n 1, 1) := by decide +kernel
theorem dJ2_charAt_3b067_7 : decode cJ2_charAt_3b067 7 = .ok (.invokestatic 71, 3) := by decide +kernel
theorem dJ2_charAt_3b067_10 : decode cJ2_charAt_3b067 10 = .ok (.ireturn, 1) := by decide +kernel
theorem dJ2_checkIndex_2214a_0 : decode cJ2_checkIndex_2214a 0 = .ok (.iload_n 0, 1) := by decide +kernel
theorem dJ2_checkIndex_2214a_1 : decode cJ2_checkIndex_2214a 1 = .ok (.aload_n 1, 1) := by decide +kernel
theorem dJ2_checkIndex_2214a_2 : decode cJ2_checkIndex_2214a 2 = .ok (.invokestatic 48, 3) := by decide +kernel
theorem dJ2_checkIndex_2214a_5 : decode cJ2_checkIndex_2214a 5 = .ok (.invokestatic 414, 3) := by decide +kernel
theorem dJ2_checkIndex_2214a_8 : decode cJ2_checkIndex_2214a 8 = .ok (.return_, 1) := by decide +kernel
theorem dJ3_checkIndex_8e157_0 : decode cJ3_checkIndex_8e157 0 = .ok (.iload_n 0, 1) := by decide +kernel
theorem dJ3_checkIndex_8e157_1 : decode cJ3_checkIndex_8e157 1 = .ok (.ifCond .lt 8, 3) := by decide +kernel
theorem dJ3_checkIndex_8e157_4 : decode cJ3_checkIndex_8e157 4 = .ok (.iload_n 0, 1) := by decide +kernel
theorem dJ3_checkIndex_8e157_5 : decode cJ3_checkIndex_8e157 5 = .ok (.iload_n 1, 1) := by decide +kernel
theorem dJ3_checkIndex_8e157_6 : decode cJ3_checkIndex_8e157 6 = .ok (.if_icmp .lt 10, 3) := by decide +kernel
theorem dJ3_checkIndex_8e157_9 : decode cJ3_checkIndex_8e157 9 = .ok (.aload_n 2, 1) := by decide +kernel
theorem dJ3_checkIndex_8e157_10 : decode cJ3_checkIndex_8e157 10 = .ok (.iload_n 0, 1) := by decide +kernel
theorem dJ3_checkIndex_8e157_11 : decode cJ3_checkIndex_8e157 11 = .ok (.iload_n 1, 1) := by decide +kernel
theorem dJ3_checkIndex_8e157_12 : decode cJ3_checkIndex_8e157 12 = .ok (.invokestatic 95, 3) := by decide +kernel
theorem dJ3_checkIndex_8e157_15 : decode cJ3_checkIndex_8e157 15 = .ok (.athrow, 1) := by decide +kernel
theorem dJ3_checkIndex_8e157_16 : decode cJ3_checkIndex_8e157 16 = .ok (.iload_n 0, 1) := by decide +kernel
theorem dJ3_checkIndex_8e157_17 : decode cJ3_checkIndex_8e157 17 = .ok (.ireturn, 1) := by decide +kernel
theorem dL_law_0 : decode cL_law 0 = .ok (.new 7, 3) := by decide +kernel
theorem dL_law_3 : decode cL_law 3 = .ok (.dup, 1) := by decide +kernel
theorem dL_law_4 : decode cL_law 4 = .ok (.invokespecial 9, 3) := by decide +kernel
theorem dL_law_7 : decode cL_law 7 = .ok (.astore_n 1, 1) := by decide +kernel
theorem dL_law_8 : decode cL_law 8 = .ok (.new 10, 3) := by decide +kernel
theorem dL_law_11 : decode cL_law 11 = .ok (.dup, 1) := by decide +kernel
theorem dL_law_12 : decode cL_law 12 = .ok (.invokespecial 12, 3) := by decide +kernel
theorem dL_law_15 : decode cL_law 15 = .ok (.astore_n 2, 1) := by decide +kernel
theorem dL_law_16 : decode cL_law 16 = .ok (.iconst 0, 1) := by decide +kernel
theorem dL_law_17 : decode cL_law 17 = .ok (.istore_n 3, 1) := by decide +kernel
theorem dL_law_18 : decode cL_law 18 = .ok (.iload_n 3, 1) := by decide +kernel
theorem dL_law_19 : decode cL_law 19 = .ok (.aload_n 0, 1) := by decide +kernel
theorem dL_law_20 : decode cL_law 20 = .ok (.arraylength, 1) := by decide +kernel
theorem dL_law_21 : decode cL_law 21 = .ok (.bipush 6, 2) := by decide +kernel
theorem dL_law_23 : decode cL_law 23 = .ok (.isub, 1) := by decide +kernel
theorem dL_law_24 : decode cL_law 24 = .ok (.if_icmp .gt 993, 3) := by decide +kernel
theorem dL_law_27 : decode cL_law 27 = .ok (.aload_n 0, 1) := by decide +kernel
theorem dL_law_28 : decode cL_law 28 = .ok (.iload_n 3, 1) := by decide +kernel
theorem dL_law_29 : decode cL_law 29 = .ok (.iaload, 1) := by decide +kernel
theorem dL_law_30 : decode cL_law 30 = .ok (.bipush 31, 2) := by decide +kernel
theorem dL_law_32 : decode cL_law 32 = .ok (.iand, 1) := by decide +kernel
theorem dL_law_33 : decode cL_law 33 = .ok (.tableswitch 978 0 25 #[119, 162, 205, 238, 261, 274, 297, 330, 343, 376, 409, 452, 475, 508, 541, 574, 607, 640, 694, 707, 720, 743, 786, 829, 892, 945], 119) := by decide +kernel
theorem dL_law_152 : decode cL_law 152 = .ok (.aload_n 1, 1) := by decide +kernel
theorem dL_law_153 : decode cL_law 153 = .ok (.aload_n 0, 1) := by decide +kernel
theorem dL_law_154 : decode cL_law 154 = .ok (.iload_n 3, 1) := by decide +kernel
theorem dL_law_155 : decode cL_law 155 = .ok (.iconst 1, 1) := by decide +kernel
theorem dL_law_156 : decode cL_law 156 = .ok (.iadd, 1) := by decide +kernel
theorem dL_law_157 : decode cL_law 157 = .ok (.iaload, 1) := by decide +kernel
theorem dL_law_158 : decode cL_law 158 = .ok (.aload_n 0, 1) := by decide +kernel
theorem dL_law_159 : decode cL_law 159 = .ok (.iload_n 3, 1) := by decide +kernel
theorem dL_law_160 : decode cL_law 160 = .ok (.iconst 2, 1) := by decide +kernel
theorem dL_law_161 : decode cL_law 161 = .ok (.iadd, 1) := by decide +kernel
theorem dL_law_162 : decode cL_law 162 = .ok (.iaload, 1) := by decide +kernel
theorem dL_law_163 : decode cL_law 163 = .ok (.aload_n 0, 1) := by decide +kernel
theorem dL_law_164 : decode cL_law 164 = .ok (.iload_n 3, 1) := by decide +kernel
theorem dL_law_165 : decode cL_law 165 = .ok (.iconst 3, 1) := by decide +kernel
theorem dL_law_166 : decode cL_law 166 = .ok (.iadd, 1) := by decide +kernel
theorem dL_law_167 : decode cL_law 167 = .ok (.iaload, 1) := by decide +kernel
theorem dL_law_168 : decode cL_law 168 = .ok (.invokevirtual 13, 3) := by decide +kernel
theorem dL_law_171 : decode cL_law 171 = .ok (.aload_n 2, 1) := by decide +kernel
theorem dL_law_172 : decode cL_law 172 = .ok (.aload_n 0, 1) := by decide +kernel
theorem dL_law_173 : decode cL_law 173 = .ok (.iload_n 3, 1) := by decide +kernel
theorem dL_law_174 : decode cL_law 174 = .ok (.iconst 1, 1) := by decide +kernel
theorem dL_law_175 : decode cL_law 175 = .ok (.iadd, 1) := by decide +kernel
theorem dL_law_176 : decode cL_law 176 = .ok (.iaload, 1) := by decide +kernel
theorem dL_law_177 : decode cL_law 177 = .ok (.aload_n 0, 1) := by decide +kernel
theorem dL_law_178 : decode cL_law 178 = .ok (.iload_n 3, 1) := by decide +kernel
theorem dL_law_179 : decode cL_law 179 = .ok (.iconst 2, 1) := by decide +kernel
theorem dL_law_180 : decode cL_law 180 = .ok (.iadd, 1) := by decide +kernel
theorem dL_law_181 : decode cL_law 181 = .ok (.iaload, 1) := by decide +kernel
theorem dL_law_182 : decode cL_law 182 = .ok (.aload_n 0, 1) := by decide +kernel
theorem dL_law_183 : decode cL_law 183 = .ok (.iload_n 3, 1) := by decide +kernel
theorem dL_law_184 : decode cL_law 184 = .ok (.iconst 3, 1) := by decide +kernel
theorem dL_law_185 : decode cL_law 185 = .ok (.iadd, 1) := by decide +kernel
theorem dL_law_186 : decode cL_law 186 = .ok (.iaload, 1) := by decide +kernel
theorem dL_law_187 : decode cL_law 187 = .ok (.invokevirtual 17, 3) := by decide +kernel
theorem dL_law_190 : decode cL_law 190 = .ok (.if_icmp .eq 821, 3) := by decide +kernel
theorem dL_law_193 : decode cL_law 193 = .ok (.iconst 0, 1) := by decide +kernel
theorem dL_law_194 : decode cL_law 194 = .ok (.ireturn, 1) := by decide +kernel
theorem dL_law_195 : decode cL_law 195 = .ok (.aload_n 1, 1) := by decide +kernel
theorem dL_law_196 : decode cL_law 196 = .ok (.aload_n 0, 1) := by decide +kernel
theorem dL_law_197 : decode cL_law 197 = .ok (.iload_n 3, 1) := by decide +kernel
theorem dL_law_198 : decode cL_law 198 = .ok (.iconst 1, 1) := by decide +kernel
theorem dL_law_199 : decode cL_law 199 = .ok (.iadd, 1) := by decide +kernel
theorem dL_law_200 : decode cL_law 200 = .ok (.iaload, 1) := by decide +kernel
theorem dL_law_201 : decode cL_law 201 = .ok (.aload_n 0, 1) := by decide +kernel
theorem dL_law_202 : decode cL_law 202 = .ok (.iload_n 3, 1) := by decide +kernel
theorem dL_law_203 : decode cL_law 203 = .ok (.iconst 2, 1) := by decide +kernel
theorem dL_law_204 : decode cL_law 204 = .ok (.iadd, 1) := by decide +kernel
theorem dL_law_205 : decode cL_law 205 = .ok (.iaload, 1) := by decide +kernel
theorem dL_law_206 : decode cL_law 206 = .ok (.aload_n 0, 1) := by decide +kernel
theorem dL_law_207 : decode cL_law 207 = .ok (.iload_n 3, 1) := by decide +kernel
theorem dL_law_208 : decode cL_law 208 = .ok (.iconst 3, 1) := by decide +kernel
theorem dL_law_209 : decode cL_law 209 = .ok (.iadd, 1) := by decide +kernel
theorem dL_law_210 : decode cL_law 210 = .ok (.iaload, 1) := by decide +kernel
theorem dL_law_211 : decode cL_law 211 = .ok (.invokevirtual 18, 3) := by decide +kernel
theorem dL_law_214 : decode cL_law 214 = .ok (.aload_n 2, 1) := by decide +kernel
theorem dL_law_215 : decode cL_law 215 = .ok (.aload_n 0, 1) := by decide +kernel
theorem dL_law_216 : decode cL_law 216 = .ok (.iload_n 3, 1) := by decide +kernel
theorem dL_law_217 : decode cL_law 217 = .ok (.iconst 1, 1) := by decide +kernel
theorem dL_law_218 : decode cL_law 218 = .ok (.iadd, 1) := by decide +kernel
theorem dL_law_219 : decode cL_law 219 = .ok (.iaload, 1) := by decide +kernel
theorem dL_law_220 : decode cL_law 220 = .ok (.aload_n 0, 1) := by decide +kernel
theorem dL_law_221 : decode cL_law 221 = .ok (.iload_n 3, 1) := by decide +kernel
theorem dL_law_222 : decode cL_law 222 = .ok (.iconst 2, 1) := by decide +kernel
theorem dL_law_223 : decode cL_law 223 = .ok (.iadd, 1) := by decide +kernel
theorem dL_law_224 : decode cL_law 224 = .ok (.iaload, 1) := by decide +kernel
theorem dL_law_225 : decode cL_law 225 = .ok (.aload_n 0, 1) := by decide +kernel
theorem dL_law_226 : decode cL_law 226 = .ok (.iload_n 3, 1) := by decide +kernel
theorem dL_law_227 : decode cL_law 227 = .ok (.iconst 3, 1) := by decide +kernel
theorem dL_law_228 : decode cL_law 228 = .ok (.iadd, 1) := by decide +kernel
theorem dL_law_229 : decode cL_law 229 = .ok (.iaload, 1) := by decide +kernel
theorem dL_law_230 : decode cL_law 230 = .ok (.invokevirtual 21, 3) := by decide +kernel
theorem dL_law_233 : decode cL_law 233 = .ok (.if_icmp .eq 778, 3) := by decide +kernel
theorem dL_law_236 : decode cL_law 236 = .ok (.iconst 0, 1) := by decide +kernel
theorem dL_law_237 : decode cL_law 237 = .ok (.ireturn, 1) := by decide +kernel
theorem dL_law_238 : decode cL_law 238 = .ok (.aload_n 1, 1) := by decide +kernel
theorem dL_law_239 : decode cL_law 239 = .ok (.aload_n 0, 1) := by decide +kernel
theorem dL_law_240 : decode cL_law 240 = .ok (.iload_n 3, 1) := by decide +kernel
theorem dL_law_241 : decode cL_law 241 = .ok (.iconst 1, 1) := by decide +kernel
theorem dL_law_242 : decode cL_law 242 = .ok (.iadd, 1) := by decide +kernel
theorem dL_law_243 : decode cL_law 243 = .ok (.iaload, 1) := by decide +kernel
theorem dL_law_244 : decode cL_law 244 = .ok (.aload_n 0, 1) := by decide +kernel
theorem dL_law_245 : decode cL_law 245 = .ok (.iload_n 3, 1) := by decide +kernel
theorem dL_law_246 : decode cL_law 246 = .ok (.iconst 2, 1) := by decide +kernel
theorem dL_law_247 : decode cL_law 247 = .ok (.iadd, 1) := by decide +kernel
theorem dL_law_248 : decode cL_law 248 = .ok (.iaload, 1) := by decide +kernel
theorem dL_law_249 : decode cL_law 249 = .ok (.invokevirtual 22, 3) := by decide +kernel
theorem dL_law_252 : decode cL_law 252 = .ok (.aload_n 2, 1) := by decide +kernel
theorem dL_law_253 : decode cL_law 253 = .ok (.aload_n 0, 1) := by decide +kernel
theorem dL_law_254 : decode cL_law 254 = .ok (.iload_n 3, 1) := by decide +kernel
theorem dL_law_255 : decode cL_law 255 = .ok (.iconst 1, 1) := by decide +kernel
theorem dL_law_256 : decode cL_law 256 = .ok (.iadd, 1) := by decide +kernel
theorem dL_law_257 : decode cL_law 257 = .ok (.iaload, 1) := by decide +kernel
theorem dL_law_258 : decode cL_law 258 = .ok (.aload_n 0, 1) := by decide +kernel
theorem dL_law_259 : decode cL_law 259 = .ok (.iload_n 3, 1) := by decide +kernel
theorem dL_law_260 : decode cL_law 260 = .ok (.iconst 2, 1) := by decide +kernel
theorem dL_law_261 : decode cL_law 261 = .ok (.iadd, 1) := by decide +kernel
theorem dL_law_262 : decode cL_law 262 = .ok (.iaload, 1) := by decide +kernel
theorem dL_law_263 : decode cL_law 263 = .ok (.invokevirtual 26, 3) := by decide +kernel
theorem dL_law_266 : decode cL_law 266 = .ok (.if_icmp .eq 745, 3) := by decide +kernel
theorem dL_law_269 : decode cL_law 269 = .ok (.iconst 0, 1) := by decide +kernel
theorem dL_law_270 : decode cL_law 270 = .ok (.ireturn, 1) := by decide +kernel
theorem dL_law_271 : decode cL_law 271 = .ok (.aload_n 1, 1) := by decide +kernel
theorem dL_law_272 : decode cL_law 272 = .ok (.aload_n 0, 1) := by decide +kernel
theorem dL_law_273 : decode cL_law 273 = .ok (.iload_n 3, 1) := by decide +kernel
theorem dL_law_274 : decode cL_law 274 = .ok (.iconst 1, 1) := by decide +kernel
theorem dL_law_275 : decode cL_law 275 = .ok (.iadd, 1) := by decide +kernel
theorem dL_law_276 : decode cL_law 276 = .ok (.iaload, 1) := by decide +kernel
theorem dL_law_277 : decode cL_law 277 = .ok (.invokevirtual 27, 3) := by decide +kernel
theorem dL_law_280 : decode cL_law 280 = .ok (.aload_n 2, 1) := by decide +kernel
theorem dL_law_281 : decode cL_law 281 = .ok (.aload_n 0, 1) := by decide +kernel
theorem dL_law_282 : decode cL_law 282 = .ok (.iload_n 3, 1) := by decide +kernel
theorem dL_law_283 : decode cL_law 283 = .ok (.iconst 1, 1) := by decide +kernel
theorem dL_law_284 : decode cL_law 284 = .ok (.iadd, 1) := by decide +kernel
theorem dL_law_285 : decode cL_law 285 = .ok (.iaload, 1) := by decide +kernel
theorem dL_law_286 : decode cL_law 286 = .ok (.invokevirtual 31, 3) := by decide +kernel
theorem dL_law_289 : decode cL_law 289 = .ok (.if_icmp .eq 722, 3) := by decide +kernel
theorem dL_law_292 : decode cL_law 292 = .ok (.iconst 0, 1) := by decide +kernel
theorem dL_law_293 : decode cL_law 293 = .ok (.ireturn, 1) := by decide +kernel
theorem dL_law_294 : decode cL_law 294 = .ok (.aload_n 1, 1) := by decide +kernel
theorem dL_law_295 : decode cL_law 295 = .ok (.invokevirtual 32, 3) := by decide +kernel
theorem dL_law_298 : decode cL_law 298 = .ok (.aload_n 2, 1) := by decide +kernel
theorem dL_law_299 : decode cL_law 299 = .ok (.invokevirtual 36, 3) := by decide +kernel
theorem dL_law_302 : decode cL_law 302 = .ok (.if_icmp .eq 709, 3) := by decide +kernel
theorem dL_law_305 : decode cL_law 305 = .ok (.iconst 0, 1) := by decide +kernel
theorem dL_law_306 : decode cL_law 306 = .ok (.ireturn, 1) := by decide +kernel
theorem dL_law_307 : decode cL_law 307 = .ok (.aload_n 1, 1) := by decide +kernel
theorem dL_law_308 : decode cL_law 308 = .ok (.aload_n 0, 1) := by decide +kernel
theorem dL_law_309 : decode cL_law 309 = .ok (.iload_n 3, 1) := by decide +kernel
theorem dL_law_310 : decode cL_law 310 = .ok (.iconst 1, 1) := by decide +kernel
theorem dL_law_311 : decode cL_law 311 = .ok (.iadd, 1) := by decide +kernel
theorem dL_law_312 : decode cL_law 312 = .ok (.iaload, 1) := by decide +kernel
theorem dL_law_313 : decode cL_law 313 = .ok (.invokevirtual 37, 3) := by decide +kernel
theorem dL_law_316 : decode cL_law 316 = .ok (.aload_n 2, 1) := by decide +kernel
theorem dL_law_317 : decode cL_law 317 = .ok (.aload_n 0, 1) := by decide +kernel
theorem dL_law_318 : decode cL_law 318 = .ok (.iload_n 3, 1) := by decide +kernel
theorem dL_law_319 : decode cL_law 319 = .ok (.iconst 1, 1) := by decide +kernel
theorem dL_law_320 : decode cL_law 320 = .ok (.iadd, 1) := by decide +kernel
theorem dL_law_321 : decode cL_law 321 = .ok (.iaload, 1) := by decide +kernel
theorem dL_law_322 : decode cL_law 322 = .ok (.invokevirtual 40, 3) := by decide +kernel
theorem dL_law_325 : decode cL_law 325 = .ok (.if_icmp .eq 686, 3) := by decide +kernel
theorem dL_law_328 : decode cL_law 328 = .ok (.iconst 0, 1) := by decide +kernel
theorem dL_law_329 : decode cL_law 329 = .ok (.ireturn, 1) := by decide +kernel
theorem dL_law_330 : decode cL_law 330 = .ok (.aload_n 1, 1) := by decide +kernel
theorem dL_law_331 : decode cL_law 331 = .ok (.aload_n 0, 1) := by decide +kernel
theorem dL_law_332 : decode cL_law 332 = .ok (.iload_n 3, 1) := by decide +kernel
theorem dL_law_333 : decode cL_law 333 = .ok (.iconst 1, 1) := by decide +kernel
theorem dL_law_334 : decode cL_law 334 = .ok (.iadd, 1) := by decide +kernel
theorem dL_law_335 : decode cL_law 335 = .ok (.iaload, 1) := by decide +kernel
theorem dL_law_336 : decode cL_law 336 = .ok (.aload_n 0, 1) := by decide +kernel
theorem dL_law_337 : decode cL_law 337 = .ok (.iload_n 3, 1) := by decide +kernel
theorem dL_law_338 : decode cL_law 338 = .ok (.iconst 2, 1) := by decide +kernel
theorem dL_law_339 : decode cL_law 339 = .ok (.iadd, 1) := by decide +kernel
theorem dL_law_340 : decode cL_law 340 = .ok (.iaload, 1) := by decide +kernel
theorem dL_law_341 : decode cL_law 341 = .ok (.invokevirtual 41, 3) := by decide +kernel
theorem dL_law_344 : decode cL_law 344 = .ok (.aload_n 2, 1) := by decide +kernel
theorem dL_law_345 : decode cL_law 345 = .ok (.aload_n 0, 1) := by decide +kernel
theorem dL_law_346 : decode cL_law 346 = .ok (.iload_n 3, 1) := by decide +kernel
theorem dL_law_347 : decode cL_law 347 = .ok (.iconst 1, 1) := by decide +kernel
theorem dL_law_348 : decode cL_law 348 = .ok (.iadd, 1) := by decide +kernel
theorem dL_law_349 : decode cL_law 349 = .ok (.iaload, 1) := by decide +kernel
theorem dL_law_350 : decode cL_law 350 = .ok (.aload_n 0, 1) := by decide +kernel
theorem dL_law_351 : decode cL_law 351 = .ok (.iload_n 3, 1) := by decide +kernel
theorem dL_law_352 : decode cL_law 352 = .ok (.iconst 2, 1) := by decide +kernel
theorem dL_law_353 : decode cL_law 353 = .ok (.iadd, 1) := by decide +kernel
theorem dL_law_354 : decode cL_law 354 = .ok (.iaload, 1) := by decide +kernel
theorem dL_law_355 : decode cL_law 355 = .ok (.invokevirtual 44, 3) := by decide +kernel
theorem dL_law_358 : decode cL_law 358 = .ok (.if_icmp .eq 653, 3) := by decide +kernel
theorem dL_law_361 : decode cL_law 361 = .ok (.iconst 0, 1) := by decide +kernel
theorem dL_law_362 : decode cL_law 362 = .ok (.ireturn, 1) := by decide +kernel
theorem dL_law_363 : decode cL_law 363 = .ok (.aload_n 1, 1) := by decide +kernel
theorem dL_law_364 : decode cL_law 364 = .ok (.invokevirtual 45, 3) := by decide +kernel
theorem dL_law_367 : decode cL_law 367 = .ok (.aload_n 2, 1) := by decide +kernel
theorem dL_law_368 : decode cL_law 368 = .ok (.invokevirtual 48, 3) := by decide +kernel
theorem dL_law_371 : decode cL_law 371 = .ok (.if_icmp .eq 640, 3) := by decide +kernel
theorem dL_law_374 : decode cL_law 374 = .ok (.iconst 0, 1) := by decide +kernel
theorem dL_law_375 : decode cL_law 375 = .ok (.ireturn, 1) := by decide +kernel
theorem dL_law_376 : decode cL_law 376 = .ok (.aload_n 1, 1) := by decide +kernel
theorem dL_law_377 : decode cL_law 377 = .ok (.aload_n 0, 1) := by decide +kernel
theorem dL_law_378 : decode cL_law 378 = .ok (.iload_n 3, 1) := by decide +kernel
theorem dL_law_379 : decode cL_law 379 = .ok (.iconst 1, 1) := by decide +kernel
theorem dL_law_380 : decode cL_law 380 = .ok (.iadd, 1) := by decide +kernel
theorem dL_law_381 : decode cL_law 381 = .ok (.iaload, 1) := by decide +kernel
theorem dL_law_382 : decode cL_law 382 = .ok (.aload_n 0, 1) := by decide +kernel
theorem dL_law_383 : decode cL_law 383 = .ok (.iload_n 3, 1) := by decide +kernel
theorem dL_law_384 : decode cL_law 384 = .ok (.iconst 2, 1) := by decide +kernel
theorem dL_law_385 : decode cL_law 385 = .ok (.iadd, 1) := by decide +kernel
theorem dL_law_386 : decode cL_law 386 = .ok (.iaload, 1) := by decide +kernel
theorem dL_law_387 : decode cL_law 387 = .ok (.invokevirtual 49, 3) := by decide +kernel
theorem dL_law_390 : decode cL_law 390 = .ok (.aload_n 2, 1) := by decide +kernel
theorem dL_law_391 : decode cL_law 391 = .ok (.aload_n 0, 1) := by decide +kernel
theorem dL_law_392 : decode cL_law 392 = .ok (.iload_n 3, 1) := by decide +kernel
theorem dL_law_393 : decode cL_law 393 = .ok (.iconst 1, 1) := by decide +kernel
theorem dL_law_394 : decode cL_law 394 = .ok (.iadd, 1) := by decide +kernel
theorem dL_law_395 : decode cL_law 395 = .ok (.iaload, 1) := by decide +kernel
theorem dL_law_396 : decode cL_law 396 = .ok (.aload_n 0, 1) := by decide +kernel
theorem dL_law_397 : decode cL_law 397 = .ok (.iload_n 3, 1) := by decide +kernel
theorem dL_law_398 : decode cL_law 398 = .ok (.iconst 2, 1) := by decide +kernel
theorem dL_law_399 : decode cL_law 399 = .ok (.iadd, 1) := by decide +kernel
theorem dL_law_400 : decode cL_law 400 = .ok (.iaload, 1) := by decide +kernel
theorem dL_law_401 : decode cL_law 401 = .ok (.invokevirtual 52, 3) := by decide +kernel
theorem dL_law_404 : decode cL_law 404 = .ok (.if_icmp .eq 607, 3) := by decide +kernel
theorem dL_law_407 : decode cL_law 407 = .ok (.iconst 0, 1) := by decide +kernel
theorem dL_law_408 : decode cL_law 408 = .ok (.ireturn, 1) := by decide +kernel
theorem dL_law_409 : decode cL_law 409 = .ok (.aload_n 1, 1) := by decide +kernel
theorem dL_law_410 : decode cL_law 410 = .ok (.aload_n 0, 1) := by decide +kernel
theorem dL_law_411 : decode cL_law 411 = .ok (.iload_n 3, 1) := by decide +kernel
theorem dL_law_412 : decode cL_law 412 = .ok (.iconst 1, 1) := by decide +kernel
theorem dL_law_413 : decode cL_law 413 = .ok (.iadd, 1) := by decide +kernel
theorem dL_law_414 : decode cL_law 414 = .ok (.iaload, 1) := by decide +kernel
theorem dL_law_415 : decode cL_law 415 = .ok (.aload_n 0, 1) := by decide +kernel
theorem dL_law_416 : decode cL_law 416 = .ok (.iload_n 3, 1) := by decide +kernel
theorem dL_law_417 : decode cL_law 417 = .ok (.iconst 2, 1) := by decide +kernel
theorem dL_law_418 : decode cL_law 418 = .ok (.iadd, 1) := by decide +kernel
theorem dL_law_419 : decode cL_law 419 = .ok (.iaload, 1) := by decide +kernel
theorem dL_law_420 : decode cL_law 420 = .ok (.invokevirtual 53, 3) := by decide +kernel
theorem dL_law_423 : decode cL_law 423 = .ok (.aload_n 2, 1) := by decide +kernel
theorem dL_law_424 : decode cL_law 424 = .ok (.aload_n 0, 1) := by decide +kernel
theorem dL_law_425 : decode cL_law 425 = .ok (.iload_n 3, 1) := by decide +kernel
theorem dL_law_426 : decode cL_law 426 = .ok (.iconst 1, 1) := by decide +kernel
theorem dL_law_427 : decode cL_law 427 = .ok (.iadd, 1) := by decide +kernel
theorem dL_law_428 : decode cL_law 428 = .ok (.iaload, 1) := by decide +kernel
theorem dL_law_429 : decode cL_law 429 = .ok (.aload_n 0, 1) := by decide +kernel
theorem dL_law_430 : decode cL_law 430 = .ok (.iload_n 3, 1) := by decide +kernel
theorem dL_law_431 : decode cL_law 431 = .ok (.iconst 2, 1) := by decide +kernel
theorem dL_law_432 : decode cL_law 432 = .ok (.iadd, 1) := by decide +kernel
theorem dL_law_433 : decode cL_law 433 = .ok (.iaload, 1) := by decide +kernel
theorem dL_law_434 : decode cL_law 434 = .ok (.invokevirtual 56, 3) := by decide +kernel
theorem dL_law_437 : decode cL_law 437 = .ok (.if_icmp .eq 574, 3) := by decide +kernel
theorem dL_law_440 : decode cL_law 440 = .ok (.iconst 0, 1) := by decide +kernel
theorem dL_law_441 : decode cL_law 441 = .ok (.ireturn, 1) := by decide +kernel
theorem dL_law_442 : decode cL_law 442 = .ok (.aload_n 1, 1) := by decide +kernel
theorem dL_law_443 : decode cL_law 443 = .ok (.aload_n 0, 1) := by decide +kernel
theorem dL_law_444 : decode cL_law 444 = .ok (.iload_n 3, 1) := by decide +kernel
theorem dL_law_445 : decode cL_law 445 = .ok (.iconst 1, 1) := by decide +kernel
theorem dL_law_446 : decode cL_law 446 = .ok (.iadd, 1) := by decide +kernel
theorem dL_law_447 : decode cL_law 447 = .ok (.iaload, 1) := by decide +kernel
theorem dL_law_448 : decode cL_law 448 = .ok (.aload_n 0, 1) := by decide +kernel
theorem dL_law_449 : decode cL_law 449 = .ok (.iload_n 3, 1) := by decide +kernel
theorem dL_law_450 : decode cL_law 450 = .ok (.iconst 2, 1) := by decide +kernel
theorem dL_law_451 : decode cL_law 451 = .ok (.iadd, 1) := by decide +kernel
theorem dL_law_452 : decode cL_law 452 = .ok (.iaload, 1) := by decide +kernel
theorem dL_law_453 : decode cL_law 453 = .ok (.aload_n 0, 1) := by decide +kernel
theorem dL_law_454 : decode cL_law 454 = .ok (.iload_n 3, 1) := by decide +kernel
theorem dL_law_455 : decode cL_law 455 = .ok (.iconst 3, 1) := by decide +kernel
theorem dL_law_456 : decode cL_law 456 = .ok (.iadd, 1) := by decide +kernel
theorem dL_law_457 : decode cL_law 457 = .ok (.iaload, 1) := by decide +kernel
theorem dL_law_458 : decode cL_law 458 = .ok (.invokevirtual 57, 3) := by decide +kernel
theorem dL_law_461 : decode cL_law 461 = .ok (.aload_n 2, 1) := by decide +kernel
theorem dL_law_462 : decode cL_law 462 = .ok (.aload_n 0, 1) := by decide +kernel
theorem dL_law_463 : decode cL_law 463 = .ok (.iload_n 3, 1) := by decide +kernel
theorem dL_law_464 : decode cL_law 464 = .ok (.iconst 1, 1) := by decide +kernel
theorem dL_law_465 : decode cL_law 465 = .ok (.iadd, 1) := by decide +kernel
theorem dL_law_466 : decode cL_law 466 = .ok (.iaload, 1) := by decide +kernel
theorem dL_law_467 : decode cL_law 467 = .ok (.aload_n 0, 1) := by decide +kernel
theorem dL_law_468 : decode cL_law 468 = .ok (.iload_n 3, 1) := by decide +kernel
theorem dL_law_469 : decode cL_law 469 = .ok (.iconst 2, 1) := by decide +kernel
theorem dL_law_470 : decode cL_law 470 = .ok (.iadd, 1) := by decide +kernel
theorem dL_law_471 : decode cL_law 471 = .ok (.iaload, 1) := by decide +kernel
theorem dL_law_472 : decode cL_law 472 = .ok (.aload_n 0, 1) := by decide +kernel
theorem dL_law_473 : decode cL_law 473 = .ok (.iload_n 3, 1) := by decide +kernel
theorem dL_law_474 : decode cL_law 474 = .ok (.iconst 3, 1) := by decide +kernel
theorem dL_law_475 : decode cL_law 475 = .ok (.iadd, 1) := by decide +kernel
theorem dL_law_476 : decode cL_law 476 = .ok (.iaload, 1) := by decide +kernel
theorem dL_law_477 : decode cL_law 477 = .ok (.invokevirtual 60, 3) := by decide +kernel
theorem dL_law_480 : decode cL_law 480 = .ok (.if_icmp .eq 531, 3) := by decide +kernel
theorem dL_law_483 : decode cL_law 483 = .ok (.iconst 0, 1) := by decide +kernel
theorem dL_law_484 : decode cL_law 484 = .ok (.ireturn, 1) := by decide +kernel
theorem dL_law_485 : decode cL_law 485 = .ok (.aload_n 1, 1) := by decide +kernel
theorem dL_law_486 : decode cL_law 486 = .ok (.aload_n 0, 1) := by decide +kernel
theorem dL_law_487 : decode cL_law 487 = .ok (.iload_n 3, 1) := by decide +kernel
theorem dL_law_488 : decode cL_law 488 = .ok (.iconst 1, 1) := by decide +kernel
theorem dL_law_489 : decode cL_law 489 = .ok (.iadd, 1) := by decide +kernel
theorem dL_law_490 : decode cL_law 490 = .ok (.iaload, 1) := by decide +kernel
theorem dL_law_491 : decode cL_law 491 = .ok (.invokevirtual 61, 3) := by decide +kernel
theorem dL_law_494 : decode cL_law 494 = .ok (.aload_n 2, 1) := by decide +kernel
theorem dL_law_495 : decode cL_law 495 = .ok (.aload_n 0, 1) := by decide +kernel
theorem dL_law_496 : decode cL_law 496 = .ok (.iload_n 3, 1) := by decide +kernel
theorem dL_law_497 : decode cL_law 497 = .ok (.iconst 1, 1) := by decide +kernel
theorem dL_law_498 : decode cL_law 498 = .ok (.iadd, 1) := by decide +kernel
theorem dL_law_499 : decode cL_law 499 = .ok (.iaload, 1) := by decide +kernel
theorem dL_law_500 : decode cL_law 500 = .ok (.invokevirtual 64, 3) := by decide +kernel
theorem dL_law_503 : decode cL_law 503 = .ok (.if_icmp .eq 508, 3) := by decide +kernel
theorem dL_law_506 : decode cL_law 506 = .ok (.iconst 0, 1) := by decide +kernel
theorem dL_law_507 : decode cL_law 507 = .ok (.ireturn, 1) := by decide +kernel
theorem dL_law_508 : decode cL_law 508 = .ok (.aload_n 1, 1) := by decide +kernel
theorem dL_law_509 : decode cL_law 509 = .ok (.aload_n 0, 1) := by decide +kernel
theorem dL_law_510 : decode cL_law 510 = .ok (.iload_n 3, 1) := by decide +kernel
theorem dL_law_511 : decode cL_law 511 = .ok (.iconst 1, 1) := by decide +kernel
theorem dL_law_512 : decode cL_law 512 = .ok (.iadd, 1) := by decide +kernel
theorem dL_law_513 : decode cL_law 513 = .ok (.iaload, 1) := by decide +kernel
theorem dL_law_514 : decode cL_law 514 = .ok (.aload_n 0, 1) := by decide +kernel
theorem dL_law_515 : decode cL_law 515 = .ok (.iload_n 3, 1) := by decide +kernel
theorem dL_law_516 : decode cL_law 516 = .ok (.iconst 2, 1) := by decide +kernel
theorem dL_law_517 : decode cL_law 517 = .ok (.iadd, 1) := by decide +kernel
theorem dL_law_518 : decode cL_law 518 = .ok (.iaload, 1) := by decide +kernel
theorem dL_law_519 : decode cL_law 519 = .ok (.invokevirtual 65, 3) := by decide +kernel
theorem dL_law_522 : decode cL_law 522 = .ok (.aload_n 2, 1) := by decide +kernel
theorem dL_law_523 : decode cL_law 523 = .ok (.aload_n 0, 1) := by decide +kernel
theorem dL_law_524 : decode cL_law 524 = .ok (.iload_n 3, 1) := by decide +kernel
theorem dL_law_525 : decode cL_law 525 = .ok (.iconst 1, 1) := by decide +kernel
theorem dL_law_526 : decode cL_law 526 = .ok (.iadd, 1) := by decide +kernel
theorem dL_law_527 : decode cL_law 527 = .ok (.iaload, 1) := by decide +kernel
theorem dL_law_528 : decode cL_law 528 = .ok (.aload_n 0, 1) := by decide +kernel
theorem dL_law_529 : decode cL_law 529 = .ok (.iload_n 3, 1) := by decide +kernel
theorem dL_law_530 : decode cL_law 530 = .ok (.iconst 2, 1) := by decide +kernel
theorem dL_law_531 : decode cL_law 531 = .ok (.iadd, 1) := by decide +kernel
theorem dL_law_532 : decode cL_law 532 = .ok (.iaload, 1) := by decide +kernel
theorem dL_law_533 : decode cL_law 533 = .ok (.invokevirtual 68, 3) := by decide +kernel
theorem dL_law_536 : decode cL_law 536 = .ok (.if_icmp .eq 475, 3) := by decide +kernel
theorem dL_law_539 : decode cL_law 539 = .ok (.iconst 0, 1) := by decide +kernel
theorem dL_law_540 : decode cL_law 540 = .ok (.ireturn, 1) := by decide +kernel
theorem dL_law_541 : decode cL_law 541 = .ok (.aload_n 1, 1) := by decide +kernel
theorem dL_law_542 : decode cL_law 542 = .ok (.aload_n 0, 1) := by decide +kernel
theorem dL_law_543 : decode cL_law 543 = .ok (.iload_n 3, 1) := by decide +kernel
theorem dL_law_544 : decode cL_law 544 = .ok (.iconst 1, 1) := by decide +kernel
theorem dL_law_545 : decode cL_law 545 = .ok (.iadd, 1) := by decide +kernel
theorem dL_law_546 : decode cL_law 546 = .ok (.iaload, 1) := by decide +kernel
theorem dL_law_547 : decode cL_law 547 = .ok (.aload_n 0, 1) := by decide +kernel
theorem dL_law_548 : decode cL_law 548 = .ok (.iload_n 3, 1) := by decide +kernel
theorem dL_law_549 : decode cL_law 549 = .ok (.iconst 2, 1) := by decide +kernel
theorem dL_law_550 : decode cL_law 550 = .ok (.iadd, 1) := by decide +kernel
theorem dL_law_551 : decode cL_law 551 = .ok (.iaload, 1) := by decide +kernel
theorem dL_law_552 : decode cL_law 552 = .ok (.invokevirtual 69, 3) := by decide +kernel
theorem dL_law_555 : decode cL_law 555 = .ok (.aload_n 2, 1) := by decide +kernel
theorem dL_law_556 : decode cL_law 556 = .ok (.aload_n 0, 1) := by decide +kernel
theorem dL_law_557 : decode cL_law 557 = .ok (.iload_n 3, 1) := by decide +kernel
theorem dL_law_558 : decode cL_law 558 = .ok (.iconst 1, 1) := by decide +kernel
theorem dL_law_559 : decode cL_law 559 = .ok (.iadd, 1) := by decide +kernel
theorem dL_law_560 : decode cL_law 560 = .ok (.iaload, 1) := by decide +kernel
theorem dL_law_561 : decode cL_law 561 = .ok (.aload_n 0, 1) := by decide +kernel
theorem dL_law_562 : decode cL_law 562 = .ok (.iload_n 3, 1) := by decide +kernel
theorem dL_law_563 : decode cL_law 563 = .ok (.iconst 2, 1) := by decide +kernel
theorem dL_law_564 : decode cL_law 564 = .ok (.iadd, 1) := by decide +kernel
theorem dL_law_565 : decode cL_law 565 = .ok (.iaload, 1) := by decide +kernel
theorem dL_law_566 : decode cL_law 566 = .ok (.invokevirtual 72, 3) := by decide +kernel
theorem dL_law_569 : decode cL_law 569 = .ok (.if_icmp .eq 442, 3) := by decide +kernel
theorem dL_law_572 : decode cL_law 572 = .ok (.iconst 0, 1) := by decide +kernel
theorem dL_law_573 : decode cL_law 573 = .ok (.ireturn, 1) := by decide +kernel
theorem dL_law_574 : decode cL_law 574 = .ok (.aload_n 1, 1) := by decide +kernel
theorem dL_law_575 : decode cL_law 575 = .ok (.aload_n 0, 1) := by decide +kernel
theorem dL_law_576 : decode cL_law 576 = .ok (.iload_n 3, 1) := by decide +kernel
theorem dL_law_577 : decode cL_law 577 = .ok (.iconst 1, 1) := by decide +kernel
theorem dL_law_578 : decode cL_law 578 = .ok (.iadd, 1) := by decide +kernel
theorem dL_law_579 : decode cL_law 579 = .ok (.iaload, 1) := by decide +kernel
theorem dL_law_580 : decode cL_law 580 = .ok (.aload_n 0, 1) := by decide +kernel
theorem dL_law_581 : decode cL_law 581 = .ok (.iload_n 3, 1) := by decide +kernel
theorem dL_law_582 : decode cL_law 582 = .ok (.iconst 2, 1) := by decide +kernel
theorem dL_law_583 : decode cL_law 583 = .ok (.iadd, 1) := by decide +kernel
theorem dL_law_584 : decode cL_law 584 = .ok (.iaload, 1) := by decide +kernel
theorem dL_law_585 : decode cL_law 585 = .ok (.invokevirtual 73, 3) := by decide +kernel
theorem dL_law_588 : decode cL_law 588 = .ok (.aload_n 2, 1) := by decide +kernel
theorem dL_law_589 : decode cL_law 589 = .ok (.aload_n 0, 1) := by decide +kernel
theorem dL_law_590 : decode cL_law 590 = .ok (.iload_n 3, 1) := by decide +kernel
theorem dL_law_591 : decode cL_law 591 = .ok (.iconst 1, 1) := by decide +kernel
theorem dL_law_592 : decode cL_law 592 = .ok (.iadd, 1) := by decide +kernel
theorem dL_law_593 : decode cL_law 593 = .ok (.iaload, 1) := by decide +kernel
theorem dL_law_594 : decode cL_law 594 = .ok (.aload_n 0, 1) := by decide +kernel
theorem dL_law_595 : decode cL_law 595 = .ok (.iload_n 3, 1) := by decide +kernel
theorem dL_law_596 : decode cL_law 596 = .ok (.iconst 2, 1) := by decide +kernel
theorem dL_law_597 : decode cL_law 597 = .ok (.iadd, 1) := by decide +kernel
theorem dL_law_598 : decode cL_law 598 = .ok (.iaload, 1) := by decide +kernel
theorem dL_law_599 : decode cL_law 599 = .ok (.invokevirtual 76, 3) := by decide +kernel
theorem dL_law_602 : decode cL_law 602 = .ok (.if_icmp .eq 409, 3) := by decide +kernel
theorem dL_law_605 : decode cL_law 605 = .ok (.iconst 0, 1) := by decide +kernel
theorem dL_law_606 : decode cL_law 606 = .ok (.ireturn, 1) := by decide +kernel
theorem dL_law_607 : decode cL_law 607 = .ok (.aload_n 1, 1) := by decide +kernel
theorem dL_law_608 : decode cL_law 608 = .ok (.aload_n 0, 1) := by decide +kernel
theorem dL_law_609 : decode cL_law 609 = .ok (.iload_n 3, 1) := by decide +kernel
theorem dL_law_610 : decode cL_law 610 = .ok (.iconst 1, 1) := by decide +kernel
theorem dL_law_611 : decode cL_law 611 = .ok (.iadd, 1) := by decide +kernel
theorem dL_law_612 : decode cL_law 612 = .ok (.iaload, 1) := by decide +kernel
theorem dL_law_613 : decode cL_law 613 = .ok (.aload_n 0, 1) := by decide +kernel
theorem dL_law_614 : decode cL_law 614 = .ok (.iload_n 3, 1) := by decide +kernel
theorem dL_law_615 : decode cL_law 615 = .ok (.iconst 2, 1) := by decide +kernel
theorem dL_law_616 : decode cL_law 616 = .ok (.iadd, 1) := by decide +kernel
theorem dL_law_617 : decode cL_law 617 = .ok (.iaload, 1) := by decide +kernel
theorem dL_law_618 : decode cL_law 618 = .ok (.invokevirtual 77, 3) := by decide +kernel
theorem dL_law_621 : decode cL_law 621 = .ok (.aload_n 2, 1) := by decide +kernel
theorem dL_law_622 : decode cL_law 622 = .ok (.aload_n 0, 1) := by decide +kernel
theorem dL_law_623 : decode cL_law 623 = .ok (.iload_n 3, 1) := by decide +kernel
theorem dL_law_624 : decode cL_law 624 = .ok (.iconst 1, 1) := by decide +kernel
theorem dL_law_625 : decode cL_law 625 = .ok (.iadd, 1) := by decide +kernel
theorem dL_law_626 : decode cL_law 626 = .ok (.iaload, 1) := by decide +kernel
theorem dL_law_627 : decode cL_law 627 = .ok (.aload_n 0, 1) := by decide +kernel
theorem dL_law_628 : decode cL_law 628 = .ok (.iload_n 3, 1) := by decide +kernel
theorem dL_law_629 : decode cL_law 629 = .ok (.iconst 2, 1) := by decide +kernel
theorem dL_law_630 : decode cL_law 630 = .ok (.iadd, 1) := by decide +kernel
theorem dL_law_631 : decode cL_law 631 = .ok (.iaload, 1) := by decide +kernel
theorem dL_law_632 : decode cL_law 632 = .ok (.invokevirtual 80, 3) := by decide +kernel
theorem dL_law_635 : decode cL_law 635 = .ok (.if_icmp .eq 376, 3) := by decide +kernel
theorem dL_law_638 : decode cL_law 638 = .ok (.iconst 0, 1) := by decide +kernel
theorem dL_law_639 : decode cL_law 639 = .ok (.ireturn, 1) := by decide +kernel
theorem dL_law_640 : decode cL_law 640 = .ok (.aload_n 1, 1) := by decide +kernel
theorem dL_law_641 : decode cL_law 641 = .ok (.aload_n 0, 1) := by decide +kernel
theorem dL_law_642 : decode cL_law 642 = .ok (.iload_n 3, 1) := by decide +kernel
theorem dL_law_643 : decode cL_law 643 = .ok (.iconst 1, 1) := by decide +kernel
theorem dL_law_644 : decode cL_law 644 = .ok (.iadd, 1) := by decide +kernel
theorem dL_law_645 : decode cL_law 645 = .ok (.iaload, 1) := by decide +kernel
theorem dL_law_646 : decode cL_law 646 = .ok (.aload_n 0, 1) := by decide +kernel
theorem dL_law_647 : decode cL_law 647 = .ok (.iload_n 3, 1) := by decide +kernel
theorem dL_law_648 : decode cL_law 648 = .ok (.iconst 2, 1) := by decide +kernel
theorem dL_law_649 : decode cL_law 649 = .ok (.iadd, 1) := by decide +kernel
theorem dL_law_650 : decode cL_law 650 = .ok (.iaload, 1) := by decide +kernel
theorem dL_law_651 : decode cL_law 651 = .ok (.invokevirtual 81, 3) := by decide +kernel
theorem dL_law_654 : decode cL_law 654 = .ok (.aload_n 2, 1) := by decide +kernel
theorem dL_law_655 : decode cL_law 655 = .ok (.aload_n 0, 1) := by decide +kernel
theorem dL_law_656 : decode cL_law 656 = .ok (.iload_n 3, 1) := by decide +kernel
theorem dL_law_657 : decode cL_law 657 = .ok (.iconst 1, 1) := by decide +kernel
theorem dL_law_658 : decode cL_law 658 = .ok (.iadd, 1) := by decide +kernel
theorem dL_law_659 : decode cL_law 659 = .ok (.iaload, 1) := by decide +kernel
theorem dL_law_660 : decode cL_law 660 = .ok (.aload_n 0, 1) := by decide +kernel
theorem dL_law_661 : decode cL_law 661 = .ok (.iload_n 3, 1) := by decide +kernel
theorem dL_law_662 : decode cL_law 662 = .ok (.iconst 2, 1) := by decide +kernel
theorem dL_law_663 : decode cL_law 663 = .ok (.iadd, 1) := by decide +kernel
theorem dL_law_664 : decode cL_law 664 = .ok (.iaload, 1) := by decide +kernel
theorem dL_law_665 : decode cL_law 665 = .ok (.invokevirtual 84, 3) := by decide +kernel
theorem dL_law_668 : decode cL_law 668 = .ok (.if_icmp .eq 343, 3) := by decide +kernel
theorem dL_law_671 : decode cL_law 671 = .ok (.iconst 0, 1) := by decide +kernel
theorem dL_law_672 : decode cL_law 672 = .ok (.ireturn, 1) := by decide +kernel
theorem dL_law_673 : decode cL_law 673 = .ok (.aload_n 1, 1) := by decide +kernel
theorem dL_law_674 : decode cL_law 674 = .ok (.aload_n 0, 1) := by decide +kernel
theorem dL_law_675 : decode cL_law 675 = .ok (.iload_n 3, 1) := by decide +kernel
theorem dL_law_676 : decode cL_law 676 = .ok (.iconst 1, 1) := by decide +kernel
theorem dL_law_677 : decode cL_law 677 = .ok (.iadd, 1) := by decide +kernel
theorem dL_law_678 : decode cL_law 678 = .ok (.iaload, 1) := by decide +kernel
theorem dL_law_679 : decode cL_law 679 = .ok (.aload_n 0, 1) := by decide +kernel
theorem dL_law_680 : decode cL_law 680 = .ok (.iload_n 3, 1) := by decide +kernel
theorem dL_law_681 : decode cL_law 681 = .ok (.iconst 2, 1) := by decide +kernel
theorem dL_law_682 : decode cL_law 682 = .ok (.iadd, 1) := by decide +kernel
theorem dL_law_683 : decode cL_law 683 = .ok (.iaload, 1) := by decide +kernel
theorem dL_law_684 : decode cL_law 684 = .ok (.aload_n 0, 1) := by decide +kernel
theorem dL_law_685 : decode cL_law 685 = .ok (.iload_n 3, 1) := by decide +kernel
theorem dL_law_686 : decode cL_law 686 = .ok (.iconst 3, 1) := by decide +kernel
theorem dL_law_687 : decode cL_law 687 = .ok (.iadd, 1) := by decide +kernel
theorem dL_law_688 : decode cL_law 688 = .ok (.iaload, 1) := by decide +kernel
theorem dL_law_689 : decode cL_law 689 = .ok (.aload_n 0, 1) := by decide +kernel
theorem dL_law_690 : decode cL_law 690 = .ok (.iload_n 3, 1) := by decide +kernel
theorem dL_law_691 : decode cL_law 691 = .ok (.iconst 4, 1) := by decide +kernel
theorem dL_law_692 : decode cL_law 692 = .ok (.iadd, 1) := by decide +kernel
theorem dL_law_693 : decode cL_law 693 = .ok (.iaload, 1) := by decide +kernel
theorem dL_law_694 : decode cL_law 694 = .ok (.invokevirtual 85, 3) := by decide +kernel
theorem dL_law_697 : decode cL_law 697 = .ok (.aload_n 2, 1) := by decide +kernel
theorem dL_law_698 : decode cL_law 698 = .ok (.aload_n 0, 1) := by decide +kernel
theorem dL_law_699 : decode cL_law 699 = .ok (.iload_n 3, 1) := by decide +kernel
theorem dL_law_700 : decode cL_law 700 = .ok (.iconst 1, 1) := by decide +kernel
theorem dL_law_701 : decode cL_law 701 = .ok (.iadd, 1) := by decide +kernel
theorem dL_law_702 : decode cL_law 702 = .ok (.iaload, 1) := by decide +kernel
theorem dL_law_703 : decode cL_law 703 = .ok (.aload_n 0, 1) := by decide +kernel
theorem dL_law_704 : decode cL_law 704 = .ok (.iload_n 3, 1) := by decide +kernel
theorem dL_law_705 : decode cL_law 705 = .ok (.iconst 2, 1) := by decide +kernel
theorem dL_law_706 : decode cL_law 706 = .ok (.iadd, 1) := by decide +kernel
theorem dL_law_707 : decode cL_law 707 = .ok (.iaload, 1) := by decide +kernel
theorem dL_law_708 : decode cL_law 708 = .ok (.aload_n 0, 1) := by decide +kernel
theorem dL_law_709 : decode cL_law 709 = .ok (.iload_n 3, 1) := by decide +kernel
theorem dL_law_710 : decode cL_law 710 = .ok (.iconst 3, 1) := by decide +kernel
theorem dL_law_711 : decode cL_law 711 = .ok (.iadd, 1) := by decide +kernel
theorem dL_law_712 : decode cL_law 712 = .ok (.iaload, 1) := by decide +kernel
theorem dL_law_713 : decode cL_law 713 = .ok (.aload_n 0, 1) := by decide +kernel
theorem dL_law_714 : decode cL_law 714 = .ok (.iload_n 3, 1) := by decide +kernel
theorem dL_law_715 : decode cL_law 715 = .ok (.iconst 4, 1) := by decide +kernel
theorem dL_law_716 : decode cL_law 716 = .ok (.iadd, 1) := by decide +kernel
theorem dL_law_717 : decode cL_law 717 = .ok (.iaload, 1) := by decide +kernel
theorem dL_law_718 : decode cL_law 718 = .ok (.invokevirtual 89, 3) := by decide +kernel
theorem dL_law_721 : decode cL_law 721 = .ok (.lcmp, 1) := by decide +kernel
theorem dL_law_722 : decode cL_law 722 = .ok (.ifCond .eq 289, 3) := by decide +kernel
theorem dL_law_725 : decode cL_law 725 = .ok (.iconst 0, 1) := by decide +kernel
theorem dL_law_726 : decode cL_law 726 = .ok (.ireturn, 1) := by decide +kernel
theorem dL_law_727 : decode cL_law 727 = .ok (.aload_n 1, 1) := by decide +kernel
theorem dL_law_728 : decode cL_law 728 = .ok (.invokevirtual 90, 3) := by decide +kernel
theorem dL_law_731 : decode cL_law 731 = .ok (.aload_n 2, 1) := by decide +kernel
theorem dL_law_732 : decode cL_law 732 = .ok (.invokevirtual 93, 3) := by decide +kernel
theorem dL_law_735 : decode cL_law 735 = .ok (.if_icmp .eq 276, 3) := by decide +kernel
theorem dL_law_738 : decode cL_law 738 = .ok (.iconst 0, 1) := by decide +kernel
theorem dL_law_739 : decode cL_law 739 = .ok (.ireturn, 1) := by decide +kernel
theorem dL_law_740 : decode cL_law 740 = .ok (.aload_n 1, 1) := by decide +kernel
theorem dL_law_741 : decode cL_law 741 = .ok (.invokevirtual 94, 3) := by decide +kernel
theorem dL_law_744 : decode cL_law 744 = .ok (.aload_n 2, 1) := by decide +kernel
theorem dL_law_745 : decode cL_law 745 = .ok (.invokevirtual 97, 3) := by decide +kernel
theorem dL_law_748 : decode cL_law 748 = .ok (.if_icmp .eq 263, 3) := by decide +kernel
theorem dL_law_751 : decode cL_law 751 = .ok (.iconst 0, 1) := by decide +kernel
theorem dL_law_752 : decode cL_law 752 = .ok (.ireturn, 1) := by decide +kernel
theorem dL_law_753 : decode cL_law 753 = .ok (.aload_n 1, 1) := by decide +kernel
theorem dL_law_754 : decode cL_law 754 = .ok (.aload_n 0, 1) := by decide +kernel
theorem dL_law_755 : decode cL_law 755 = .ok (.iload_n 3, 1) := by decide +kernel
theorem dL_law_756 : decode cL_law 756 = .ok (.iconst 1, 1) := by decide +kernel
theorem dL_law_757 : decode cL_law 757 = .ok (.iadd, 1) := by decide +kernel
theorem dL_law_758 : decode cL_law 758 = .ok (.iaload, 1) := by decide +kernel
theorem dL_law_759 : decode cL_law 759 = .ok (.invokevirtual 98, 3) := by decide +kernel
theorem dL_law_762 : decode cL_law 762 = .ok (.aload_n 2, 1) := by decide +kernel
theorem dL_law_763 : decode cL_law 763 = .ok (.aload_n 0, 1) := by decide +kernel
theorem dL_law_764 : decode cL_law 764 = .ok (.iload_n 3, 1) := by decide +kernel
theorem dL_law_765 : decode cL_law 765 = .ok (.iconst 1, 1) := by decide +kernel
theorem dL_law_766 : decode cL_law 766 = .ok (.iadd, 1) := by decide +kernel
theorem dL_law_767 : decode cL_law 767 = .ok (.iaload, 1) := by decide +kernel
theorem dL_law_768 : decode cL_law 768 = .ok (.invokevirtual 101, 3) := by decide +kernel
theorem dL_law_771 : decode cL_law 771 = .ok (.if_icmp .eq 240, 3) := by decide +kernel
theorem dL_law_774 : decode cL_law 774 = .ok (.iconst 0, 1) := by decide +kernel
theorem dL_law_775 : decode cL_law 775 = .ok (.ireturn, 1) := by decide +kernel
theorem dL_law_776 : decode cL_law 776 = .ok (.aload_n 1, 1) := by decide +kernel
theorem dL_law_777 : decode cL_law 777 = .ok (.aload_n 0, 1) := by decide +kernel
theorem dL_law_778 : decode cL_law 778 = .ok (.iload_n 3, 1) := by decide +kernel
theorem dL_law_779 : decode cL_law 779 = .ok (.iconst 1, 1) := by decide +kernel
theorem dL_law_780 : decode cL_law 780 = .ok (.iadd, 1) := by decide +kernel
theorem dL_law_781 : decode cL_law 781 = .ok (.iaload, 1) := by decide +kernel
theorem dL_law_782 : decode cL_law 782 = .ok (.aload_n 0, 1) := by decide +kernel
theorem dL_law_783 : decode cL_law 783 = .ok (.iload_n 3, 1) := by decide +kernel
theorem dL_law_784 : decode cL_law 784 = .ok (.iconst 2, 1) := by decide +kernel
theorem dL_law_785 : decode cL_law 785 = .ok (.iadd, 1) := by decide +kernel
theorem dL_law_786 : decode cL_law 786 = .ok (.iaload, 1) := by decide +kernel
theorem dL_law_787 : decode cL_law 787 = .ok (.aload_n 0, 1) := by decide +kernel
theorem dL_law_788 : decode cL_law 788 = .ok (.iload_n 3, 1) := by decide +kernel
theorem dL_law_789 : decode cL_law 789 = .ok (.iconst 3, 1) := by decide +kernel
theorem dL_law_790 : decode cL_law 790 = .ok (.iadd, 1) := by decide +kernel
theorem dL_law_791 : decode cL_law 791 = .ok (.iaload, 1) := by decide +kernel
theorem dL_law_792 : decode cL_law 792 = .ok (.invokevirtual 102, 3) := by decide +kernel
theorem dL_law_795 : decode cL_law 795 = .ok (.aload_n 2, 1) := by decide +kernel
theorem dL_law_796 : decode cL_law 796 = .ok (.aload_n 0, 1) := by decide +kernel
theorem dL_law_797 : decode cL_law 797 = .ok (.iload_n 3, 1) := by decide +kernel
theorem dL_law_798 : decode cL_law 798 = .ok (.iconst 1, 1) := by decide +kernel
theorem dL_law_799 : decode cL_law 799 = .ok (.iadd, 1) := by decide +kernel
theorem dL_law_800 : decode cL_law 800 = .ok (.iaload, 1) := by decide +kernel
theorem dL_law_801 : decode cL_law 801 = .ok (.aload_n 0, 1) := by decide +kernel
theorem dL_law_802 : decode cL_law 802 = .ok (.iload_n 3, 1) := by decide +kernel
theorem dL_law_803 : decode cL_law 803 = .ok (.iconst 2, 1) := by decide +kernel
theorem dL_law_804 : decode cL_law 804 = .ok (.iadd, 1) := by decide +kernel
theorem dL_law_805 : decode cL_law 805 = .ok (.iaload, 1) := by decide +kernel
theorem dL_law_806 : decode cL_law 806 = .ok (.aload_n 0, 1) := by decide +kernel
theorem dL_law_807 : decode cL_law 807 = .ok (.iload_n 3, 1) := by decide +kernel
theorem dL_law_808 : decode cL_law 808 = .ok (.iconst 3, 1) := by decide +kernel
theorem dL_law_809 : decode cL_law 809 = .ok (.iadd, 1) := by decide +kernel
theorem dL_law_810 : decode cL_law 810 = .ok (.iaload, 1) := by decide +kernel
theorem dL_law_811 : decode cL_law 811 = .ok (.invokevirtual 105, 3) := by decide +kernel
theorem dL_law_814 : decode cL_law 814 = .ok (.if_icmp .eq 197, 3) := by decide +kernel
theorem dL_law_817 : decode cL_law 817 = .ok (.iconst 0, 1) := by decide +kernel
theorem dL_law_818 : decode cL_law 818 = .ok (.ireturn, 1) := by decide +kernel
theorem dL_law_819 : decode cL_law 819 = .ok (.aload_n 1, 1) := by decide +kernel
theorem dL_law_820 : decode cL_law 820 = .ok (.aload_n 0, 1) := by decide +kernel
theorem dL_law_821 : decode cL_law 821 = .ok (.iload_n 3, 1) := by decide +kernel
theorem dL_law_822 : decode cL_law 822 = .ok (.iconst 1, 1) := by decide +kernel
theorem dL_law_823 : decode cL_law 823 = .ok (.iadd, 1) := by decide +kernel
theorem dL_law_824 : decode cL_law 824 = .ok (.iaload, 1) := by decide +kernel
theorem dL_law_825 : decode cL_law 825 = .ok (.aload_n 0, 1) := by decide +kernel
theorem dL_law_826 : decode cL_law 826 = .ok (.iload_n 3, 1) := by decide +kernel
theorem dL_law_827 : decode cL_law 827 = .ok (.iconst 2, 1) := by decide +kernel
theorem dL_law_828 : decode cL_law 828 = .ok (.iadd, 1) := by decide +kernel
theorem dL_law_829 : decode cL_law 829 = .ok (.iaload, 1) := by decide +kernel
theorem dL_law_830 : decode cL_law 830 = .ok (.aload_n 0, 1) := by decide +kernel
theorem dL_law_831 : decode cL_law 831 = .ok (.iload_n 3, 1) := by decide +kernel
theorem dL_law_832 : decode cL_law 832 = .ok (.iconst 3, 1) := by decide +kernel
theorem dL_law_833 : decode cL_law 833 = .ok (.iadd, 1) := by decide +kernel
theorem dL_law_834 : decode cL_law 834 = .ok (.iaload, 1) := by decide +kernel
theorem dL_law_835 : decode cL_law 835 = .ok (.invokevirtual 106, 3) := by decide +kernel
theorem dL_law_838 : decode cL_law 838 = .ok (.aload_n 2, 1) := by decide +kernel
theorem dL_law_839 : decode cL_law 839 = .ok (.aload_n 0, 1) := by decide +kernel
theorem dL_law_840 : decode cL_law 840 = .ok (.iload_n 3, 1) := by decide +kernel
theorem dL_law_841 : decode cL_law 841 = .ok (.iconst 1, 1) := by decide +kernel
theorem dL_law_842 : decode cL_law 842 = .ok (.iadd, 1) := by decide +kernel
theorem dL_law_843 : decode cL_law 843 = .ok (.iaload, 1) := by decide +kernel
theorem dL_law_844 : decode cL_law 844 = .ok (.aload_n 0, 1) := by decide +kernel
theorem dL_law_845 : decode cL_law 845 = .ok (.iload_n 3, 1) := by decide +kernel
theorem dL_law_846 : decode cL_law 846 = .ok (.iconst 2, 1) := by decide +kernel
theorem dL_law_847 : decode cL_law 847 = .ok (.iadd, 1) := by decide +kernel
theorem dL_law_848 : decode cL_law 848 = .ok (.iaload, 1) := by decide +kernel
theorem dL_law_849 : decode cL_law 849 = .ok (.aload_n 0, 1) := by decide +kernel
theorem dL_law_850 : decode cL_law 850 = .ok (.iload_n 3, 1) := by decide +kernel
theorem dL_law_851 : decode cL_law 851 = .ok (.iconst 3, 1) := by decide +kernel
theorem dL_law_852 : decode cL_law 852 = .ok (.iadd, 1) := by decide +kernel
theorem dL_law_853 : decode cL_law 853 = .ok (.iaload, 1) := by decide +kernel
theorem dL_law_854 : decode cL_law 854 = .ok (.invokevirtual 109, 3) := by decide +kernel
theorem dL_law_857 : decode cL_law 857 = .ok (.if_icmp .eq 154, 3) := by decide +kernel
theorem dL_law_860 : decode cL_law 860 = .ok (.iconst 0, 1) := by decide +kernel
theorem dL_law_861 : decode cL_law 861 = .ok (.ireturn, 1) := by decide +kernel
theorem dL_law_862 : decode cL_law 862 = .ok (.aload_n 1, 1) := by decide +kernel
theorem dL_law_863 : decode cL_law 863 = .ok (.aload_n 0, 1) := by decide +kernel
theorem dL_law_864 : decode cL_law 864 = .ok (.iload_n 3, 1) := by decide +kernel
theorem dL_law_865 : decode cL_law 865 = .ok (.iconst 1, 1) := by decide +kernel
theorem dL_law_866 : decode cL_law 866 = .ok (.iadd, 1) := by decide +kernel
theorem dL_law_867 : decode cL_law 867 = .ok (.iaload, 1) := by decide +kernel
theorem dL_law_868 : decode cL_law 868 = .ok (.aload_n 0, 1) := by decide +kernel
theorem dL_law_869 : decode cL_law 869 = .ok (.iload_n 3, 1) := by decide +kernel
theorem dL_law_870 : decode cL_law 870 = .ok (.iconst 2, 1) := by decide +kernel
theorem dL_law_871 : decode cL_law 871 = .ok (.iadd, 1) := by decide +kernel
theorem dL_law_872 : decode cL_law 872 = .ok (.iaload, 1) := by decide +kernel
theorem dL_law_873 : decode cL_law 873 = .ok (.aload_n 0, 1) := by decide +kernel
theorem dL_law_874 : decode cL_law 874 = .ok (.iload_n 3, 1) := by decide +kernel
theorem dL_law_875 : decode cL_law 875 = .ok (.iconst 3, 1) := by decide +kernel
theorem dL_law_876 : decode cL_law 876 = .ok (.iadd, 1) := by decide +kernel
theorem dL_law_877 : decode cL_law 877 = .ok (.iaload, 1) := by decide +kernel
theorem dL_law_878 : decode cL_law 878 = .ok (.aload_n 0, 1) := by decide +kernel
theorem dL_law_879 : decode cL_law 879 = .ok (.iload_n 3, 1) := by decide +kernel
theorem dL_law_880 : decode cL_law 880 = .ok (.iconst 4, 1) := by decide +kernel
theorem dL_law_881 : decode cL_law 881 = .ok (.iadd, 1) := by decide +kernel
theorem dL_law_882 : decode cL_law 882 = .ok (.iaload, 1) := by decide +kernel
theorem dL_law_883 : decode cL_law 883 = .ok (.aload_n 0, 1) := by decide +kernel
theorem dL_law_884 : decode cL_law 884 = .ok (.iload_n 3, 1) := by decide +kernel
theorem dL_law_885 : decode cL_law 885 = .ok (.iconst 5, 1) := by decide +kernel
theorem dL_law_886 : decode cL_law 886 = .ok (.iadd, 1) := by decide +kernel
theorem dL_law_887 : decode cL_law 887 = .ok (.iaload, 1) := by decide +kernel
theorem dL_law_888 : decode cL_law 888 = .ok (.invokevirtual 110, 3) := by decide +kernel
theorem dL_law_891 : decode cL_law 891 = .ok (.aload_n 2, 1) := by decide +kernel
theorem dL_law_892 : decode cL_law 892 = .ok (.aload_n 0, 1) := by decide +kernel
theorem dL_law_893 : decode cL_law 893 = .ok (.iload_n 3, 1) := by decide +kernel
theorem dL_law_894 : decode cL_law 894 = .ok (.iconst 1, 1) := by decide +kernel
theorem dL_law_895 : decode cL_law 895 = .ok (.iadd, 1) := by decide +kernel
theorem dL_law_896 : decode cL_law 896 = .ok (.iaload, 1) := by decide +kernel
theorem dL_law_897 : decode cL_law 897 = .ok (.aload_n 0, 1) := by decide +kernel
theorem dL_law_898 : decode cL_law 898 = .ok (.iload_n 3, 1) := by decide +kernel
theorem dL_law_899 : decode cL_law 899 = .ok (.iconst 2, 1) := by decide +kernel
theorem dL_law_900 : decode cL_law 900 = .ok (.iadd, 1) := by decide +kernel
theorem dL_law_901 : decode cL_law 901 = .ok (.iaload, 1) := by decide +kernel
theorem dL_law_902 : decode cL_law 902 = .ok (.aload_n 0, 1) := by decide +kernel
theorem dL_law_903 : decode cL_law 903 = .ok (.iload_n 3, 1) := by decide +kernel
theorem dL_law_904 : decode cL_law 904 = .ok (.iconst 3, 1) := by decide +kernel
theorem dL_law_905 : decode cL_law 905 = .ok (.iadd, 1) := by decide +kernel
theorem dL_law_906 : decode cL_law 906 = .ok (.iaload, 1) := by decide +kernel
theorem dL_law_907 : decode cL_law 907 = .ok (.aload_n 0, 1) := by decide +kernel
theorem dL_law_908 : decode cL_law 908 = .ok (.iload_n 3, 1) := by decide +kernel
theorem dL_law_909 : decode cL_law 909 = .ok (.iconst 4, 1) := by decide +kernel
theorem dL_law_910 : decode cL_law 910 = .ok (.iadd, 1) := by decide +kernel
theorem dL_law_911 : decode cL_law 911 = .ok (.iaload, 1) := by decide +kernel
theorem dL_law_912 : decode cL_law 912 = .ok (.aload_n 0, 1) := by decide +kernel
theorem dL_law_913 : decode cL_law 913 = .ok (.iload_n 3, 1) := by decide +kernel
theorem dL_law_914 : decode cL_law 914 = .ok (.iconst 5, 1) := by decide +kernel
theorem dL_law_915 : decode cL_law 915 = .ok (.iadd, 1) := by decide +kernel
theorem dL_law_916 : decode cL_law 916 = .ok (.iaload, 1) := by decide +kernel
theorem dL_law_917 : decode cL_law 917 = .ok (.invokevirtual 114, 3) := by decide +kernel
theorem dL_law_920 : decode cL_law 920 = .ok (.if_icmp .eq 91, 3) := by decide +kernel
theorem dL_law_923 : decode cL_law 923 = .ok (.iconst 0, 1) := by decide +kernel
theorem dL_law_924 : decode cL_law 924 = .ok (.ireturn, 1) := by decide +kernel
theorem dL_law_925 : decode cL_law 925 = .ok (.aload_n 1, 1) := by decide +kernel
theorem dL_law_926 : decode cL_law 926 = .ok (.aload_n 0, 1) := by decide +kernel
theorem dL_law_927 : decode cL_law 927 = .ok (.iload_n 3, 1) := by decide +kernel
theorem dL_law_928 : decode cL_law 928 = .ok (.iconst 1, 1) := by decide +kernel
theorem dL_law_929 : decode cL_law 929 = .ok (.iadd, 1) := by decide +kernel
theorem dL_law_930 : decode cL_law 930 = .ok (.iaload, 1) := by decide +kernel
theorem dL_law_931 : decode cL_law 931 = .ok (.aload_n 0, 1) := by decide +kernel
theorem dL_law_932 : decode cL_law 932 = .ok (.iload_n 3, 1) := by decide +kernel
theorem dL_law_933 : decode cL_law 933 = .ok (.iconst 2, 1) := by decide +kernel
theorem dL_law_934 : decode cL_law 934 = .ok (.iadd, 1) := by decide +kernel
theorem dL_law_935 : decode cL_law 935 = .ok (.iaload, 1) := by decide +kernel
theorem dL_law_936 : decode cL_law 936 = .ok (.aload_n 0, 1) := by decide +kernel
theorem dL_law_937 : decode cL_law 937 = .ok (.iload_n 3, 1) := by decide +kernel
theorem dL_law_938 : decode cL_law 938 = .ok (.iconst 3, 1) := by decide +kernel
theorem dL_law_939 : decode cL_law 939 = .ok (.iadd, 1) := by decide +kernel
theorem dL_law_940 : decode cL_law 940 = .ok (.iaload, 1) := by decide +kernel
theorem dL_law_941 : decode cL_law 941 = .ok (.aload_n 0, 1) := by decide +kernel
theorem dL_law_942 : decode cL_law 942 = .ok (.iload_n 3, 1) := by decide +kernel
theorem dL_law_943 : decode cL_law 943 = .ok (.iconst 4, 1) := by decide +kernel
theorem dL_law_944 : decode cL_law 944 = .ok (.iadd, 1) := by decide +kernel
theorem dL_law_945 : decode cL_law 945 = .ok (.iaload, 1) := by decide +kernel
theorem dL_law_946 : decode cL_law 946 = .ok (.invokevirtual 115, 3) := by decide +kernel
theorem dL_law_949 : decode cL_law 949 = .ok (.aload_n 2, 1) := by decide +kernel
theorem dL_law_950 : decode cL_law 950 = .ok (.aload_n 0, 1) := by decide +kernel
theorem dL_law_951 : decode cL_law 951 = .ok (.iload_n 3, 1) := by decide +kernel
theorem dL_law_952 : decode cL_law 952 = .ok (.iconst 1, 1) := by decide +kernel
theorem dL_law_953 : decode cL_law 953 = .ok (.iadd, 1) := by decide +kernel
theorem dL_law_954 : decode cL_law 954 = .ok (.iaload, 1) := by decide +kernel
theorem dL_law_955 : decode cL_law 955 = .ok (.aload_n 0, 1) := by decide +kernel
theorem dL_law_956 : decode cL_law 956 = .ok (.iload_n 3, 1) := by decide +kernel
theorem dL_law_957 : decode cL_law 957 = .ok (.iconst 2, 1) := by decide +kernel
theorem dL_law_958 : decode cL_law 958 = .ok (.iadd, 1) := by decide +kernel
theorem dL_law_959 : decode cL_law 959 = .ok (.iaload, 1) := by decide +kernel
theorem dL_law_960 : decode cL_law 960 = .ok (.aload_n 0, 1) := by decide +kernel
theorem dL_law_961 : decode cL_law 961 = .ok (.iload_n 3, 1) := by decide +kernel
theorem dL_law_962 : decode cL_law 962 = .ok (.iconst 3, 1) := by decide +kernel
theorem dL_law_963 : decode cL_law 963 = .ok (.iadd, 1) := by decide +kernel
theorem dL_law_964 : decode cL_law 964 = .ok (.iaload, 1) := by decide +kernel
theorem dL_law_965 : decode cL_law 965 = .ok (.aload_n 0, 1) := by decide +kernel
theorem dL_law_966 : decode cL_law 966 = .ok (.iload_n 3, 1) := by decide +kernel
theorem dL_law_967 : decode cL_law 967 = .ok (.iconst 4, 1) := by decide +kernel
theorem dL_law_968 : decode cL_law 968 = .ok (.iadd, 1) := by decide +kernel
theorem dL_law_969 : decode cL_law 969 = .ok (.iaload, 1) := by decide +kernel
theorem dL_law_970 : decode cL_law 970 = .ok (.invokevirtual 119, 3) := by decide +kernel
theorem dL_law_973 : decode cL_law 973 = .ok (.if_icmp .eq 38, 3) := by decide +kernel
theorem dL_law_976 : decode cL_law 976 = .ok (.iconst 0, 1) := by decide +kernel
theorem dL_law_977 : decode cL_law 977 = .ok (.ireturn, 1) := by decide +kernel
theorem dL_law_978 : decode cL_law 978 = .ok (.aload_n 1, 1) := by decide +kernel
theorem dL_law_979 : decode cL_law 979 = .ok (.aload_n 0, 1) := by decide +kernel
theorem dL_law_980 : decode cL_law 980 = .ok (.iload_n 3, 1) := by decide +kernel
theorem dL_law_981 : decode cL_law 981 = .ok (.iconst 1, 1) := by decide +kernel
theorem dL_law_982 : decode cL_law 982 = .ok (.iadd, 1) := by decide +kernel
theorem dL_law_983 : decode cL_law 983 = .ok (.iaload, 1) := by decide +kernel
theorem dL_law_984 : decode cL_law 984 = .ok (.aload_n 0, 1) := by decide +kernel
theorem dL_law_985 : decode cL_law 985 = .ok (.iload_n 3, 1) := by decide +kernel
theorem dL_law_986 : decode cL_law 986 = .ok (.iconst 2, 1) := by decide +kernel
theorem dL_law_987 : decode cL_law 987 = .ok (.iadd, 1) := by decide +kernel
theorem dL_law_988 : decode cL_law 988 = .ok (.iaload, 1) := by decide +kernel
theorem dL_law_989 : decode cL_law 989 = .ok (.invokevirtual 120, 3) := by decide +kernel
theorem dL_law_992 : decode cL_law 992 = .ok (.aload_n 2, 1) := by decide +kernel
theorem dL_law_993 : decode cL_law 993 = .ok (.aload_n 0, 1) := by decide +kernel
theorem dL_law_994 : decode cL_law 994 = .ok (.iload_n 3, 1) := by decide +kernel
theorem dL_law_995 : decode cL_law 995 = .ok (.iconst 1, 1) := by decide +kernel
theorem dL_law_996 : decode cL_law 996 = .ok (.iadd, 1) := by decide +kernel
theorem dL_law_997 : decode cL_law 997 = .ok (.iaload, 1) := by decide +kernel
theorem dL_law_998 : decode cL_law 998 = .ok (.aload_n 0, 1) := by decide +kernel
theorem dL_law_999 : decode cL_law 999 = .ok (.iload_n 3, 1) := by decide +kernel
theorem dL_law_1000 : decode cL_law 1000 = .ok (.iconst 2, 1) := by decide +kernel
theorem dL_law_1001 : decode cL_law 1001 = .ok (.iadd, 1) := by decide +kernel
theorem dL_law_1002 : decode cL_law 1002 = .ok (.iaload, 1) := by decide +kernel
theorem dL_law_1003 : decode cL_law 1003 = .ok (.invokevirtual 123, 3) := by decide +kernel
theorem dL_law_1006 : decode cL_law 1006 = .ok (.if_icmp .eq 5, 3) := by decide +kernel
theorem dL_law_1009 : decode cL_law 1009 = .ok (.iconst 0, 1) := by decide +kernel
theorem dL_law_1010 : decode cL_law 1010 = .ok (.ireturn, 1) := by decide +kernel
theorem dL_law_1011 : decode cL_law 1011 = .ok (.iinc 3 6, 3) := by decide +kernel
theorem dL_law_1014 : decode cL_law 1014 = .ok (.goto (-996), 3) := by decide +kernel
theorem dL_law_1017 : decode cL_law 1017 = .ok (.iconst 1, 1) := by decide +kernel
theorem dL_law_1018 : decode cL_law 1018 = .ok (.ireturn, 1) := by decide +kernel
end
section
/-! the words that last through calls; the numbers of a world; the judgement kV: a method's frame over a world -/
def kWD : List Cond := lw_tbl.filter goodWord
theorem kWD_in {w : Cond} (h : w ∈ kWD) : w ∈ lw_tbl := (List.mem_filter.mp h).1
theorem kWD_ok {w : Cond} (h : w ∈ kWD) : goodWord w = true := (List.mem_filter.mp h).2
theorem kWD_of {w : Cond} (i : Nat) (h : lw_tbl[i]? = some w) (hg : goodWord w = true) : w ∈ kWD := List.mem_filter.mpr ⟨List.mem_of_getElem? h, hg⟩
theorem kGood {Ts : List Cond} {w : Cond} (hT : ∀ w ∈ kWD, w ∈ Ts) (hw : w ∈ kWD) : GoodIn Ts (w :: kWD) := fun v hv => by
  rcases List.mem_cons.mp hv with rfl | hv
  · exact ⟨hT _ hw, good_of_word (kWD_ok hw)⟩
  · exact ⟨hT _ hv, good_of_word (kWD_ok hv)⟩
/-- classes and slots; array classes: 0 int, 1 boolean, 2 Text, 3 rows of int; statics: 4 MOST, 5 UNDER, 6 MOST_SAID; Strings 10 + i, their bytes 30 + i -/
abbrev kG : Type := va_G × (Nat → Nat)
def kTy (g : kG) : List (ClassId × FieldType) := [(g.2 0, .int), (g.2 1, .boolean), (g.2 2, .object "DrainedForAThird$Text"), (g.2 3, .array .int)]
def kMost (j : Nat) : Int32 := [99, 999, 99, 99, 999, 9, 11, 1, 5].getD j 0
def kUnder (j : Nat) : Int32 := [-1, 0, 0, 1, 2, 0].getD j 0
def kSaid (j : Nat) : Int32 := [99, 20, 99].getD j 0
def kStx (i : Nat) : String := ["rains", "shrinks", "calls", "or", "and", "not", "height", "peat", "year", "number", "water", "cell"].getD i ""
def kSlen : List Nat := [5, 7, 5, 2, 3, 3, 6, 4, 4, 6, 5, 4]
def kSbyt : List (List Int32) := [[114, 97, 105, 110, 115], [115, 104, 114, 105, 110, 107, 115], [99, 97, 108, 108, 115], [111, 114], [97, 110, 100], [110, 111, 116], [104, 101, 105, 103, 104, 116], [112, 101, 97, 116], [121, 101, 97, 114], [110, 117, 109, 98, 101, 114], [119, 97, 116, 101, 114], [99, 101, 108, 108]]
def kW1 : Cond := .methodLinkNest "DrainedForAThird" 37 ⟨"DrainedForAThird$Reader", "<init>", "()V"⟩ "DrainedForAThird"
def kW2 : Cond := .methodLinkNest "DrainedForAThird$Fen" 61 ⟨"DrainedForAThird", "isCell", "(I)Z"⟩ "DrainedForAThird"
def kStr (g : kG) (A : Nat → Prop) (U : State) (H : Heap) : Prop := vk_S 12 kSlen kSbyt (fun i => g.2 (10 + i)) (fun i => g.2 (30 + i)) A U H ∧ ∀ i : Nat, i < 12 → vk_R "DrainedForAThird$Reader" (83 + 2 * i) (kStx i) (g.2 (10 + i)) U
/-- what lies outside and stays -/
def kX (g : kG) (A : Nat → Prop) (U : State) (H : Heap) : Prop :=
  (va_Nw kW1 U ∧ va_Nw kW2 U) ∧
  (va_Z "DrainedForAThird$Fen" "MOST" "[I" (.ref (g.2 4)) A U H ∧ va_T .int (g.2 4) 9 (fun j => .int (kMost j)) A U H) ∧
  (va_Z "DrainedForAThird$Fen" "UNDER" "[I" (.ref (g.2 5)) A U H ∧ va_T .int (g.2 5) 6 (fun j => .int (kUnder j)) A U H) ∧
  (va_Z "DrainedForAThird$Fen" "MOST_SAID" "[I" (.ref (g.2 6)) A U H ∧ va_T .int (g.2 6) 3 (fun j => .int (kSaid j)) A U H) ∧
  va_Z "java/lang/String" "COMPACT_STRINGS" "Z" (.int 1) A U H ∧ va_Zq "jdk/internal/util/Preconditions" "SIOOBE_FORMATTER" "Ljava/util/function/BiFunction;" A U H ∧ kStr g A U H
theorem kX.step {g : kG} {A : Nat → Prop} {u U : State} {H H1 : Heap} (hW : u.WarmedH U.vm) (hq : ∀ a : Nat, a < H.size → ¬ A a → H1[a]? = H[a]?) (h : kX g A u H) : kX g A U H1 := by
  have hv := hW.alike
  obtain ⟨⟨w1, w2⟩, ⟨a1, a2⟩, ⟨b1, b2⟩, ⟨c1, c2⟩, d, e, f1, f2⟩ := h
  exact ⟨⟨va_Nw.warmM hW w1, va_Nw.warmM hW w2⟩, ⟨(va_Z.moved hv a1).kept hq, (va_T.moved hv a2).kept hq⟩, ⟨(va_Z.moved hv b1).kept hq, (va_T.moved hv b2).kept hq⟩,
    ⟨(va_Z.moved hv c1).kept hq, (va_T.moved hv c2).kept hq⟩, (va_Z.moved hv d).kept hq, (va_Zq.moved hv e).kept hq, (vk_S.moved hv f1).kept hq, fun i hi => vk_R.warm hW (f2 i hi)⟩

/-- the world ws at U, what a method is given; its frame A holds ws and all that is new -/
def kWd (g : kG) (A : Nat → Prop) (ws : va_W) (U : State) : Prop := va_P g.1 vwCl ws U.heap ∧ va_K g.1 vwCl (kTy g) U ∧ va_D A ws ∧ (∀ q : Nat, U.heap.size ≤ q → A q) ∧ kX g A U U.heap
def kQ (g : kG) (A : Nat → Prop) (Ps : Option Value → va_W → Prop) : Array Value → State → Outcome → State → Prop := fun _ st oc t => (∃ (r : Option Value) (ws : va_W), oc = .returned r ∧ Ps r ws ∧ va_P g.1 vwCl ws t.heap ∧ va_D A ws) ∧ va_F A st t
/-- a method's contract: from the world ws, with the arguments av, an answer and a world with Ps -/
def kCt (l : Launch) (y : MethodName) (cc : ByteArray) (maxL : Nat) (ret : Option FieldType) (fr lo mc ms : Nat) (g : kG) (A : Nat → Prop) (av : List Value) (ws : va_W) (Ps : Option Value → va_W → Prop) : Prop :=
  Met l y (.code y cc maxL ret :: kWD) { frames := fr, cells := mc, slots := ms, locals := lo } (va_Pc av (kWd g A ws)) (kQ g A Ps) mc ms A
abbrev kZ : Type := (Program × Launch × Env × Room × State × MethodId × Array Value × List Frame × Method × Code) × Nat × kG × (Nat → Prop) × (State → Prop)
abbrev zp (z : kZ) : Program := z.1.1
abbrev zl (z : kZ) : Launch := z.1.2.1
abbrev ze (z : kZ) : Env := z.1.2.2.1
abbrev zR (z : kZ) : Room := z.1.2.2.2.1
abbrev zs (z : kZ) : State := z.1.2.2.2.2.1
abbrev zm (z : kZ) : MethodId := z.1.2.2.2.2.2.1
abbrev za (z : kZ) : Array Value := z.1.2.2.2.2.2.2.1
abbrev zb (z : kZ) : List Frame := z.1.2.2.2.2.2.2.2.1
abbrev zM (z : kZ) : Method := z.1.2.2.2.2.2.2.2.2.1
abbrev zc (z : kZ) : Code := z.1.2.2.2.2.2.2.2.2.2
abbrev zn (z : kZ) : Nat := z.2.1
abbrev zg (z : kZ) : kG := z.2.2.1
abbrev zA (z : kZ) : Nat → Prop := z.2.2.2.1
abbrev zQ (z : kZ) : State → Prop := z.2.2.2.2
/-- the frame of z at pc, with the locals lv and the stack st, over the world ws, with k cells and n slots made -/
def kV (z : kZ) (ws : va_W) (k n pc : Nat) (lv : List (Nat × Value)) (st : List Value) : Prop :=
  ∀ (H : Heap) (locs : List Loc) (ls : Array Slot), va_P (zg z).1 vwCl ws H → va_D (zA z) ws → va_S (zA z) (zs z).heap H locs → lv_has ls (zn z) lv →
    W (zp z) (zl z) (ze z) (zR z) (zs z) (zm z) (za z) (zb z) (zM z) (zc z) H locs k n (zQ z) (F0 (zm z) pc ls st)
/-- what is known of z: its code cc, its class, its room -/
def kF (z : kZ) (cc : ByteArray) (own : String) (nL : Nat) (rm : Room) : Prop :=
  (zp z).tables.exec = Jvm.exec ∧ (zc z).code = cc ∧ (zc z).maxLocals = zn z ∧ (zs z).vm.findClass own = some (zm z).cls ∧ (∀ w ∈ kWD, w.before (za z) (zs z) = true) ∧ va_K (zg z).1 vwCl (kTy (zg z)) (zs z) ∧
  (∀ q : Nat, (zs z).heap.size ≤ q → zA z q) ∧ kX (zg z) (zA z) (zs z) (zs z).heap ∧ (zM z).locks = false ∧ zR z = rm ∧ zn z = nL
/-- what it has to answer -/
def kR (z : kZ) (rt : Option FieldType) (mc ms : Nat) (Ps : Option Value → va_W → Prop) : Prop :=
  (zM z).sig.returnType = rt ∧ zQ z = MQ (zb z) (kQ (zg z) (zA z) Ps) (za z) (zs z) mc ms (zA z)
theorem kF.wd {z : kZ} {cc : ByteArray} {own : String} {nL : Nat} {rm : Room} (F : kF z cc own nL rm) {w : Cond} (h : w ∈ kWD) : w.before (za z) (zs z) = true := F.2.2.2.2.1 w h
theorem kCt.of {l : Launch} {y : MethodName} {cc : ByteArray} {maxL : Nat} {ret : Option FieldType} {fr lo mc ms : Nat} {g : kG} {A : Nat → Prop} {av : List Value} {ws : va_W} {Ps : Option Value → va_W → Prop} {lv0 : List (Nat × Value)}
    (hy : plainName y.cls = true) (hn : (lg_sl av).length ≤ maxL) (h0 : lv_args 0 av = lv0)
    (body : ∀ z : kZ, zl z = l → zg z = g → zA z = A → kF z cc y.cls maxL { frames := fr, cells := mc, slots := ms, locals := lo } → kR z ret mc ms Ps → kV z ws 0 0 0 lv0 []) : kCt l y cc maxL ret fr lo mc ms g A av ws Ps := by
  refine Met.ofW (cc := cc) (maxL := maxL) (ret := ret) hy rfl ?_
  intro p e s m args below meth c s₁ B hml hv
  obtain ⟨rfl, hP, hK, hD, hA, hX⟩ := hv
  have hts := atoms_spec (ws := .code y cc maxL ret :: kWD) B.pre
  have hown : s.vm.findClass y.cls = some m.cls := findClass_of_methodNamed B.named
  have hb := body ((p, l, e, (headSpec (.code y cc maxL ret :: kWD) { frames := fr, cells := mc, slots := ms, locals := lo }).room, s, m, av.toArray, below, meth, c), maxL, g, A, MQ below (kQ g A Ps) av.toArray s mc ms A) rfl rfl rfl
    ⟨B.exec, B.bytes, hml, hown, fun w hw => hts w (List.mem_cons_of_mem _ hw), hK, hA, hX, B.notSynchronized, rfl, rfl⟩ ⟨B.returns, rfl⟩
  have hl := lv_entry av (n := maxL) hn
  rw [h0] at hl
  rw [lg_entry_eq]
  exact hb s.heap [] _ hP hD va_S.rf hl
end
section
section KROWS
variable {z : kZ} {cc : ByteArray} {own : String} {nL : Nat} {rm : Room} {ws : va_W} {a b pc : Nat} {lv : List (Nat × Value)} {st : List Value}
theorem g_sub {lv' : List (Nat × Value)} (ks : List Nat) (h : lv_pick lv ks = lv') (k : kV z ws a b pc lv' st) : kV z ws a b pc lv st := fun H locs ls hP hD hS hl => k H locs ls hP hD hS (lv_sub hl ks h)
theorem g_iload (F : kF z cc own nL rm) {i : Nat} {x : Int32} (hd : decode cc pc = .ok (.iload i, 2)) (j : Nat) (h : lv[j]? = some (i, .int x)) (k : kV z ws a b (pc + 2) lv (.int x :: st)) : kV z ws a b pc lv st := fun H locs ls hP hD hS hl => lv_iload F.1 F.2.1 hd (lv_at hl j h) (k H locs ls hP hD hS hl)
theorem g_iload_n (F : kF z cc own nL rm) {q : Fin 4} {x : Int32} (hd : decode cc pc = .ok (.iload_n q, 1)) (j : Nat) (h : lv[j]? = some ((q : Nat), .int x)) (k : kV z ws a b (pc + 1) lv (.int x :: st)) : kV z ws a b pc lv st := fun H locs ls hP hD hS hl => lv_iload_n F.1 F.2.1 hd rfl (lv_at hl j h) (k H locs ls hP hD hS hl)
theorem g_lload (F : kF z cc own nL rm) {i : Nat} {x : Int64} (hd : decode cc pc = .ok (.lload i, 2)) (j : Nat) (h : lv[j]? = some (i, .long x)) (k : kV z ws a b (pc + 2) lv (.long x :: st)) : kV z ws a b pc lv st := fun H locs ls hP hD hS hl => lv_lload F.1 F.2.1 hd (lv_at hl j h) (k H locs ls hP hD hS hl)
theorem g_lload_n (F : kF z cc own nL rm) {q : Fin 4} {x : Int64} (hd : decode cc pc = .ok (.lload_n q, 1)) (j : Nat) (h : lv[j]? = some ((q : Nat), .long x)) (k : kV z ws a b (pc + 1) lv (.long x :: st)) : kV z ws a b pc lv st := fun H locs ls hP hD hS hl => lv_lload_n F.1 F.2.1 hd rfl (lv_at hl j h) (k H locs ls hP hD hS hl)
theorem g_aload (F : kF z cc own nL rm) {i : Nat} {x : Nat} (hd : decode cc pc = .ok (.aload i, 2)) (j : Nat) (h : lv[j]? = some (i, .ref x)) (k : kV z ws a b (pc + 2) lv (.ref x :: st)) : kV z ws a b pc lv st := fun H locs ls hP hD hS hl => lv_aload F.1 F.2.1 hd (lv_at hl j h) (k H locs ls hP hD hS hl)
theorem g_aload_n (F : kF z cc own nL rm) {q : Fin 4} {x : Nat} (hd : decode cc pc = .ok (.aload_n q, 1)) (j : Nat) (h : lv[j]? = some ((q : Nat), .ref x)) (k : kV z ws a b (pc + 1) lv (.ref x :: st)) : kV z ws a b pc lv st := fun H locs ls hP hD hS hl => lv_aload_n F.1 F.2.1 hd rfl (lv_at hl j h) (k H locs ls hP hD hS hl)
def kushr (x y : Int32) : Int32 := (x.toUInt32 >>> (y.toUInt32 &&& Int32.toUInt32 31)).toInt32
def krem (x y : Int32) : Int32 := x - x / y * y
def klrem (x y : Int64) : Int64 := x - x / y * y
def kshl (x y : Int32) : Int32 := x <<< (y &&& 31)
def kshr (x y : Int32) : Int32 := x >>> (y &&& 31)
def ki2c (x : Int32) : Int32 := (x.toUInt32 % 65536).toInt32
theorem g_iconst (F : kF z cc own nL rm) {n : Int} {v : Int32} (hd : decode cc pc = .ok (.iconst n, 1)) (hv : Int32.ofInt n = v) (k : kV z ws a b (pc + 1) lv (.int v :: st)) : kV z ws a b pc lv (st) := fun H locs ls hP hD hS hl => lv_iconst F.1 F.2.1 hd hv (k H locs ls hP hD hS hl)
theorem g_bipush (F : kF z cc own nL rm) {n : Int} {v : Int32} (hd : decode cc pc = .ok (.bipush n, 2)) (hv : (Int8.ofInt n).toInt32 = v) (k : kV z ws a b (pc + 2) lv (.int v :: st)) : kV z ws a b pc lv (st) := fun H locs ls hP hD hS hl => lv_bipush F.1 F.2.1 hd hv (k H locs ls hP hD hS hl)
theorem g_sipush (F : kF z cc own nL rm) {n : Int} {v : Int32} (hd : decode cc pc = .ok (.sipush n, 3)) (hv : (Int16.ofInt n).toInt32 = v) (k : kV z ws a b (pc + 3) lv (.int v :: st)) : kV z ws a b pc lv (st) := fun H locs ls hP hD hS hl => lv_sipush F.1 F.2.1 hd hv (k H locs ls hP hD hS hl)
theorem g_lconst (F : kF z cc own nL rm) {n : Fin 2} {v : Int64} (hd : decode cc pc = .ok (.lconst n, 1)) (hv : Int64.ofNat (n : Nat) = v) (k : kV z ws a b (pc + 1) lv (.long v :: st)) : kV z ws a b pc lv (st) := fun H locs ls hP hD hS hl => lv_lconst F.1 F.2.1 hd hv (k H locs ls hP hD hS hl)
theorem g_ldc (F : kF z cc own nL rm) {index : Nat} {v : Int32} (hd : decode cc pc = .ok (.ldc index, 2)) (hw : Cond.constant own index v ∈ kWD) (k : kV z ws a b (pc + 2) lv (.int v :: st)) : kV z ws a b pc lv (st) := fun H locs ls hP hD hS hl => lv_ldc F.1 F.2.1 F.2.2.2.1 (F.wd hw) hd (k H locs ls hP hD hS hl)
theorem g_ldcw (F : kF z cc own nL rm) {index : Nat} {v : Int32} (hd : decode cc pc = .ok (.ldc_w index, 3)) (hw : Cond.constant own index v ∈ kWD) (k : kV z ws a b (pc + 3) lv (.int v :: st)) : kV z ws a b pc lv (st) := fun H locs ls hP hD hS hl => lv_ldcw F.1 F.2.1 F.2.2.2.1 (F.wd hw) hd (k H locs ls hP hD hS hl)
theorem g_ldc2 (F : kF z cc own nL rm) {index : Nat} {v : Int64} (hd : decode cc pc = .ok (.ldc2_w index, 3)) (hw : Cond.constantLong own index v ∈ kWD) (k : kV z ws a b (pc + 3) lv (.long v :: st)) : kV z ws a b pc lv (st) := fun H locs ls hP hD hS hl => lv_ldc2 F.1 F.2.1 F.2.2.2.1 (F.wd hw) hd (k H locs ls hP hD hS hl)
theorem g_iadd (F : kF z cc own nL rm) {x y : Int32} (hd : decode cc pc = .ok (.iadd, 1)) (k : kV z ws a b (pc + 1) lv (.int (x + y) :: st)) : kV z ws a b pc lv (.int y :: .int x :: st) := fun H locs ls hP hD hS hl => lv_iadd F.1 F.2.1 hd (k H locs ls hP hD hS hl)
theorem g_isub (F : kF z cc own nL rm) {x y : Int32} (hd : decode cc pc = .ok (.isub, 1)) (k : kV z ws a b (pc + 1) lv (.int (x - y) :: st)) : kV z ws a b pc lv (.int y :: .int x :: st) := fun H locs ls hP hD hS hl => lv_isub F.1 F.2.1 hd (k H locs ls hP hD hS hl)
theorem g_imul (F : kF z cc own nL rm) {x y : Int32} (hd : decode cc pc = .ok (.imul, 1)) (k : kV z ws a b (pc + 1) lv (.int (x * y) :: st)) : kV z ws a b pc lv (.int y :: .int x :: st) := fun H locs ls hP hD hS hl => lv_imul F.1 F.2.1 hd (k H locs ls hP hD hS hl)
theorem g_iand (F : kF z cc own nL rm) {x y : Int32} (hd : decode cc pc = .ok (.iand, 1)) (k : kV z ws a b (pc + 1) lv (.int (x &&& y) :: st)) : kV z ws a b pc lv (.int y :: .int x :: st) := fun H locs ls hP hD hS hl => lv_iand F.1 F.2.1 hd (k H locs ls hP hD hS hl)
theorem g_ior (F : kF z cc own nL rm) {x y : Int32} (hd : decode cc pc = .ok (.ior, 1)) (k : kV z ws a b (pc + 1) lv (.int (x ||| y) :: st)) : kV z ws a b pc lv (.int y :: .int x :: st) := fun H locs ls hP hD hS hl => lv_ior F.1 F.2.1 hd (k H locs ls hP hD hS hl)
theorem g_ixor (F : kF z cc own nL rm) {x y : Int32} (hd : decode cc pc = .ok (.ixor, 1)) (k : kV z ws a b (pc + 1) lv (.int (x ^^^ y) :: st)) : kV z ws a b pc lv (.int y :: .int x :: st) := fun H locs ls hP hD hS hl => lv_ixor F.1 F.2.1 hd (k H locs ls hP hD hS hl)
theorem g_ishl (F : kF z cc own nL rm) {x y : Int32} (hd : decode cc pc = .ok (.ishl, 1)) (k : kV z ws a b (pc + 1) lv (.int (kshl x y) :: st)) : kV z ws a b pc lv (.int y :: .int x :: st) := fun H locs ls hP hD hS hl => lv_ishl F.1 F.2.1 hd (k H locs ls hP hD hS hl)
theorem g_ishr (F : kF z cc own nL rm) {x y : Int32} (hd : decode cc pc = .ok (.ishr, 1)) (k : kV z ws a b (pc + 1) lv (.int (kshr x y) :: st)) : kV z ws a b pc lv (.int y :: .int x :: st) := fun H locs ls hP hD hS hl => lv_ishr F.1 F.2.1 hd (k H locs ls hP hD hS hl)
theorem g_iushr (F : kF z cc own nL rm) {x y : Int32} (hd : decode cc pc = .ok (.iushr, 1)) (k : kV z ws a b (pc + 1) lv (.int (kushr x y) :: st)) : kV z ws a b pc lv (.int y :: .int x :: st) := fun H locs ls hP hD hS hl => lv_iushr F.1 F.2.1 (v := kushr x y) hd rfl (k H locs ls hP hD hS hl)
theorem g_ineg (F : kF z cc own nL rm) {x : Int32} (hd : decode cc pc = .ok (.ineg, 1)) (k : kV z ws a b (pc + 1) lv (.int (-x) :: st)) : kV z ws a b pc lv (.int x :: st) := fun H locs ls hP hD hS hl => lv_ineg F.1 F.2.1 hd (k H locs ls hP hD hS hl)
theorem g_idiv (F : kF z cc own nL rm) {x y : Int32} (hd : decode cc pc = .ok (.idiv, 1)) (hne : ¬ y = 0) (k : kV z ws a b (pc + 1) lv (.int (x / y) :: st)) : kV z ws a b pc lv (.int y :: .int x :: st) := fun H locs ls hP hD hS hl => lv_idiv F.1 F.2.1 hd hne (k H locs ls hP hD hS hl)
theorem g_irem (F : kF z cc own nL rm) {x y : Int32} (hd : decode cc pc = .ok (.irem, 1)) (hne : ¬ y = 0) (k : kV z ws a b (pc + 1) lv (.int (krem x y) :: st)) : kV z ws a b pc lv (.int y :: .int x :: st) := fun H locs ls hP hD hS hl => lv_irem F.1 F.2.1 hd hne (k H locs ls hP hD hS hl)
theorem g_i2l (F : kF z cc own nL rm) {x : Int32} (hd : decode cc pc = .ok (.i2l, 1)) (k : kV z ws a b (pc + 1) lv (.long x.toInt64 :: st)) : kV z ws a b pc lv (.int x :: st) := fun H locs ls hP hD hS hl => lv_i2l F.1 F.2.1 hd rfl (k H locs ls hP hD hS hl)
theorem g_l2i (F : kF z cc own nL rm) {x : Int64} (hd : decode cc pc = .ok (.l2i, 1)) (k : kV z ws a b (pc + 1) lv (.int x.toInt32 :: st)) : kV z ws a b pc lv (.long x :: st) := fun H locs ls hP hD hS hl => lv_l2i F.1 F.2.1 hd rfl (k H locs ls hP hD hS hl)
theorem g_i2b (F : kF z cc own nL rm) {x : Int32} (hd : decode cc pc = .ok (.i2b, 1)) (k : kV z ws a b (pc + 1) lv (.int x.toInt8.toInt32 :: st)) : kV z ws a b pc lv (.int x :: st) := fun H locs ls hP hD hS hl => lv_i2b F.1 F.2.1 hd rfl (k H locs ls hP hD hS hl)
theorem g_i2s (F : kF z cc own nL rm) {x : Int32} (hd : decode cc pc = .ok (.i2s, 1)) (k : kV z ws a b (pc + 1) lv (.int x.toInt16.toInt32 :: st)) : kV z ws a b pc lv (.int x :: st) := fun H locs ls hP hD hS hl => lv_i2s F.1 F.2.1 hd rfl (k H locs ls hP hD hS hl)
theorem g_i2c (F : kF z cc own nL rm) {x : Int32} (hd : decode cc pc = .ok (.i2c, 1)) (k : kV z ws a b (pc + 1) lv (.int (ki2c x) :: st)) : kV z ws a b pc lv (.int x :: st) := fun H locs ls hP hD hS hl => lv_i2c F.1 F.2.1 hd rfl (k H locs ls hP hD hS hl)
theorem g_ladd (F : kF z cc own nL rm) {x y : Int64} (hd : decode cc pc = .ok (.ladd, 1)) (k : kV z ws a b (pc + 1) lv (.long (x + y) :: st)) : kV z ws a b pc lv (.long y :: .long x :: st) := fun H locs ls hP hD hS hl => lv_ladd F.1 F.2.1 hd (k H locs ls hP hD hS hl)
theorem g_lsub (F : kF z cc own nL rm) {x y : Int64} (hd : decode cc pc = .ok (.lsub, 1)) (k : kV z ws a b (pc + 1) lv (.long (x - y) :: st)) : kV z ws a b pc lv (.long y :: .long x :: st) := fun H locs ls hP hD hS hl => lv_lsub F.1 F.2.1 hd (k H locs ls hP hD hS hl)
theorem g_lmul (F : kF z cc own nL rm) {x y : Int64} (hd : decode cc pc = .ok (.lmul, 1)) (k : kV z ws a b (pc + 1) lv (.long (x * y) :: st)) : kV z ws a b pc lv (.long y :: .long x :: st) := fun H locs ls hP hD hS hl => lv_lmul F.1 F.2.1 hd (k H locs ls hP hD hS hl)
theorem g_ldiv (F : kF z cc own nL rm) {x y : Int64} (hd : decode cc pc = .ok (.ldiv, 1)) (hne : ¬ y = 0) (k : kV z ws a b (pc + 1) lv (.long (x / y) :: st)) : kV z ws a b pc lv (.long y :: .long x :: st) := fun H locs ls hP hD hS hl => lv_ldiv F.1 F.2.1 hd hne (k H locs ls hP hD hS hl)
theorem g_lrem (F : kF z cc own nL rm) {x y : Int64} (hd : decode cc pc = .ok (.lrem, 1)) (hne : ¬ y = 0) (k : kV z ws a b (pc + 1) lv (.long (klrem x y) :: st)) : kV z ws a b pc lv (.long y :: .long x :: st) := fun H locs ls hP hD hS hl => lv_lrem F.1 F.2.1 hd hne (k H locs ls hP hD hS hl)
theorem g_lcmp (F : kF z cc own nL rm) {x y : Int64} (hd : decode cc pc = .ok (.lcmp, 1)) (k : kV z ws a b (pc + 1) lv (.int (lg_cmp x y) :: st)) : kV z ws a b pc lv (.long y :: .long x :: st) := fun H locs ls hP hD hS hl => W.lcmp F.1 F.2.1 hd (k H locs ls hP hD hS hl)
theorem g_dup (F : kF z cc own nL rm) {va : Value} (hd : decode cc pc = .ok (.dup, 1)) (h1 : va.category = 1) (k : kV z ws a b (pc + 1) lv (va :: va :: st)) : kV z ws a b pc lv (va :: st) := fun H locs ls hP hD hS hl => lv_dup F.1 F.2.1 hd h1 (k H locs ls hP hD hS hl)
theorem g_pop (F : kF z cc own nL rm) {va : Value} (hd : decode cc pc = .ok (.pop, 1)) (h1 : va.category = 1) (k : kV z ws a b (pc + 1) lv (st)) : kV z ws a b pc lv (va :: st) := fun H locs ls hP hD hS hl => lv_pop F.1 F.2.1 hd h1 (k H locs ls hP hD hS hl)
theorem g_dup_x1 (F : kF z cc own nL rm) {va vb : Value} (hd : decode cc pc = .ok (.dup_x1, 1)) (h1 : va.category = 1) (h2 : vb.category = 1) (k : kV z ws a b (pc + 1) lv (va :: vb :: va :: st)) : kV z ws a b pc lv (va :: vb :: st) := fun H locs ls hP hD hS hl => lv_dup_x1 F.1 F.2.1 hd h1 h2 (k H locs ls hP hD hS hl)
theorem g_dup2_11 (F : kF z cc own nL rm) {va vb : Value} (hd : decode cc pc = .ok (.dup2, 1)) (h1 : va.category = 1) (h2 : vb.category = 1) (k : kV z ws a b (pc + 1) lv (va :: vb :: va :: vb :: st)) : kV z ws a b pc lv (va :: vb :: st) := fun H locs ls hP hD hS hl => lv_dup2_11 F.1 F.2.1 hd h1 h2 (k H locs ls hP hD hS hl)
theorem g_dup2_2 (F : kF z cc own nL rm) {va : Value} (hd : decode cc pc = .ok (.dup2, 1)) (h1 : va.category = 2) (k : kV z ws a b (pc + 1) lv (va :: va :: st)) : kV z ws a b pc lv (va :: st) := fun H locs ls hP hD hS hl => lv_dup2_2 F.1 F.2.1 hd h1 (k H locs ls hP hD hS hl)
theorem g_icmp_eq (F : kF z cc own nL rm) {x y : Int32} {off : Int} {tgt : Nat} (hd : decode cc pc = .ok (.if_icmp .eq off, 3)) (ht : (pc : Int) + off = (tgt : Int)) (kt : x = y → kV z ws a b tgt lv st) (kf : ¬ x = y → kV z ws a b (pc + 3) lv st) : kV z ws a b pc lv (.int y :: .int x :: st) := fun H locs ls hP hD hS hl => lv_icmp_eq F.1 F.2.1 hd ht (fun q => kt q H locs ls hP hD hS hl) (fun q => kf q H locs ls hP hD hS hl)
theorem g_icmp_ne (F : kF z cc own nL rm) {x y : Int32} {off : Int} {tgt : Nat} (hd : decode cc pc = .ok (.if_icmp .ne off, 3)) (ht : (pc : Int) + off = (tgt : Int)) (kt : x ≠ y → kV z ws a b tgt lv st) (kf : x = y → kV z ws a b (pc + 3) lv st) : kV z ws a b pc lv (.int y :: .int x :: st) := fun H locs ls hP hD hS hl => lv_icmp_ne F.1 F.2.1 hd ht (fun q => kt q H locs ls hP hD hS hl) (fun q => kf q H locs ls hP hD hS hl)
theorem g_icmp_lt (F : kF z cc own nL rm) {x y : Int32} {off : Int} {tgt : Nat} (hd : decode cc pc = .ok (.if_icmp .lt off, 3)) (ht : (pc : Int) + off = (tgt : Int)) (kt : x < y → kV z ws a b tgt lv st) (kf : ¬ x < y → kV z ws a b (pc + 3) lv st) : kV z ws a b pc lv (.int y :: .int x :: st) := fun H locs ls hP hD hS hl => lv_icmp_lt F.1 F.2.1 hd ht (fun q => kt q H locs ls hP hD hS hl) (fun q => kf q H locs ls hP hD hS hl)
theorem g_icmp_ge (F : kF z cc own nL rm) {x y : Int32} {off : Int} {tgt : Nat} (hd : decode cc pc = .ok (.if_icmp .ge off, 3)) (ht : (pc : Int) + off = (tgt : Int)) (kt : y ≤ x → kV z ws a b tgt lv st) (kf : ¬ y ≤ x → kV z ws a b (pc + 3) lv st) : kV z ws a b pc lv (.int y :: .int x :: st) := fun H locs ls hP hD hS hl => lv_icmp_ge F.1 F.2.1 hd ht (fun q => kt q H locs ls hP hD hS hl) (fun q => kf q H locs ls hP hD hS hl)
theorem g_icmp_gt (F : kF z cc own nL rm) {x y : Int32} {off : Int} {tgt : Nat} (hd : decode cc pc = .ok (.if_icmp .gt off, 3)) (ht : (pc : Int) + off = (tgt : Int)) (kt : y < x → kV z ws a b tgt lv st) (kf : ¬ y < x → kV z ws a b (pc + 3) lv st) : kV z ws a b pc lv (.int y :: .int x :: st) := fun H locs ls hP hD hS hl => lv_icmp_gt F.1 F.2.1 hd ht (fun q => kt q H locs ls hP hD hS hl) (fun q => kf q H locs ls hP hD hS hl)
theorem g_icmp_le (F : kF z cc own nL rm) {x y : Int32} {off : Int} {tgt : Nat} (hd : decode cc pc = .ok (.if_icmp .le off, 3)) (ht : (pc : Int) + off = (tgt : Int)) (kt : x ≤ y → kV z ws a b tgt lv st) (kf : ¬ x ≤ y → kV z ws a b (pc + 3) lv st) : kV z ws a b pc lv (.int y :: .int x :: st) := fun H locs ls hP hD hS hl => lv_icmp_le F.1 F.2.1 hd ht (fun q => kt q H locs ls hP hD hS hl) (fun q => kf q H locs ls hP hD hS hl)
theorem g_if_eq (F : kF z cc own nL rm) {x : Int32} {off : Int} {tgt : Nat} (hd : decode cc pc = .ok (.ifCond .eq off, 3)) (ht : (pc : Int) + off = (tgt : Int)) (kt : x = 0 → kV z ws a b tgt lv st) (kf : ¬ x = 0 → kV z ws a b (pc + 3) lv st) : kV z ws a b pc lv (.int x :: st) := fun H locs ls hP hD hS hl => lv_if_eq F.1 F.2.1 hd ht (fun q => kt q H locs ls hP hD hS hl) (fun q => kf q H locs ls hP hD hS hl)
theorem g_if_ne (F : kF z cc own nL rm) {x : Int32} {off : Int} {tgt : Nat} (hd : decode cc pc = .ok (.ifCond .ne off, 3)) (ht : (pc : Int) + off = (tgt : Int)) (kt : x ≠ 0 → kV z ws a b tgt lv st) (kf : x = 0 → kV z ws a b (pc + 3) lv st) : kV z ws a b pc lv (.int x :: st) := fun H locs ls hP hD hS hl => lv_if_ne F.1 F.2.1 hd ht (fun q => kt q H locs ls hP hD hS hl) (fun q => kf q H locs ls hP hD hS hl)
theorem g_if_lt (F : kF z cc own nL rm) {x : Int32} {off : Int} {tgt : Nat} (hd : decode cc pc = .ok (.ifCond .lt off, 3)) (ht : (pc : Int) + off = (tgt : Int)) (kt : x < 0 → kV z ws a b tgt lv st) (kf : ¬ x < 0 → kV z ws a b (pc + 3) lv st) : kV z ws a b pc lv (.int x :: st) := fun H locs ls hP hD hS hl => lv_if_lt F.1 F.2.1 hd ht (fun q => kt q H locs ls hP hD hS hl) (fun q => kf q H locs ls hP hD hS hl)
theorem g_if_ge (F : kF z cc own nL rm) {x : Int32} {off : Int} {tgt : Nat} (hd : decode cc pc = .ok (.ifCond .ge off, 3)) (ht : (pc : Int) + off = (tgt : Int)) (kt : 0 ≤ x → kV z ws a b tgt lv st) (kf : ¬ 0 ≤ x → kV z ws a b (pc + 3) lv st) : kV z ws a b pc lv (.int x :: st) := fun H locs ls hP hD hS hl => lv_if_ge F.1 F.2.1 hd ht (fun q => kt q H locs ls hP hD hS hl) (fun q => kf q H locs ls hP hD hS hl)
theorem g_if_gt (F : kF z cc own nL rm) {x : Int32} {off : Int} {tgt : Nat} (hd : decode cc pc = .ok (.ifCond .gt off, 3)) (ht : (pc : Int) + off = (tgt : Int)) (kt : 0 < x → kV z ws a b tgt lv st) (kf : ¬ 0 < x → kV z ws a b (pc + 3) lv st) : kV z ws a b pc lv (.int x :: st) := fun H locs ls hP hD hS hl => lv_if_gt F.1 F.2.1 hd ht (fun q => kt q H locs ls hP hD hS hl) (fun q => kf q H locs ls hP hD hS hl)
theorem g_if_le (F : kF z cc own nL rm) {x : Int32} {off : Int} {tgt : Nat} (hd : decode cc pc = .ok (.ifCond .le off, 3)) (ht : (pc : Int) + off = (tgt : Int)) (kt : x ≤ 0 → kV z ws a b tgt lv st) (kf : ¬ x ≤ 0 → kV z ws a b (pc + 3) lv st) : kV z ws a b pc lv (.int x :: st) := fun H locs ls hP hD hS hl => lv_if_le F.1 F.2.1 hd ht (fun q => kt q H locs ls hP hD hS hl) (fun q => kf q H locs ls hP hD hS hl)
theorem g_goto (F : kF z cc own nL rm) {off : Int} {tgt : Nat} (hd : decode cc pc = .ok (.goto off, 3)) (ht : (pc : Int) + off = (tgt : Int)) (k : kV z ws a b tgt lv st) : kV z ws a b pc lv st := fun H locs ls hP hD hS hl => lv_goto F.1 F.2.1 hd ht (k H locs ls hP hD hS hl)
theorem g_ifnonnull (F : kF z cc own nL rm) {x : Nat} {off : Int} {tgt : Nat} (hd : decode cc pc = .ok (.ifnonnull off, 3)) (ht : (pc : Int) + off = (tgt : Int)) (k : kV z ws a b tgt lv st) : kV z ws a b pc lv (.ref x :: st) := fun H locs ls hP hD hS hl => lv_ifnonnull F.1 F.2.1 hd ht (k H locs ls hP hD hS hl)
theorem g_ifnonnullN (F : kF z cc own nL rm) {off : Int} (hd : decode cc pc = .ok (.ifnonnull off, 3)) (k : kV z ws a b (pc + 3) lv st) : kV z ws a b pc lv (.null :: st) := fun H locs ls hP hD hS hl => lv_ifnonnullN F.1 F.2.1 hd (k H locs ls hP hD hS hl)
theorem g_null (F : kF z cc own nL rm) (hd : decode cc pc = .ok (.aconst_null, 1)) (k : kV z ws a b (pc + 1) lv (.null :: st)) : kV z ws a b pc lv st := fun H locs ls hP hD hS hl => lv_null F.1 F.2.1 hd (k H locs ls hP hD hS hl)
theorem kF.lt {i : Nat} (F : kF z cc own nL rm) (h : Nat.ble (i + 1) nL = true) : i < zn z := by
  rw [F.2.2.2.2.2.2.2.2.2.2]
  exact Nat.le_of_ble_eq_true h
theorem g_istore (F : kF z cc own nL rm) {i : Nat} {x : Int32} {lv' : List (Nat × Value)} (hd : decode cc pc = .ok (.istore i, 2)) (hi : Nat.ble (i + 1) nL = true) (hv : (i, Value.int x) :: lv.filter (fun q => !(q.1 == i) && !(q.1 + 1 == i && q.2.category == 2)) = lv') (k : kV z ws a b (pc + 2) lv' st) : kV z ws a b pc lv (.int x :: st) := fun H locs ls hP hD hS hl => lv_istore F.1 F.2.1 hd hl (F.lt hi) hv (fun ls' hl' => k H locs ls' hP hD hS hl')
theorem g_istore_n (F : kF z cc own nL rm) {q : Fin 4} {x : Int32} {lv' : List (Nat × Value)} (hd : decode cc pc = .ok (.istore_n q, 1)) (hi : Nat.ble ((q : Nat) + 1) nL = true) (hv : ((q : Nat), Value.int x) :: lv.filter (fun p => !(p.1 == (q : Nat)) && !(p.1 + 1 == (q : Nat) && p.2.category == 2)) = lv') (k : kV z ws a b (pc + 1) lv' st) : kV z ws a b pc lv (.int x :: st) := fun H locs ls hP hD hS hl => lv_istore_n F.1 F.2.1 hd rfl hl (F.lt hi) hv (fun ls' hl' => k H locs ls' hP hD hS hl')
theorem g_astore (F : kF z cc own nL rm) {i : Nat} {x : Nat} {lv' : List (Nat × Value)} (hd : decode cc pc = .ok (.astore i, 2)) (hi : Nat.ble (i + 1) nL = true) (hv : (i, Value.ref x) :: lv.filter (fun q => !(q.1 == i) && !(q.1 + 1 == i && q.2.category == 2)) = lv') (k : kV z ws a b (pc + 2) lv' st) : kV z ws a b pc lv (.ref x :: st) := fun H locs ls hP hD hS hl => lv_astore F.1 F.2.1 hd hl (F.lt hi) hv (fun ls' hl' => k H locs ls' hP hD hS hl')
theorem g_astore_n (F : kF z cc own nL rm) {q : Fin 4} {x : Nat} {lv' : List (Nat × Value)} (hd : decode cc pc = .ok (.astore_n q, 1)) (hi : Nat.ble ((q : Nat) + 1) nL = true) (hv : ((q : Nat), Value.ref x) :: lv.filter (fun p => !(p.1 == (q : Nat)) && !(p.1 + 1 == (q : Nat) && p.2.category == 2)) = lv') (k : kV z ws a b (pc + 1) lv' st) : kV z ws a b pc lv (.ref x :: st) := fun H locs ls hP hD hS hl => lv_astore_n F.1 F.2.1 hd rfl hl (F.lt hi) hv (fun ls' hl' => k H locs ls' hP hD hS hl')
theorem g_lstore (F : kF z cc own nL rm) {i : Nat} {x : Int64} {lv' : List (Nat × Value)} (hd : decode cc pc = .ok (.lstore i, 2)) (hi : Nat.ble (i + 1 + 1) nL = true) (hv : (i, Value.long x) :: lv.filter (fun q => !(q.1 == i) && (!(q.1 == i + 1) && !(q.1 + 1 == i && q.2.category == 2))) = lv') (k : kV z ws a b (pc + 2) lv' st) : kV z ws a b pc lv (.long x :: st) := fun H locs ls hP hD hS hl => lv_lstore F.1 F.2.1 hd hl (F.lt hi) hv (fun ls' hl' => k H locs ls' hP hD hS hl')
theorem g_lstore_n (F : kF z cc own nL rm) {q : Fin 4} {x : Int64} {lv' : List (Nat × Value)} (hd : decode cc pc = .ok (.lstore_n q, 1)) (hi : Nat.ble ((q : Nat) + 1 + 1) nL = true) (hv : ((q : Nat), Value.long x) :: lv.filter (fun p => !(p.1 == (q : Nat)) && (!(p.1 == (q : Nat) + 1) && !(p.1 + 1 == (q : Nat) && p.2.category == 2))) = lv') (k : kV z ws a b (pc + 1) lv' st) : kV z ws a b pc lv (.long x :: st) := fun H locs ls hP hD hS hl => lv_lstore_n F.1 F.2.1 hd rfl hl (F.lt hi) hv (fun ls' hl' => k H locs ls' hP hD hS hl')
theorem g_iinc (F : kF z cc own nL rm) {i : Nat} {n : Int} {x v : Int32} {lv' : List (Nat × Value)} (hd : decode cc pc = .ok (.iinc i n, 3)) (hi : Nat.ble (i + 1) nL = true) (j : Nat) (hj : lv[j]? = some (i, .int x)) {d : Int32} (hn : Int32.ofInt n = d) (he : x + d = v) (hv : (i, Value.int v) :: lv.filter (fun q => !(q.1 == i) && !(q.1 + 1 == i && q.2.category == 2)) = lv') (k : kV z ws a b (pc + 3) lv' st) : kV z ws a b pc lv st := fun H locs ls hP hD hS hl => lv_iinc F.1 F.2.1 hd hl hj (by rw [hn]; exact he) (F.lt hi) hv (fun ls' hl' => k H locs ls' hP hD hS hl')
theorem g_tableIn (F : kF z cc own nL rm) {dflt lo hi : Int} {offs : Array Int} {len : Nat} {x : Int32} {off : Int} {tgt : Nat} (hd : decode cc pc = .ok (.tableswitch dflt lo hi offs, len)) (c : Int32) (hx : x = c) (h : (!decide (c.toInt < lo) && !decide (hi < c.toInt) && decide (offs[(c.toInt - lo).toNat]? = some off)) = true) (ht : (pc : Int) + off = (tgt : Int)) (k : kV z ws a b tgt lv st) : kV z ws a b pc lv (.int x :: st) := fun H locs ls hP hD hS hl => by
  subst hx
  simp only [Bool.and_eq_true, Bool.not_eq_true', decide_eq_false_iff_not, decide_eq_true_eq] at h
  exact lv_tableIn F.1 F.2.1 hd h.1.1 h.1.2 h.2 ht (k H locs ls hP hD hS hl)
theorem g_tableOut (F : kF z cc own nL rm) {dflt lo hi : Int} {offs : Array Int} {len : Nat} {x : Int32} {tgt : Nat} (hd : decode cc pc = .ok (.tableswitch dflt lo hi offs, len)) (n : Nat) (hn : hi = lo + (n : Int) - 1) (h : ∀ j : Nat, j < n → ¬ x = Int32.ofInt (lo + (j : Int))) (ht : (pc : Int) + dflt = (tgt : Int)) (k : kV z ws a b tgt lv st) : kV z ws a b pc lv (.int x :: st) := fun H locs ls hP hD hS hl => by
  refine lv_tableOut F.1 F.2.1 hd ?_ ht (k H locs ls hP hD hS hl)
  rcases Int.lt_or_le x.toInt lo with q | q
  · exact Or.inl q
  · rcases Int.lt_or_le hi x.toInt with q2 | q2
    · exact Or.inr q2
    · exfalso
      refine h (x.toInt - lo).toNat (by omega) ?_
      rw [show lo + (((x.toInt - lo).toNat : Nat) : Int) = x.toInt by omega, Int32.ofInt_toInt]
theorem g_lookup (F : kF z cc own nL rm) {dflt : Int} {ps : Array (Int × Int)} {len : Nat} {x : Int32} {off : Int} {tgt : Nat} (hd : decode cc pc = .ok (.lookupswitch dflt ps, len)) (hp : (ps.toList.zip (ps.toList.drop 1)).all (fun (a, next) => a.1 < next.1) = true) (ho : Op.lookupswitch.offset ps.toList dflt x.toInt = off) (ht : (pc : Int) + off = (tgt : Int)) (k : kV z ws a b tgt lv st) : kV z ws a b pc lv (.int x :: st) := fun H locs ls hP hD hS hl => lv_lookup F.1 F.2.1 hd hp ho ht (k H locs ls hP hD hS hl)
/-! the ends -/
theorem g_iret (F : kF z cc own nL rm) {mc ms : Nat} {Ps : Option Value → va_W → Prop} {v : Int32} (R : kR z (some .int) mc ms Ps) (hk : Nat.ble a mc = true) (hn : Nat.ble b ms = true) (hd : decode cc pc = .ok (.ireturn, 1)) (h : Ps (some (.int v)) ws) : kV z ws a b pc lv [.int v] := fun H locs ls hP hD hS hl => by
  rw [R.2]
  exact W.widen (Nat.le_of_ble_eq_true hk) (Nat.le_of_ble_eq_true hn) (W.iret F.1 F.2.1 R.1 (fun t ht hW => ⟨⟨_, _, rfl, h, by rw [ht]; exact hP, hD⟩, hS.F ht⟩) hS.2.2 hd F.2.2.2.2.2.2.2.2.1)
theorem g_zret (F : kF z cc own nL rm) {mc ms : Nat} {Ps : Option Value → va_W → Prop} {v : Int32} {ty : FieldType} (R : kR z (some ty) mc ms Ps) (hz : narrow ty (.int v) = .int v) (hk : Nat.ble a mc = true) (hn : Nat.ble b ms = true) (hd : decode cc pc = .ok (.ireturn, 1)) (h : Ps (some (.int v)) ws) : kV z ws a b pc lv [.int v] := fun H locs ls hP hD hS hl => by
  rw [R.2]
  exact W.widen (Nat.le_of_ble_eq_true hk) (Nat.le_of_ble_eq_true hn) (W.zret F.1 F.2.1 R.1 hz (fun t ht hW => ⟨⟨_, _, rfl, h, by rw [ht]; exact hP, hD⟩, hS.F ht⟩) hS.2.2 hd F.2.2.2.2.2.2.2.2.1)
theorem g_lret (F : kF z cc own nL rm) {mc ms : Nat} {Ps : Option Value → va_W → Prop} {v : Int64} (R : kR z (some .long) mc ms Ps) (hk : Nat.ble a mc = true) (hn : Nat.ble b ms = true) (hd : decode cc pc = .ok (.lreturn, 1)) (h : Ps (some (.long v)) ws) : kV z ws a b pc lv [.long v] := fun H locs ls hP hD hS hl => by
  rw [R.2]
  exact W.widen (Nat.le_of_ble_eq_true hk) (Nat.le_of_ble_eq_true hn) (W.lret F.1 F.2.1 R.1 (fun t ht hW => ⟨⟨_, _, rfl, h, by rw [ht]; exact hP, hD⟩, hS.F ht⟩) hS.2.2 hd F.2.2.2.2.2.2.2.2.1)
theorem g_vret (F : kF z cc own nL rm) {mc ms : Nat} {Ps : Option Value → va_W → Prop} (R : kR z none mc ms Ps) (hk : Nat.ble a mc = true) (hn : Nat.ble b ms = true) (hd : decode cc pc = .ok (.return_, 1)) (h : Ps none ws) : kV z ws a b pc lv [] := fun H locs ls hP hD hS hl => by
  rw [R.2]
  exact W.widen (Nat.le_of_ble_eq_true hk) (Nat.le_of_ble_eq_true hn) (W.vret F.1 F.2.1 R.1 (fun t ht hW => ⟨⟨_, _, rfl, h, by rw [ht]; exact hP, hD⟩, hS.F ht⟩) hS.2.2 hd F.2.2.2.2.2.2.2.2.1)
theorem g_aret (F : kF z cc own nL rm) {mc ms : Nat} {Ps : Option Value → va_W → Prop} {v : Value} {rt : FieldType} (R : kR z (some rt) mc ms Ps) (hrt : (∃ n, rt = .object n) ∨ ∃ t, rt = .array t) (hv : v = .null ∨ ∃ q, v = .ref q) (hk : a ≤ mc) (hn : b ≤ ms) (hd : decode cc pc = .ok (.areturn, 1)) (h : Ps (some v) ws) : kV z ws a b pc lv [v] := fun H locs ls hP hD hS hl => by
  rw [R.2]
  exact W.widen hk hn (W.aret F.1 F.2.1 R.1 hrt hv (fun t ht hW => ⟨⟨_, _, rfl, h, by rw [ht]; exact hP, hD⟩, hS.F ht⟩) hS.2.2 hd F.2.2.2.2.2.2.2.2.1)
/-! calls -/
/-- what a call of this kind gives -/
def kCall (z : kZ) (ws : va_W) (a b pc mc ms : Nat) (lv : List (Nat × Value)) (st0 st : List Value) (Ps : Option Value → va_W → Prop) : Prop := (∀ (r : Option Value) (ws' : va_W), Ps r ws' → kV z ws' (a + mc) (b + ms) (pc + 3) lv (r.toList ++ st)) → kV z ws a b pc lv st0
theorem kWd.blind {g : kG} {A : Nat → Prop} {ws : va_W} {av : List Value} : FrameBlind (va_Pc av (kWd g A ws)) := fun v U f mk q => by
  obtain ⟨q0, qP, qK, qD, qA, qX⟩ := q
  exact ⟨q0, qP, va_K.moved (u := U) (U := U.calling f mk v) (Vm.Alike.refl U.vm) qK, qD, qA, kX.step (u := U) (U := U.calling f mk v) (State.WarmedH.refl U) (fun _ _ _ => rfl) qX⟩
theorem kWd.at (F : kF z cc own nL rm) {H : Heap} {locs : List Loc} (hP : va_P (zg z).1 vwCl ws H) (hD : va_D (zA z) ws) (hS : va_S (zA z) (zs z).heap H locs) (U : State) (hU : U.heap = H) (hW : (zs z).WarmedH U.vm) : kWd (zg z) (zA z) ws U :=
  ⟨by rw [hU]; exact hP, va_K.moved hW.alike F.2.2.2.2.2.1, hD, fun q hq => F.2.2.2.2.2.2.1 q (Nat.le_trans hS.1 (by rw [← hU]; exact hq)), by rw [hU]; exact kX.step hW (fun q h1 h2 => hS.2.1 q h1 h2) F.2.2.2.2.2.2.2.1⟩
theorem kBack {mc ms : Nat} {av : List Value} {Ps : Option Value → va_W → Prop} {st0 : List Value} (F : kF z cc own nL rm)
    (h : ∀ (H : Heap) (locs : List Loc) (ls : Array Slot), va_P (zg z).1 vwCl ws H → va_D (zA z) ws → va_S (zA z) (zs z).heap H locs → lv_has ls (zn z) lv → va_Run (zp z) (zl z) (ze z) (zR z) (zs z) (zm z) (za z) (zb z) (zM z) (zc z) H locs a b mc ms (F0 (zm z) pc ls st0) st (kQ (zg z) (zA z) Ps av.toArray) (zA z)) :
    kCall z ws a b pc mc ms lv st0 st Ps := by
  intro kk H locs ls hP hD hS hl T hT X
  obtain ⟨v, st₀, t, T', L, h0, X', hL, e1, e2, ⟨⟨r, ws', hv, hp, hb, hd⟩, hz, hk⟩, stp⟩ := h H locs ls hP hD hS hl T hT X
  cases hv
  rw [h0] at hz hk
  obtain ⟨t2, a1, b1⟩ := kk v ws' hp T'.heap (locs ++ L) ls (by rw [e1]; exact hb) hd
    ⟨Nat.le_trans hS.1 (by rw [e1]; exact hz), fun q h1 h2 => by rw [e1, hk q (Nat.lt_of_lt_of_le h1 hS.1) h2]; exact hS.2.1 q h1 h2, fun q hq => by
      rcases List.mem_append.mp hq with h | h
      · exact hS.2.2 q h
      · exact hL q h⟩ hl T' rfl X'
  exact ⟨t2, stp t2 a1, b1⟩
/-- the callee's room in the caller's, what is below the arguments small -/
def kFits (rm : Room) (fr lo mc ms maxL a b : Nat) (st : List Value) : Bool := Nat.ble (fr + 1) rm.frames && Nat.ble (8 + (maxL + 11) + lo) rm.locals && Nat.ble (a + mc) rm.cells && Nat.ble (b + ms) rm.slots && Nat.ble (st.map fun v => v.category).sum 8
theorem kFits_get {rm : Room} {fr lo mc ms maxL a b : Nat} {st : List Value} (h : kFits rm fr lo mc ms maxL a b st = true) : fr + 1 ≤ rm.frames ∧ 8 + (maxL + 11) + lo ≤ rm.locals ∧ a + mc ≤ rm.cells ∧ b + ms ≤ rm.slots ∧ (st.map fun v => v.category).sum ≤ 8 := by
  unfold kFits at h
  simp only [Bool.and_eq_true] at h
  exact ⟨Nat.le_of_ble_eq_true h.1.1.1.1, Nat.le_of_ble_eq_true h.1.1.1.2, Nat.le_of_ble_eq_true h.1.1.2, Nat.le_of_ble_eq_true h.1.2, Nat.le_of_ble_eq_true h.2⟩
def kPlain (y : MethodName) (n : Nat) : Bool := decide (y.cls ≠ "java/lang/invoke/MethodHandle") && decide (y.cls ≠ "java/lang/invoke/VarHandle") && decide ((parseMethodDescriptor y.desc).map (fun d => d.parameters.length) = some n)
theorem kPlain_get {y : MethodName} {n : Nat} (h : kPlain y n = true) : y.cls ≠ "java/lang/invoke/MethodHandle" ∧ y.cls ≠ "java/lang/invoke/VarHandle" ∧ (parseMethodDescriptor y.desc).map (fun d => d.parameters.length) = some n := by
  unfold kPlain at h
  simp only [Bool.and_eq_true, decide_eq_true_eq] at h
  exact ⟨h.1.1, h.1.2, h.2⟩
theorem g_callS (F : kF z cc own nL rm) {y : MethodName} {cy : ByteArray} {maxL : Nat} {ret : Option FieldType} {fr lo mc ms idx : Nat} {av : List Value} {Ps : Option Value → va_W → Prop} (hM : kCt (zl z) y cy maxL ret fr lo mc ms (zg z) (zA z) av ws Ps)
    (q1 : Cond.methodLink own idx y ∈ kWD) (q2 : Cond.static y ∈ kWD) (q3 : Cond.initialized y.cls ∈ kWD) (q4 : Cond.code y cy maxL ret ∈ kWD) (hp : kPlain y av.length = true) (hd : decode cc pc = .ok (.invokestatic idx, 3)) (hf : kFits rm fr lo mc ms maxL a b st = true) :
    kCall z ws a b pc mc ms lv (av.reverse ++ st) st Ps := by
  obtain ⟨f1, f2, f3, f4, f5⟩ := (kFits_get hf)
  refine kBack (av := av) F fun H locs ls hP hD hS hl => ?_
  have hx := F
  obtain ⟨e1, e2, e3, e4, e5, e6, e7, e8, e9, e10, e11⟩ := hx
  exact va_runS (own := own) (Ts := kWD) (nL := zn z) ⟨e1, e2, e3, e4, e5⟩ hM ⟨callB_of av.length e5 (kGood (fun w h => h) q4) rfl rfl rfl (e5 _ q3) (e5 _ q1) (kPlain_get hp) (by rw [e10]; exact ⟨f1, f2⟩), e5 _ q2⟩ ⟨kWd.blind, fun U hU hW => ⟨rfl, kWd.at F hP hD hS U hU hW⟩⟩ rfl rfl hl.1 rfl (lv_room f5) hd (by rw [e10]; exact ⟨f3, f4⟩)
theorem g_callSN (F : kF z cc own nL rm) {y : MethodName} {cy : ByteArray} {maxL : Nat} {ret : Option FieldType} {fr lo mc ms idx : Nat} {av : List Value} {host : String} {Ps : Option Value → va_W → Prop} (hM : kCt (zl z) y cy maxL ret fr lo mc ms (zg z) (zA z) av ws Ps)
    (q1 : va_Nw (.methodLinkNest own idx y host) (zs z)) (q2 : Cond.static y ∈ kWD) (q3 : Cond.initialized y.cls ∈ kWD) (q4 : Cond.code y cy maxL ret ∈ kWD) (hp : kPlain y av.length = true) (hd : decode cc pc = .ok (.invokestatic idx, 3)) (hf : kFits rm fr lo mc ms maxL a b st = true) :
    kCall z ws a b pc mc ms lv (av.reverse ++ st) st Ps := by
  obtain ⟨f1, f2, f3, f4, f5⟩ := (kFits_get hf)
  refine kBack (av := av) F fun H locs ls hP hD hS hl => ?_
  have hx := F
  obtain ⟨e1, e2, e3, e4, e5, e6, e7, e8, e9, e10, e11⟩ := hx
  exact va_runSN (own := own) (Ts := kWD) (nL := zn z) ⟨e1, e2, e3, e4, e5⟩ hM ⟨va_cnB av.length e5 (kGood (fun w h => h) q4) rfl rfl rfl q1 (e5 _ q3) (kPlain_get hp) (by rw [e10]; exact ⟨f1, f2⟩), e5 _ q2, trivial⟩ ⟨kWd.blind, fun U hU hW => ⟨rfl, kWd.at F hP hD hS U hU hW⟩⟩ rfl rfl hl.1 rfl (lv_room f5) hd (by rw [e10]; exact ⟨f3, f4⟩)
theorem g_callV (F : kF z cc own nL rm) {y : MethodName} {cy : ByteArray} {maxL : Nat} {ret : Option FieldType} {fr lo mc ms idx o q0 ci : Nat} {av : List Value} {q : vw_C} {fs : List Value} {Ps : Option Value → va_W → Prop} (hM : kCt (zl z) y cy maxL ret fr lo mc ms (zg z) (zA z) (.ref o :: av) ws Ps)
    (hc : vwCl[ci]? = some q) (he : ws[q0]? = some (o, .inr (ci, fs))) (hy : y.cls = q.1)
    (q1 : Cond.methodLink own idx y ∈ kWD) (q2 : Cond.instanceMethod y ∈ kWD) (q2s : Cond.selects q.1 y y ∈ kWD) (q3 : Cond.initialized q.1 ∈ kWD) (q4 : Cond.code y cy maxL ret ∈ kWD) (hp : kPlain y av.length = true) (hd : decode cc pc = .ok (.invokevirtual idx, 3)) (hf : kFits rm fr lo mc ms maxL a b st = true) :
    kCall z ws a b pc mc ms lv (av.reverse ++ .ref o :: st) st Ps := by
  obtain ⟨f1, f2, f3, f4, f5⟩ := (kFits_get hf)
  refine kBack (av := .ref o :: av) F fun H locs ls hP hD hS hl => ?_
  have hx := F
  obtain ⟨e1, e2, e3, e4, e5, e6, e7, e8, e9, e10, e11⟩ := hx
  exact va_runV (own := own) (C := q.1) (Ts := kWD) (nL := zn z) (b := o) (As := av) ⟨e1, e2, e3, e4, e5⟩ hM ⟨callB_of av.length e5 (kGood (fun w h => h) q4) rfl rfl rfl (by rw [hy]; exact e5 _ q3) (e5 _ q1) (kPlain_get hp) (by rw [e10]; exact ⟨f1, f2⟩), e5 _ q2, e5 _ q2s⟩ ⟨kWd.blind, va_recv e6 hP hc he, fun U hU hW => ⟨rfl, kWd.at F hP hD hS U hU hW⟩⟩ rfl rfl hl.1 rfl (lv_room f5) hd (by rw [e10]; exact ⟨f3, f4⟩)
theorem g_callI (F : kF z cc own nL rm) {y : MethodName} {cy : ByteArray} {maxL : Nat} {fr lo mc ms idx o : Nat} {av : List Value} {Ps : Option Value → va_W → Prop} (hM : kCt (zl z) y cy maxL none fr lo mc ms (zg z) (zA z) (.ref o :: av) ws Ps)
    (hy : y.name = "<init>") (q1 : Cond.methodLink own idx y ∈ kWD) (q2 : Cond.instanceMethod y ∈ kWD) (q3 : Cond.initialized y.cls ∈ kWD) (q4 : Cond.code y cy maxL none ∈ kWD) (hp : kPlain y av.length = true) (hd : decode cc pc = .ok (.invokespecial idx, 3)) (hf : kFits rm fr lo mc ms maxL a b st = true) :
    kCall z ws a b pc mc ms lv (av.reverse ++ .ref o :: st) st Ps := by
  obtain ⟨f1, f2, f3, f4, f5⟩ := (kFits_get hf)
  refine kBack (av := .ref o :: av) F fun H locs ls hP hD hS hl => ?_
  have hx := F
  obtain ⟨e1, e2, e3, e4, e5, e6, e7, e8, e9, e10, e11⟩ := hx
  exact va_runI (own := own) (Ts := kWD) (nL := zn z) (b := o) (As := av) ⟨e1, e2, e3, e4, e5⟩ hM ⟨callB_of av.length e5 (kGood (fun w h => h) q4) rfl rfl rfl (e5 _ q3) (e5 _ q1) (kPlain_get hp) (by rw [e10]; exact ⟨f1, f2⟩), hy, e5 _ q2⟩ ⟨kWd.blind, fun U hU hW => ⟨rfl, kWd.at F hP hD hS U hU hW⟩⟩ rfl rfl hl.1 rfl (lv_room f5) hd (by rw [e10]; exact ⟨f3, f4⟩)
theorem g_min (F : kF z cc own nL rm) {idx : Nat} {x y : Int32} (q1 : Cond.methodLink own idx Lib.Math.min.name ∈ kWD) (q2 : Cond.static Lib.Math.min.name ∈ kWD) (q3 : Cond.initialized "java/lang/Math" ∈ kWD) (q4 : Cond.code Lib.Math.min.name Lib.Math.min.code 2 (some .int) ∈ kWD) (hd : decode cc pc = .ok (.invokestatic idx, 3)) (hf : kFits rm 0 0 0 0 2 a b st = true) (k : kV z ws a b (pc + 3) lv (.int (if y < x then y else x) :: st)) : kV z ws a b pc lv (.int y :: .int x :: st) := fun H locs ls hP hD hS hl => by
  obtain ⟨f1, f2, f3, f4, f5⟩ := (kFits_get hf)
  have e10 := F.2.2.2.2.2.2.2.2.2.1
  exact va_mmin F.1 F.2.1 (F.2.2.1.trans hl.1.symm) F.2.2.2.1 (F.wd q1) (F.wd q2) (F.wd q3) (F.wd q4) (by rw [e10]; exact f1) (by rw [e10]; omega) (by rw [e10]; exact f3) (by rw [e10]; exact f4) hd (k H locs ls hP hD hS hl)
theorem g_max (F : kF z cc own nL rm) {idx : Nat} {x y : Int32} (q1 : Cond.methodLink own idx Lib.Math.max.name ∈ kWD) (q2 : Cond.static Lib.Math.max.name ∈ kWD) (q3 : Cond.initialized "java/lang/Math" ∈ kWD) (q4 : Cond.code Lib.Math.max.name Lib.Math.max.code 2 (some .int) ∈ kWD) (hd : decode cc pc = .ok (.invokestatic idx, 3)) (hf : kFits rm 0 0 0 0 2 a b st = true) (k : kV z ws a b (pc + 3) lv (.int (if x < y then y else x) :: st)) : kV z ws a b pc lv (.int y :: .int x :: st) := fun H locs ls hP hD hS hl => by
  obtain ⟨f1, f2, f3, f4, f5⟩ := (kFits_get hf)
  have e10 := F.2.2.2.2.2.2.2.2.2.1
  exact va_mmax F.1 F.2.1 (F.2.2.1.trans hl.1.symm) F.2.2.2.1 (F.wd q1) (F.wd q2) (F.wd q3) (F.wd q4) (by rw [e10]; exact f1) (by rw [e10]; omega) (by rw [e10]; exact f3) (by rw [e10]; exact f4) hd (k H locs ls hP hD hS hl)
theorem g_init0 (F : kF z cc own nL rm) {idx o : Nat} (q1 : Cond.methodLink own idx Lib.objectInit ∈ kWD) (q2 : Cond.instanceMethod Lib.objectInit ∈ kWD) (q4 : Cond.code Lib.objectInit ⟨#[0xb1]⟩ 1 none ∈ kWD) (hd : decode cc pc = .ok (.invokespecial idx, 3)) (hf : kFits rm 0 0 0 0 2 a b st = true) (k : kV z ws a b (pc + 3) lv st) : kV z ws a b pc lv (.ref o :: st) := fun H locs ls hP hD hS hl => by
  obtain ⟨f1, f2, f3, f4, f5⟩ := (kFits_get hf)
  have e10 := F.2.2.2.2.2.2.2.2.2.1
  exact W.objInit F.1 F.2.1 F.2.2.2.1 (F.wd q1) (F.wd q2) (F.wd q4) rfl (hl.1.trans F.2.2.1.symm) rfl hd (by rw [e10]; exact f1) (by rw [e10]; show 2 * 0 + _ + 12 ≤ _; omega) (k H locs ls hP hD hS hl)
end KROWS
end
