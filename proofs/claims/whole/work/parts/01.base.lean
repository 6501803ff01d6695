/-- a private method of a class that the tables say can be made, by its rows of tables_1 -/
def lw_okq (q : MethodName × Nat) : Prop := (q.1.cls ≠ "java/lang/invoke/MethodHandle" ∧ q.1.cls ≠ "java/lang/invoke/VarHandle") ∧ Cond.instantiable q.1.cls q.2 ∈ tables_1 ∧ Cond.privateMethod q.1 ∈ tables_1 ∧ Cond.instanceMethod q.1 ∈ tables_1
theorem lw_p0 : lw_okq (⟨"DrainedForAThird$Fen", "rowOf", "(I)[I"⟩, 13) := ⟨⟨by decide +kernel, by decide +kernel⟩, List.mem_of_getElem? (i := 23) (by decide +kernel), List.mem_of_getElem? (i := 192) (by decide +kernel), List.mem_of_getElem? (i := 193) (by decide +kernel)⟩
theorem lw_p1 : lw_okq (⟨"DrainedForAThird$Fen", "draws", "(II)I"⟩, 13) := ⟨⟨by decide +kernel, by decide +kernel⟩, List.mem_of_getElem? (i := 23) (by decide +kernel), List.mem_of_getElem? (i := 220) (by decide +kernel), List.mem_of_getElem? (i := 221) (by decide +kernel)⟩
theorem lw_p2 : lw_okq (⟨"DrainedForAThird", "ruleOf", "(LDrainedForAThird$Fen;)LDrainedForAThird$Text;"⟩, 9) := ⟨⟨by decide +kernel, by decide +kernel⟩, List.mem_of_getElem? (i := 15) (by decide +kernel), List.mem_of_getElem? (i := 227) (by decide +kernel), List.mem_of_getElem? (i := 228) (by decide +kernel)⟩
theorem lw_p3 : lw_okq (⟨"DrainedForAThird$Fen", "named", "(III)I"⟩, 13) := ⟨⟨by decide +kernel, by decide +kernel⟩, List.mem_of_getElem? (i := 23) (by decide +kernel), List.mem_of_getElem? (i := 243) (by decide +kernel), List.mem_of_getElem? (i := 244) (by decide +kernel)⟩
theorem lw_p4 : lw_okq (⟨"DrainedForAThird$Reader", "next", "()V"⟩, 9) := ⟨⟨by decide +kernel, by decide +kernel⟩, List.mem_of_getElem? (i := 92) (by decide +kernel), List.mem_of_getElem? (i := 278) (by decide +kernel), List.mem_of_getElem? (i := 279) (by decide +kernel)⟩
theorem lw_p5 : lw_okq (⟨"DrainedForAThird$Reader", "nextWord", "()V"⟩, 9) := ⟨⟨by decide +kernel, by decide +kernel⟩, List.mem_of_getElem? (i := 92) (by decide +kernel), List.mem_of_getElem? (i := 285) (by decide +kernel), List.mem_of_getElem? (i := 286) (by decide +kernel)⟩
theorem lw_p6 : lw_okq (⟨"DrainedForAThird$Reader", "nextNumber", "()V"⟩, 9) := ⟨⟨by decide +kernel, by decide +kernel⟩, List.mem_of_getElem? (i := 92) (by decide +kernel), List.mem_of_getElem? (i := 355) (by decide +kernel), List.mem_of_getElem? (i := 356) (by decide +kernel)⟩
theorem lw_p7 : lw_okq (⟨"DrainedForAThird$Reader", "readPart", "(I)[I"⟩, 9) := ⟨⟨by decide +kernel, by decide +kernel⟩, List.mem_of_getElem? (i := 92) (by decide +kernel), List.mem_of_getElem? (i := 362) (by decide +kernel), List.mem_of_getElem? (i := 363) (by decide +kernel)⟩
theorem lw_p8 : lw_okq (⟨"DrainedForAThird$Reader", "expect", "(I)V"⟩, 9) := ⟨⟨by decide +kernel, by decide +kernel⟩, List.mem_of_getElem? (i := 92) (by decide +kernel), List.mem_of_getElem? (i := 366) (by decide +kernel), List.mem_of_getElem? (i := 367) (by decide +kernel)⟩
theorem lw_p9 : lw_okq (⟨"DrainedForAThird$Reader", "fail", "()V"⟩, 9) := ⟨⟨by decide +kernel, by decide +kernel⟩, List.mem_of_getElem? (i := 92) (by decide +kernel), List.mem_of_getElem? (i := 370) (by decide +kernel), List.mem_of_getElem? (i := 371) (by decide +kernel)⟩
theorem lw_p10 : lw_okq (⟨"DrainedForAThird$Reader", "readEither", "(I)V"⟩, 9) := ⟨⟨by decide +kernel, by decide +kernel⟩, List.mem_of_getElem? (i := 92) (by decide +kernel), List.mem_of_getElem? (i := 374) (by decide +kernel), List.mem_of_getElem? (i := 375) (by decide +kernel)⟩
theorem lw_p11 : lw_okq (⟨"DrainedForAThird$Reader", "readBoth", "(I)V"⟩, 9) := ⟨⟨by decide +kernel, by decide +kernel⟩, List.mem_of_getElem? (i := 92) (by decide +kernel), List.mem_of_getElem? (i := 378) (by decide +kernel), List.mem_of_getElem? (i := 379) (by decide +kernel)⟩
theorem lw_p12 : lw_okq (⟨"DrainedForAThird$Reader", "readNot", "(I)V"⟩, 9) := ⟨⟨by decide +kernel, by decide +kernel⟩, List.mem_of_getElem? (i := 92) (by decide +kernel), List.mem_of_getElem? (i := 382) (by decide +kernel), List.mem_of_getElem? (i := 383) (by decide +kernel)⟩
theorem lw_p13 : lw_okq (⟨"DrainedForAThird$Reader", "emit", "(I)V"⟩, 9) := ⟨⟨by decide +kernel, by decide +kernel⟩, List.mem_of_getElem? (i := 92) (by decide +kernel), List.mem_of_getElem? (i := 386) (by decide +kernel), List.mem_of_getElem? (i := 387) (by decide +kernel)⟩
theorem lw_p14 : lw_okq (⟨"DrainedForAThird$Reader", "readSum", "(I)V"⟩, 9) := ⟨⟨by decide +kernel, by decide +kernel⟩, List.mem_of_getElem? (i := 92) (by decide +kernel), List.mem_of_getElem? (i := 390) (by decide +kernel), List.mem_of_getElem? (i := 391) (by decide +kernel)⟩
theorem lw_p15 : lw_okq (⟨"DrainedForAThird$Reader", "readTerm", "(I)V"⟩, 9) := ⟨⟨by decide +kernel, by decide +kernel⟩, List.mem_of_getElem? (i := 92) (by decide +kernel), List.mem_of_getElem? (i := 394) (by decide +kernel), List.mem_of_getElem? (i := 395) (by decide +kernel)⟩
def lw_privs_1 : List (MethodName × Nat) := [(⟨"DrainedForAThird$Fen", "rowOf", "(I)[I"⟩, 13), (⟨"DrainedForAThird$Fen", "draws", "(II)I"⟩, 13), (⟨"DrainedForAThird", "ruleOf", "(LDrainedForAThird$Fen;)LDrainedForAThird$Text;"⟩, 9), (⟨"DrainedForAThird$Fen", "named", "(III)I"⟩, 13), (⟨"DrainedForAThird$Reader", "next", "()V"⟩, 9), (⟨"DrainedForAThird$Reader", "nextWord", "()V"⟩, 9), (⟨"DrainedForAThird$Reader", "nextNumber", "()V"⟩, 9), (⟨"DrainedForAThird$Reader", "readPart", "(I)[I"⟩, 9), (⟨"DrainedForAThird$Reader", "expect", "(I)V"⟩, 9), (⟨"DrainedForAThird$Reader", "fail", "()V"⟩, 9), (⟨"DrainedForAThird$Reader", "readEither", "(I)V"⟩, 9), (⟨"DrainedForAThird$Reader", "readBoth", "(I)V"⟩, 9), (⟨"DrainedForAThird$Reader", "readNot", "(I)V"⟩, 9), (⟨"DrainedForAThird$Reader", "emit", "(I)V"⟩, 9), (⟨"DrainedForAThird$Reader", "readSum", "(I)V"⟩, 9), (⟨"DrainedForAThird$Reader", "readTerm", "(I)V"⟩, 9)]
theorem lw_r1 : ∀ q ∈ lw_privs_1, lw_okq q := List.forall_mem_cons.mpr ⟨lw_p0, List.forall_mem_cons.mpr ⟨lw_p1, List.forall_mem_cons.mpr ⟨lw_p2, List.forall_mem_cons.mpr ⟨lw_p3, List.forall_mem_cons.mpr ⟨lw_p4, List.forall_mem_cons.mpr ⟨lw_p5, List.forall_mem_cons.mpr ⟨lw_p6, List.forall_mem_cons.mpr ⟨lw_p7, List.forall_mem_cons.mpr ⟨lw_p8, List.forall_mem_cons.mpr ⟨lw_p9, List.forall_mem_cons.mpr ⟨lw_p10, List.forall_mem_cons.mpr ⟨lw_p11, List.forall_mem_cons.mpr ⟨lw_p12, List.forall_mem_cons.mpr ⟨lw_p13, List.forall_mem_cons.mpr ⟨lw_p14, List.forall_mem_cons.mpr ⟨lw_p15, fun _ h => absurd h List.not_mem_nil⟩⟩⟩⟩⟩⟩⟩⟩⟩⟩⟩⟩⟩⟩⟩⟩
theorem lw_p16 : lw_okq (⟨"DrainedForAThird$Reader", "readOne", "(I)V"⟩, 9) := ⟨⟨by decide +kernel, by decide +kernel⟩, List.mem_of_getElem? (i := 92) (by decide +kernel), List.mem_of_getElem? (i := 398) (by decide +kernel), List.mem_of_getElem? (i := 399) (by decide +kernel)⟩
theorem lw_p17 : lw_okq (⟨"DrainedForAThird$Fen", "rain", "(LDrainedForAThird$Text;)V"⟩, 13) := ⟨⟨by decide +kernel, by decide +kernel⟩, List.mem_of_getElem? (i := 23) (by decide +kernel), List.mem_of_getElem? (i := 429) (by decide +kernel), List.mem_of_getElem? (i := 430) (by decide +kernel)⟩
theorem lw_p18 : lw_okq (⟨"DrainedForAThird$Fen", "pour", "(II)V"⟩, 13) := ⟨⟨by decide +kernel, by decide +kernel⟩, List.mem_of_getElem? (i := 23) (by decide +kernel), List.mem_of_getElem? (i := 433) (by decide +kernel), List.mem_of_getElem? (i := 434) (by decide +kernel)⟩
theorem lw_p19 : lw_okq (⟨"DrainedForAThird$Fen", "flow", "()V"⟩, 13) := ⟨⟨by decide +kernel, by decide +kernel⟩, List.mem_of_getElem? (i := 23) (by decide +kernel), List.mem_of_getElem? (i := 437) (by decide +kernel), List.mem_of_getElem? (i := 438) (by decide +kernel)⟩
theorem lw_p20 : lw_okq (⟨"DrainedForAThird$Fen", "heldCells", "()I"⟩, 13) := ⟨⟨by decide +kernel, by decide +kernel⟩, List.mem_of_getElem? (i := 23) (by decide +kernel), List.mem_of_getElem? (i := 441) (by decide +kernel), List.mem_of_getElem? (i := 442) (by decide +kernel)⟩
theorem lw_p21 : lw_okq (⟨"DrainedForAThird$Fen", "meetRiver", "(Z)V"⟩, 13) := ⟨⟨by decide +kernel, by decide +kernel⟩, List.mem_of_getElem? (i := 23) (by decide +kernel), List.mem_of_getElem? (i := 452) (by decide +kernel), List.mem_of_getElem? (i := 453) (by decide +kernel)⟩
theorem lw_p22 : lw_okq (⟨"DrainedForAThird$Fen", "drain", "(LDrainedForAThird$Text;)V"⟩, 13) := ⟨⟨by decide +kernel, by decide +kernel⟩, List.mem_of_getElem? (i := 23) (by decide +kernel), List.mem_of_getElem? (i := 456) (by decide +kernel), List.mem_of_getElem? (i := 457) (by decide +kernel)⟩
theorem lw_p23 : lw_okq (⟨"DrainedForAThird$Fen", "drawFrom", "(II)V"⟩, 13) := ⟨⟨by decide +kernel, by decide +kernel⟩, List.mem_of_getElem? (i := 23) (by decide +kernel), List.mem_of_getElem? (i := 460) (by decide +kernel), List.mem_of_getElem? (i := 461) (by decide +kernel)⟩
theorem lw_p24 : lw_okq (⟨"DrainedForAThird$Fen", "shrink", "(LDrainedForAThird$Text;)V"⟩, 13) := ⟨⟨by decide +kernel, by decide +kernel⟩, List.mem_of_getElem? (i := 23) (by decide +kernel), List.mem_of_getElem? (i := 468) (by decide +kernel), List.mem_of_getElem? (i := 469) (by decide +kernel)⟩
theorem lw_p25 : lw_okq (⟨"DrainedForAThird", "thinkYears", "(I)V"⟩, 9) := ⟨⟨by decide +kernel, by decide +kernel⟩, List.mem_of_getElem? (i := 15) (by decide +kernel), List.mem_of_getElem? (i := 492) (by decide +kernel), List.mem_of_getElem? (i := 493) (by decide +kernel)⟩
theorem lw_p26 : lw_okq (⟨"DrainedForAThird", "think", "()V"⟩, 9) := ⟨⟨by decide +kernel, by decide +kernel⟩, List.mem_of_getElem? (i := 15) (by decide +kernel), List.mem_of_getElem? (i := 496) (by decide +kernel), List.mem_of_getElem? (i := 497) (by decide +kernel)⟩
theorem lw_p27 : lw_okq (⟨"DrainedForAThird", "judged", "(I)I"⟩, 9) := ⟨⟨by decide +kernel, by decide +kernel⟩, List.mem_of_getElem? (i := 15) (by decide +kernel), List.mem_of_getElem? (i := 505) (by decide +kernel), List.mem_of_getElem? (i := 506) (by decide +kernel)⟩
theorem lw_p28 : lw_okq (⟨"DrainedForAThird", "mostDry", "(I)I"⟩, 9) := ⟨⟨by decide +kernel, by decide +kernel⟩, List.mem_of_getElem? (i := 15) (by decide +kernel), List.mem_of_getElem? (i := 509) (by decide +kernel), List.mem_of_getElem? (i := 510) (by decide +kernel)⟩
theorem lw_p29 : lw_okq (⟨"DrainedForAThird", "firstDried", "(II)I"⟩, 9) := ⟨⟨by decide +kernel, by decide +kernel⟩, List.mem_of_getElem? (i := 15) (by decide +kernel), List.mem_of_getElem? (i := 514) (by decide +kernel), List.mem_of_getElem? (i := 515) (by decide +kernel)⟩
theorem lw_p30 : lw_okq (⟨"DrainedForAThird", "keptYears", "(I)I"⟩, 9) := ⟨⟨by decide +kernel, by decide +kernel⟩, List.mem_of_getElem? (i := 15) (by decide +kernel), List.mem_of_getElem? (i := 518) (by decide +kernel), List.mem_of_getElem? (i := 519) (by decide +kernel)⟩
theorem lw_p31 : lw_okq (⟨"DrainedForAThird", "dryBehind", "(I)I"⟩, 9) := ⟨⟨by decide +kernel, by decide +kernel⟩, List.mem_of_getElem? (i := 15) (by decide +kernel), List.mem_of_getElem? (i := 530) (by decide +kernel), List.mem_of_getElem? (i := 531) (by decide +kernel)⟩
def lw_privs_2 : List (MethodName × Nat) := [(⟨"DrainedForAThird$Reader", "readOne", "(I)V"⟩, 9), (⟨"DrainedForAThird$Fen", "rain", "(LDrainedForAThird$Text;)V"⟩, 13), (⟨"DrainedForAThird$Fen", "pour", "(II)V"⟩, 13), (⟨"DrainedForAThird$Fen", "flow", "()V"⟩, 13), (⟨"DrainedForAThird$Fen", "heldCells", "()I"⟩, 13), (⟨"DrainedForAThird$Fen", "meetRiver", "(Z)V"⟩, 13), (⟨"DrainedForAThird$Fen", "drain", "(LDrainedForAThird$Text;)V"⟩, 13), (⟨"DrainedForAThird$Fen", "drawFrom", "(II)V"⟩, 13), (⟨"DrainedForAThird$Fen", "shrink", "(LDrainedForAThird$Text;)V"⟩, 13), (⟨"DrainedForAThird", "thinkYears", "(I)V"⟩, 9), (⟨"DrainedForAThird", "think", "()V"⟩, 9), (⟨"DrainedForAThird", "judged", "(I)I"⟩, 9), (⟨"DrainedForAThird", "mostDry", "(I)I"⟩, 9), (⟨"DrainedForAThird", "firstDried", "(II)I"⟩, 9), (⟨"DrainedForAThird", "keptYears", "(I)I"⟩, 9), (⟨"DrainedForAThird", "dryBehind", "(I)I"⟩, 9)]
theorem lw_r2 : ∀ q ∈ lw_privs_2, lw_okq q := List.forall_mem_cons.mpr ⟨lw_p16, List.forall_mem_cons.mpr ⟨lw_p17, List.forall_mem_cons.mpr ⟨lw_p18, List.forall_mem_cons.mpr ⟨lw_p19, List.forall_mem_cons.mpr ⟨lw_p20, List.forall_mem_cons.mpr ⟨lw_p21, List.forall_mem_cons.mpr ⟨lw_p22, List.forall_mem_cons.mpr ⟨lw_p23, List.forall_mem_cons.mpr ⟨lw_p24, List.forall_mem_cons.mpr ⟨lw_p25, List.forall_mem_cons.mpr ⟨lw_p26, List.forall_mem_cons.mpr ⟨lw_p27, List.forall_mem_cons.mpr ⟨lw_p28, List.forall_mem_cons.mpr ⟨lw_p29, List.forall_mem_cons.mpr ⟨lw_p30, List.forall_mem_cons.mpr ⟨lw_p31, fun _ h => absurd h List.not_mem_nil⟩⟩⟩⟩⟩⟩⟩⟩⟩⟩⟩⟩⟩⟩⟩⟩
theorem lw_p32 : lw_okq (⟨"DrainedForAThird", "dryWithout", "(II)I"⟩, 9) := ⟨⟨by decide +kernel, by decide +kernel⟩, List.mem_of_getElem? (i := 15) (by decide +kernel), List.mem_of_getElem? (i := 539) (by decide +kernel), List.mem_of_getElem? (i := 540) (by decide +kernel)⟩
theorem lw_p33 : lw_okq (⟨"DrainedForAThird", "isOfTells", "(I)Z"⟩, 9) := ⟨⟨by decide +kernel, by decide +kernel⟩, List.mem_of_getElem? (i := 15) (by decide +kernel), List.mem_of_getElem? (i := 559) (by decide +kernel), List.mem_of_getElem? (i := 560) (by decide +kernel)⟩
theorem lw_p34 : lw_okq (⟨"DrainedForAThird", "firstOther", "(IIII)I"⟩, 9) := ⟨⟨by decide +kernel, by decide +kernel⟩, List.mem_of_getElem? (i := 15) (by decide +kernel), List.mem_of_getElem? (i := 572) (by decide +kernel), List.mem_of_getElem? (i := 573) (by decide +kernel)⟩
theorem lw_p35 : lw_okq (⟨"DrainedForAThird", "fitting", "(IIII)I"⟩, 9) := ⟨⟨by decide +kernel, by decide +kernel⟩, List.mem_of_getElem? (i := 15) (by decide +kernel), List.mem_of_getElem? (i := 585) (by decide +kernel), List.mem_of_getElem? (i := 586) (by decide +kernel)⟩
theorem lw_p36 : lw_okq (⟨"DrainedForAThird", "fittingRivers", "(I)I"⟩, 9) := ⟨⟨by decide +kernel, by decide +kernel⟩, List.mem_of_getElem? (i := 15) (by decide +kernel), List.mem_of_getElem? (i := 589) (by decide +kernel), List.mem_of_getElem? (i := 590) (by decide +kernel)⟩
theorem lw_p37 : lw_okq (⟨"DrainedForAThird", "highestFittingRiver", "(I)I"⟩, 9) := ⟨⟨by decide +kernel, by decide +kernel⟩, List.mem_of_getElem? (i := 15) (by decide +kernel), List.mem_of_getElem? (i := 593) (by decide +kernel), List.mem_of_getElem? (i := 594) (by decide +kernel)⟩
theorem lw_p38 : lw_okq (⟨"DrainedForAThird", "dryDrawn", "(II)I"⟩, 9) := ⟨⟨by decide +kernel, by decide +kernel⟩, List.mem_of_getElem? (i := 15) (by decide +kernel), List.mem_of_getElem? (i := 619) (by decide +kernel), List.mem_of_getElem? (i := 620) (by decide +kernel)⟩
theorem lw_p39 : lw_okq (⟨"DrainedForAThird", "comes", "(II)Z"⟩, 9) := ⟨⟨by decide +kernel, by decide +kernel⟩, List.mem_of_getElem? (i := 15) (by decide +kernel), List.mem_of_getElem? (i := 687) (by decide +kernel), List.mem_of_getElem? (i := 688) (by decide +kernel)⟩
theorem lw_p40 : lw_okq (⟨"DrainedForAThirdModel", "spell", "(IIIIIIIII)V"⟩, 45) := ⟨⟨by decide +kernel, by decide +kernel⟩, List.mem_of_getElem? (i := 700) (by decide +kernel), List.mem_of_getElem? (i := 706) (by decide +kernel), List.mem_of_getElem? (i := 707) (by decide +kernel)⟩
theorem lw_p41 : lw_okq (⟨"DrainedForAThirdModel", "isOf", "(II)Z"⟩, 45) := ⟨⟨by decide +kernel, by decide +kernel⟩, List.mem_of_getElem? (i := 700) (by decide +kernel), List.mem_of_getElem? (i := 854) (by decide +kernel), List.mem_of_getElem? (i := 855) (by decide +kernel)⟩
theorem lw_p42 : lw_okq (⟨"DrainedForAThirdModel", "isWork", "(I)Z"⟩, 45) := ⟨⟨by decide +kernel, by decide +kernel⟩, List.mem_of_getElem? (i := 700) (by decide +kernel), List.mem_of_getElem? (i := 862) (by decide +kernel), List.mem_of_getElem? (i := 863) (by decide +kernel)⟩
theorem lw_p43 : lw_okq (⟨"DrainedForAThirdModel", "drawsOf", "(II)I"⟩, 45) := ⟨⟨by decide +kernel, by decide +kernel⟩, List.mem_of_getElem? (i := 700) (by decide +kernel), List.mem_of_getElem? (i := 874) (by decide +kernel), List.mem_of_getElem? (i := 875) (by decide +kernel)⟩
theorem lw_p44 : lw_okq (⟨"DrainedForAThirdModel", "costsOf", "(I)I"⟩, 45) := ⟨⟨by decide +kernel, by decide +kernel⟩, List.mem_of_getElem? (i := 700) (by decide +kernel), List.mem_of_getElem? (i := 878) (by decide +kernel), List.mem_of_getElem? (i := 879) (by decide +kernel)⟩
theorem lw_p45 : lw_okq (⟨"DrainedForAThirdModel", "says", "(III)I"⟩, 45) := ⟨⟨by decide +kernel, by decide +kernel⟩, List.mem_of_getElem? (i := 700) (by decide +kernel), List.mem_of_getElem? (i := 882) (by decide +kernel), List.mem_of_getElem? (i := 883) (by decide +kernel)⟩
theorem lw_p46 : lw_okq (⟨"DrainedForAThirdModel", "read", "(II)I"⟩, 45) := ⟨⟨by decide +kernel, by decide +kernel⟩, List.mem_of_getElem? (i := 700) (by decide +kernel), List.mem_of_getElem? (i := 886) (by decide +kernel), List.mem_of_getElem? (i := 887) (by decide +kernel)⟩
theorem lw_p47 : lw_okq (⟨"DrainedForAThirdModel", "next", "()V"⟩, 45) := ⟨⟨by decide +kernel, by decide +kernel⟩, List.mem_of_getElem? (i := 700) (by decide +kernel), List.mem_of_getElem? (i := 890) (by decide +kernel), List.mem_of_getElem? (i := 891) (by decide +kernel)⟩
def lw_privs_3 : List (MethodName × Nat) := [(⟨"DrainedForAThird", "dryWithout", "(II)I"⟩, 9), (⟨"DrainedForAThird", "isOfTells", "(I)Z"⟩, 9), (⟨"DrainedForAThird", "firstOther", "(IIII)I"⟩, 9), (⟨"DrainedForAThird", "fitting", "(IIII)I"⟩, 9), (⟨"DrainedForAThird", "fittingRivers", "(I)I"⟩, 9), (⟨"DrainedForAThird", "highestFittingRiver", "(I)I"⟩, 9), (⟨"DrainedForAThird", "dryDrawn", "(II)I"⟩, 9), (⟨"DrainedForAThird", "comes", "(II)Z"⟩, 9), (⟨"DrainedForAThirdModel", "spell", "(IIIIIIIII)V"⟩, 45), (⟨"DrainedForAThirdModel", "isOf", "(II)Z"⟩, 45), (⟨"DrainedForAThirdModel", "isWork", "(I)Z"⟩, 45), (⟨"DrainedForAThirdModel", "drawsOf", "(II)I"⟩, 45), (⟨"DrainedForAThirdModel", "costsOf", "(I)I"⟩, 45), (⟨"DrainedForAThirdModel", "says", "(III)I"⟩, 45), (⟨"DrainedForAThirdModel", "read", "(II)I"⟩, 45), (⟨"DrainedForAThirdModel", "next", "()V"⟩, 45)]
theorem lw_r3 : ∀ q ∈ lw_privs_3, lw_okq q := List.forall_mem_cons.mpr ⟨lw_p32, List.forall_mem_cons.mpr ⟨lw_p33, List.forall_mem_cons.mpr ⟨lw_p34, List.forall_mem_cons.mpr ⟨lw_p35, List.forall_mem_cons.mpr ⟨lw_p36, List.forall_mem_cons.mpr ⟨lw_p37, List.forall_mem_cons.mpr ⟨lw_p38, List.forall_mem_cons.mpr ⟨lw_p39, List.forall_mem_cons.mpr ⟨lw_p40, List.forall_mem_cons.mpr ⟨lw_p41, List.forall_mem_cons.mpr ⟨lw_p42, List.forall_mem_cons.mpr ⟨lw_p43, List.forall_mem_cons.mpr ⟨lw_p44, List.forall_mem_cons.mpr ⟨lw_p45, List.forall_mem_cons.mpr ⟨lw_p46, List.forall_mem_cons.mpr ⟨lw_p47, fun _ h => absurd h List.not_mem_nil⟩⟩⟩⟩⟩⟩⟩⟩⟩⟩⟩⟩⟩⟩⟩⟩
theorem lw_p48 : lw_okq (⟨"DrainedForAThirdModel", "byteAt", "(I)I"⟩, 45) := ⟨⟨by decide +kernel, by decide +kernel⟩, List.mem_of_getElem? (i := 700) (by decide +kernel), List.mem_of_getElem? (i := 894) (by decide +kernel), List.mem_of_getElem? (i := 895) (by decide +kernel)⟩
theorem lw_p49 : lw_okq (⟨"DrainedForAThirdModel", "isWord", "(IIIIIIII)Z"⟩, 45) := ⟨⟨by decide +kernel, by decide +kernel⟩, List.mem_of_getElem? (i := 700) (by decide +kernel), List.mem_of_getElem? (i := 902) (by decide +kernel), List.mem_of_getElem? (i := 903) (by decide +kernel)⟩
theorem lw_p50 : lw_okq (⟨"DrainedForAThirdModel", "isLetter", "(II)Z"⟩, 45) := ⟨⟨by decide +kernel, by decide +kernel⟩, List.mem_of_getElem? (i := 700) (by decide +kernel), List.mem_of_getElem? (i := 906) (by decide +kernel), List.mem_of_getElem? (i := 907) (by decide +kernel)⟩
theorem lw_p51 : lw_okq (⟨"DrainedForAThirdModel", "part", "(Z)I"⟩, 45) := ⟨⟨by decide +kernel, by decide +kernel⟩, List.mem_of_getElem? (i := 700) (by decide +kernel), List.mem_of_getElem? (i := 910) (by decide +kernel), List.mem_of_getElem? (i := 911) (by decide +kernel)⟩
theorem lw_p52 : lw_okq (⟨"DrainedForAThirdModel", "fail", "()V"⟩, 45) := ⟨⟨by decide +kernel, by decide +kernel⟩, List.mem_of_getElem? (i := 700) (by decide +kernel), List.mem_of_getElem? (i := 914) (by decide +kernel), List.mem_of_getElem? (i := 915) (by decide +kernel)⟩
theorem lw_p53 : lw_okq (⟨"DrainedForAThirdModel", "either0", "()I"⟩, 45) := ⟨⟨by decide +kernel, by decide +kernel⟩, List.mem_of_getElem? (i := 700) (by decide +kernel), List.mem_of_getElem? (i := 918) (by decide +kernel), List.mem_of_getElem? (i := 919) (by decide +kernel)⟩
theorem lw_p54 : lw_okq (⟨"DrainedForAThirdModel", "both0", "()I"⟩, 45) := ⟨⟨by decide +kernel, by decide +kernel⟩, List.mem_of_getElem? (i := 700) (by decide +kernel), List.mem_of_getElem? (i := 922) (by decide +kernel), List.mem_of_getElem? (i := 923) (by decide +kernel)⟩
theorem lw_p55 : lw_okq (⟨"DrainedForAThirdModel", "not0", "()I"⟩, 45) := ⟨⟨by decide +kernel, by decide +kernel⟩, List.mem_of_getElem? (i := 700) (by decide +kernel), List.mem_of_getElem? (i := 926) (by decide +kernel), List.mem_of_getElem? (i := 927) (by decide +kernel)⟩
theorem lw_p56 : lw_okq (⟨"DrainedForAThirdModel", "opens", "()Z"⟩, 45) := ⟨⟨by decide +kernel, by decide +kernel⟩, List.mem_of_getElem? (i := 700) (by decide +kernel), List.mem_of_getElem? (i := 930) (by decide +kernel), List.mem_of_getElem? (i := 931) (by decide +kernel)⟩
theorem lw_p57 : lw_okq (⟨"DrainedForAThirdModel", "not1", "()I"⟩, 45) := ⟨⟨by decide +kernel, by decide +kernel⟩, List.mem_of_getElem? (i := 700) (by decide +kernel), List.mem_of_getElem? (i := 934) (by decide +kernel), List.mem_of_getElem? (i := 935) (by decide +kernel)⟩
theorem lw_p58 : lw_okq (⟨"DrainedForAThirdModel", "not2", "()I"⟩, 45) := ⟨⟨by decide +kernel, by decide +kernel⟩, List.mem_of_getElem? (i := 700) (by decide +kernel), List.mem_of_getElem? (i := 938) (by decide +kernel), List.mem_of_getElem? (i := 939) (by decide +kernel)⟩
theorem lw_p59 : lw_okq (⟨"DrainedForAThirdModel", "not3", "()I"⟩, 45) := ⟨⟨by decide +kernel, by decide +kernel⟩, List.mem_of_getElem? (i := 700) (by decide +kernel), List.mem_of_getElem? (i := 942) (by decide +kernel), List.mem_of_getElem? (i := 943) (by decide +kernel)⟩
theorem lw_p60 : lw_okq (⟨"DrainedForAThirdModel", "not4", "()I"⟩, 45) := ⟨⟨by decide +kernel, by decide +kernel⟩, List.mem_of_getElem? (i := 700) (by decide +kernel), List.mem_of_getElem? (i := 946) (by decide +kernel), List.mem_of_getElem? (i := 947) (by decide +kernel)⟩
theorem lw_p61 : lw_okq (⟨"DrainedForAThirdModel", "not5", "()I"⟩, 45) := ⟨⟨by decide +kernel, by decide +kernel⟩, List.mem_of_getElem? (i := 700) (by decide +kernel), List.mem_of_getElem? (i := 950) (by decide +kernel), List.mem_of_getElem? (i := 951) (by decide +kernel)⟩
theorem lw_p62 : lw_okq (⟨"DrainedForAThirdModel", "added5", "()I"⟩, 45) := ⟨⟨by decide +kernel, by decide +kernel⟩, List.mem_of_getElem? (i := 700) (by decide +kernel), List.mem_of_getElem? (i := 954) (by decide +kernel), List.mem_of_getElem? (i := 955) (by decide +kernel)⟩
theorem lw_p63 : lw_okq (⟨"DrainedForAThirdModel", "term5", "()I"⟩, 45) := ⟨⟨by decide +kernel, by decide +kernel⟩, List.mem_of_getElem? (i := 700) (by decide +kernel), List.mem_of_getElem? (i := 958) (by decide +kernel), List.mem_of_getElem? (i := 959) (by decide +kernel)⟩
def lw_privs_4 : List (MethodName × Nat) := [(⟨"DrainedForAThirdModel", "byteAt", "(I)I"⟩, 45), (⟨"DrainedForAThirdModel", "isWord", "(IIIIIIII)Z"⟩, 45), (⟨"DrainedForAThirdModel", "isLetter", "(II)Z"⟩, 45), (⟨"DrainedForAThirdModel", "part", "(Z)I"⟩, 45), (⟨"DrainedForAThirdModel", "fail", "()V"⟩, 45), (⟨"DrainedForAThirdModel", "either0", "()I"⟩, 45), (⟨"DrainedForAThirdModel", "both0", "()I"⟩, 45), (⟨"DrainedForAThirdModel", "not0", "()I"⟩, 45), (⟨"DrainedForAThirdModel", "opens", "()Z"⟩, 45), (⟨"DrainedForAThirdModel", "not1", "()I"⟩, 45), (⟨"DrainedForAThirdModel", "not2", "()I"⟩, 45), (⟨"DrainedForAThirdModel", "not3", "()I"⟩, 45), (⟨"DrainedForAThirdModel", "not4", "()I"⟩, 45), (⟨"DrainedForAThirdModel", "not5", "()I"⟩, 45), (⟨"DrainedForAThirdModel", "added5", "()I"⟩, 45), (⟨"DrainedForAThirdModel", "term5", "()I"⟩, 45)]
theorem lw_r4 : ∀ q ∈ lw_privs_4, lw_okq q := List.forall_mem_cons.mpr ⟨lw_p48, List.forall_mem_cons.mpr ⟨lw_p49, List.forall_mem_cons.mpr ⟨lw_p50, List.forall_mem_cons.mpr ⟨lw_p51, List.forall_mem_cons.mpr ⟨lw_p52, List.forall_mem_cons.mpr ⟨lw_p53, List.forall_mem_cons.mpr ⟨lw_p54, List.forall_mem_cons.mpr ⟨lw_p55, List.forall_mem_cons.mpr ⟨lw_p56, List.forall_mem_cons.mpr ⟨lw_p57, List.forall_mem_cons.mpr ⟨lw_p58, List.forall_mem_cons.mpr ⟨lw_p59, List.forall_mem_cons.mpr ⟨lw_p60, List.forall_mem_cons.mpr ⟨lw_p61, List.forall_mem_cons.mpr ⟨lw_p62, List.forall_mem_cons.mpr ⟨lw_p63, fun _ h => absurd h List.not_mem_nil⟩⟩⟩⟩⟩⟩⟩⟩⟩⟩⟩⟩⟩⟩⟩⟩
theorem lw_p64 : lw_okq (⟨"DrainedForAThirdModel", "atom5", "()I"⟩, 45) := ⟨⟨by decide +kernel, by decide +kernel⟩, List.mem_of_getElem? (i := 700) (by decide +kernel), List.mem_of_getElem? (i := 962) (by decide +kernel), List.mem_of_getElem? (i := 963) (by decide +kernel)⟩
theorem lw_p65 : lw_okq (⟨"DrainedForAThirdModel", "isSign", "(I)Z"⟩, 45) := ⟨⟨by decide +kernel, by decide +kernel⟩, List.mem_of_getElem? (i := 700) (by decide +kernel), List.mem_of_getElem? (i := 966) (by decide +kernel), List.mem_of_getElem? (i := 967) (by decide +kernel)⟩
theorem lw_p66 : lw_okq (⟨"DrainedForAThirdModel", "name", "()I"⟩, 45) := ⟨⟨by decide +kernel, by decide +kernel⟩, List.mem_of_getElem? (i := 700) (by decide +kernel), List.mem_of_getElem? (i := 970) (by decide +kernel), List.mem_of_getElem? (i := 971) (by decide +kernel)⟩
theorem lw_p67 : lw_okq (⟨"DrainedForAThirdModel", "added4", "()I"⟩, 45) := ⟨⟨by decide +kernel, by decide +kernel⟩, List.mem_of_getElem? (i := 700) (by decide +kernel), List.mem_of_getElem? (i := 976) (by decide +kernel), List.mem_of_getElem? (i := 977) (by decide +kernel)⟩
theorem lw_p68 : lw_okq (⟨"DrainedForAThirdModel", "term4", "()I"⟩, 45) := ⟨⟨by decide +kernel, by decide +kernel⟩, List.mem_of_getElem? (i := 700) (by decide +kernel), List.mem_of_getElem? (i := 980) (by decide +kernel), List.mem_of_getElem? (i := 981) (by decide +kernel)⟩
theorem lw_p69 : lw_okq (⟨"DrainedForAThirdModel", "atom4", "()I"⟩, 45) := ⟨⟨by decide +kernel, by decide +kernel⟩, List.mem_of_getElem? (i := 700) (by decide +kernel), List.mem_of_getElem? (i := 984) (by decide +kernel), List.mem_of_getElem? (i := 985) (by decide +kernel)⟩
theorem lw_p70 : lw_okq (⟨"DrainedForAThirdModel", "either5", "()I"⟩, 45) := ⟨⟨by decide +kernel, by decide +kernel⟩, List.mem_of_getElem? (i := 700) (by decide +kernel), List.mem_of_getElem? (i := 988) (by decide +kernel), List.mem_of_getElem? (i := 989) (by decide +kernel)⟩
theorem lw_p71 : lw_okq (⟨"DrainedForAThirdModel", "both5", "()I"⟩, 45) := ⟨⟨by decide +kernel, by decide +kernel⟩, List.mem_of_getElem? (i := 700) (by decide +kernel), List.mem_of_getElem? (i := 992) (by decide +kernel), List.mem_of_getElem? (i := 993) (by decide +kernel)⟩
theorem lw_p72 : lw_okq (⟨"DrainedForAThirdModel", "added3", "()I"⟩, 45) := ⟨⟨by decide +kernel, by decide +kernel⟩, List.mem_of_getElem? (i := 700) (by decide +kernel), List.mem_of_getElem? (i := 996) (by decide +kernel), List.mem_of_getElem? (i := 997) (by decide +kernel)⟩
theorem lw_p73 : lw_okq (⟨"DrainedForAThirdModel", "term3", "()I"⟩, 45) := ⟨⟨by decide +kernel, by decide +kernel⟩, List.mem_of_getElem? (i := 700) (by decide +kernel), List.mem_of_getElem? (i := 1000) (by decide +kernel), List.mem_of_getElem? (i := 1001) (by decide +kernel)⟩
theorem lw_p74 : lw_okq (⟨"DrainedForAThirdModel", "atom3", "()I"⟩, 45) := ⟨⟨by decide +kernel, by decide +kernel⟩, List.mem_of_getElem? (i := 700) (by decide +kernel), List.mem_of_getElem? (i := 1004) (by decide +kernel), List.mem_of_getElem? (i := 1005) (by decide +kernel)⟩
theorem lw_p75 : lw_okq (⟨"DrainedForAThirdModel", "either4", "()I"⟩, 45) := ⟨⟨by decide +kernel, by decide +kernel⟩, List.mem_of_getElem? (i := 700) (by decide +kernel), List.mem_of_getElem? (i := 1008) (by decide +kernel), List.mem_of_getElem? (i := 1009) (by decide +kernel)⟩
theorem lw_p76 : lw_okq (⟨"DrainedForAThirdModel", "both4", "()I"⟩, 45) := ⟨⟨by decide +kernel, by decide +kernel⟩, List.mem_of_getElem? (i := 700) (by decide +kernel), List.mem_of_getElem? (i := 1012) (by decide +kernel), List.mem_of_getElem? (i := 1013) (by decide +kernel)⟩
theorem lw_p77 : lw_okq (⟨"DrainedForAThirdModel", "added2", "()I"⟩, 45) := ⟨⟨by decide +kernel, by decide +kernel⟩, List.mem_of_getElem? (i := 700) (by decide +kernel), List.mem_of_getElem? (i := 1016) (by decide +kernel), List.mem_of_getElem? (i := 1017) (by decide +kernel)⟩
theorem lw_p78 : lw_okq (⟨"DrainedForAThirdModel", "term2", "()I"⟩, 45) := ⟨⟨by decide +kernel, by decide +kernel⟩, List.mem_of_getElem? (i := 700) (by decide +kernel), List.mem_of_getElem? (i := 1020) (by decide +kernel), List.mem_of_getElem? (i := 1021) (by decide +kernel)⟩
theorem lw_p79 : lw_okq (⟨"DrainedForAThirdModel", "atom2", "()I"⟩, 45) := ⟨⟨by decide +kernel, by decide +kernel⟩, List.mem_of_getElem? (i := 700) (by decide +kernel), List.mem_of_getElem? (i := 1024) (by decide +kernel), List.mem_of_getElem? (i := 1025) (by decide +kernel)⟩
def lw_privs_5 : List (MethodName × Nat) := [(⟨"DrainedForAThirdModel", "atom5", "()I"⟩, 45), (⟨"DrainedForAThirdModel", "isSign", "(I)Z"⟩, 45), (⟨"DrainedForAThirdModel", "name", "()I"⟩, 45), (⟨"DrainedForAThirdModel", "added4", "()I"⟩, 45), (⟨"DrainedForAThirdModel", "term4", "()I"⟩, 45), (⟨"DrainedForAThirdModel", "atom4", "()I"⟩, 45), (⟨"DrainedForAThirdModel", "either5", "()I"⟩, 45), (⟨"DrainedForAThirdModel", "both5", "()I"⟩, 45), (⟨"DrainedForAThirdModel", "added3", "()I"⟩, 45), (⟨"DrainedForAThirdModel", "term3", "()I"⟩, 45), (⟨"DrainedForAThirdModel", "atom3", "()I"⟩, 45), (⟨"DrainedForAThirdModel", "either4", "()I"⟩, 45), (⟨"DrainedForAThirdModel", "both4", "()I"⟩, 45), (⟨"DrainedForAThirdModel", "added2", "()I"⟩, 45), (⟨"DrainedForAThirdModel", "term2", "()I"⟩, 45), (⟨"DrainedForAThirdModel", "atom2", "()I"⟩, 45)]
theorem lw_r5 : ∀ q ∈ lw_privs_5, lw_okq q := List.forall_mem_cons.mpr ⟨lw_p64, List.forall_mem_cons.mpr ⟨lw_p65, List.forall_mem_cons.mpr ⟨lw_p66, List.forall_mem_cons.mpr ⟨lw_p67, List.forall_mem_cons.mpr ⟨lw_p68, List.forall_mem_cons.mpr ⟨lw_p69, List.forall_mem_cons.mpr ⟨lw_p70, List.forall_mem_cons.mpr ⟨lw_p71, List.forall_mem_cons.mpr ⟨lw_p72, List.forall_mem_cons.mpr ⟨lw_p73, List.forall_mem_cons.mpr ⟨lw_p74, List.forall_mem_cons.mpr ⟨lw_p75, List.forall_mem_cons.mpr ⟨lw_p76, List.forall_mem_cons.mpr ⟨lw_p77, List.forall_mem_cons.mpr ⟨lw_p78, List.forall_mem_cons.mpr ⟨lw_p79, fun _ h => absurd h List.not_mem_nil⟩⟩⟩⟩⟩⟩⟩⟩⟩⟩⟩⟩⟩⟩⟩⟩
theorem lw_p80 : lw_okq (⟨"DrainedForAThirdModel", "either3", "()I"⟩, 45) := ⟨⟨by decide +kernel, by decide +kernel⟩, List.mem_of_getElem? (i := 700) (by decide +kernel), List.mem_of_getElem? (i := 1028) (by decide +kernel), List.mem_of_getElem? (i := 1029) (by decide +kernel)⟩
theorem lw_p81 : lw_okq (⟨"DrainedForAThirdModel", "both3", "()I"⟩, 45) := ⟨⟨by decide +kernel, by decide +kernel⟩, List.mem_of_getElem? (i := 700) (by decide +kernel), List.mem_of_getElem? (i := 1032) (by decide +kernel), List.mem_of_getElem? (i := 1033) (by decide +kernel)⟩
theorem lw_p82 : lw_okq (⟨"DrainedForAThirdModel", "added1", "()I"⟩, 45) := ⟨⟨by decide +kernel, by decide +kernel⟩, List.mem_of_getElem? (i := 700) (by decide +kernel), List.mem_of_getElem? (i := 1036) (by decide +kernel), List.mem_of_getElem? (i := 1037) (by decide +kernel)⟩
theorem lw_p83 : lw_okq (⟨"DrainedForAThirdModel", "term1", "()I"⟩, 45) := ⟨⟨by decide +kernel, by decide +kernel⟩, List.mem_of_getElem? (i := 700) (by decide +kernel), List.mem_of_getElem? (i := 1040) (by decide +kernel), List.mem_of_getElem? (i := 1041) (by decide +kernel)⟩
theorem lw_p84 : lw_okq (⟨"DrainedForAThirdModel", "atom1", "()I"⟩, 45) := ⟨⟨by decide +kernel, by decide +kernel⟩, List.mem_of_getElem? (i := 700) (by decide +kernel), List.mem_of_getElem? (i := 1044) (by decide +kernel), List.mem_of_getElem? (i := 1045) (by decide +kernel)⟩
theorem lw_p85 : lw_okq (⟨"DrainedForAThirdModel", "either2", "()I"⟩, 45) := ⟨⟨by decide +kernel, by decide +kernel⟩, List.mem_of_getElem? (i := 700) (by decide +kernel), List.mem_of_getElem? (i := 1048) (by decide +kernel), List.mem_of_getElem? (i := 1049) (by decide +kernel)⟩
theorem lw_p86 : lw_okq (⟨"DrainedForAThirdModel", "both2", "()I"⟩, 45) := ⟨⟨by decide +kernel, by decide +kernel⟩, List.mem_of_getElem? (i := 700) (by decide +kernel), List.mem_of_getElem? (i := 1052) (by decide +kernel), List.mem_of_getElem? (i := 1053) (by decide +kernel)⟩
theorem lw_p87 : lw_okq (⟨"DrainedForAThirdModel", "added0", "()I"⟩, 45) := ⟨⟨by decide +kernel, by decide +kernel⟩, List.mem_of_getElem? (i := 700) (by decide +kernel), List.mem_of_getElem? (i := 1056) (by decide +kernel), List.mem_of_getElem? (i := 1057) (by decide +kernel)⟩
theorem lw_p88 : lw_okq (⟨"DrainedForAThirdModel", "term0", "()I"⟩, 45) := ⟨⟨by decide +kernel, by decide +kernel⟩, List.mem_of_getElem? (i := 700) (by decide +kernel), List.mem_of_getElem? (i := 1060) (by decide +kernel), List.mem_of_getElem? (i := 1061) (by decide +kernel)⟩
theorem lw_p89 : lw_okq (⟨"DrainedForAThirdModel", "atom0", "()I"⟩, 45) := ⟨⟨by decide +kernel, by decide +kernel⟩, List.mem_of_getElem? (i := 700) (by decide +kernel), List.mem_of_getElem? (i := 1064) (by decide +kernel), List.mem_of_getElem? (i := 1065) (by decide +kernel)⟩
theorem lw_p90 : lw_okq (⟨"DrainedForAThirdModel", "either1", "()I"⟩, 45) := ⟨⟨by decide +kernel, by decide +kernel⟩, List.mem_of_getElem? (i := 700) (by decide +kernel), List.mem_of_getElem? (i := 1068) (by decide +kernel), List.mem_of_getElem? (i := 1069) (by decide +kernel)⟩
theorem lw_p91 : lw_okq (⟨"DrainedForAThirdModel", "both1", "()I"⟩, 45) := ⟨⟨by decide +kernel, by decide +kernel⟩, List.mem_of_getElem? (i := 700) (by decide +kernel), List.mem_of_getElem? (i := 1072) (by decide +kernel), List.mem_of_getElem? (i := 1073) (by decide +kernel)⟩
theorem lw_p92 : lw_okq (⟨"DrainedForAThirdModel", "lays", "(III)V"⟩, 45) := ⟨⟨by decide +kernel, by decide +kernel⟩, List.mem_of_getElem? (i := 700) (by decide +kernel), List.mem_of_getElem? (i := 1079) (by decide +kernel), List.mem_of_getElem? (i := 1080) (by decide +kernel)⟩
theorem lw_p93 : lw_okq (⟨"DrainedForAThirdModel", "comes", "(III)V"⟩, 45) := ⟨⟨by decide +kernel, by decide +kernel⟩, List.mem_of_getElem? (i := 700) (by decide +kernel), List.mem_of_getElem? (i := 1089) (by decide +kernel), List.mem_of_getElem? (i := 1090) (by decide +kernel)⟩
theorem lw_p94 : lw_okq (⟨"DrainedForAThirdModel", "standOn", "(I)I"⟩, 45) := ⟨⟨by decide +kernel, by decide +kernel⟩, List.mem_of_getElem? (i := 700) (by decide +kernel), List.mem_of_getElem? (i := 1111) (by decide +kernel), List.mem_of_getElem? (i := 1112) (by decide +kernel)⟩
theorem lw_p95 : lw_okq (⟨"DrainedForAThirdModel", "lives", "()V"⟩, 45) := ⟨⟨by decide +kernel, by decide +kernel⟩, List.mem_of_getElem? (i := 700) (by decide +kernel), List.mem_of_getElem? (i := 1119) (by decide +kernel), List.mem_of_getElem? (i := 1120) (by decide +kernel)⟩
def lw_privs_6 : List (MethodName × Nat) := [(⟨"DrainedForAThirdModel", "either3", "()I"⟩, 45), (⟨"DrainedForAThirdModel", "both3", "()I"⟩, 45), (⟨"DrainedForAThirdModel", "added1", "()I"⟩, 45), (⟨"DrainedForAThirdModel", "term1", "()I"⟩, 45), (⟨"DrainedForAThirdModel", "atom1", "()I"⟩, 45), (⟨"DrainedForAThirdModel", "either2", "()I"⟩, 45), (⟨"DrainedForAThirdModel", "both2", "()I"⟩, 45), (⟨"DrainedForAThirdModel", "added0", "()I"⟩, 45), (⟨"DrainedForAThirdModel", "term0", "()I"⟩, 45), (⟨"DrainedForAThirdModel", "atom0", "()I"⟩, 45), (⟨"DrainedForAThirdModel", "either1", "()I"⟩, 45), (⟨"DrainedForAThirdModel", "both1", "()I"⟩, 45), (⟨"DrainedForAThirdModel", "lays", "(III)V"⟩, 45), (⟨"DrainedForAThirdModel", "comes", "(III)V"⟩, 45), (⟨"DrainedForAThirdModel", "standOn", "(I)I"⟩, 45), (⟨"DrainedForAThirdModel", "lives", "()V"⟩, 45)]
theorem lw_r6 : ∀ q ∈ lw_privs_6, lw_okq q := List.forall_mem_cons.mpr ⟨lw_p80, List.forall_mem_cons.mpr ⟨lw_p81, List.forall_mem_cons.mpr ⟨lw_p82, List.forall_mem_cons.mpr ⟨lw_p83, List.forall_mem_cons.mpr ⟨lw_p84, List.forall_mem_cons.mpr ⟨lw_p85, List.forall_mem_cons.mpr ⟨lw_p86, List.forall_mem_cons.mpr ⟨lw_p87, List.forall_mem_cons.mpr ⟨lw_p88, List.forall_mem_cons.mpr ⟨lw_p89, List.forall_mem_cons.mpr ⟨lw_p90, List.forall_mem_cons.mpr ⟨lw_p91, List.forall_mem_cons.mpr ⟨lw_p92, List.forall_mem_cons.mpr ⟨lw_p93, List.forall_mem_cons.mpr ⟨lw_p94, List.forall_mem_cons.mpr ⟨lw_p95, fun _ h => absurd h List.not_mem_nil⟩⟩⟩⟩⟩⟩⟩⟩⟩⟩⟩⟩⟩⟩⟩⟩
theorem lw_p96 : lw_okq (⟨"DrainedForAThirdModel", "adds", "(II)V"⟩, 45) := ⟨⟨by decide +kernel, by decide +kernel⟩, List.mem_of_getElem? (i := 700) (by decide +kernel), List.mem_of_getElem? (i := 1123) (by decide +kernel), List.mem_of_getElem? (i := 1124) (by decide +kernel)⟩
theorem lw_p97 : lw_okq (⟨"DrainedForAThirdModel", "levelOf", "(I)I"⟩, 45) := ⟨⟨by decide +kernel, by decide +kernel⟩, List.mem_of_getElem? (i := 700) (by decide +kernel), List.mem_of_getElem? (i := 1127) (by decide +kernel), List.mem_of_getElem? (i := 1128) (by decide +kernel)⟩
theorem lw_p98 : lw_okq (⟨"DrainedForAThirdModel", "isHeld", "(I)Z"⟩, 45) := ⟨⟨by decide +kernel, by decide +kernel⟩, List.mem_of_getElem? (i := 700) (by decide +kernel), List.mem_of_getElem? (i := 1131) (by decide +kernel), List.mem_of_getElem? (i := 1132) (by decide +kernel)⟩
theorem lw_p99 : lw_okq (⟨"DrainedForAThirdModel", "draws", "(II)V"⟩, 45) := ⟨⟨by decide +kernel, by decide +kernel⟩, List.mem_of_getElem? (i := 700) (by decide +kernel), List.mem_of_getElem? (i := 1135) (by decide +kernel), List.mem_of_getElem? (i := 1136) (by decide +kernel)⟩
theorem lw_p100 : lw_okq (⟨"DrainedForAThirdModel", "drySet", "()I"⟩, 45) := ⟨⟨by decide +kernel, by decide +kernel⟩, List.mem_of_getElem? (i := 700) (by decide +kernel), List.mem_of_getElem? (i := 1139) (by decide +kernel), List.mem_of_getElem? (i := 1140) (by decide +kernel)⟩
theorem lw_p101 : lw_okq (⟨"DrainedForAThirdModel", "runs", "(IZI)V"⟩, 45) := ⟨⟨by decide +kernel, by decide +kernel⟩, List.mem_of_getElem? (i := 700) (by decide +kernel), List.mem_of_getElem? (i := 1153) (by decide +kernel), List.mem_of_getElem? (i := 1154) (by decide +kernel)⟩
theorem lw_p102 : lw_okq (⟨"DrainedForAThirdModel", "judged", "(I)I"⟩, 45) := ⟨⟨by decide +kernel, by decide +kernel⟩, List.mem_of_getElem? (i := 700) (by decide +kernel), List.mem_of_getElem? (i := 1158) (by decide +kernel), List.mem_of_getElem? (i := 1159) (by decide +kernel)⟩
theorem lw_p103 : lw_okq (⟨"DrainedForAThirdModel", "kept", "(I)I"⟩, 45) := ⟨⟨by decide +kernel, by decide +kernel⟩, List.mem_of_getElem? (i := 700) (by decide +kernel), List.mem_of_getElem? (i := 1162) (by decide +kernel), List.mem_of_getElem? (i := 1163) (by decide +kernel)⟩
theorem lw_p104 : lw_okq (⟨"DrainedForAThirdModel", "dryBehind", "(I)I"⟩, 45) := ⟨⟨by decide +kernel, by decide +kernel⟩, List.mem_of_getElem? (i := 700) (by decide +kernel), List.mem_of_getElem? (i := 1176) (by decide +kernel), List.mem_of_getElem? (i := 1177) (by decide +kernel)⟩
theorem lw_p105 : lw_okq (⟨"DrainedForAThirdModel", "dryWithout", "(II)I"⟩, 45) := ⟨⟨by decide +kernel, by decide +kernel⟩, List.mem_of_getElem? (i := 700) (by decide +kernel), List.mem_of_getElem? (i := 1184) (by decide +kernel), List.mem_of_getElem? (i := 1185) (by decide +kernel)⟩
theorem lw_p106 : lw_okq (⟨"DrainedForAThirdModel", "firstOther", "(I)I"⟩, 45) := ⟨⟨by decide +kernel, by decide +kernel⟩, List.mem_of_getElem? (i := 700) (by decide +kernel), List.mem_of_getElem? (i := 1204) (by decide +kernel), List.mem_of_getElem? (i := 1205) (by decide +kernel)⟩
theorem lw_p107 : lw_okq (⟨"DrainedForAThirdModel", "dryBy", "(II)I"⟩, 45) := ⟨⟨by decide +kernel, by decide +kernel⟩, List.mem_of_getElem? (i := 700) (by decide +kernel), List.mem_of_getElem? (i := 1222) (by decide +kernel), List.mem_of_getElem? (i := 1223) (by decide +kernel)⟩
def lw_privs_7 : List (MethodName × Nat) := [(⟨"DrainedForAThirdModel", "adds", "(II)V"⟩, 45), (⟨"DrainedForAThirdModel", "levelOf", "(I)I"⟩, 45), (⟨"DrainedForAThirdModel", "isHeld", "(I)Z"⟩, 45), (⟨"DrainedForAThirdModel", "draws", "(II)V"⟩, 45), (⟨"DrainedForAThirdModel", "drySet", "()I"⟩, 45), (⟨"DrainedForAThirdModel", "runs", "(IZI)V"⟩, 45), (⟨"DrainedForAThirdModel", "judged", "(I)I"⟩, 45), (⟨"DrainedForAThirdModel", "kept", "(I)I"⟩, 45), (⟨"DrainedForAThirdModel", "dryBehind", "(I)I"⟩, 45), (⟨"DrainedForAThirdModel", "dryWithout", "(II)I"⟩, 45), (⟨"DrainedForAThirdModel", "firstOther", "(I)I"⟩, 45), (⟨"DrainedForAThirdModel", "dryBy", "(II)I"⟩, 45)]
theorem lw_r7 : ∀ q ∈ lw_privs_7, lw_okq q := List.forall_mem_cons.mpr ⟨lw_p96, List.forall_mem_cons.mpr ⟨lw_p97, List.forall_mem_cons.mpr ⟨lw_p98, List.forall_mem_cons.mpr ⟨lw_p99, List.forall_mem_cons.mpr ⟨lw_p100, List.forall_mem_cons.mpr ⟨lw_p101, List.forall_mem_cons.mpr ⟨lw_p102, List.forall_mem_cons.mpr ⟨lw_p103, List.forall_mem_cons.mpr ⟨lw_p104, List.forall_mem_cons.mpr ⟨lw_p105, List.forall_mem_cons.mpr ⟨lw_p106, List.forall_mem_cons.mpr ⟨lw_p107, fun _ h => absurd h List.not_mem_nil⟩⟩⟩⟩⟩⟩⟩⟩⟩⟩⟩⟩
def lw_privs : List (MethodName × Nat) := lw_privs_1 ++ (lw_privs_2 ++ (lw_privs_3 ++ (lw_privs_4 ++ (lw_privs_5 ++ (lw_privs_6 ++ (lw_privs_7))))))
def lw_tbl : List Cond := k2_sels lw_privs ++ tables_1
theorem lw_privs_ok : ∀ q ∈ lw_privs, lw_okq q := by
  show ∀ q ∈ lw_privs_1 ++ (lw_privs_2 ++ (lw_privs_3 ++ (lw_privs_4 ++ (lw_privs_5 ++ (lw_privs_6 ++ (lw_privs_7)))))), lw_okq q
  exact List.forall_mem_append.mpr ⟨lw_r1, List.forall_mem_append.mpr ⟨lw_r2, List.forall_mem_append.mpr ⟨lw_r3, List.forall_mem_append.mpr ⟨lw_r4, List.forall_mem_append.mpr ⟨lw_r5, List.forall_mem_append.mpr ⟨lw_r6, lw_r7⟩⟩⟩⟩⟩⟩
def RX0 : String := "DrainedForAThird$Fen"
def TX0 : u_T := fun k => match k with
  | 0 => ("DrainedForAThird$Fen", "height", "[I", true)
  | 1 => ("DrainedForAThird$Fen", "peat", "[I", true)
  | 2 => ("DrainedForAThird$Fen", "water", "[I", true)
  | 3 => ("DrainedForAThird$Fen", "kind", "[I", true)
  | 4 => ("DrainedForAThird$Fen", "number", "[I", true)
  | 5 => ("DrainedForAThird$Fen", "place", "[I", true)
  | 6 => ("DrainedForAThird$Fen", "going", "[I", true)
  | 7 => ("DrainedForAThird$Fen", "stack", "[I", true)
  | 8 => ("DrainedForAThird$Fen", "river", "I", false)
  | 9 => ("DrainedForAThird$Fen", "year", "I", false)
  | 10 => ("DrainedForAThird$Fen", "paid", "I", false)
  | 11 => ("DrainedForAThird$Fen", "works", "I", false)
  | _ => ("DrainedForAThird$Fen", "rule", "I", false)
def tyX0 : Nat → FieldType := fun k => match k with
  | 0 => .array .int
  | 1 => .array .int
  | 2 => .array .int
  | 3 => .array .int
  | 4 => .array .int
  | 5 => .array .int
  | 6 => .array .int
  | 7 => .array .int
  | 8 => .int
  | 9 => .int
  | 10 => .int
  | 11 => .int
  | _ => .int
theorem nmX0 : ∀ a, a < 13 → ∀ b, b < 13 → a ≠ b → (TX0 a).2.1 ≠ (TX0 b).2.1 := by decide +kernel
theorem tyX0_ok : ∀ k, k < 13 → parseFieldDescriptor (TX0 k).2.2.1 = some (tyX0 k) := by decide +kernel
abbrev cX0_init : ByteArray := prog_2_method_1_code
def yX0_init : MethodName := ⟨RX0, "<init>", "()V"⟩
abbrev cX0_take : ByteArray := prog_2_method_2_code
def yX0_take : MethodName := ⟨RX0, "take", "(LDrainedForAThird$Fen;)V"⟩
abbrev cX0_add : ByteArray := prog_2_method_3_code
def yX0_add : MethodName := ⟨RX0, "add", "(III)V"⟩
abbrev cX0_most : ByteArray := prog_2_method_4_code
def yX0_most : MethodName := ⟨RX0, "most", "(I)I"⟩
abbrev cX0_has : ByteArray := prog_2_method_5_code
def yX0_has : MethodName := ⟨RX0, "has", "(II)Z"⟩
abbrev cX0_rowOf : ByteArray := prog_2_method_6_code
def yX0_rowOf : MethodName := ⟨RX0, "rowOf", "(I)[I"⟩
abbrev cX0_get : ByteArray := prog_2_method_7_code
def yX0_get : MethodName := ⟨RX0, "get", "(II)I"⟩
abbrev cX0_put : ByteArray := prog_2_method_8_code
def yX0_put : MethodName := ⟨RX0, "put", "(III)V"⟩
abbrev cX0_goes : ByteArray := prog_2_method_9_code
def yX0_goes : MethodName := ⟨RX0, "goes", "(I)Z"⟩
abbrev cX0_goingWorks : ByteArray := prog_2_method_10_code
def yX0_goingWorks : MethodName := ⟨RX0, "goingWorks", "()I"⟩
abbrev cX0_dryCells : ByteArray := prog_2_method_11_code
def yX0_dryCells : MethodName := ⟨RX0, "dryCells", "()I"⟩
abbrev cX0_isUnder : ByteArray := prog_2_method_12_code
def yX0_isUnder : MethodName := ⟨RX0, "isUnder", "(II)Z"⟩
abbrev cX0_spreads : ByteArray := prog_2_method_13_code
def yX0_spreads : MethodName := ⟨RX0, "spreads", "(I)Z"⟩
abbrev cX0_holds : ByteArray := prog_2_method_14_code
def yX0_holds : MethodName := ⟨RX0, "holds", "(I)Z"⟩
abbrev cX0_draws : ByteArray := prog_2_method_15_code
def yX0_draws : MethodName := ⟨RX0, "draws", "(II)I"⟩
abbrev cX0_drawsOfOwn : ByteArray := prog_2_method_16_code
def yX0_drawsOfOwn : MethodName := ⟨RX0, "drawsOfOwn", "(I)I"⟩
abbrev cX0_costs : ByteArray := prog_2_method_17_code
def yX0_costs : MethodName := ⟨RX0, "costs", "(LDrainedForAThird$Text;I)I"⟩
abbrev cX0_passYear : ByteArray := prog_2_method_18_code
def yX0_passYear : MethodName := ⟨RX0, "passYear", "(LDrainedForAThird$Text;)V"⟩
abbrev cX0_pour : ByteArray := prog_2_method_19_code
def yX0_pour : MethodName := ⟨RX0, "pour", "(II)V"⟩
abbrev cX0_pourOnAll : ByteArray := prog_2_method_20_code
def yX0_pourOnAll : MethodName := ⟨RX0, "pourOnAll", "(I)V"⟩
abbrev cX0_rain : ByteArray := prog_2_method_21_code
def yX0_rain : MethodName := ⟨RX0, "rain", "(LDrainedForAThird$Text;)V"⟩
abbrev cX0_heldCells : ByteArray := prog_2_method_22_code
def yX0_heldCells : MethodName := ⟨RX0, "heldCells", "()I"⟩
abbrev cX0_flow : ByteArray := prog_2_method_23_code
def yX0_flow : MethodName := ⟨RX0, "flow", "()V"⟩
abbrev cX0_meetRiver : ByteArray := prog_2_method_24_code
def yX0_meetRiver : MethodName := ⟨RX0, "meetRiver", "(Z)V"⟩
abbrev cX0_drain : ByteArray := prog_2_method_25_code
def yX0_drain : MethodName := ⟨RX0, "drain", "(LDrainedForAThird$Text;)V"⟩
abbrev cX0_drawFrom : ByteArray := prog_2_method_26_code
def yX0_drawFrom : MethodName := ⟨RX0, "drawFrom", "(II)V"⟩
abbrev cX0_shrink : ByteArray := prog_2_method_27_code
def yX0_shrink : MethodName := ⟨RX0, "shrink", "(LDrainedForAThird$Text;)V"⟩
abbrev cX0_says : ByteArray := prog_2_method_28_code
def yX0_says : MethodName := ⟨RX0, "says", "(LDrainedForAThird$Text;III)I"⟩
abbrev cX0_named : ByteArray := prog_2_method_29_code
def yX0_named : MethodName := ⟨RX0, "named", "(III)I"⟩
def RX1 : String := "DrainedForAThird$Reader"
def TX1 : u_T := fun k => match k with
  | 0 => ("DrainedForAThird$Reader", "tape", "[I", true)
  | 1 => ("DrainedForAThird$Reader", "size", "I", false)
  | 2 => ("DrainedForAThird$Reader", "at", "I", false)
  | 3 => ("DrainedForAThird$Reader", "token", "I", false)
  | 4 => ("DrainedForAThird$Reader", "place", "I", false)
  | 5 => ("DrainedForAThird$Reader", "amount", "I", false)
  | 6 => ("DrainedForAThird$Reader", "fault", "I", false)
  | 7 => ("DrainedForAThird$Reader", "code", "[I", true)
  | _ => ("DrainedForAThird$Reader", "length", "I", false)
def tyX1 : Nat → FieldType := fun k => match k with
  | 0 => .array .int
  | 1 => .int
  | 2 => .int
  | 3 => .int
  | 4 => .int
  | 5 => .int
  | 6 => .int
  | 7 => .array .int
  | _ => .int
theorem nmX1 : ∀ a, a < 9 → ∀ b, b < 9 → a ≠ b → (TX1 a).2.1 ≠ (TX1 b).2.1 := by decide +kernel
theorem tyX1_ok : ∀ k, k < 9 → parseFieldDescriptor (TX1 k).2.2.1 = some (tyX1 k) := by decide +kernel
abbrev cX1_init : ByteArray := prog_3_method_1_code
def yX1_init : MethodName := ⟨RX1, "<init>", "()V"⟩
abbrev cX1_put : ByteArray := prog_3_method_2_code
def yX1_put : MethodName := ⟨RX1, "put", "(I)Z"⟩
abbrev cX1_size : ByteArray := prog_3_method_3_code
def yX1_size : MethodName := ⟨RX1, "size", "()I"⟩
abbrev cX1_fault : ByteArray := prog_3_method_4_code
def yX1_fault : MethodName := ⟨RX1, "fault", "()I"⟩
abbrev cX1_read : ByteArray := prog_3_method_5_code
def yX1_read : MethodName := ⟨RX1, "read", "()LDrainedForAThird$Text;"⟩
abbrev cX1_next : ByteArray := prog_3_method_6_code
def yX1_next : MethodName := ⟨RX1, "next", "()V"⟩
abbrev cX1_nextWord : ByteArray := prog_3_method_7_code
def yX1_nextWord : MethodName := ⟨RX1, "nextWord", "()V"⟩
abbrev cX1_nextNumber : ByteArray := prog_3_method_8_code
def yX1_nextNumber : MethodName := ⟨RX1, "nextNumber", "()V"⟩
abbrev cX1_isLetter : ByteArray := prog_3_method_9_code
def yX1_isLetter : MethodName := ⟨RX1, "isLetter", "(I)Z"⟩
abbrev cX1_isDigit : ByteArray := prog_3_method_10_code
def yX1_isDigit : MethodName := ⟨RX1, "isDigit", "(I)Z"⟩
abbrev cX1_isSign : ByteArray := prog_3_method_11_code
def yX1_isSign : MethodName := ⟨RX1, "isSign", "(I)Z"⟩
abbrev cX1_wordOf : ByteArray := prog_3_method_12_code
def yX1_wordOf : MethodName := ⟨RX1, "wordOf", "(I)Ljava/lang/String;"⟩
abbrev cX1_fail : ByteArray := prog_3_method_13_code
def yX1_fail : MethodName := ⟨RX1, "fail", "()V"⟩
abbrev cX1_expect : ByteArray := prog_3_method_14_code
def yX1_expect : MethodName := ⟨RX1, "expect", "(I)V"⟩
abbrev cX1_emit : ByteArray := prog_3_method_15_code
def yX1_emit : MethodName := ⟨RX1, "emit", "(I)V"⟩
abbrev cX1_readPart : ByteArray := prog_3_method_16_code
def yX1_readPart : MethodName := ⟨RX1, "readPart", "(I)[I"⟩
abbrev cX1_readEither : ByteArray := prog_3_method_17_code
def yX1_readEither : MethodName := ⟨RX1, "readEither", "(I)V"⟩
abbrev cX1_readBoth : ByteArray := prog_3_method_18_code
def yX1_readBoth : MethodName := ⟨RX1, "readBoth", "(I)V"⟩
abbrev cX1_readNot : ByteArray := prog_3_method_19_code
def yX1_readNot : MethodName := ⟨RX1, "readNot", "(I)V"⟩
abbrev cX1_readSum : ByteArray := prog_3_method_20_code
def yX1_readSum : MethodName := ⟨RX1, "readSum", "(I)V"⟩
abbrev cX1_readTerm : ByteArray := prog_3_method_21_code
def yX1_readTerm : MethodName := ⟨RX1, "readTerm", "(I)V"⟩
abbrev cX1_readOne : ByteArray := prog_3_method_22_code
def yX1_readOne : MethodName := ⟨RX1, "readOne", "(I)V"⟩
def RX2 : String := "DrainedForAThird$Sheets"
def TX2 : u_T := fun k => match k with
  | 0 => ("DrainedForAThird$Sheets", "items", "[[I", true)
  | 1 => ("DrainedForAThird$Sheets", "sorts", "[I", true)
  | _ => ("DrainedForAThird$Sheets", "sizes", "[I", true)
def tyX2 : Nat → FieldType := fun k => match k with
  | 0 => .array (.array .int)
  | 1 => .array .int
  | _ => .array .int
theorem nmX2 : ∀ a, a < 3 → ∀ b, b < 3 → a ≠ b → (TX2 a).2.1 ≠ (TX2 b).2.1 := by decide +kernel
theorem tyX2_ok : ∀ k, k < 3 → parseFieldDescriptor (TX2 k).2.2.1 = some (tyX2 k) := by decide +kernel
abbrev cX2_init : ByteArray := prog_4_method_1_code
def yX2_init : MethodName := ⟨RX2, "<init>", "()V"⟩
abbrev cX2_has : ByteArray := prog_4_method_2_code
def yX2_has : MethodName := ⟨RX2, "has", "(I)Z"⟩
abbrev cX2_isMissing : ByteArray := prog_4_method_3_code
def yX2_isMissing : MethodName := ⟨RX2, "isMissing", "(I)Z"⟩
abbrev cX2_sort : ByteArray := prog_4_method_4_code
def yX2_sort : MethodName := ⟨RX2, "sort", "(I)I"⟩
abbrev cX2_size : ByteArray := prog_4_method_5_code
def yX2_size : MethodName := ⟨RX2, "size", "(I)I"⟩
abbrev cX2_hasItem : ByteArray := prog_4_method_6_code
def yX2_hasItem : MethodName := ⟨RX2, "hasItem", "(II)Z"⟩
abbrev cX2_hasItems : ByteArray := prog_4_method_7_code
def yX2_hasItems : MethodName := ⟨RX2, "hasItems", "(III)Z"⟩
abbrev cX2_drop : ByteArray := prog_4_method_8_code
def yX2_drop : MethodName := ⟨RX2, "drop", "(I)V"⟩
abbrev cX2_make : ByteArray := prog_4_method_9_code
def yX2_make : MethodName := ⟨RX2, "make", "(III)V"⟩
abbrev cX2_at : ByteArray := prog_4_method_10_code
def yX2_at : MethodName := ⟨RX2, "at", "(II)I"⟩
abbrev cX2_put : ByteArray := prog_4_method_11_code
def yX2_put : MethodName := ⟨RX2, "put", "(III)V"⟩
abbrev cX2_move : ByteArray := prog_4_method_12_code
def yX2_move : MethodName := ⟨RX2, "move", "(IIIII)V"⟩
abbrev cX2_narrowed : ByteArray := prog_4_method_13_code
def yX2_narrowed : MethodName := ⟨RX2, "narrowed", "(II)I"⟩
def RX3 : String := "DrainedForAThird$Text"
def TX3 : u_T := fun k => match k with
  | 0 => ("DrainedForAThird$Text", "rains", "[I", true)
  | 1 => ("DrainedForAThird$Text", "shrinks", "[I", true)
  | _ => ("DrainedForAThird$Text", "calls", "[I", true)
def tyX3 : Nat → FieldType := fun k => match k with
  | 0 => .array .int
  | 1 => .array .int
  | _ => .array .int
theorem nmX3 : ∀ a, a < 3 → ∀ b, b < 3 → a ≠ b → (TX3 a).2.1 ≠ (TX3 b).2.1 := by decide +kernel
theorem tyX3_ok : ∀ k, k < 3 → parseFieldDescriptor (TX3 k).2.2.1 = some (tyX3 k) := by decide +kernel
abbrev cX3_init : ByteArray := prog_5_method_1_code
def yX3_init : MethodName := ⟨RX3, "<init>", "([I[I[I)V"⟩
abbrev cX3_codeOf : ByteArray := prog_5_method_2_code
def yX3_codeOf : MethodName := ⟨RX3, "codeOf", "(I)[I"⟩
abbrev cX3_turned : ByteArray := prog_5_method_3_code
def yX3_turned : MethodName := ⟨RX3, "turned", "(II)I"⟩
abbrev cX3_joined : ByteArray := prog_5_method_4_code
def yX3_joined : MethodName := ⟨RX3, "joined", "(III)I"⟩
def RX4 : String := "DrainedForAThird"
def TX4 : u_T := fun k => match k with
  | 0 => ("DrainedForAThird", "now", "LDrainedForAThird$Fen;", true)
  | 1 => ("DrainedForAThird", "thought", "LDrainedForAThird$Fen;", true)
  | 2 => ("DrainedForAThird", "kept", "LDrainedForAThird$Fen;", true)
  | 3 => ("DrainedForAThird", "isKept", "Z", false)
  | 4 => ("DrainedForAThird", "texts", "[LDrainedForAThird$Text;", true)
  | 5 => ("DrainedForAThird", "textCount", "I", false)
  | 6 => ("DrainedForAThird", "reader", "LDrainedForAThird$Reader;", true)
  | 7 => ("DrainedForAThird", "sheets", "LDrainedForAThird$Sheets;", true)
  | _ => ("DrainedForAThird", "dried", "[I", true)
def tyX4 : Nat → FieldType := fun k => match k with
  | 0 => .object "DrainedForAThird$Fen"
  | 1 => .object "DrainedForAThird$Fen"
  | 2 => .object "DrainedForAThird$Fen"
  | 3 => .boolean
  | 4 => .array (.object "DrainedForAThird$Text")
  | 5 => .int
  | 6 => .object "DrainedForAThird$Reader"
  | 7 => .object "DrainedForAThird$Sheets"
  | _ => .array .int
theorem nmX4 : ∀ a, a < 9 → ∀ b, b < 9 → a ≠ b → (TX4 a).2.1 ≠ (TX4 b).2.1 := by decide +kernel
theorem tyX4_ok : ∀ k, k < 9 → parseFieldDescriptor (TX4 k).2.2.1 = some (tyX4 k) := by decide +kernel
abbrev cX4_init : ByteArray := prog_1_method_1_code
def yX4_init : MethodName := ⟨RX4, "<init>", "()V"⟩
abbrev cX4_set : ByteArray := prog_1_method_2_code
def yX4_set : MethodName := ⟨RX4, "set", "(III)I"⟩
abbrev cX4_work : ByteArray := prog_1_method_3_code
def yX4_work : MethodName := ⟨RX4, "work", "(III)I"⟩
abbrev cX4_told : ByteArray := prog_1_method_4_code
def yX4_told : MethodName := ⟨RX4, "told", "(II)I"⟩
abbrev cX4_feed : ByteArray := prog_1_method_5_code
def yX4_feed : MethodName := ⟨RX4, "feed", "(I)I"⟩
abbrev cX4_text : ByteArray := prog_1_method_6_code
def yX4_text : MethodName := ⟨RX4, "text", "()I"⟩
abbrev cX4_force : ByteArray := prog_1_method_7_code
def yX4_force : MethodName := ⟨RX4, "force", "(I)I"⟩
abbrev cX4_asks : ByteArray := prog_1_method_8_code
def yX4_asks : MethodName := ⟨RX4, "asks", "(II)I"⟩
abbrev cX4_year : ByteArray := prog_1_method_9_code
def yX4_year : MethodName := ⟨RX4, "year", "()I"⟩
abbrev cX4_run : ByteArray := prog_1_method_10_code
def yX4_run : MethodName := ⟨RX4, "run", "(II)I"⟩
abbrev cX4_first : ByteArray := prog_1_method_11_code
def yX4_first : MethodName := ⟨RX4, "first", "(II)I"⟩
abbrev cX4_where : ByteArray := prog_1_method_12_code
def yX4_where : MethodName := ⟨RX4, "where", "(III)I"⟩
abbrev cX4_idle : ByteArray := prog_1_method_13_code
def yX4_idle : MethodName := ⟨RX4, "idle", "(I)I"⟩
abbrev cX4_low : ByteArray := prog_1_method_14_code
def yX4_low : MethodName := ⟨RX4, "low", "(II)I"⟩
abbrev cX4_floods : ByteArray := prog_1_method_15_code
def yX4_floods : MethodName := ⟨RX4, "floods", "(II)I"⟩
abbrev cX4_tells : ByteArray := prog_1_method_16_code
def yX4_tells : MethodName := ⟨RX4, "tells", "(II)I"⟩
abbrev cX4_film : ByteArray := prog_1_method_17_code
def yX4_film : MethodName := ⟨RX4, "film", "(II)I"⟩
abbrev cX4_drawn : ByteArray := prog_1_method_18_code
def yX4_drawn : MethodName := ⟨RX4, "drawn", "(II)I"⟩
abbrev cX4_chance : ByteArray := prog_1_method_19_code
def yX4_chance : MethodName := ⟨RX4, "chance", "(IIII)J"⟩
abbrev cX4_image : ByteArray := prog_1_method_20_code
def yX4_image : MethodName := ⟨RX4, "image", "()I"⟩
abbrev cX4_back : ByteArray := prog_1_method_21_code
def yX4_back : MethodName := ⟨RX4, "back", "()I"⟩
abbrev cX4_count : ByteArray := prog_1_method_22_code
def yX4_count : MethodName := ⟨RX4, "count", "(I)I"⟩
abbrev cX4_sheet : ByteArray := prog_1_method_23_code
def yX4_sheet : MethodName := ⟨RX4, "sheet", "(III)I"⟩
abbrev cX4_cell : ByteArray := prog_1_method_24_code
def yX4_cell : MethodName := ⟨RX4, "cell", "(III)I"⟩
abbrev cX4_copy : ByteArray := prog_1_method_25_code
def yX4_copy : MethodName := ⟨RX4, "copy", "(IIIII)I"⟩
abbrev cX4_works : ByteArray := prog_1_method_26_code
def yX4_works : MethodName := ⟨RX4, "works", "(IIII)I"⟩
abbrev cX4_taken : ByteArray := prog_1_method_27_code
def yX4_taken : MethodName := ⟨RX4, "taken", "(II)I"⟩
abbrev cX4_isCell : ByteArray := prog_1_method_28_code
def yX4_isCell : MethodName := ⟨RX4, "isCell", "(I)Z"⟩
abbrev cX4_isWork : ByteArray := prog_1_method_29_code
def yX4_isWork : MethodName := ⟨RX4, "isWork", "(III)Z"⟩
abbrev cX4_areYears : ByteArray := prog_1_method_30_code
def yX4_areYears : MethodName := ⟨RX4, "areYears", "(I)Z"⟩
abbrev cX4_isOfRun : ByteArray := prog_1_method_31_code
def yX4_isOfRun : MethodName := ⟨RX4, "isOfRun", "(I)Z"⟩
abbrev cX4_isOfTells : ByteArray := prog_1_method_32_code
def yX4_isOfTells : MethodName := ⟨RX4, "isOfTells", "(I)Z"⟩
abbrev cX4_ruleOf : ByteArray := prog_1_method_33_code
def yX4_ruleOf : MethodName := ⟨RX4, "ruleOf", "(LDrainedForAThird$Fen;)LDrainedForAThird$Text;"⟩
abbrev cX4_think : ByteArray := prog_1_method_34_code
def yX4_think : MethodName := ⟨RX4, "think", "()V"⟩
abbrev cX4_thinkYears : ByteArray := prog_1_method_35_code
def yX4_thinkYears : MethodName := ⟨RX4, "thinkYears", "(I)V"⟩
abbrev cX4_dryBehind : ByteArray := prog_1_method_36_code
def yX4_dryBehind : MethodName := ⟨RX4, "dryBehind", "(I)I"⟩
abbrev cX4_dryWithout : ByteArray := prog_1_method_37_code
def yX4_dryWithout : MethodName := ⟨RX4, "dryWithout", "(II)I"⟩
abbrev cX4_dryDrawn : ByteArray := prog_1_method_38_code
def yX4_dryDrawn : MethodName := ⟨RX4, "dryDrawn", "(II)I"⟩
abbrev cX4_firstDried : ByteArray := prog_1_method_39_code
def yX4_firstDried : MethodName := ⟨RX4, "firstDried", "(II)I"⟩
abbrev cX4_mostDry : ByteArray := prog_1_method_40_code
def yX4_mostDry : MethodName := ⟨RX4, "mostDry", "(I)I"⟩
abbrev cX4_judged : ByteArray := prog_1_method_41_code
def yX4_judged : MethodName := ⟨RX4, "judged", "(I)I"⟩
abbrev cX4_keptYears : ByteArray := prog_1_method_42_code
def yX4_keptYears : MethodName := ⟨RX4, "keptYears", "(I)I"⟩
abbrev cX4_toldOfWork : ByteArray := prog_1_method_43_code
def yX4_toldOfWork : MethodName := ⟨RX4, "toldOfWork", "(I)I"⟩
abbrev cX4_firstOther : ByteArray := prog_1_method_44_code
def yX4_firstOther : MethodName := ⟨RX4, "firstOther", "(IIII)I"⟩
abbrev cX4_fitting : ByteArray := prog_1_method_45_code
def yX4_fitting : MethodName := ⟨RX4, "fitting", "(IIII)I"⟩
abbrev cX4_fittingRivers : ByteArray := prog_1_method_46_code
def yX4_fittingRivers : MethodName := ⟨RX4, "fittingRivers", "(I)I"⟩
abbrev cX4_highestFittingRiver : ByteArray := prog_1_method_47_code
def yX4_highestFittingRiver : MethodName := ⟨RX4, "highestFittingRiver", "(I)I"⟩
abbrev cX4_commonDivisor : ByteArray := prog_1_method_48_code
def yX4_commonDivisor : MethodName := ⟨RX4, "commonDivisor", "(II)I"⟩
abbrev cX4_comes : ByteArray := prog_1_method_49_code
def yX4_comes : MethodName := ⟨RX4, "comes", "(II)Z"⟩
def RX5 : String := "DrainedForAThirdModel"
def TX5 : u_T := fun k => match k with
  | 0 => ("DrainedForAThirdModel", "thrown", "I", false)
  | 1 => ("DrainedForAThirdModel", "texts", "[I", true)
  | 2 => ("DrainedForAThirdModel", "textSize", "[I", true)
  | 3 => ("DrainedForAThirdModel", "textCount", "I", false)
  | 4 => ("DrainedForAThirdModel", "rule", "I", false)
  | 5 => ("DrainedForAThirdModel", "tape", "[I", true)
  | 6 => ("DrainedForAThirdModel", "taped", "I", false)
  | 7 => ("DrainedForAThirdModel", "riverNow", "I", false)
  | 8 => ("DrainedForAThirdModel", "yearNow", "I", false)
  | 9 => ("DrainedForAThirdModel", "paid", "I", false)
  | 10 => ("DrainedForAThirdModel", "fen", "[I", true)
  | 11 => ("DrainedForAThirdModel", "kinds", "[I", true)
  | 12 => ("DrainedForAThirdModel", "rows", "[I", true)
  | 13 => ("DrainedForAThirdModel", "many", "I", false)
  | 14 => ("DrainedForAThirdModel", "ofHeight", "I", false)
  | 15 => ("DrainedForAThirdModel", "ofPeat", "I", false)
  | 16 => ("DrainedForAThirdModel", "ofYear", "I", false)
  | 17 => ("DrainedForAThirdModel", "ofNumber", "I", false)
  | 18 => ("DrainedForAThirdModel", "ofWater", "I", false)
  | 19 => ("DrainedForAThirdModel", "ofCell", "I", false)
  | 20 => ("DrainedForAThirdModel", "from", "I", false)
  | 21 => ("DrainedForAThirdModel", "size", "I", false)
  | 22 => ("DrainedForAThirdModel", "here", "I", false)
  | 23 => ("DrainedForAThirdModel", "token", "I", false)
  | 24 => ("DrainedForAThirdModel", "tokenAt", "I", false)
  | 25 => ("DrainedForAThirdModel", "tokenWorth", "J", false)
  | 26 => ("DrainedForAThirdModel", "open", "I", false)
  | 27 => ("DrainedForAThirdModel", "bad", "Z", false)
  | 28 => ("DrainedForAThirdModel", "fault", "I", false)
  | 29 => ("DrainedForAThirdModel", "fenAside", "[I", true)
  | 30 => ("DrainedForAThirdModel", "fenThen", "[I", true)
  | 31 => ("DrainedForAThirdModel", "dryRow", "[I", true)
  | 32 => ("DrainedForAThirdModel", "paidThen", "I", false)
  | 33 => ("DrainedForAThirdModel", "dryThen", "I", false)
  | 34 => ("DrainedForAThirdModel", "fenKept", "[I", true)
  | 35 => ("DrainedForAThirdModel", "rowsKept", "[I", true)
  | 36 => ("DrainedForAThirdModel", "manyKept", "I", false)
  | 37 => ("DrainedForAThirdModel", "riverKept", "I", false)
  | 38 => ("DrainedForAThirdModel", "yearKept", "I", false)
  | 39 => ("DrainedForAThirdModel", "paidKept", "I", false)
  | 40 => ("DrainedForAThirdModel", "ruleKept", "I", false)
  | 41 => ("DrainedForAThirdModel", "isThere", "[Z", true)
  | 42 => ("DrainedForAThirdModel", "sorts", "[I", true)
  | 43 => ("DrainedForAThirdModel", "sheetSize", "[I", true)
  | _ => ("DrainedForAThirdModel", "items", "[I", true)
def tyX5 : Nat → FieldType := fun k => match k with
  | 0 => .int
  | 1 => .array .int
  | 2 => .array .int
  | 3 => .int
  | 4 => .int
  | 5 => .array .int
  | 6 => .int
  | 7 => .int
  | 8 => .int
  | 9 => .int
  | 10 => .array .int
  | 11 => .array .int
  | 12 => .array .int
  | 13 => .int
  | 14 => .int
  | 15 => .int
  | 16 => .int
  | 17 => .int
  | 18 => .int
  | 19 => .int
  | 20 => .int
  | 21 => .int
  | 22 => .int
  | 23 => .int
  | 24 => .int
  | 25 => .long
  | 26 => .int
  | 27 => .boolean
  | 28 => .int
  | 29 => .array .int
  | 30 => .array .int
  | 31 => .array .int
  | 32 => .int
  | 33 => .int
  | 34 => .array .int
  | 35 => .array .int
  | 36 => .int
  | 37 => .int
  | 38 => .int
  | 39 => .int
  | 40 => .int
  | 41 => .array .boolean
  | 42 => .array .int
  | 43 => .array .int
  | _ => .array .int
theorem nmX5 : ∀ a, a < 45 → ∀ b, b < 45 → a ≠ b → (TX5 a).2.1 ≠ (TX5 b).2.1 := by decide +kernel
theorem tyX5_ok : ∀ k, k < 45 → parseFieldDescriptor (TX5 k).2.2.1 = some (tyX5 k) := by decide +kernel
abbrev cX5_in : ByteArray := prog_7_method_2_code
def yX5_in : MethodName := ⟨RX5, "in", "(JJJ)Z"⟩
abbrev cX5_within : ByteArray := prog_7_method_3_code
def yX5_within : MethodName := ⟨RX5, "within", "(III)I"⟩
abbrev cX5_init : ByteArray := prog_7_method_4_code
def yX5_init : MethodName := ⟨RX5, "<init>", "()V"⟩
abbrev cX5_spell : ByteArray := prog_7_method_5_code
def yX5_spell : MethodName := ⟨RX5, "spell", "(IIIIIIIII)V"⟩
abbrev cX5_isWork : ByteArray := prog_7_method_6_code
def yX5_isWork : MethodName := ⟨RX5, "isWork", "(I)Z"⟩
abbrev cX5_isCell : ByteArray := prog_7_method_7_code
def yX5_isCell : MethodName := ⟨RX5, "isCell", "(I)Z"⟩
abbrev cX5_isOf : ByteArray := prog_7_method_8_code
def yX5_isOf : MethodName := ⟨RX5, "isOf", "(II)Z"⟩
abbrev cX5_mostOf : ByteArray := prog_7_method_9_code
def yX5_mostOf : MethodName := ⟨RX5, "mostOf", "(I)I"⟩
abbrev cX5_set : ByteArray := prog_7_method_10_code
def yX5_set : MethodName := ⟨RX5, "set", "(III)I"⟩
abbrev cX5_lays : ByteArray := prog_7_method_11_code
def yX5_lays : MethodName := ⟨RX5, "lays", "(III)V"⟩
abbrev cX5_comes : ByteArray := prog_7_method_12_code
def yX5_comes : MethodName := ⟨RX5, "comes", "(III)V"⟩
abbrev cX5_work : ByteArray := prog_7_method_13_code
def yX5_work : MethodName := ⟨RX5, "work", "(III)I"⟩
abbrev cX5_told : ByteArray := prog_7_method_14_code
def yX5_told : MethodName := ⟨RX5, "told", "(II)I"⟩
abbrev cX5_feed : ByteArray := prog_7_method_15_code
def yX5_feed : MethodName := ⟨RX5, "feed", "(I)I"⟩
abbrev cX5_byteAt : ByteArray := prog_7_method_16_code
def yX5_byteAt : MethodName := ⟨RX5, "byteAt", "(I)I"⟩
abbrev cX5_next : ByteArray := prog_7_method_17_code
def yX5_next : MethodName := ⟨RX5, "next", "()V"⟩
abbrev cX5_fail : ByteArray := prog_7_method_18_code
def yX5_fail : MethodName := ⟨RX5, "fail", "()V"⟩
abbrev cX5_isLetter : ByteArray := prog_7_method_19_code
def yX5_isLetter : MethodName := ⟨RX5, "isLetter", "(II)Z"⟩
abbrev cX5_isWord : ByteArray := prog_7_method_20_code
def yX5_isWord : MethodName := ⟨RX5, "isWord", "(IIIIIIII)Z"⟩
abbrev cX5_isSign : ByteArray := prog_7_method_21_code
def yX5_isSign : MethodName := ⟨RX5, "isSign", "(I)Z"⟩
abbrev cX5_opens : ByteArray := prog_7_method_22_code
def yX5_opens : MethodName := ⟨RX5, "opens", "()Z"⟩
abbrev cX5_name : ByteArray := prog_7_method_23_code
def yX5_name : MethodName := ⟨RX5, "name", "()I"⟩
abbrev cX5_atom5 : ByteArray := prog_7_method_24_code
def yX5_atom5 : MethodName := ⟨RX5, "atom5", "()I"⟩
abbrev cX5_term5 : ByteArray := prog_7_method_25_code
def yX5_term5 : MethodName := ⟨RX5, "term5", "()I"⟩
abbrev cX5_added5 : ByteArray := prog_7_method_26_code
def yX5_added5 : MethodName := ⟨RX5, "added5", "()I"⟩
abbrev cX5_not5 : ByteArray := prog_7_method_27_code
def yX5_not5 : MethodName := ⟨RX5, "not5", "()I"⟩
abbrev cX5_both5 : ByteArray := prog_7_method_28_code
def yX5_both5 : MethodName := ⟨RX5, "both5", "()I"⟩
abbrev cX5_either5 : ByteArray := prog_7_method_29_code
def yX5_either5 : MethodName := ⟨RX5, "either5", "()I"⟩
abbrev cX5_atom4 : ByteArray := prog_7_method_30_code
def yX5_atom4 : MethodName := ⟨RX5, "atom4", "()I"⟩
abbrev cX5_term4 : ByteArray := prog_7_method_31_code
def yX5_term4 : MethodName := ⟨RX5, "term4", "()I"⟩
abbrev cX5_added4 : ByteArray := prog_7_method_32_code
def yX5_added4 : MethodName := ⟨RX5, "added4", "()I"⟩
abbrev cX5_not4 : ByteArray := prog_7_method_33_code
def yX5_not4 : MethodName := ⟨RX5, "not4", "()I"⟩
abbrev cX5_both4 : ByteArray := prog_7_method_34_code
def yX5_both4 : MethodName := ⟨RX5, "both4", "()I"⟩
abbrev cX5_either4 : ByteArray := prog_7_method_35_code
def yX5_either4 : MethodName := ⟨RX5, "either4", "()I"⟩
abbrev cX5_atom3 : ByteArray := prog_7_method_36_code
def yX5_atom3 : MethodName := ⟨RX5, "atom3", "()I"⟩
abbrev cX5_term3 : ByteArray := prog_7_method_37_code
def yX5_term3 : MethodName := ⟨RX5, "term3", "()I"⟩
abbrev cX5_added3 : ByteArray := prog_7_method_38_code
def yX5_added3 : MethodName := ⟨RX5, "added3", "()I"⟩
abbrev cX5_not3 : ByteArray := prog_7_method_39_code
def yX5_not3 : MethodName := ⟨RX5, "not3", "()I"⟩
abbrev cX5_both3 : ByteArray := prog_7_method_40_code
def yX5_both3 : MethodName := ⟨RX5, "both3", "()I"⟩
abbrev cX5_either3 : ByteArray := prog_7_method_41_code
def yX5_either3 : MethodName := ⟨RX5, "either3", "()I"⟩
abbrev cX5_atom2 : ByteArray := prog_7_method_42_code
def yX5_atom2 : MethodName := ⟨RX5, "atom2", "()I"⟩
abbrev cX5_term2 : ByteArray := prog_7_method_43_code
def yX5_term2 : MethodName := ⟨RX5, "term2", "()I"⟩
abbrev cX5_added2 : ByteArray := prog_7_method_44_code
def yX5_added2 : MethodName := ⟨RX5, "added2", "()I"⟩
abbrev cX5_not2 : ByteArray := prog_7_method_45_code
def yX5_not2 : MethodName := ⟨RX5, "not2", "()I"⟩
abbrev cX5_both2 : ByteArray := prog_7_method_46_code
def yX5_both2 : MethodName := ⟨RX5, "both2", "()I"⟩
abbrev cX5_either2 : ByteArray := prog_7_method_47_code
def yX5_either2 : MethodName := ⟨RX5, "either2", "()I"⟩
abbrev cX5_atom1 : ByteArray := prog_7_method_48_code
def yX5_atom1 : MethodName := ⟨RX5, "atom1", "()I"⟩
abbrev cX5_term1 : ByteArray := prog_7_method_49_code
def yX5_term1 : MethodName := ⟨RX5, "term1", "()I"⟩
abbrev cX5_added1 : ByteArray := prog_7_method_50_code
def yX5_added1 : MethodName := ⟨RX5, "added1", "()I"⟩
abbrev cX5_not1 : ByteArray := prog_7_method_51_code
def yX5_not1 : MethodName := ⟨RX5, "not1", "()I"⟩
abbrev cX5_both1 : ByteArray := prog_7_method_52_code
def yX5_both1 : MethodName := ⟨RX5, "both1", "()I"⟩
abbrev cX5_either1 : ByteArray := prog_7_method_53_code
def yX5_either1 : MethodName := ⟨RX5, "either1", "()I"⟩
abbrev cX5_atom0 : ByteArray := prog_7_method_54_code
def yX5_atom0 : MethodName := ⟨RX5, "atom0", "()I"⟩
abbrev cX5_term0 : ByteArray := prog_7_method_55_code
def yX5_term0 : MethodName := ⟨RX5, "term0", "()I"⟩
abbrev cX5_added0 : ByteArray := prog_7_method_56_code
def yX5_added0 : MethodName := ⟨RX5, "added0", "()I"⟩
abbrev cX5_not0 : ByteArray := prog_7_method_57_code
def yX5_not0 : MethodName := ⟨RX5, "not0", "()I"⟩
abbrev cX5_both0 : ByteArray := prog_7_method_58_code
def yX5_both0 : MethodName := ⟨RX5, "both0", "()I"⟩
abbrev cX5_either0 : ByteArray := prog_7_method_59_code
def yX5_either0 : MethodName := ⟨RX5, "either0", "()I"⟩
abbrev cX5_part : ByteArray := prog_7_method_60_code
def yX5_part : MethodName := ⟨RX5, "part", "(Z)I"⟩
abbrev cX5_read : ByteArray := prog_7_method_61_code
def yX5_read : MethodName := ⟨RX5, "read", "(II)I"⟩
abbrev cX5_text : ByteArray := prog_7_method_62_code
def yX5_text : MethodName := ⟨RX5, "text", "()I"⟩
abbrev cX5_force : ByteArray := prog_7_method_63_code
def yX5_force : MethodName := ⟨RX5, "force", "(I)I"⟩
abbrev cX5_says : ByteArray := prog_7_method_64_code
def yX5_says : MethodName := ⟨RX5, "says", "(III)I"⟩
abbrev cX5_standOn : ByteArray := prog_7_method_65_code
def yX5_standOn : MethodName := ⟨RX5, "standOn", "(I)I"⟩
abbrev cX5_asks : ByteArray := prog_7_method_66_code
def yX5_asks : MethodName := ⟨RX5, "asks", "(II)I"⟩
abbrev cX5_drawsOf : ByteArray := prog_7_method_67_code
def yX5_drawsOf : MethodName := ⟨RX5, "drawsOf", "(II)I"⟩
abbrev cX5_costsOf : ByteArray := prog_7_method_68_code
def yX5_costsOf : MethodName := ⟨RX5, "costsOf", "(I)I"⟩
abbrev cX5_isHeld : ByteArray := prog_7_method_69_code
def yX5_isHeld : MethodName := ⟨RX5, "isHeld", "(I)Z"⟩
abbrev cX5_levelOf : ByteArray := prog_7_method_70_code
def yX5_levelOf : MethodName := ⟨RX5, "levelOf", "(I)I"⟩
abbrev cX5_adds : ByteArray := prog_7_method_71_code
def yX5_adds : MethodName := ⟨RX5, "adds", "(II)V"⟩
abbrev cX5_draws : ByteArray := prog_7_method_72_code
def yX5_draws : MethodName := ⟨RX5, "draws", "(II)V"⟩
abbrev cX5_lives : ByteArray := prog_7_method_73_code
def yX5_lives : MethodName := ⟨RX5, "lives", "()V"⟩
abbrev cX5_drySet : ByteArray := prog_7_method_74_code
def yX5_drySet : MethodName := ⟨RX5, "drySet", "()I"⟩
abbrev cX5_bitsOf : ByteArray := prog_7_method_75_code
def yX5_bitsOf : MethodName := ⟨RX5, "bitsOf", "(I)I"⟩
abbrev cX5_year : ByteArray := prog_7_method_76_code
def yX5_year : MethodName := ⟨RX5, "year", "()I"⟩
abbrev cX5_runs : ByteArray := prog_7_method_77_code
def yX5_runs : MethodName := ⟨RX5, "runs", "(IZI)V"⟩
abbrev cX5_dryBehind : ByteArray := prog_7_method_78_code
def yX5_dryBehind : MethodName := ⟨RX5, "dryBehind", "(I)I"⟩
abbrev cX5_judged : ByteArray := prog_7_method_79_code
def yX5_judged : MethodName := ⟨RX5, "judged", "(I)I"⟩
abbrev cX5_kept : ByteArray := prog_7_method_80_code
def yX5_kept : MethodName := ⟨RX5, "kept", "(I)I"⟩
abbrev cX5_run : ByteArray := prog_7_method_81_code
def yX5_run : MethodName := ⟨RX5, "run", "(II)I"⟩
abbrev cX5_first : ByteArray := prog_7_method_82_code
def yX5_first : MethodName := ⟨RX5, "first", "(II)I"⟩
abbrev cX5_where : ByteArray := prog_7_method_83_code
def yX5_where : MethodName := ⟨RX5, "where", "(III)I"⟩
abbrev cX5_dryWithout : ByteArray := prog_7_method_84_code
def yX5_dryWithout : MethodName := ⟨RX5, "dryWithout", "(II)I"⟩
abbrev cX5_idle : ByteArray := prog_7_method_85_code
def yX5_idle : MethodName := ⟨RX5, "idle", "(I)I"⟩
abbrev cX5_low : ByteArray := prog_7_method_86_code
def yX5_low : MethodName := ⟨RX5, "low", "(II)I"⟩
abbrev cX5_floods : ByteArray := prog_7_method_87_code
def yX5_floods : MethodName := ⟨RX5, "floods", "(II)I"⟩
abbrev cX5_firstOther : ByteArray := prog_7_method_88_code
def yX5_firstOther : MethodName := ⟨RX5, "firstOther", "(I)I"⟩
abbrev cX5_tells : ByteArray := prog_7_method_89_code
def yX5_tells : MethodName := ⟨RX5, "tells", "(II)I"⟩
abbrev cX5_film : ByteArray := prog_7_method_90_code
def yX5_film : MethodName := ⟨RX5, "film", "(II)I"⟩
abbrev cX5_dryBy : ByteArray := prog_7_method_91_code
def yX5_dryBy : MethodName := ⟨RX5, "dryBy", "(II)I"⟩
abbrev cX5_drawn : ByteArray := prog_7_method_92_code
def yX5_drawn : MethodName := ⟨RX5, "drawn", "(II)I"⟩
abbrev cX5_chance : ByteArray := prog_7_method_93_code
def yX5_chance : MethodName := ⟨RX5, "chance", "(IIII)J"⟩
abbrev cX5_image : ByteArray := prog_7_method_94_code
def yX5_image : MethodName := ⟨RX5, "image", "()I"⟩
abbrev cX5_back : ByteArray := prog_7_method_95_code
def yX5_back : MethodName := ⟨RX5, "back", "()I"⟩
abbrev cX5_count : ByteArray := prog_7_method_96_code
def yX5_count : MethodName := ⟨RX5, "count", "(I)I"⟩
abbrev cX5_isSheet : ByteArray := prog_7_method_97_code
def yX5_isSheet : MethodName := ⟨RX5, "isSheet", "(I)Z"⟩
abbrev cX5_sheet : ByteArray := prog_7_method_98_code
def yX5_sheet : MethodName := ⟨RX5, "sheet", "(III)I"⟩
abbrev cX5_cell : ByteArray := prog_7_method_99_code
def yX5_cell : MethodName := ⟨RX5, "cell", "(III)I"⟩
abbrev cX5_copy : ByteArray := prog_7_method_100_code
def yX5_copy : MethodName := ⟨RX5, "copy", "(IIIII)I"⟩
abbrev cX5_works : ByteArray := prog_7_method_101_code
def yX5_works : MethodName := ⟨RX5, "works", "(IIII)I"⟩
abbrev cX5_over : ByteArray := prog_7_method_102_code
def yX5_over : MethodName := ⟨RX5, "over", "(I)I"⟩
abbrev cX5_taken : ByteArray := prog_7_method_103_code
def yX5_taken : MethodName := ⟨RX5, "taken", "(II)I"⟩
def RJ6 : String := "java/lang/Integer"
def TJ6 : u_T := fun k => match k with
  | _ => ("", "", "", false)
def tyJ6 : Nat → FieldType := fun k => match k with
  | _ => .int
theorem nmJ6 : ∀ a, a < 0 → ∀ b, b < 0 → a ≠ b → (TJ6 a).2.1 ≠ (TJ6 b).2.1 := by decide +kernel
theorem tyJ6_ok : ∀ k, k < 0 → parseFieldDescriptor (TJ6 k).2.2.1 = some (tyJ6 k) := by decide +kernel
abbrev cJ6_bitCount_0f7a4 : ByteArray := prog_8_method_49_code
def yJ6_bitCount_0f7a4 : MethodName := ⟨RJ6, "bitCount", "(I)I"⟩
def RJ9 : String := "java/lang/Math"
def TJ9 : u_T := fun k => match k with
  | _ => ("", "", "", false)
def tyJ9 : Nat → FieldType := fun k => match k with
  | _ => .int
theorem nmJ9 : ∀ a, a < 0 → ∀ b, b < 0 → a ≠ b → (TJ9 a).2.1 ≠ (TJ9 b).2.1 := by decide +kernel
theorem tyJ9_ok : ∀ k, k < 0 → parseFieldDescriptor (TJ9 k).2.2.1 = some (tyJ9 k) := by decide +kernel
abbrev cJ9_max_7cf53 : ByteArray := prog_9_method_65_code
def yJ9_max_7cf53 : MethodName := ⟨RJ9, "max", "(II)I"⟩
abbrev cJ9_min_7cf53 : ByteArray := prog_9_method_69_code
def yJ9_min_7cf53 : MethodName := ⟨RJ9, "min", "(II)I"⟩
def RJ0 : String := "java/lang/String"
def TJ0 : u_T := fun k => match k with
  | _ => ("", "", "", false)
def tyJ0 : Nat → FieldType := fun k => match k with
  | _ => .int
theorem nmJ0 : ∀ a, a < 0 → ∀ b, b < 0 → a ≠ b → (TJ0 a).2.1 ≠ (TJ0 b).2.1 := by decide +kernel
theorem tyJ0_ok : ∀ k, k < 0 → parseFieldDescriptor (TJ0 k).2.2.1 = some (tyJ0 k) := by decide +kernel
abbrev cJ0_length_8abf5 : ByteArray := prog_10_method_54_code
def yJ0_length_8abf5 : MethodName := ⟨RJ0, "length", "()I"⟩
abbrev cJ0_charAt_5068e : ByteArray := prog_10_method_56_code
def yJ0_charAt_5068e : MethodName := ⟨RJ0, "charAt", "(I)C"⟩
abbrev cJ0_coder_7d493 : ByteArray := prog_10_method_152_code
def yJ0_coder_7d493 : MethodName := ⟨RJ0, "coder", "()B"⟩
abbrev cJ0_isLatin1_aae02 : ByteArray := prog_10_method_154_code
def yJ0_isLatin1_aae02 : MethodName := ⟨RJ0, "isLatin1", "()Z"⟩
abbrev cJ0_checkIndex_df160 : ByteArray := prog_10_method_155_code
def yJ0_checkIndex_df160 : MethodName := ⟨RJ0, "checkIndex", "(II)V"⟩
def RJ1 : String := "java/lang/StringLatin1"
def TJ1 : u_T := fun k => match k with
  | _ => ("", "", "", false)
def tyJ1 : Nat → FieldType := fun k => match k with
  | _ => .int
theorem nmJ1 : ∀ a, a < 0 → ∀ b, b < 0 → a ≠ b → (TJ1 a).2.1 ≠ (TJ1 b).2.1 := by decide +kernel
theorem tyJ1_ok : ∀ k, k < 0 → parseFieldDescriptor (TJ1 k).2.2.1 = some (tyJ1 k) := by decide +kernel
abbrev cJ1_charAt_3b067 : ByteArray := prog_11_method_2_code
def yJ1_charAt_3b067 : MethodName := ⟨RJ1, "charAt", "([BI)C"⟩
def RJ2 : String := "java/lang/StringUTF16"
def TJ2 : u_T := fun k => match k with
  | _ => ("", "", "", false)
def tyJ2 : Nat → FieldType := fun k => match k with
  | _ => .int
theorem nmJ2 : ∀ a, a < 0 → ∀ b, b < 0 → a ≠ b → (TJ2 a).2.1 ≠ (TJ2 b).2.1 := by decide +kernel
theorem tyJ2_ok : ∀ k, k < 0 → parseFieldDescriptor (TJ2 k).2.2.1 = some (tyJ2 k) := by decide +kernel
abbrev cJ2_getChar_3b067 : ByteArray := prog_12_method_5_code
def yJ2_getChar_3b067 : MethodName := ⟨RJ2, "getChar", "([BI)C"⟩
abbrev cJ2_length_9d52b : ByteArray := prog_12_method_6_code
def yJ2_length_9d52b : MethodName := ⟨RJ2, "length", "([B)I"⟩
abbrev cJ2_charAt_3b067 : ByteArray := prog_12_method_83_code
def yJ2_charAt_3b067 : MethodName := ⟨RJ2, "charAt", "([BI)C"⟩
abbrev cJ2_checkIndex_2214a : ByteArray := prog_12_method_91_code
def yJ2_checkIndex_2214a : MethodName := ⟨RJ2, "checkIndex", "(I[B)V"⟩
def RJ10 : String := "java/lang/System"
def TJ10 : u_T := fun k => match k with
  | _ => ("", "", "", false)
def tyJ10 : Nat → FieldType := fun k => match k with
  | _ => .int
theorem nmJ10 : ∀ a, a < 0 → ∀ b, b < 0 → a ≠ b → (TJ10 a).2.1 ≠ (TJ10 b).2.1 := by decide +kernel
theorem tyJ10_ok : ∀ k, k < 0 → parseFieldDescriptor (TJ10 k).2.2.1 = some (tyJ10 k) := by decide +kernel
def RJ3 : String := "jdk/internal/util/Preconditions"
def TJ3 : u_T := fun k => match k with
  | _ => ("", "", "", false)
def tyJ3 : Nat → FieldType := fun k => match k with
  | _ => .int
theorem nmJ3 : ∀ a, a < 0 → ∀ b, b < 0 → a ≠ b → (TJ3 a).2.1 ≠ (TJ3 b).2.1 := by decide +kernel
theorem tyJ3_ok : ∀ k, k < 0 → parseFieldDescriptor (TJ3 k).2.2.1 = some (tyJ3 k) := by decide +kernel
abbrev cJ3_checkIndex_8e157 : ByteArray := prog_14_method_11_code
def yJ3_checkIndex_8e157 : MethodName := ⟨RJ3, "checkIndex", "(IILjava/util/function/BiFunction;)I"⟩
def RL : String := "DrainedForAThirdLaw"
abbrev cL_law : ByteArray := code
def yL_law : MethodName := ⟨RL, "law", "([I)Z"⟩
abbrev vwCl : List vw_C := [(RX0, TX0, 13), (RX1, TX1, 9), (RX2, TX2, 3), (RX3, TX3, 3), (RX4, TX4, 9), (RX5, TX5, 45)]
