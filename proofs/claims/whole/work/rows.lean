section
-- ===== PART A: goes FIRST, ahead of the names: the tables' words, and 'selects' of the private methods out of them =====
/-- a private method of a class that the tables say can be made, by its rows of tables_1 -/
def lw_okq (q : MethodName × Nat) : Prop := (q.1.cls ≠ "java/lang/invoke/MethodHandle" ∧ q.1.cls ≠ "java/lang/invoke/VarHandle") ∧ Cond.instantiable q.1.cls q.2 ∈ tables_1 ∧ Cond.privateMethod q.1 ∈ tables_1 ∧ Cond.instanceMethod q.1 ∈ tables_1
theorem lw_p0 : lw_okq (⟨"TableRocks$Reader", "append", "(I)Z"⟩, 8) := ⟨⟨by decide +kernel, by decide +kernel⟩, List.mem_of_getElem? (i := 84) (by decide +kernel), List.mem_of_getElem? (i := 237) (by decide +kernel), List.mem_of_getElem? (i := 238) (by decide +kernel)⟩
theorem lw_p1 : lw_okq (⟨"TableRocks$Reader", "readTape", "()I"⟩, 8) := ⟨⟨by decide +kernel, by decide +kernel⟩, List.mem_of_getElem? (i := 84) (by decide +kernel), List.mem_of_getElem? (i := 245) (by decide +kernel), List.mem_of_getElem? (i := 246) (by decide +kernel)⟩
theorem lw_p2 : lw_okq (⟨"TableRocks$Reader", "advance", "()V"⟩, 8) := ⟨⟨by decide +kernel, by decide +kernel⟩, List.mem_of_getElem? (i := 84) (by decide +kernel), List.mem_of_getElem? (i := 249) (by decide +kernel), List.mem_of_getElem? (i := 250) (by decide +kernel)⟩
theorem lw_p3 : lw_okq (⟨"TableRocks$Reader", "endOfRun", "(II)I"⟩, 8) := ⟨⟨by decide +kernel, by decide +kernel⟩, List.mem_of_getElem? (i := 84) (by decide +kernel), List.mem_of_getElem? (i := 256) (by decide +kernel), List.mem_of_getElem? (i := 257) (by decide +kernel)⟩
theorem lw_p4 : lw_okq (⟨"TableRocks$Reader", "wordToken", "()I"⟩, 8) := ⟨⟨by decide +kernel, by decide +kernel⟩, List.mem_of_getElem? (i := 84) (by decide +kernel), List.mem_of_getElem? (i := 260) (by decide +kernel), List.mem_of_getElem? (i := 261) (by decide +kernel)⟩
theorem lw_p5 : lw_okq (⟨"TableRocks$Reader", "spells", "(Ljava/lang/String;)Z"⟩, 8) := ⟨⟨by decide +kernel, by decide +kernel⟩, List.mem_of_getElem? (i := 84) (by decide +kernel), List.mem_of_getElem? (i := 265) (by decide +kernel), List.mem_of_getElem? (i := 266) (by decide +kernel)⟩
theorem lw_p6 : lw_okq (⟨"TableRocks$Reader", "numberToken", "()I"⟩, 8) := ⟨⟨by decide +kernel, by decide +kernel⟩, List.mem_of_getElem? (i := 84) (by decide +kernel), List.mem_of_getElem? (i := 282) (by decide +kernel), List.mem_of_getElem? (i := 283) (by decide +kernel)⟩
theorem lw_p7 : lw_okq (⟨"TableRocks$Reader", "accept", "(I)V"⟩, 8) := ⟨⟨by decide +kernel, by decide +kernel⟩, List.mem_of_getElem? (i := 84) (by decide +kernel), List.mem_of_getElem? (i := 289) (by decide +kernel), List.mem_of_getElem? (i := 290) (by decide +kernel)⟩
theorem lw_p8 : lw_okq (⟨"TableRocks$Reader", "fail", "()V"⟩, 8) := ⟨⟨by decide +kernel, by decide +kernel⟩, List.mem_of_getElem? (i := 84) (by decide +kernel), List.mem_of_getElem? (i := 293) (by decide +kernel), List.mem_of_getElem? (i := 294) (by decide +kernel)⟩
theorem lw_p9 : lw_okq (⟨"TableRocks$Reader", "readOr", "(I)V"⟩, 8) := ⟨⟨by decide +kernel, by decide +kernel⟩, List.mem_of_getElem? (i := 84) (by decide +kernel), List.mem_of_getElem? (i := 297) (by decide +kernel), List.mem_of_getElem? (i := 298) (by decide +kernel)⟩
theorem lw_p10 : lw_okq (⟨"TableRocks$Reader", "readAnd", "(I)V"⟩, 8) := ⟨⟨by decide +kernel, by decide +kernel⟩, List.mem_of_getElem? (i := 84) (by decide +kernel), List.mem_of_getElem? (i := 301) (by decide +kernel), List.mem_of_getElem? (i := 302) (by decide +kernel)⟩
theorem lw_p11 : lw_okq (⟨"TableRocks$Reader", "readNot", "(I)V"⟩, 8) := ⟨⟨by decide +kernel, by decide +kernel⟩, List.mem_of_getElem? (i := 84) (by decide +kernel), List.mem_of_getElem? (i := 305) (by decide +kernel), List.mem_of_getElem? (i := 306) (by decide +kernel)⟩
theorem lw_p12 : lw_okq (⟨"TableRocks$Rule", "append", "(I)V"⟩, 3) := ⟨⟨by decide +kernel, by decide +kernel⟩, List.mem_of_getElem? (i := 90) (by decide +kernel), List.mem_of_getElem? (i := 309) (by decide +kernel), List.mem_of_getElem? (i := 310) (by decide +kernel)⟩
theorem lw_p13 : lw_okq (⟨"TableRocks$Reader", "readSum", "(I)V"⟩, 8) := ⟨⟨by decide +kernel, by decide +kernel⟩, List.mem_of_getElem? (i := 84) (by decide +kernel), List.mem_of_getElem? (i := 313) (by decide +kernel), List.mem_of_getElem? (i := 314) (by decide +kernel)⟩
theorem lw_p14 : lw_okq (⟨"TableRocks$Reader", "readTerm", "(I)V"⟩, 8) := ⟨⟨by decide +kernel, by decide +kernel⟩, List.mem_of_getElem? (i := 84) (by decide +kernel), List.mem_of_getElem? (i := 317) (by decide +kernel), List.mem_of_getElem? (i := 318) (by decide +kernel)⟩
theorem lw_p15 : lw_okq (⟨"TableRocks$Reader", "readOne", "(I)V"⟩, 8) := ⟨⟨by decide +kernel, by decide +kernel⟩, List.mem_of_getElem? (i := 84) (by decide +kernel), List.mem_of_getElem? (i := 321) (by decide +kernel), List.mem_of_getElem? (i := 322) (by decide +kernel)⟩
def lw_privs_1 : List (MethodName × Nat) := [(⟨"TableRocks$Reader", "append", "(I)Z"⟩, 8), (⟨"TableRocks$Reader", "readTape", "()I"⟩, 8), (⟨"TableRocks$Reader", "advance", "()V"⟩, 8), (⟨"TableRocks$Reader", "endOfRun", "(II)I"⟩, 8), (⟨"TableRocks$Reader", "wordToken", "()I"⟩, 8), (⟨"TableRocks$Reader", "spells", "(Ljava/lang/String;)Z"⟩, 8), (⟨"TableRocks$Reader", "numberToken", "()I"⟩, 8), (⟨"TableRocks$Reader", "accept", "(I)V"⟩, 8), (⟨"TableRocks$Reader", "fail", "()V"⟩, 8), (⟨"TableRocks$Reader", "readOr", "(I)V"⟩, 8), (⟨"TableRocks$Reader", "readAnd", "(I)V"⟩, 8), (⟨"TableRocks$Reader", "readNot", "(I)V"⟩, 8), (⟨"TableRocks$Rule", "append", "(I)V"⟩, 3), (⟨"TableRocks$Reader", "readSum", "(I)V"⟩, 8), (⟨"TableRocks$Reader", "readTerm", "(I)V"⟩, 8), (⟨"TableRocks$Reader", "readOne", "(I)V"⟩, 8)]
theorem lw_r1 : ∀ q ∈ lw_privs_1, lw_okq q := List.forall_mem_cons.mpr ⟨lw_p0, List.forall_mem_cons.mpr ⟨lw_p1, List.forall_mem_cons.mpr ⟨lw_p2, List.forall_mem_cons.mpr ⟨lw_p3, List.forall_mem_cons.mpr ⟨lw_p4, List.forall_mem_cons.mpr ⟨lw_p5, List.forall_mem_cons.mpr ⟨lw_p6, List.forall_mem_cons.mpr ⟨lw_p7, List.forall_mem_cons.mpr ⟨lw_p8, List.forall_mem_cons.mpr ⟨lw_p9, List.forall_mem_cons.mpr ⟨lw_p10, List.forall_mem_cons.mpr ⟨lw_p11, List.forall_mem_cons.mpr ⟨lw_p12, List.forall_mem_cons.mpr ⟨lw_p13, List.forall_mem_cons.mpr ⟨lw_p14, List.forall_mem_cons.mpr ⟨lw_p15, fun _ h => absurd h List.not_mem_nil⟩⟩⟩⟩⟩⟩⟩⟩⟩⟩⟩⟩⟩⟩⟩⟩
theorem lw_p16 : lw_okq (⟨"TableRocks$Rule", "endPart", "(I)V"⟩, 3) := ⟨⟨by decide +kernel, by decide +kernel⟩, List.mem_of_getElem? (i := 90) (by decide +kernel), List.mem_of_getElem? (i := 332) (by decide +kernel), List.mem_of_getElem? (i := 333) (by decide +kernel)⟩
theorem lw_p17 : lw_okq (⟨"TableRocks$Rule", "becomeLike", "(LTableRocks$Rule;)V"⟩, 3) := ⟨⟨by decide +kernel, by decide +kernel⟩, List.mem_of_getElem? (i := 90) (by decide +kernel), List.mem_of_getElem? (i := 337) (by decide +kernel), List.mem_of_getElem? (i := 338) (by decide +kernel)⟩
theorem lw_p18 : lw_okq (⟨"TableRocks", "setOfLeg", "(III)I"⟩, 8) := ⟨⟨by decide +kernel, by decide +kernel⟩, List.mem_of_getElem? (i := 17) (by decide +kernel), List.mem_of_getElem? (i := 393) (by decide +kernel), List.mem_of_getElem? (i := 394) (by decide +kernel)⟩
theorem lw_p19 : lw_okq (⟨"TableRocks", "setOfTable", "(II)I"⟩, 8) := ⟨⟨by decide +kernel, by decide +kernel⟩, List.mem_of_getElem? (i := 17) (by decide +kernel), List.mem_of_getElem? (i := 397) (by decide +kernel), List.mem_of_getElem? (i := 398) (by decide +kernel)⟩
theorem lw_p20 : lw_okq (⟨"TableRocks$Leg", "tall", "(I)I"⟩, 3) := ⟨⟨by decide +kernel, by decide +kernel⟩, List.mem_of_getElem? (i := 32) (by decide +kernel), List.mem_of_getElem? (i := 405) (by decide +kernel), List.mem_of_getElem? (i := 406) (by decide +kernel)⟩
theorem lw_p21 : lw_okq (⟨"TableRocks$Leg", "feltTall", "(I)I"⟩, 3) := ⟨⟨by decide +kernel, by decide +kernel⟩, List.mem_of_getElem? (i := 32) (by decide +kernel), List.mem_of_getElem? (i := 409) (by decide +kernel), List.mem_of_getElem? (i := 410) (by decide +kernel)⟩
theorem lw_p22 : lw_okq (⟨"TableRocks$Leg", "screwTall", "()I"⟩, 3) := ⟨⟨by decide +kernel, by decide +kernel⟩, List.mem_of_getElem? (i := 32) (by decide +kernel), List.mem_of_getElem? (i := 413) (by decide +kernel), List.mem_of_getElem? (i := 414) (by decide +kernel)⟩
theorem lw_p23 : lw_okq (⟨"TableRocks$Table", "cellBeneath", "(III)I"⟩, 7) := ⟨⟨by decide +kernel, by decide +kernel⟩, List.mem_of_getElem? (i := 25) (by decide +kernel), List.mem_of_getElem? (i := 420) (by decide +kernel), List.mem_of_getElem? (i := 421) (by decide +kernel)⟩
theorem lw_p24 : lw_okq (⟨"TableRocks$Table", "heightOf", "(III)I"⟩, 7) := ⟨⟨by decide +kernel, by decide +kernel⟩, List.mem_of_getElem? (i := 25) (by decide +kernel), List.mem_of_getElem? (i := 437) (by decide +kernel), List.mem_of_getElem? (i := 438) (by decide +kernel)⟩
theorem lw_p25 : lw_okq (⟨"TableRocks", "standing", "(III)I"⟩, 8) := ⟨⟨by decide +kernel, by decide +kernel⟩, List.mem_of_getElem? (i := 17) (by decide +kernel), List.mem_of_getElem? (i := 456) (by decide +kernel), List.mem_of_getElem? (i := 457) (by decide +kernel)⟩
theorem lw_p26 : lw_okq (⟨"TableRocks", "measure", "(II)V"⟩, 8) := ⟨⟨by decide +kernel, by decide +kernel⟩, List.mem_of_getElem? (i := 17) (by decide +kernel), List.mem_of_getElem? (i := 461) (by decide +kernel), List.mem_of_getElem? (i := 462) (by decide +kernel)⟩
theorem lw_p27 : lw_okq (⟨"TableRocks", "ruleInForce", "()LTableRocks$Rule;"⟩, 8) := ⟨⟨by decide +kernel, by decide +kernel⟩, List.mem_of_getElem? (i := 17) (by decide +kernel), List.mem_of_getElem? (i := 465) (by decide +kernel), List.mem_of_getElem? (i := 466) (by decide +kernel)⟩
theorem lw_p28 : lw_okq (⟨"TableRocks$Stand", "measure", "(LTableRocks$Table;LTableRocks$Rule;II)V"⟩, 7) := ⟨⟨by decide +kernel, by decide +kernel⟩, List.mem_of_getElem? (i := 136) (by decide +kernel), List.mem_of_getElem? (i := 469) (by decide +kernel), List.mem_of_getElem? (i := 470) (by decide +kernel)⟩
theorem lw_p29 : lw_okq (⟨"TableRocks$Stand", "measureLean", "()I"⟩, 7) := ⟨⟨by decide +kernel, by decide +kernel⟩, List.mem_of_getElem? (i := 136) (by decide +kernel), List.mem_of_getElem? (i := 477) (by decide +kernel), List.mem_of_getElem? (i := 478) (by decide +kernel)⟩
theorem lw_p30 : lw_okq (⟨"TableRocks$Stand", "firstBearing", "()I"⟩, 7) := ⟨⟨by decide +kernel, by decide +kernel⟩, List.mem_of_getElem? (i := 136) (by decide +kernel), List.mem_of_getElem? (i := 481) (by decide +kernel), List.mem_of_getElem? (i := 482) (by decide +kernel)⟩
theorem lw_p31 : lw_okq (⟨"TableRocks$Stand", "giveOfLoose", "(LTableRocks$Table;)I"⟩, 7) := ⟨⟨by decide +kernel, by decide +kernel⟩, List.mem_of_getElem? (i := 136) (by decide +kernel), List.mem_of_getElem? (i := 489) (by decide +kernel), List.mem_of_getElem? (i := 490) (by decide +kernel)⟩
def lw_privs_2 : List (MethodName × Nat) := [(⟨"TableRocks$Rule", "endPart", "(I)V"⟩, 3), (⟨"TableRocks$Rule", "becomeLike", "(LTableRocks$Rule;)V"⟩, 3), (⟨"TableRocks", "setOfLeg", "(III)I"⟩, 8), (⟨"TableRocks", "setOfTable", "(II)I"⟩, 8), (⟨"TableRocks$Leg", "tall", "(I)I"⟩, 3), (⟨"TableRocks$Leg", "feltTall", "(I)I"⟩, 3), (⟨"TableRocks$Leg", "screwTall", "()I"⟩, 3), (⟨"TableRocks$Table", "cellBeneath", "(III)I"⟩, 7), (⟨"TableRocks$Table", "heightOf", "(III)I"⟩, 7), (⟨"TableRocks", "standing", "(III)I"⟩, 8), (⟨"TableRocks", "measure", "(II)V"⟩, 8), (⟨"TableRocks", "ruleInForce", "()LTableRocks$Rule;"⟩, 8), (⟨"TableRocks$Stand", "measure", "(LTableRocks$Table;LTableRocks$Rule;II)V"⟩, 7), (⟨"TableRocks$Stand", "measureLean", "()I"⟩, 7), (⟨"TableRocks$Stand", "firstBearing", "()I"⟩, 7), (⟨"TableRocks$Stand", "giveOfLoose", "(LTableRocks$Table;)I"⟩, 7)]
theorem lw_r2 : ∀ q ∈ lw_privs_2, lw_okq q := List.forall_mem_cons.mpr ⟨lw_p16, List.forall_mem_cons.mpr ⟨lw_p17, List.forall_mem_cons.mpr ⟨lw_p18, List.forall_mem_cons.mpr ⟨lw_p19, List.forall_mem_cons.mpr ⟨lw_p20, List.forall_mem_cons.mpr ⟨lw_p21, List.forall_mem_cons.mpr ⟨lw_p22, List.forall_mem_cons.mpr ⟨lw_p23, List.forall_mem_cons.mpr ⟨lw_p24, List.forall_mem_cons.mpr ⟨lw_p25, List.forall_mem_cons.mpr ⟨lw_p26, List.forall_mem_cons.mpr ⟨lw_p27, List.forall_mem_cons.mpr ⟨lw_p28, List.forall_mem_cons.mpr ⟨lw_p29, List.forall_mem_cons.mpr ⟨lw_p30, List.forall_mem_cons.mpr ⟨lw_p31, fun _ h => absurd h List.not_mem_nil⟩⟩⟩⟩⟩⟩⟩⟩⟩⟩⟩⟩⟩⟩⟩⟩
theorem lw_p32 : lw_okq (⟨"TableRocks$Stand", "firstLoose", "()I"⟩, 7) := ⟨⟨by decide +kernel, by decide +kernel⟩, List.mem_of_getElem? (i := 136) (by decide +kernel), List.mem_of_getElem? (i := 493) (by decide +kernel), List.mem_of_getElem? (i := 494) (by decide +kernel)⟩
theorem lw_p33 : lw_okq (⟨"TableRocks$Leg", "gives", "(I)I"⟩, 3) := ⟨⟨by decide +kernel, by decide +kernel⟩, List.mem_of_getElem? (i := 32) (by decide +kernel), List.mem_of_getElem? (i := 497) (by decide +kernel), List.mem_of_getElem? (i := 498) (by decide +kernel)⟩
theorem lw_p34 : lw_okq (⟨"TableRocks$Leg", "feltGives", "(I)I"⟩, 3) := ⟨⟨by decide +kernel, by decide +kernel⟩, List.mem_of_getElem? (i := 32) (by decide +kernel), List.mem_of_getElem? (i := 501) (by decide +kernel), List.mem_of_getElem? (i := 502) (by decide +kernel)⟩
theorem lw_p35 : lw_okq (⟨"TableRocks$Stand", "name", "(II)V"⟩, 7) := ⟨⟨by decide +kernel, by decide +kernel⟩, List.mem_of_getElem? (i := 136) (by decide +kernel), List.mem_of_getElem? (i := 506) (by decide +kernel), List.mem_of_getElem? (i := 507) (by decide +kernel)⟩
theorem lw_p36 : lw_okq (⟨"TableRocks$Stand", "slack", "(LTableRocks$Rule;)I"⟩, 7) := ⟨⟨by decide +kernel, by decide +kernel⟩, List.mem_of_getElem? (i := 136) (by decide +kernel), List.mem_of_getElem? (i := 512) (by decide +kernel), List.mem_of_getElem? (i := 513) (by decide +kernel)⟩
theorem lw_p37 : lw_okq (⟨"TableRocks$Rule", "value", "(I[I[I)I"⟩, 3) := ⟨⟨by decide +kernel, by decide +kernel⟩, List.mem_of_getElem? (i := 90) (by decide +kernel), List.mem_of_getElem? (i := 516) (by decide +kernel), List.mem_of_getElem? (i := 517) (by decide +kernel)⟩
theorem lw_p38 : lw_okq (⟨"TableRocks$Stand", "looseBits", "()I"⟩, 7) := ⟨⟨by decide +kernel, by decide +kernel⟩, List.mem_of_getElem? (i := 136) (by decide +kernel), List.mem_of_getElem? (i := 529) (by decide +kernel), List.mem_of_getElem? (i := 530) (by decide +kernel)⟩
theorem lw_p39 : lw_okq (⟨"TableRocks$Stand", "worth", "(LTableRocks$Rule;)I"⟩, 7) := ⟨⟨by decide +kernel, by decide +kernel⟩, List.mem_of_getElem? (i := 136) (by decide +kernel), List.mem_of_getElem? (i := 533) (by decide +kernel), List.mem_of_getElem? (i := 534) (by decide +kernel)⟩
theorem lw_p40 : lw_okq (⟨"TableRocks$Stand", "spills", "(LTableRocks$Rule;)I"⟩, 7) := ⟨⟨by decide +kernel, by decide +kernel⟩, List.mem_of_getElem? (i := 136) (by decide +kernel), List.mem_of_getElem? (i := 537) (by decide +kernel), List.mem_of_getElem? (i := 538) (by decide +kernel)⟩
theorem lw_p41 : lw_okq (⟨"TableRocks", "isFirmAt", "(II)Z"⟩, 8) := ⟨⟨by decide +kernel, by decide +kernel⟩, List.mem_of_getElem? (i := 17) (by decide +kernel), List.mem_of_getElem? (i := 549) (by decide +kernel), List.mem_of_getElem? (i := 550) (by decide +kernel)⟩
theorem lw_p42 : lw_okq (⟨"TableRocks$Stand", "isFirm", "()Z"⟩, 7) := ⟨⟨by decide +kernel, by decide +kernel⟩, List.mem_of_getElem? (i := 136) (by decide +kernel), List.mem_of_getElem? (i := 553) (by decide +kernel), List.mem_of_getElem? (i := 554) (by decide +kernel)⟩
theorem lw_p43 : lw_okq (⟨"TableRocks", "worthAt", "(II)I"⟩, 8) := ⟨⟨by decide +kernel, by decide +kernel⟩, List.mem_of_getElem? (i := 17) (by decide +kernel), List.mem_of_getElem? (i := 571) (by decide +kernel), List.mem_of_getElem? (i := 572) (by decide +kernel)⟩
theorem lw_p44 : lw_okq (⟨"TableRocks", "rockHere", "()I"⟩, 8) := ⟨⟨by decide +kernel, by decide +kernel⟩, List.mem_of_getElem? (i := 17) (by decide +kernel), List.mem_of_getElem? (i := 579) (by decide +kernel), List.mem_of_getElem? (i := 580) (by decide +kernel)⟩
theorem lw_p45 : lw_okq (⟨"TableRocks$Leg", "shorten", "(I)V"⟩, 3) := ⟨⟨by decide +kernel, by decide +kernel⟩, List.mem_of_getElem? (i := 32) (by decide +kernel), List.mem_of_getElem? (i := 593) (by decide +kernel), List.mem_of_getElem? (i := 594) (by decide +kernel)⟩
theorem lw_p46 : lw_okq (⟨"TableRocks", "screwSum", "(I)I"⟩, 8) := ⟨⟨by decide +kernel, by decide +kernel⟩, List.mem_of_getElem? (i := 17) (by decide +kernel), List.mem_of_getElem? (i := 601) (by decide +kernel), List.mem_of_getElem? (i := 602) (by decide +kernel)⟩
theorem lw_p47 : lw_okq (⟨"TableRocks$Leg", "canScrew", "(I)Z"⟩, 3) := ⟨⟨by decide +kernel, by decide +kernel⟩, List.mem_of_getElem? (i := 32) (by decide +kernel), List.mem_of_getElem? (i := 608) (by decide +kernel), List.mem_of_getElem? (i := 609) (by decide +kernel)⟩
def lw_privs_3 : List (MethodName × Nat) := [(⟨"TableRocks$Stand", "firstLoose", "()I"⟩, 7), (⟨"TableRocks$Leg", "gives", "(I)I"⟩, 3), (⟨"TableRocks$Leg", "feltGives", "(I)I"⟩, 3), (⟨"TableRocks$Stand", "name", "(II)V"⟩, 7), (⟨"TableRocks$Stand", "slack", "(LTableRocks$Rule;)I"⟩, 7), (⟨"TableRocks$Rule", "value", "(I[I[I)I"⟩, 3), (⟨"TableRocks$Stand", "looseBits", "()I"⟩, 7), (⟨"TableRocks$Stand", "worth", "(LTableRocks$Rule;)I"⟩, 7), (⟨"TableRocks$Stand", "spills", "(LTableRocks$Rule;)I"⟩, 7), (⟨"TableRocks", "isFirmAt", "(II)Z"⟩, 8), (⟨"TableRocks$Stand", "isFirm", "()Z"⟩, 7), (⟨"TableRocks", "worthAt", "(II)I"⟩, 8), (⟨"TableRocks", "rockHere", "()I"⟩, 8), (⟨"TableRocks$Leg", "shorten", "(I)V"⟩, 3), (⟨"TableRocks", "screwSum", "(I)I"⟩, 8), (⟨"TableRocks$Leg", "canScrew", "(I)Z"⟩, 3)]
theorem lw_r3 : ∀ q ∈ lw_privs_3, lw_okq q := List.forall_mem_cons.mpr ⟨lw_p32, List.forall_mem_cons.mpr ⟨lw_p33, List.forall_mem_cons.mpr ⟨lw_p34, List.forall_mem_cons.mpr ⟨lw_p35, List.forall_mem_cons.mpr ⟨lw_p36, List.forall_mem_cons.mpr ⟨lw_p37, List.forall_mem_cons.mpr ⟨lw_p38, List.forall_mem_cons.mpr ⟨lw_p39, List.forall_mem_cons.mpr ⟨lw_p40, List.forall_mem_cons.mpr ⟨lw_p41, List.forall_mem_cons.mpr ⟨lw_p42, List.forall_mem_cons.mpr ⟨lw_p43, List.forall_mem_cons.mpr ⟨lw_p44, List.forall_mem_cons.mpr ⟨lw_p45, List.forall_mem_cons.mpr ⟨lw_p46, List.forall_mem_cons.mpr ⟨lw_p47, fun _ h => absurd h List.not_mem_nil⟩⟩⟩⟩⟩⟩⟩⟩⟩⟩⟩⟩⟩⟩⟩⟩
theorem lw_p48 : lw_okq (⟨"TableRocks$Leg", "isOne", "(I)Z"⟩, 3) := ⟨⟨by decide +kernel, by decide +kernel⟩, List.mem_of_getElem? (i := 32) (by decide +kernel), List.mem_of_getElem? (i := 612) (by decide +kernel), List.mem_of_getElem? (i := 613) (by decide +kernel)⟩
theorem lw_p49 : lw_okq (⟨"TableRocks", "isFirmScrewed", "(I)Z"⟩, 8) := ⟨⟨by decide +kernel, by decide +kernel⟩, List.mem_of_getElem? (i := 17) (by decide +kernel), List.mem_of_getElem? (i := 621) (by decide +kernel), List.mem_of_getElem? (i := 622) (by decide +kernel)⟩
theorem lw_p50 : lw_okq (⟨"TableRocks", "screwAll", "(II)V"⟩, 8) := ⟨⟨by decide +kernel, by decide +kernel⟩, List.mem_of_getElem? (i := 17) (by decide +kernel), List.mem_of_getElem? (i := 625) (by decide +kernel), List.mem_of_getElem? (i := 626) (by decide +kernel)⟩
theorem lw_p51 : lw_okq (⟨"TableRocks", "gapAt", "(I)I"⟩, 8) := ⟨⟨by decide +kernel, by decide +kernel⟩, List.mem_of_getElem? (i := 17) (by decide +kernel), List.mem_of_getElem? (i := 633) (by decide +kernel), List.mem_of_getElem? (i := 634) (by decide +kernel)⟩
theorem lw_p52 : lw_okq (⟨"TableRocks", "isApart", "(I)Z"⟩, 8) := ⟨⟨by decide +kernel, by decide +kernel⟩, List.mem_of_getElem? (i := 17) (by decide +kernel), List.mem_of_getElem? (i := 641) (by decide +kernel), List.mem_of_getElem? (i := 642) (by decide +kernel)⟩
theorem lw_p53 : lw_okq (⟨"TableRocks$Sheet", "isMissing", "()Z"⟩, 3) := ⟨⟨by decide +kernel, by decide +kernel⟩, List.mem_of_getElem? (i := 169) (by decide +kernel), List.mem_of_getElem? (i := 656) (by decide +kernel), List.mem_of_getElem? (i := 657) (by decide +kernel)⟩
theorem lw_p54 : lw_okq (⟨"TableRocks", "firstOtherwise", "(LTableRocks$Sheet;I)I"⟩, 8) := ⟨⟨by decide +kernel, by decide +kernel⟩, List.mem_of_getElem? (i := 17) (by decide +kernel), List.mem_of_getElem? (i := 660) (by decide +kernel), List.mem_of_getElem? (i := 661) (by decide +kernel)⟩
theorem lw_p55 : lw_okq (⟨"TableRocks$Stand", "knock", "()I"⟩, 7) := ⟨⟨by decide +kernel, by decide +kernel⟩, List.mem_of_getElem? (i := 136) (by decide +kernel), List.mem_of_getElem? (i := 664) (by decide +kernel), List.mem_of_getElem? (i := 665) (by decide +kernel)⟩
theorem lw_p56 : lw_okq (⟨"TableRocks$Table", "becomeLike", "(LTableRocks$Table;)V"⟩, 7) := ⟨⟨by decide +kernel, by decide +kernel⟩, List.mem_of_getElem? (i := 25) (by decide +kernel), List.mem_of_getElem? (i := 694) (by decide +kernel), List.mem_of_getElem? (i := 695) (by decide +kernel)⟩
theorem lw_p57 : lw_okq (⟨"TableRocks$Sheet", "vanish", "()V"⟩, 3) := ⟨⟨by decide +kernel, by decide +kernel⟩, List.mem_of_getElem? (i := 169) (by decide +kernel), List.mem_of_getElem? (i := 711) (by decide +kernel), List.mem_of_getElem? (i := 712) (by decide +kernel)⟩
theorem lw_p58 : lw_okq (⟨"TableRocks$Sheet", "become", "(II)V"⟩, 3) := ⟨⟨by decide +kernel, by decide +kernel⟩, List.mem_of_getElem? (i := 169) (by decide +kernel), List.mem_of_getElem? (i := 715) (by decide +kernel), List.mem_of_getElem? (i := 716) (by decide +kernel)⟩
theorem lw_p59 : lw_okq (⟨"TableRocks$Sheet", "hasItem", "(I)Z"⟩, 3) := ⟨⟨by decide +kernel, by decide +kernel⟩, List.mem_of_getElem? (i := 169) (by decide +kernel), List.mem_of_getElem? (i := 724) (by decide +kernel), List.mem_of_getElem? (i := 725) (by decide +kernel)⟩
theorem lw_p60 : lw_okq (⟨"TableRocks$Sheet", "put", "(II)V"⟩, 3) := ⟨⟨by decide +kernel, by decide +kernel⟩, List.mem_of_getElem? (i := 169) (by decide +kernel), List.mem_of_getElem? (i := 728) (by decide +kernel), List.mem_of_getElem? (i := 729) (by decide +kernel)⟩
theorem lw_p61 : lw_okq (⟨"TableRocks$Sheet", "hasItems", "(II)Z"⟩, 3) := ⟨⟨by decide +kernel, by decide +kernel⟩, List.mem_of_getElem? (i := 169) (by decide +kernel), List.mem_of_getElem? (i := 737) (by decide +kernel), List.mem_of_getElem? (i := 738) (by decide +kernel)⟩
theorem lw_p62 : lw_okq (⟨"TableRocksModel", "readText", "()I"⟩, 46) := ⟨⟨by decide +kernel, by decide +kernel⟩, List.mem_of_getElem? (i := 752) (by decide +kernel), List.mem_of_getElem? (i := 758) (by decide +kernel), List.mem_of_getElem? (i := 759) (by decide +kernel)⟩
theorem lw_p63 : lw_okq (⟨"TableRocksModel", "readToken", "()V"⟩, 46) := ⟨⟨by decide +kernel, by decide +kernel⟩, List.mem_of_getElem? (i := 752) (by decide +kernel), List.mem_of_getElem? (i := 762) (by decide +kernel), List.mem_of_getElem? (i := 763) (by decide +kernel)⟩
def lw_privs_4 : List (MethodName × Nat) := [(⟨"TableRocks$Leg", "isOne", "(I)Z"⟩, 3), (⟨"TableRocks", "isFirmScrewed", "(I)Z"⟩, 8), (⟨"TableRocks", "screwAll", "(II)V"⟩, 8), (⟨"TableRocks", "gapAt", "(I)I"⟩, 8), (⟨"TableRocks", "isApart", "(I)Z"⟩, 8), (⟨"TableRocks$Sheet", "isMissing", "()Z"⟩, 3), (⟨"TableRocks", "firstOtherwise", "(LTableRocks$Sheet;I)I"⟩, 8), (⟨"TableRocks$Stand", "knock", "()I"⟩, 7), (⟨"TableRocks$Table", "becomeLike", "(LTableRocks$Table;)V"⟩, 7), (⟨"TableRocks$Sheet", "vanish", "()V"⟩, 3), (⟨"TableRocks$Sheet", "become", "(II)V"⟩, 3), (⟨"TableRocks$Sheet", "hasItem", "(I)Z"⟩, 3), (⟨"TableRocks$Sheet", "put", "(II)V"⟩, 3), (⟨"TableRocks$Sheet", "hasItems", "(II)Z"⟩, 3), (⟨"TableRocksModel", "readText", "()I"⟩, 46), (⟨"TableRocksModel", "readToken", "()V"⟩, 46)]
theorem lw_r4 : ∀ q ∈ lw_privs_4, lw_okq q := List.forall_mem_cons.mpr ⟨lw_p48, List.forall_mem_cons.mpr ⟨lw_p49, List.forall_mem_cons.mpr ⟨lw_p50, List.forall_mem_cons.mpr ⟨lw_p51, List.forall_mem_cons.mpr ⟨lw_p52, List.forall_mem_cons.mpr ⟨lw_p53, List.forall_mem_cons.mpr ⟨lw_p54, List.forall_mem_cons.mpr ⟨lw_p55, List.forall_mem_cons.mpr ⟨lw_p56, List.forall_mem_cons.mpr ⟨lw_p57, List.forall_mem_cons.mpr ⟨lw_p58, List.forall_mem_cons.mpr ⟨lw_p59, List.forall_mem_cons.mpr ⟨lw_p60, List.forall_mem_cons.mpr ⟨lw_p61, List.forall_mem_cons.mpr ⟨lw_p62, List.forall_mem_cons.mpr ⟨lw_p63, fun _ h => absurd h List.not_mem_nil⟩⟩⟩⟩⟩⟩⟩⟩⟩⟩⟩⟩⟩⟩⟩⟩
theorem lw_p64 : lw_okq (⟨"TableRocksModel", "isBlank", "(I)Z"⟩, 46) := ⟨⟨by decide +kernel, by decide +kernel⟩, List.mem_of_getElem? (i := 752) (by decide +kernel), List.mem_of_getElem? (i := 766) (by decide +kernel), List.mem_of_getElem? (i := 767) (by decide +kernel)⟩
theorem lw_p65 : lw_okq (⟨"TableRocksModel", "readWord", "()V"⟩, 46) := ⟨⟨by decide +kernel, by decide +kernel⟩, List.mem_of_getElem? (i := 752) (by decide +kernel), List.mem_of_getElem? (i := 775) (by decide +kernel), List.mem_of_getElem? (i := 776) (by decide +kernel)⟩
theorem lw_p66 : lw_okq (⟨"TableRocksModel", "isWord", "(III)Z"⟩, 46) := ⟨⟨by decide +kernel, by decide +kernel⟩, List.mem_of_getElem? (i := 752) (by decide +kernel), List.mem_of_getElem? (i := 779) (by decide +kernel), List.mem_of_getElem? (i := 780) (by decide +kernel)⟩
theorem lw_p67 : lw_okq (⟨"TableRocksModel", "readNumber", "()V"⟩, 46) := ⟨⟨by decide +kernel, by decide +kernel⟩, List.mem_of_getElem? (i := 752) (by decide +kernel), List.mem_of_getElem? (i := 785) (by decide +kernel), List.mem_of_getElem? (i := 786) (by decide +kernel)⟩
theorem lw_p68 : lw_okq (⟨"TableRocksModel", "isKey", "(I)Z"⟩, 46) := ⟨⟨by decide +kernel, by decide +kernel⟩, List.mem_of_getElem? (i := 752) (by decide +kernel), List.mem_of_getElem? (i := 789) (by decide +kernel), List.mem_of_getElem? (i := 790) (by decide +kernel)⟩
theorem lw_p69 : lw_okq (⟨"TableRocksModel", "readOne", "()Z"⟩, 46) := ⟨⟨by decide +kernel, by decide +kernel⟩, List.mem_of_getElem? (i := 752) (by decide +kernel), List.mem_of_getElem? (i := 793) (by decide +kernel), List.mem_of_getElem? (i := 794) (by decide +kernel)⟩
theorem lw_p70 : lw_okq (⟨"TableRocksModel", "begins", "()Z"⟩, 46) := ⟨⟨by decide +kernel, by decide +kernel⟩, List.mem_of_getElem? (i := 752) (by decide +kernel), List.mem_of_getElem? (i := 797) (by decide +kernel), List.mem_of_getElem? (i := 798) (by decide +kernel)⟩
theorem lw_p71 : lw_okq (⟨"TableRocksModel", "step", "(I)V"⟩, 46) := ⟨⟨by decide +kernel, by decide +kernel⟩, List.mem_of_getElem? (i := 752) (by decide +kernel), List.mem_of_getElem? (i := 801) (by decide +kernel), List.mem_of_getElem? (i := 802) (by decide +kernel)⟩
theorem lw_p72 : lw_okq (⟨"TableRocksModel", "letGo", "(I)V"⟩, 46) := ⟨⟨by decide +kernel, by decide +kernel⟩, List.mem_of_getElem? (i := 752) (by decide +kernel), List.mem_of_getElem? (i := 805) (by decide +kernel), List.mem_of_getElem? (i := 806) (by decide +kernel)⟩
theorem lw_p73 : lw_okq (⟨"TableRocksModel", "isSign", "(I)Z"⟩, 46) := ⟨⟨by decide +kernel, by decide +kernel⟩, List.mem_of_getElem? (i := 752) (by decide +kernel), List.mem_of_getElem? (i := 812) (by decide +kernel), List.mem_of_getElem? (i := 813) (by decide +kernel)⟩
theorem lw_p74 : lw_okq (⟨"TableRocksModel", "opened", "()I"⟩, 46) := ⟨⟨by decide +kernel, by decide +kernel⟩, List.mem_of_getElem? (i := 752) (by decide +kernel), List.mem_of_getElem? (i := 816) (by decide +kernel), List.mem_of_getElem? (i := 817) (by decide +kernel)⟩
theorem lw_p75 : lw_okq (⟨"TableRocksModel", "await", "(I)V"⟩, 46) := ⟨⟨by decide +kernel, by decide +kernel⟩, List.mem_of_getElem? (i := 752) (by decide +kernel), List.mem_of_getElem? (i := 820) (by decide +kernel), List.mem_of_getElem? (i := 821) (by decide +kernel)⟩
theorem lw_p76 : lw_okq (⟨"TableRocksModel", "follows", "()Z"⟩, 46) := ⟨⟨by decide +kernel, by decide +kernel⟩, List.mem_of_getElem? (i := 752) (by decide +kernel), List.mem_of_getElem? (i := 824) (by decide +kernel), List.mem_of_getElem? (i := 825) (by decide +kernel)⟩
theorem lw_p77 : lw_okq (⟨"TableRocksModel", "goOn", "(I)V"⟩, 46) := ⟨⟨by decide +kernel, by decide +kernel⟩, List.mem_of_getElem? (i := 752) (by decide +kernel), List.mem_of_getElem? (i := 828) (by decide +kernel), List.mem_of_getElem? (i := 829) (by decide +kernel)⟩
theorem lw_p78 : lw_okq (⟨"TableRocksModel", "hasCompared", "()Z"⟩, 46) := ⟨⟨by decide +kernel, by decide +kernel⟩, List.mem_of_getElem? (i := 752) (by decide +kernel), List.mem_of_getElem? (i := 832) (by decide +kernel), List.mem_of_getElem? (i := 833) (by decide +kernel)⟩
theorem lw_p79 : lw_okq (⟨"TableRocksModel", "isBracketed", "()Z"⟩, 46) := ⟨⟨by decide +kernel, by decide +kernel⟩, List.mem_of_getElem? (i := 752) (by decide +kernel), List.mem_of_getElem? (i := 836) (by decide +kernel), List.mem_of_getElem? (i := 837) (by decide +kernel)⟩
def lw_privs_5 : List (MethodName × Nat) := [(⟨"TableRocksModel", "isBlank", "(I)Z"⟩, 46), (⟨"TableRocksModel", "readWord", "()V"⟩, 46), (⟨"TableRocksModel", "isWord", "(III)Z"⟩, 46), (⟨"TableRocksModel", "readNumber", "()V"⟩, 46), (⟨"TableRocksModel", "isKey", "(I)Z"⟩, 46), (⟨"TableRocksModel", "readOne", "()Z"⟩, 46), (⟨"TableRocksModel", "begins", "()Z"⟩, 46), (⟨"TableRocksModel", "step", "(I)V"⟩, 46), (⟨"TableRocksModel", "letGo", "(I)V"⟩, 46), (⟨"TableRocksModel", "isSign", "(I)Z"⟩, 46), (⟨"TableRocksModel", "opened", "()I"⟩, 46), (⟨"TableRocksModel", "await", "(I)V"⟩, 46), (⟨"TableRocksModel", "follows", "()Z"⟩, 46), (⟨"TableRocksModel", "goOn", "(I)V"⟩, 46), (⟨"TableRocksModel", "hasCompared", "()Z"⟩, 46), (⟨"TableRocksModel", "isBracketed", "()Z"⟩, 46)]
theorem lw_r5 : ∀ q ∈ lw_privs_5, lw_okq q := List.forall_mem_cons.mpr ⟨lw_p64, List.forall_mem_cons.mpr ⟨lw_p65, List.forall_mem_cons.mpr ⟨lw_p66, List.forall_mem_cons.mpr ⟨lw_p67, List.forall_mem_cons.mpr ⟨lw_p68, List.forall_mem_cons.mpr ⟨lw_p69, List.forall_mem_cons.mpr ⟨lw_p70, List.forall_mem_cons.mpr ⟨lw_p71, List.forall_mem_cons.mpr ⟨lw_p72, List.forall_mem_cons.mpr ⟨lw_p73, List.forall_mem_cons.mpr ⟨lw_p74, List.forall_mem_cons.mpr ⟨lw_p75, List.forall_mem_cons.mpr ⟨lw_p76, List.forall_mem_cons.mpr ⟨lw_p77, List.forall_mem_cons.mpr ⟨lw_p78, List.forall_mem_cons.mpr ⟨lw_p79, fun _ h => absurd h List.not_mem_nil⟩⟩⟩⟩⟩⟩⟩⟩⟩⟩⟩⟩⟩⟩⟩⟩
theorem lw_p80 : lw_okq (⟨"TableRocksModel", "findNow", "()V"⟩, 46) := ⟨⟨by decide +kernel, by decide +kernel⟩, List.mem_of_getElem? (i := 752) (by decide +kernel), List.mem_of_getElem? (i := 998) (by decide +kernel), List.mem_of_getElem? (i := 999) (by decide +kernel)⟩
theorem lw_p81 : lw_okq (⟨"TableRocksModel", "find", "(II)V"⟩, 46) := ⟨⟨by decide +kernel, by decide +kernel⟩, List.mem_of_getElem? (i := 752) (by decide +kernel), List.mem_of_getElem? (i := 1002) (by decide +kernel), List.mem_of_getElem? (i := 1003) (by decide +kernel)⟩
theorem lw_p82 : lw_okq (⟨"TableRocksModel", "cellOf", "(III)I"⟩, 46) := ⟨⟨by decide +kernel, by decide +kernel⟩, List.mem_of_getElem? (i := 752) (by decide +kernel), List.mem_of_getElem? (i := 1006) (by decide +kernel), List.mem_of_getElem? (i := 1007) (by decide +kernel)⟩
theorem lw_p83 : lw_okq (⟨"TableRocksModel", "tallOf", "(II)I"⟩, 46) := ⟨⟨by decide +kernel, by decide +kernel⟩, List.mem_of_getElem? (i := 752) (by decide +kernel), List.mem_of_getElem? (i := 1013) (by decide +kernel), List.mem_of_getElem? (i := 1014) (by decide +kernel)⟩
theorem lw_p84 : lw_okq (⟨"TableRocksModel", "givesOf", "(II)I"⟩, 46) := ⟨⟨by decide +kernel, by decide +kernel⟩, List.mem_of_getElem? (i := 752) (by decide +kernel), List.mem_of_getElem? (i := 1017) (by decide +kernel), List.mem_of_getElem? (i := 1018) (by decide +kernel)⟩
theorem lw_p85 : lw_okq (⟨"TableRocksModel", "says", "(I)I"⟩, 46) := ⟨⟨by decide +kernel, by decide +kernel⟩, List.mem_of_getElem? (i := 752) (by decide +kernel), List.mem_of_getElem? (i := 1021) (by decide +kernel), List.mem_of_getElem? (i := 1022) (by decide +kernel)⟩
theorem lw_p86 : lw_okq (⟨"TableRocksModel", "findLean", "()V"⟩, 46) := ⟨⟨by decide +kernel, by decide +kernel⟩, List.mem_of_getElem? (i := 752) (by decide +kernel), List.mem_of_getElem? (i := 1028) (by decide +kernel), List.mem_of_getElem? (i := 1029) (by decide +kernel)⟩
theorem lw_p87 : lw_okq (⟨"TableRocksModel", "foundOf", "(I)I"⟩, 46) := ⟨⟨by decide +kernel, by decide +kernel⟩, List.mem_of_getElem? (i := 752) (by decide +kernel), List.mem_of_getElem? (i := 1032) (by decide +kernel), List.mem_of_getElem? (i := 1033) (by decide +kernel)⟩
theorem lw_p88 : lw_okq (⟨"TableRocksModel", "firmAt", "(I)I"⟩, 46) := ⟨⟨by decide +kernel, by decide +kernel⟩, List.mem_of_getElem? (i := 752) (by decide +kernel), List.mem_of_getElem? (i := 1046) (by decide +kernel), List.mem_of_getElem? (i := 1047) (by decide +kernel)⟩
theorem lw_p89 : lw_okq (⟨"TableRocksModel", "isFirmAt", "(II)Z"⟩, 46) := ⟨⟨by decide +kernel, by decide +kernel⟩, List.mem_of_getElem? (i := 752) (by decide +kernel), List.mem_of_getElem? (i := 1050) (by decide +kernel), List.mem_of_getElem? (i := 1051) (by decide +kernel)⟩
theorem lw_p90 : lw_okq (⟨"TableRocksModel", "knock", "(II)I"⟩, 46) := ⟨⟨by decide +kernel, by decide +kernel⟩, List.mem_of_getElem? (i := 752) (by decide +kernel), List.mem_of_getElem? (i := 1062) (by decide +kernel), List.mem_of_getElem? (i := 1063) (by decide +kernel)⟩
theorem lw_p91 : lw_okq (⟨"TableRocksModel", "screwBy", "(I)I"⟩, 46) := ⟨⟨by decide +kernel, by decide +kernel⟩, List.mem_of_getElem? (i := 752) (by decide +kernel), List.mem_of_getElem? (i := 1088) (by decide +kernel), List.mem_of_getElem? (i := 1089) (by decide +kernel)⟩
theorem lw_p92 : lw_okq (⟨"TableRocksModel", "firstOtherwise", "(II)I"⟩, 46) := ⟨⟨by decide +kernel, by decide +kernel⟩, List.mem_of_getElem? (i := 752) (by decide +kernel), List.mem_of_getElem? (i := 1113) (by decide +kernel), List.mem_of_getElem? (i := 1114) (by decide +kernel)⟩
theorem lw_p93 : lw_okq (⟨"TableRocksModel", "rockBy", "(I)I"⟩, 46) := ⟨⟨by decide +kernel, by decide +kernel⟩, List.mem_of_getElem? (i := 752) (by decide +kernel), List.mem_of_getElem? (i := 1126) (by decide +kernel), List.mem_of_getElem? (i := 1127) (by decide +kernel)⟩
theorem lw_p94 : lw_okq (⟨"TableRocksModel", "became", "(III)I"⟩, 46) := ⟨⟨by decide +kernel, by decide +kernel⟩, List.mem_of_getElem? (i := 752) (by decide +kernel), List.mem_of_getElem? (i := 1153) (by decide +kernel), List.mem_of_getElem? (i := 1154) (by decide +kernel)⟩
theorem lw_p95 : lw_okq (⟨"TableRocksModel", "carryAll", "()V"⟩, 46) := ⟨⟨by decide +kernel, by decide +kernel⟩, List.mem_of_getElem? (i := 752) (by decide +kernel), List.mem_of_getElem? (i := 1166) (by decide +kernel), List.mem_of_getElem? (i := 1167) (by decide +kernel)⟩
def lw_privs_6 : List (MethodName × Nat) := [(⟨"TableRocksModel", "findNow", "()V"⟩, 46), (⟨"TableRocksModel", "find", "(II)V"⟩, 46), (⟨"TableRocksModel", "cellOf", "(III)I"⟩, 46), (⟨"TableRocksModel", "tallOf", "(II)I"⟩, 46), (⟨"TableRocksModel", "givesOf", "(II)I"⟩, 46), (⟨"TableRocksModel", "says", "(I)I"⟩, 46), (⟨"TableRocksModel", "findLean", "()V"⟩, 46), (⟨"TableRocksModel", "foundOf", "(I)I"⟩, 46), (⟨"TableRocksModel", "firmAt", "(I)I"⟩, 46), (⟨"TableRocksModel", "isFirmAt", "(II)Z"⟩, 46), (⟨"TableRocksModel", "knock", "(II)I"⟩, 46), (⟨"TableRocksModel", "screwBy", "(I)I"⟩, 46), (⟨"TableRocksModel", "firstOtherwise", "(II)I"⟩, 46), (⟨"TableRocksModel", "rockBy", "(I)I"⟩, 46), (⟨"TableRocksModel", "became", "(III)I"⟩, 46), (⟨"TableRocksModel", "carryAll", "()V"⟩, 46)]
theorem lw_r6 : ∀ q ∈ lw_privs_6, lw_okq q := List.forall_mem_cons.mpr ⟨lw_p80, List.forall_mem_cons.mpr ⟨lw_p81, List.forall_mem_cons.mpr ⟨lw_p82, List.forall_mem_cons.mpr ⟨lw_p83, List.forall_mem_cons.mpr ⟨lw_p84, List.forall_mem_cons.mpr ⟨lw_p85, List.forall_mem_cons.mpr ⟨lw_p86, List.forall_mem_cons.mpr ⟨lw_p87, List.forall_mem_cons.mpr ⟨lw_p88, List.forall_mem_cons.mpr ⟨lw_p89, List.forall_mem_cons.mpr ⟨lw_p90, List.forall_mem_cons.mpr ⟨lw_p91, List.forall_mem_cons.mpr ⟨lw_p92, List.forall_mem_cons.mpr ⟨lw_p93, List.forall_mem_cons.mpr ⟨lw_p94, List.forall_mem_cons.mpr ⟨lw_p95, fun _ h => absurd h List.not_mem_nil⟩⟩⟩⟩⟩⟩⟩⟩⟩⟩⟩⟩⟩⟩⟩⟩
theorem lw_p96 : lw_okq (⟨"TableRocksModel", "carry", "(I)I"⟩, 46) := ⟨⟨by decide +kernel, by decide +kernel⟩, List.mem_of_getElem? (i := 752) (by decide +kernel), List.mem_of_getElem? (i := 1170) (by decide +kernel), List.mem_of_getElem? (i := 1171) (by decide +kernel)⟩
def lw_privs_7 : List (MethodName × Nat) := [(⟨"TableRocksModel", "carry", "(I)I"⟩, 46)]
theorem lw_r7 : ∀ q ∈ lw_privs_7, lw_okq q := List.forall_mem_cons.mpr ⟨lw_p96, fun _ h => absurd h List.not_mem_nil⟩
def lw_privs : List (MethodName × Nat) := lw_privs_1 ++ (lw_privs_2 ++ (lw_privs_3 ++ (lw_privs_4 ++ (lw_privs_5 ++ (lw_privs_6 ++ (lw_privs_7))))))
def lw_tbl : List Cond := k2_sels lw_privs ++ tables_1
theorem lw_privs_ok : ∀ q ∈ lw_privs, lw_okq q := by
  show ∀ q ∈ lw_privs_1 ++ (lw_privs_2 ++ (lw_privs_3 ++ (lw_privs_4 ++ (lw_privs_5 ++ (lw_privs_6 ++ (lw_privs_7)))))), lw_okq q
  exact List.forall_mem_append.mpr ⟨lw_r1, List.forall_mem_append.mpr ⟨lw_r2, List.forall_mem_append.mpr ⟨lw_r3, List.forall_mem_append.mpr ⟨lw_r4, List.forall_mem_append.mpr ⟨lw_r5, List.forall_mem_append.mpr ⟨lw_r6, lw_r7⟩⟩⟩⟩⟩⟩
-- ===== end of PART A; then your names; then what follows =====
end
section
/-! ===== BEGIN printed: names, fields, word lists, decode rows ===== -/
def RX0 : String := "TableRocks$Leg"
def TX0 : u_T := fun k => match k with
  | 0 => ("TableRocks$Leg", "kind", "I", false)
  | 1 => ("TableRocks$Leg", "length", "I", false)
  | _ => ("TableRocks$Leg", "number", "I", false)
def tyX0 : Nat → FieldType := fun k => match k with
  | 0 => .int
  | 1 => .int
  | _ => .int
theorem nmX0 : ∀ a, a < 3 → ∀ b, b < 3 → a ≠ b → (TX0 a).2.1 ≠ (TX0 b).2.1 := by decide +kernel
theorem tyX0_ok : ∀ k, k < 3 → parseFieldDescriptor (TX0 k).2.2.1 = some (tyX0 k) := by decide +kernel
abbrev cX0_init : ByteArray := prog_2_method_1_code
def yX0_init : MethodName := ⟨RX0, "<init>", "()V"⟩
abbrev cX0_tall : ByteArray := prog_2_method_2_code
def yX0_tall : MethodName := ⟨RX0, "tall", "(I)I"⟩
abbrev cX0_feltTall : ByteArray := prog_2_method_3_code
def yX0_feltTall : MethodName := ⟨RX0, "feltTall", "(I)I"⟩
abbrev cX0_screwTall : ByteArray := prog_2_method_4_code
def yX0_screwTall : MethodName := ⟨RX0, "screwTall", "()I"⟩
abbrev cX0_gives : ByteArray := prog_2_method_5_code
def yX0_gives : MethodName := ⟨RX0, "gives", "(I)I"⟩
abbrev cX0_feltGives : ByteArray := prog_2_method_6_code
def yX0_feltGives : MethodName := ⟨RX0, "feltGives", "(I)I"⟩
abbrev cX0_isOne : ByteArray := prog_2_method_7_code
def yX0_isOne : MethodName := ⟨RX0, "isOne", "(I)Z"⟩
abbrev cX0_canScrew : ByteArray := prog_2_method_8_code
def yX0_canScrew : MethodName := ⟨RX0, "canScrew", "(I)Z"⟩
abbrev cX0_shorten : ByteArray := prog_2_method_9_code
def yX0_shorten : MethodName := ⟨RX0, "shorten", "(I)V"⟩
def RX1 : String := "TableRocks$Reader"
def TX1 : u_T := fun k => match k with
  | 0 => ("TableRocks$Reader", "tape", "[I", true)
  | 1 => ("TableRocks$Reader", "rule", "LTableRocks$Rule;", true)
  | 2 => ("TableRocks$Reader", "size", "I", false)
  | 3 => ("TableRocks$Reader", "token", "I", false)
  | 4 => ("TableRocks$Reader", "place", "I", false)
  | 5 => ("TableRocks$Reader", "behind", "I", false)
  | 6 => ("TableRocks$Reader", "number", "I", false)
  | _ => ("TableRocks$Reader", "fault", "I", false)
def tyX1 : Nat → FieldType := fun k => match k with
  | 0 => .array .int
  | 1 => .object "TableRocks$Rule"
  | 2 => .int
  | 3 => .int
  | 4 => .int
  | 5 => .int
  | 6 => .int
  | _ => .int
theorem nmX1 : ∀ a, a < 8 → ∀ b, b < 8 → a ≠ b → (TX1 a).2.1 ≠ (TX1 b).2.1 := by decide +kernel
theorem tyX1_ok : ∀ k, k < 8 → parseFieldDescriptor (TX1 k).2.2.1 = some (tyX1 k) := by decide +kernel
abbrev cX1_init : ByteArray := prog_3_method_1_code
def yX1_init : MethodName := ⟨RX1, "<init>", "()V"⟩
abbrev cX1_append : ByteArray := prog_3_method_2_code
def yX1_append : MethodName := ⟨RX1, "append", "(I)Z"⟩
abbrev cX1_readTape : ByteArray := prog_3_method_3_code
def yX1_readTape : MethodName := ⟨RX1, "readTape", "()I"⟩
abbrev cX1_readOr : ByteArray := prog_3_method_4_code
def yX1_readOr : MethodName := ⟨RX1, "readOr", "(I)V"⟩
abbrev cX1_readAnd : ByteArray := prog_3_method_5_code
def yX1_readAnd : MethodName := ⟨RX1, "readAnd", "(I)V"⟩
abbrev cX1_readNot : ByteArray := prog_3_method_6_code
def yX1_readNot : MethodName := ⟨RX1, "readNot", "(I)V"⟩
abbrev cX1_readSum : ByteArray := prog_3_method_7_code
def yX1_readSum : MethodName := ⟨RX1, "readSum", "(I)V"⟩
abbrev cX1_readTerm : ByteArray := prog_3_method_8_code
def yX1_readTerm : MethodName := ⟨RX1, "readTerm", "(I)V"⟩
abbrev cX1_readOne : ByteArray := prog_3_method_9_code
def yX1_readOne : MethodName := ⟨RX1, "readOne", "(I)V"⟩
abbrev cX1_accept : ByteArray := prog_3_method_10_code
def yX1_accept : MethodName := ⟨RX1, "accept", "(I)V"⟩
abbrev cX1_fail : ByteArray := prog_3_method_11_code
def yX1_fail : MethodName := ⟨RX1, "fail", "()V"⟩
abbrev cX1_advance : ByteArray := prog_3_method_12_code
def yX1_advance : MethodName := ⟨RX1, "advance", "()V"⟩
abbrev cX1_endOfRun : ByteArray := prog_3_method_13_code
def yX1_endOfRun : MethodName := ⟨RX1, "endOfRun", "(II)I"⟩
abbrev cX1_numberToken : ByteArray := prog_3_method_14_code
def yX1_numberToken : MethodName := ⟨RX1, "numberToken", "()I"⟩
abbrev cX1_wordToken : ByteArray := prog_3_method_15_code
def yX1_wordToken : MethodName := ⟨RX1, "wordToken", "()I"⟩
abbrev cX1_spells : ByteArray := prog_3_method_16_code
def yX1_spells : MethodName := ⟨RX1, "spells", "(Ljava/lang/String;)Z"⟩
def RX2 : String := "TableRocks$Rule"
def TX2 : u_T := fun k => match k with
  | 0 => ("TableRocks$Rule", "code", "[I", true)
  | 1 => ("TableRocks$Rule", "ends", "[I", true)
  | _ => ("TableRocks$Rule", "size", "I", false)
def tyX2 : Nat → FieldType := fun k => match k with
  | 0 => .array .int
  | 1 => .array .int
  | _ => .int
theorem nmX2 : ∀ a, a < 3 → ∀ b, b < 3 → a ≠ b → (TX2 a).2.1 ≠ (TX2 b).2.1 := by decide +kernel
theorem tyX2_ok : ∀ k, k < 3 → parseFieldDescriptor (TX2 k).2.2.1 = some (tyX2 k) := by decide +kernel
abbrev cX2_init : ByteArray := prog_4_method_1_code
def yX2_init : MethodName := ⟨RX2, "<init>", "()V"⟩
abbrev cX2_append : ByteArray := prog_4_method_2_code
def yX2_append : MethodName := ⟨RX2, "append", "(I)V"⟩
abbrev cX2_endPart : ByteArray := prog_4_method_3_code
def yX2_endPart : MethodName := ⟨RX2, "endPart", "(I)V"⟩
abbrev cX2_becomeLike : ByteArray := prog_4_method_4_code
def yX2_becomeLike : MethodName := ⟨RX2, "becomeLike", "(LTableRocks$Rule;)V"⟩
abbrev cX2_value : ByteArray := prog_4_method_5_code
def yX2_value : MethodName := ⟨RX2, "value", "(I[I[I)I"⟩
abbrev cX2_turnedRound : ByteArray := prog_4_method_6_code
def yX2_turnedRound : MethodName := ⟨RX2, "turnedRound", "(II)I"⟩
abbrev cX2_joined : ByteArray := prog_4_method_7_code
def yX2_joined : MethodName := ⟨RX2, "joined", "(III)I"⟩
def RX3 : String := "TableRocks$Sheet"
def TX3 : u_T := fun k => match k with
  | 0 => ("TableRocks$Sheet", "sort", "I", false)
  | 1 => ("TableRocks$Sheet", "size", "I", false)
  | _ => ("TableRocks$Sheet", "items", "[I", true)
def tyX3 : Nat → FieldType := fun k => match k with
  | 0 => .int
  | 1 => .int
  | _ => .array .int
theorem nmX3 : ∀ a, a < 3 → ∀ b, b < 3 → a ≠ b → (TX3 a).2.1 ≠ (TX3 b).2.1 := by decide +kernel
theorem tyX3_ok : ∀ k, k < 3 → parseFieldDescriptor (TX3 k).2.2.1 = some (tyX3 k) := by decide +kernel
abbrev cX3_init : ByteArray := prog_5_method_1_code
def yX3_init : MethodName := ⟨RX3, "<init>", "()V"⟩
abbrev cX3_isMissing : ByteArray := prog_5_method_2_code
def yX3_isMissing : MethodName := ⟨RX3, "isMissing", "()Z"⟩
abbrev cX3_vanish : ByteArray := prog_5_method_3_code
def yX3_vanish : MethodName := ⟨RX3, "vanish", "()V"⟩
abbrev cX3_become : ByteArray := prog_5_method_4_code
def yX3_become : MethodName := ⟨RX3, "become", "(II)V"⟩
abbrev cX3_hasItem : ByteArray := prog_5_method_5_code
def yX3_hasItem : MethodName := ⟨RX3, "hasItem", "(I)Z"⟩
abbrev cX3_hasItems : ByteArray := prog_5_method_6_code
def yX3_hasItems : MethodName := ⟨RX3, "hasItems", "(II)Z"⟩
abbrev cX3_put : ByteArray := prog_5_method_7_code
def yX3_put : MethodName := ⟨RX3, "put", "(II)V"⟩
def RX4 : String := "TableRocks$Stand"
def TX4 : u_T := fun k => match k with
  | 0 => ("TableRocks$Stand", "at", "[I", true)
  | 1 => ("TableRocks$Stand", "names", "[I", true)
  | 2 => ("TableRocks$Stand", "stack", "[I", true)
  | 3 => ("TableRocks$Stand", "gap", "I", false)
  | 4 => ("TableRocks$Stand", "size", "I", false)
  | 5 => ("TableRocks$Stand", "rock", "I", false)
  | _ => ("TableRocks$Stand", "lean", "I", false)
def tyX4 : Nat → FieldType := fun k => match k with
  | 0 => .array .int
  | 1 => .array .int
  | 2 => .array .int
  | 3 => .int
  | 4 => .int
  | 5 => .int
  | _ => .int
theorem nmX4 : ∀ a, a < 7 → ∀ b, b < 7 → a ≠ b → (TX4 a).2.1 ≠ (TX4 b).2.1 := by decide +kernel
theorem tyX4_ok : ∀ k, k < 7 → parseFieldDescriptor (TX4 k).2.2.1 = some (tyX4 k) := by decide +kernel
abbrev cX4_init : ByteArray := prog_6_method_1_code
def yX4_init : MethodName := ⟨RX4, "<init>", "()V"⟩
abbrev cX4_measure : ByteArray := prog_6_method_2_code
def yX4_measure : MethodName := ⟨RX4, "measure", "(LTableRocks$Table;LTableRocks$Rule;II)V"⟩
abbrev cX4_measureLean : ByteArray := prog_6_method_3_code
def yX4_measureLean : MethodName := ⟨RX4, "measureLean", "()I"⟩
abbrev cX4_giveOfLoose : ByteArray := prog_6_method_4_code
def yX4_giveOfLoose : MethodName := ⟨RX4, "giveOfLoose", "(LTableRocks$Table;)I"⟩
abbrev cX4_name : ByteArray := prog_6_method_5_code
def yX4_name : MethodName := ⟨RX4, "name", "(II)V"⟩
abbrev cX4_slack : ByteArray := prog_6_method_6_code
def yX4_slack : MethodName := ⟨RX4, "slack", "(LTableRocks$Rule;)I"⟩
abbrev cX4_worth : ByteArray := prog_6_method_7_code
def yX4_worth : MethodName := ⟨RX4, "worth", "(LTableRocks$Rule;)I"⟩
abbrev cX4_spills : ByteArray := prog_6_method_8_code
def yX4_spills : MethodName := ⟨RX4, "spills", "(LTableRocks$Rule;)I"⟩
abbrev cX4_isFirm : ByteArray := prog_6_method_9_code
def yX4_isFirm : MethodName := ⟨RX4, "isFirm", "()Z"⟩
abbrev cX4_firstBearing : ByteArray := prog_6_method_10_code
def yX4_firstBearing : MethodName := ⟨RX4, "firstBearing", "()I"⟩
abbrev cX4_firstLoose : ByteArray := prog_6_method_11_code
def yX4_firstLoose : MethodName := ⟨RX4, "firstLoose", "()I"⟩
abbrev cX4_looseBits : ByteArray := prog_6_method_12_code
def yX4_looseBits : MethodName := ⟨RX4, "looseBits", "()I"⟩
abbrev cX4_knock : ByteArray := prog_6_method_13_code
def yX4_knock : MethodName := ⟨RX4, "knock", "()I"⟩
def RX5 : String := "TableRocks$Table"
def TX5 : u_T := fun k => match k with
  | 0 => ("TableRocks$Table", "heights", "[I", true)
  | 1 => ("TableRocks$Table", "legs", "[LTableRocks$Leg;", true)
  | 2 => ("TableRocks$Table", "place", "I", false)
  | 3 => ("TableRocks$Table", "radius", "I", false)
  | 4 => ("TableRocks$Table", "turn", "I", false)
  | 5 => ("TableRocks$Table", "load", "I", false)
  | _ => ("TableRocks$Table", "rule", "I", false)
def tyX5 : Nat → FieldType := fun k => match k with
  | 0 => .array .int
  | 1 => .array (.object "TableRocks$Leg")
  | 2 => .int
  | 3 => .int
  | 4 => .int
  | 5 => .int
  | _ => .int
theorem nmX5 : ∀ a, a < 7 → ∀ b, b < 7 → a ≠ b → (TX5 a).2.1 ≠ (TX5 b).2.1 := by decide +kernel
theorem tyX5_ok : ∀ k, k < 7 → parseFieldDescriptor (TX5 k).2.2.1 = some (tyX5 k) := by decide +kernel
abbrev cX5_init : ByteArray := prog_7_method_1_code
def yX5_init : MethodName := ⟨RX5, "<init>", "()V"⟩
abbrev cX5_cellBeneath : ByteArray := prog_7_method_2_code
def yX5_cellBeneath : MethodName := ⟨RX5, "cellBeneath", "(III)I"⟩
abbrev cX5_heightOf : ByteArray := prog_7_method_3_code
def yX5_heightOf : MethodName := ⟨RX5, "heightOf", "(III)I"⟩
abbrev cX5_becomeLike : ByteArray := prog_7_method_4_code
def yX5_becomeLike : MethodName := ⟨RX5, "becomeLike", "(LTableRocks$Table;)V"⟩
def RX6 : String := "TableRocks$Token"
def TX6 : u_T := fun k => match k with
  | _ => ("", "", "", false)
def tyX6 : Nat → FieldType := fun k => match k with
  | _ => .int
theorem nmX6 : ∀ a, a < 0 → ∀ b, b < 0 → a ≠ b → (TX6 a).2.1 ≠ (TX6 b).2.1 := by decide +kernel
theorem tyX6_ok : ∀ k, k < 0 → parseFieldDescriptor (TX6 k).2.2.1 = some (tyX6 k) := by decide +kernel
abbrev cX6_isName : ByteArray := prog_8_method_2_code
def yX6_isName : MethodName := ⟨RX6, "isName", "(I)Z"⟩
abbrev cX6_nameIndex : ByteArray := prog_8_method_3_code
def yX6_nameIndex : MethodName := ⟨RX6, "nameIndex", "(I)I"⟩
abbrev cX6_ofSign : ByteArray := prog_8_method_4_code
def yX6_ofSign : MethodName := ⟨RX6, "ofSign", "(I)I"⟩
def RX7 : String := "TableRocks"
def TX7 : u_T := fun k => match k with
  | 0 => ("TableRocks", "table", "LTableRocks$Table;", true)
  | 1 => ("TableRocks", "kept", "LTableRocks$Table;", true)
  | 2 => ("TableRocks", "keeps", "Z", false)
  | 3 => ("TableRocks", "reader", "LTableRocks$Reader;", true)
  | 4 => ("TableRocks", "rules", "[LTableRocks$Rule;", true)
  | 5 => ("TableRocks", "ruleCount", "I", false)
  | 6 => ("TableRocks", "stand", "LTableRocks$Stand;", true)
  | _ => ("TableRocks", "sheets", "[LTableRocks$Sheet;", true)
def tyX7 : Nat → FieldType := fun k => match k with
  | 0 => .object "TableRocks$Table"
  | 1 => .object "TableRocks$Table"
  | 2 => .boolean
  | 3 => .object "TableRocks$Reader"
  | 4 => .array (.object "TableRocks$Rule")
  | 5 => .int
  | 6 => .object "TableRocks$Stand"
  | _ => .array (.object "TableRocks$Sheet")
theorem nmX7 : ∀ a, a < 8 → ∀ b, b < 8 → a ≠ b → (TX7 a).2.1 ≠ (TX7 b).2.1 := by decide +kernel
theorem tyX7_ok : ∀ k, k < 8 → parseFieldDescriptor (TX7 k).2.2.1 = some (tyX7 k) := by decide +kernel
abbrev cX7_init : ByteArray := prog_1_method_1_code
def yX7_init : MethodName := ⟨RX7, "<init>", "()V"⟩
abbrev cX7_floor : ByteArray := prog_1_method_2_code
def yX7_floor : MethodName := ⟨RX7, "floor", "(II)I"⟩
abbrev cX7_wave : ByteArray := prog_1_method_3_code
def yX7_wave : MethodName := ⟨RX7, "wave", "(III)I"⟩
abbrev cX7_leg : ByteArray := prog_1_method_4_code
def yX7_leg : MethodName := ⟨RX7, "leg", "(III)I"⟩
abbrev cX7_set : ByteArray := prog_1_method_5_code
def yX7_set : MethodName := ⟨RX7, "set", "(III)I"⟩
abbrev cX7_told : ByteArray := prog_1_method_6_code
def yX7_told : MethodName := ⟨RX7, "told", "(II)I"⟩
abbrev cX7_feed : ByteArray := prog_1_method_7_code
def yX7_feed : MethodName := ⟨RX7, "feed", "(I)I"⟩
abbrev cX7_text : ByteArray := prog_1_method_8_code
def yX7_text : MethodName := ⟨RX7, "text", "()I"⟩
abbrev cX7_force : ByteArray := prog_1_method_9_code
def yX7_force : MethodName := ⟨RX7, "force", "(I)I"⟩
abbrev cX7_stands : ByteArray := prog_1_method_10_code
def yX7_stands : MethodName := ⟨RX7, "stands", "(I)I"⟩
abbrev cX7_standsAt : ByteArray := prog_1_method_11_code
def yX7_standsAt : MethodName := ⟨RX7, "standsAt", "(III)I"⟩
abbrev cX7_firm : ByteArray := prog_1_method_12_code
def yX7_firm : MethodName := ⟨RX7, "firm", "()I"⟩
abbrev cX7_fewest : ByteArray := prog_1_method_13_code
def yX7_fewest : MethodName := ⟨RX7, "fewest", "(I)I"⟩
abbrev cX7_feels : ByteArray := prog_1_method_14_code
def yX7_feels : MethodName := ⟨RX7, "feels", "(I)I"⟩
abbrev cX7_best : ByteArray := prog_1_method_15_code
def yX7_best : MethodName := ⟨RX7, "best", "(I)I"⟩
abbrev cX7_turn : ByteArray := prog_1_method_16_code
def yX7_turn : MethodName := ⟨RX7, "turn", "(I)I"⟩
abbrev cX7_wedge : ByteArray := prog_1_method_17_code
def yX7_wedge : MethodName := ⟨RX7, "wedge", "()I"⟩
abbrev cX7_saw : ByteArray := prog_1_method_18_code
def yX7_saw : MethodName := ⟨RX7, "saw", "()I"⟩
abbrev cX7_screwed : ByteArray := prog_1_method_19_code
def yX7_screwed : MethodName := ⟨RX7, "screwed", "()I"⟩
abbrev cX7_blame : ByteArray := prog_1_method_20_code
def yX7_blame : MethodName := ⟨RX7, "blame", "(I)I"⟩
abbrev cX7_beside : ByteArray := prog_1_method_21_code
def yX7_beside : MethodName := ⟨RX7, "beside", "(I)I"⟩
abbrev cX7_sit : ByteArray := prog_1_method_22_code
def yX7_sit : MethodName := ⟨RX7, "sit", "()I"⟩
abbrev cX7_judge : ByteArray := prog_1_method_23_code
def yX7_judge : MethodName := ⟨RX7, "judge", "(I)I"⟩
abbrev cX7_which : ByteArray := prog_1_method_24_code
def yX7_which : MethodName := ⟨RX7, "which", "(I)J"⟩
abbrev cX7_drawn : ByteArray := prog_1_method_25_code
def yX7_drawn : MethodName := ⟨RX7, "drawn", "(I)I"⟩
abbrev cX7_odds : ByteArray := prog_1_method_26_code
def yX7_odds : MethodName := ⟨RX7, "odds", "(III)J"⟩
abbrev cX7_image : ByteArray := prog_1_method_27_code
def yX7_image : MethodName := ⟨RX7, "image", "()I"⟩
abbrev cX7_back : ByteArray := prog_1_method_28_code
def yX7_back : MethodName := ⟨RX7, "back", "()I"⟩
abbrev cX7_count : ByteArray := prog_1_method_29_code
def yX7_count : MethodName := ⟨RX7, "count", "(I)I"⟩
abbrev cX7_sheet : ByteArray := prog_1_method_30_code
def yX7_sheet : MethodName := ⟨RX7, "sheet", "(III)I"⟩
abbrev cX7_cell : ByteArray := prog_1_method_31_code
def yX7_cell : MethodName := ⟨RX7, "cell", "(III)I"⟩
abbrev cX7_copy : ByteArray := prog_1_method_32_code
def yX7_copy : MethodName := ⟨RX7, "copy", "(IIIII)I"⟩
abbrev cX7_floors : ByteArray := prog_1_method_33_code
def yX7_floors : MethodName := ⟨RX7, "floors", "(IIII)I"⟩
abbrev cX7_taken : ByteArray := prog_1_method_34_code
def yX7_taken : MethodName := ⟨RX7, "taken", "(II)I"⟩
abbrev cX7_within : ByteArray := prog_1_method_35_code
def yX7_within : MethodName := ⟨RX7, "within", "(III)Z"⟩
abbrev cX7_held : ByteArray := prog_1_method_36_code
def yX7_held : MethodName := ⟨RX7, "held", "(III)I"⟩
abbrev cX7_round : ByteArray := prog_1_method_37_code
def yX7_round : MethodName := ⟨RX7, "round", "(I)I"⟩
abbrev cX7_isLeg : ByteArray := prog_1_method_38_code
def yX7_isLeg : MethodName := ⟨RX7, "isLeg", "(I)Z"⟩
abbrev cX7_isKind : ByteArray := prog_1_method_39_code
def yX7_isKind : MethodName := ⟨RX7, "isKind", "(I)Z"⟩
abbrev cX7_isSheet : ByteArray := prog_1_method_40_code
def yX7_isSheet : MethodName := ⟨RX7, "isSheet", "(I)Z"⟩
abbrev cX7_nextDraw : ByteArray := prog_1_method_41_code
def yX7_nextDraw : MethodName := ⟨RX7, "nextDraw", "(I)I"⟩
abbrev cX7_commonDivisor : ByteArray := prog_1_method_42_code
def yX7_commonDivisor : MethodName := ⟨RX7, "commonDivisor", "(II)I"⟩
abbrev cX7_setOfLeg : ByteArray := prog_1_method_43_code
def yX7_setOfLeg : MethodName := ⟨RX7, "setOfLeg", "(III)I"⟩
abbrev cX7_setOfTable : ByteArray := prog_1_method_44_code
def yX7_setOfTable : MethodName := ⟨RX7, "setOfTable", "(II)I"⟩
abbrev cX7_ruleInForce : ByteArray := prog_1_method_45_code
def yX7_ruleInForce : MethodName := ⟨RX7, "ruleInForce", "()LTableRocks$Rule;"⟩
abbrev cX7_measure : ByteArray := prog_1_method_46_code
def yX7_measure : MethodName := ⟨RX7, "measure", "(II)V"⟩
abbrev cX7_standing : ByteArray := prog_1_method_47_code
def yX7_standing : MethodName := ⟨RX7, "standing", "(III)I"⟩
abbrev cX7_isFirmAt : ByteArray := prog_1_method_48_code
def yX7_isFirmAt : MethodName := ⟨RX7, "isFirmAt", "(II)Z"⟩
abbrev cX7_worthAt : ByteArray := prog_1_method_49_code
def yX7_worthAt : MethodName := ⟨RX7, "worthAt", "(II)I"⟩
abbrev cX7_gapAt : ByteArray := prog_1_method_50_code
def yX7_gapAt : MethodName := ⟨RX7, "gapAt", "(I)I"⟩
abbrev cX7_rockHere : ByteArray := prog_1_method_51_code
def yX7_rockHere : MethodName := ⟨RX7, "rockHere", "()I"⟩
abbrev cX7_isApart : ByteArray := prog_1_method_52_code
def yX7_isApart : MethodName := ⟨RX7, "isApart", "(I)Z"⟩
abbrev cX7_screwStep : ByteArray := prog_1_method_53_code
def yX7_screwStep : MethodName := ⟨RX7, "screwStep", "(II)I"⟩
abbrev cX7_screwSum : ByteArray := prog_1_method_54_code
def yX7_screwSum : MethodName := ⟨RX7, "screwSum", "(I)I"⟩
abbrev cX7_isFirmScrewed : ByteArray := prog_1_method_55_code
def yX7_isFirmScrewed : MethodName := ⟨RX7, "isFirmScrewed", "(I)Z"⟩
abbrev cX7_screwAll : ByteArray := prog_1_method_56_code
def yX7_screwAll : MethodName := ⟨RX7, "screwAll", "(II)V"⟩
abbrev cX7_firstOtherwise : ByteArray := prog_1_method_57_code
def yX7_firstOtherwise : MethodName := ⟨RX7, "firstOtherwise", "(LTableRocks$Sheet;I)I"⟩
def RX8 : String := "TableRocksModel"
def TX8 : u_T := fun k => match k with
  | 0 => ("TableRocksModel", "heights", "[I", true)
  | 1 => ("TableRocksModel", "kinds", "[I", true)
  | 2 => ("TableRocksModel", "longs", "[I", true)
  | 3 => ("TableRocksModel", "numbers", "[I", true)
  | 4 => ("TableRocksModel", "place", "I", false)
  | 5 => ("TableRocksModel", "radius", "I", false)
  | 6 => ("TableRocksModel", "turned", "I", false)
  | 7 => ("TableRocksModel", "load", "I", false)
  | 8 => ("TableRocksModel", "thrown", "I", false)
  | 9 => ("TableRocksModel", "firstText", "[I", true)
  | 10 => ("TableRocksModel", "letters", "[I", true)
  | 11 => ("TableRocksModel", "wordAt", "[I", true)
  | 12 => ("TableRocksModel", "tape", "[I", true)
  | 13 => ("TableRocksModel", "tapeMany", "I", false)
  | 14 => ("TableRocksModel", "textMany", "I", false)
  | 15 => ("TableRocksModel", "rule", "I", false)
  | 16 => ("TableRocksModel", "token", "I", false)
  | 17 => ("TableRocksModel", "tokenAt", "I", false)
  | 18 => ("TableRocksModel", "tokenValue", "I", false)
  | 19 => ("TableRocksModel", "next", "I", false)
  | 20 => ("TableRocksModel", "steps", "[I", true)
  | 21 => ("TableRocksModel", "bounds", "[I", true)
  | 22 => ("TableRocksModel", "stepMany", "I", false)
  | 23 => ("TableRocksModel", "waiting", "[I", true)
  | 24 => ("TableRocksModel", "waitMany", "I", false)
  | 25 => ("TableRocksModel", "isDone", "Z", false)
  | 26 => ("TableRocksModel", "wantsOne", "Z", false)
  | 27 => ("TableRocksModel", "mayNot", "Z", false)
  | 28 => ("TableRocksModel", "named", "[I", true)
  | 29 => ("TableRocksModel", "stack", "[I", true)
  | 30 => ("TableRocksModel", "at", "[I", true)
  | 31 => ("TableRocksModel", "gap", "I", false)
  | 32 => ("TableRocksModel", "size", "I", false)
  | 33 => ("TableRocksModel", "rock", "I", false)
  | 34 => ("TableRocksModel", "lean", "I", false)
  | 35 => ("TableRocksModel", "bearing", "I", false)
  | 36 => ("TableRocksModel", "loose", "I", false)
  | 37 => ("TableRocksModel", "kept", "[I", true)
  | 38 => ("TableRocksModel", "hasImage", "Z", false)
  | 39 => ("TableRocksModel", "imaged", "[I", true)
  | 40 => ("TableRocksModel", "imageAt", "I", false)
  | 41 => ("TableRocksModel", "isTaking", "Z", false)
  | 42 => ("TableRocksModel", "sheetSort", "[I", true)
  | 43 => ("TableRocksModel", "sheetMany", "[I", true)
  | 44 => ("TableRocksModel", "sheets", "[I", true)
  | _ => ("TableRocksModel", "between", "[I", true)
def tyX8 : Nat → FieldType := fun k => match k with
  | 0 => .array .int
  | 1 => .array .int
  | 2 => .array .int
  | 3 => .array .int
  | 4 => .int
  | 5 => .int
  | 6 => .int
  | 7 => .int
  | 8 => .int
  | 9 => .array .int
  | 10 => .array .int
  | 11 => .array .int
  | 12 => .array .int
  | 13 => .int
  | 14 => .int
  | 15 => .int
  | 16 => .int
  | 17 => .int
  | 18 => .int
  | 19 => .int
  | 20 => .array .int
  | 21 => .array .int
  | 22 => .int
  | 23 => .array .int
  | 24 => .int
  | 25 => .boolean
  | 26 => .boolean
  | 27 => .boolean
  | 28 => .array .int
  | 29 => .array .int
  | 30 => .array .int
  | 31 => .int
  | 32 => .int
  | 33 => .int
  | 34 => .int
  | 35 => .int
  | 36 => .int
  | 37 => .array .int
  | 38 => .boolean
  | 39 => .array .int
  | 40 => .int
  | 41 => .boolean
  | 42 => .array .int
  | 43 => .array .int
  | 44 => .array .int
  | _ => .array .int
theorem nmX8 : ∀ a, a < 46 → ∀ b, b < 46 → a ≠ b → (TX8 a).2.1 ≠ (TX8 b).2.1 := by decide +kernel
theorem tyX8_ok : ∀ k, k < 46 → parseFieldDescriptor (TX8 k).2.2.1 = some (tyX8 k) := by decide +kernel
abbrev cX8_init : ByteArray := prog_10_method_1_code
def yX8_init : MethodName := ⟨RX8, "<init>", "()V"⟩
abbrev cX8_in : ByteArray := prog_10_method_3_code
def yX8_in : MethodName := ⟨RX8, "in", "(JJJ)Z"⟩
abbrev cX8_held : ByteArray := prog_10_method_4_code
def yX8_held : MethodName := ⟨RX8, "held", "(III)I"⟩
abbrev cX8_isBlank : ByteArray := prog_10_method_5_code
def yX8_isBlank : MethodName := ⟨RX8, "isBlank", "(I)Z"⟩
abbrev cX8_isWord : ByteArray := prog_10_method_6_code
def yX8_isWord : MethodName := ⟨RX8, "isWord", "(III)Z"⟩
abbrev cX8_readWord : ByteArray := prog_10_method_7_code
def yX8_readWord : MethodName := ⟨RX8, "readWord", "()V"⟩
abbrev cX8_readNumber : ByteArray := prog_10_method_8_code
def yX8_readNumber : MethodName := ⟨RX8, "readNumber", "()V"⟩
abbrev cX8_readToken : ByteArray := prog_10_method_9_code
def yX8_readToken : MethodName := ⟨RX8, "readToken", "()V"⟩
abbrev cX8_isSign : ByteArray := prog_10_method_10_code
def yX8_isSign : MethodName := ⟨RX8, "isSign", "(I)Z"⟩
abbrev cX8_isKey : ByteArray := prog_10_method_11_code
def yX8_isKey : MethodName := ⟨RX8, "isKey", "(I)Z"⟩
abbrev cX8_step : ByteArray := prog_10_method_12_code
def yX8_step : MethodName := ⟨RX8, "step", "(I)V"⟩
abbrev cX8_rank : ByteArray := prog_10_method_13_code
def yX8_rank : MethodName := ⟨RX8, "rank", "(I)I"⟩
abbrev cX8_letGo : ByteArray := prog_10_method_14_code
def yX8_letGo : MethodName := ⟨RX8, "letGo", "(I)V"⟩
abbrev cX8_opened : ByteArray := prog_10_method_15_code
def yX8_opened : MethodName := ⟨RX8, "opened", "()I"⟩
abbrev cX8_isBracketed : ByteArray := prog_10_method_16_code
def yX8_isBracketed : MethodName := ⟨RX8, "isBracketed", "()Z"⟩
abbrev cX8_hasCompared : ByteArray := prog_10_method_17_code
def yX8_hasCompared : MethodName := ⟨RX8, "hasCompared", "()Z"⟩
abbrev cX8_await : ByteArray := prog_10_method_18_code
def yX8_await : MethodName := ⟨RX8, "await", "(I)V"⟩
abbrev cX8_begins : ByteArray := prog_10_method_19_code
def yX8_begins : MethodName := ⟨RX8, "begins", "()Z"⟩
abbrev cX8_goOn : ByteArray := prog_10_method_20_code
def yX8_goOn : MethodName := ⟨RX8, "goOn", "(I)V"⟩
abbrev cX8_follows : ByteArray := prog_10_method_21_code
def yX8_follows : MethodName := ⟨RX8, "follows", "()Z"⟩
abbrev cX8_readOne : ByteArray := prog_10_method_22_code
def yX8_readOne : MethodName := ⟨RX8, "readOne", "()Z"⟩
abbrev cX8_readText : ByteArray := prog_10_method_23_code
def yX8_readText : MethodName := ⟨RX8, "readText", "()I"⟩
abbrev cX8_done : ByteArray := prog_10_method_24_code
def yX8_done : MethodName := ⟨RX8, "done", "(III)I"⟩
abbrev cX8_says : ByteArray := prog_10_method_25_code
def yX8_says : MethodName := ⟨RX8, "says", "(I)I"⟩
abbrev cX8_feed : ByteArray := prog_10_method_26_code
def yX8_feed : MethodName := ⟨RX8, "feed", "(I)I"⟩
abbrev cX8_text : ByteArray := prog_10_method_27_code
def yX8_text : MethodName := ⟨RX8, "text", "()I"⟩
abbrev cX8_force : ByteArray := prog_10_method_28_code
def yX8_force : MethodName := ⟨RX8, "force", "(I)I"⟩
abbrev cX8_tallOf : ByteArray := prog_10_method_29_code
def yX8_tallOf : MethodName := ⟨RX8, "tallOf", "(II)I"⟩
abbrev cX8_givesOf : ByteArray := prog_10_method_30_code
def yX8_givesOf : MethodName := ⟨RX8, "givesOf", "(II)I"⟩
abbrev cX8_cellOf : ByteArray := prog_10_method_31_code
def yX8_cellOf : MethodName := ⟨RX8, "cellOf", "(III)I"⟩
abbrev cX8_find : ByteArray := prog_10_method_32_code
def yX8_find : MethodName := ⟨RX8, "find", "(II)V"⟩
abbrev cX8_findLean : ByteArray := prog_10_method_33_code
def yX8_findLean : MethodName := ⟨RX8, "findLean", "()V"⟩
abbrev cX8_findNow : ByteArray := prog_10_method_34_code
def yX8_findNow : MethodName := ⟨RX8, "findNow", "()V"⟩
abbrev cX8_foundOf : ByteArray := prog_10_method_35_code
def yX8_foundOf : MethodName := ⟨RX8, "foundOf", "(I)I"⟩
abbrev cX8_stands : ByteArray := prog_10_method_36_code
def yX8_stands : MethodName := ⟨RX8, "stands", "(I)I"⟩
abbrev cX8_standsAt : ByteArray := prog_10_method_37_code
def yX8_standsAt : MethodName := ⟨RX8, "standsAt", "(III)I"⟩
abbrev cX8_isFirmAt : ByteArray := prog_10_method_38_code
def yX8_isFirmAt : MethodName := ⟨RX8, "isFirmAt", "(II)Z"⟩
abbrev cX8_firmAt : ByteArray := prog_10_method_39_code
def yX8_firmAt : MethodName := ⟨RX8, "firmAt", "(I)I"⟩
abbrev cX8_firm : ByteArray := prog_10_method_40_code
def yX8_firm : MethodName := ⟨RX8, "firm", "()I"⟩
abbrev cX8_fewest : ByteArray := prog_10_method_41_code
def yX8_fewest : MethodName := ⟨RX8, "fewest", "(I)I"⟩
abbrev cX8_knock : ByteArray := prog_10_method_42_code
def yX8_knock : MethodName := ⟨RX8, "knock", "(II)I"⟩
abbrev cX8_feels : ByteArray := prog_10_method_43_code
def yX8_feels : MethodName := ⟨RX8, "feels", "(I)I"⟩
abbrev cX8_best : ByteArray := prog_10_method_44_code
def yX8_best : MethodName := ⟨RX8, "best", "(I)I"⟩
abbrev cX8_turn : ByteArray := prog_10_method_45_code
def yX8_turn : MethodName := ⟨RX8, "turn", "(I)I"⟩
abbrev cX8_wedge : ByteArray := prog_10_method_46_code
def yX8_wedge : MethodName := ⟨RX8, "wedge", "()I"⟩
abbrev cX8_saw : ByteArray := prog_10_method_47_code
def yX8_saw : MethodName := ⟨RX8, "saw", "()I"⟩
abbrev cX8_screwBy : ByteArray := prog_10_method_48_code
def yX8_screwBy : MethodName := ⟨RX8, "screwBy", "(I)I"⟩
abbrev cX8_screwed : ByteArray := prog_10_method_49_code
def yX8_screwed : MethodName := ⟨RX8, "screwed", "()I"⟩
abbrev cX8_blame : ByteArray := prog_10_method_50_code
def yX8_blame : MethodName := ⟨RX8, "blame", "(I)I"⟩
abbrev cX8_apart : ByteArray := prog_10_method_51_code
def yX8_apart : MethodName := ⟨RX8, "apart", "(II)I"⟩
abbrev cX8_beside : ByteArray := prog_10_method_52_code
def yX8_beside : MethodName := ⟨RX8, "beside", "(I)I"⟩
abbrev cX8_sit : ByteArray := prog_10_method_53_code
def yX8_sit : MethodName := ⟨RX8, "sit", "()I"⟩
abbrev cX8_firstOtherwise : ByteArray := prog_10_method_54_code
def yX8_firstOtherwise : MethodName := ⟨RX8, "firstOtherwise", "(II)I"⟩
abbrev cX8_judge : ByteArray := prog_10_method_55_code
def yX8_judge : MethodName := ⟨RX8, "judge", "(I)I"⟩
abbrev cX8_which : ByteArray := prog_10_method_56_code
def yX8_which : MethodName := ⟨RX8, "which", "(I)J"⟩
abbrev cX8_rockBy : ByteArray := prog_10_method_57_code
def yX8_rockBy : MethodName := ⟨RX8, "rockBy", "(I)I"⟩
abbrev cX8_drawn : ByteArray := prog_10_method_58_code
def yX8_drawn : MethodName := ⟨RX8, "drawn", "(I)I"⟩
abbrev cX8_odds : ByteArray := prog_10_method_59_code
def yX8_odds : MethodName := ⟨RX8, "odds", "(III)J"⟩
abbrev cX8_floor : ByteArray := prog_10_method_60_code
def yX8_floor : MethodName := ⟨RX8, "floor", "(II)I"⟩
abbrev cX8_wave : ByteArray := prog_10_method_61_code
def yX8_wave : MethodName := ⟨RX8, "wave", "(III)I"⟩
abbrev cX8_leg : ByteArray := prog_10_method_62_code
def yX8_leg : MethodName := ⟨RX8, "leg", "(III)I"⟩
abbrev cX8_became : ByteArray := prog_10_method_63_code
def yX8_became : MethodName := ⟨RX8, "became", "(III)I"⟩
abbrev cX8_set : ByteArray := prog_10_method_64_code
def yX8_set : MethodName := ⟨RX8, "set", "(III)I"⟩
abbrev cX8_told : ByteArray := prog_10_method_65_code
def yX8_told : MethodName := ⟨RX8, "told", "(II)I"⟩
abbrev cX8_carry : ByteArray := prog_10_method_66_code
def yX8_carry : MethodName := ⟨RX8, "carry", "(I)I"⟩
abbrev cX8_carryAll : ByteArray := prog_10_method_67_code
def yX8_carryAll : MethodName := ⟨RX8, "carryAll", "()V"⟩
abbrev cX8_image : ByteArray := prog_10_method_68_code
def yX8_image : MethodName := ⟨RX8, "image", "()I"⟩
abbrev cX8_back : ByteArray := prog_10_method_69_code
def yX8_back : MethodName := ⟨RX8, "back", "()I"⟩
abbrev cX8_count : ByteArray := prog_10_method_70_code
def yX8_count : MethodName := ⟨RX8, "count", "(I)I"⟩
abbrev cX8_sheet : ByteArray := prog_10_method_71_code
def yX8_sheet : MethodName := ⟨RX8, "sheet", "(III)I"⟩
abbrev cX8_cell : ByteArray := prog_10_method_72_code
def yX8_cell : MethodName := ⟨RX8, "cell", "(III)I"⟩
abbrev cX8_copy : ByteArray := prog_10_method_73_code
def yX8_copy : MethodName := ⟨RX8, "copy", "(IIIII)I"⟩
abbrev cX8_floors : ByteArray := prog_10_method_74_code
def yX8_floors : MethodName := ⟨RX8, "floors", "(IIII)I"⟩
abbrev cX8_taken : ByteArray := prog_10_method_75_code
def yX8_taken : MethodName := ⟨RX8, "taken", "(II)I"⟩
def RJ9 : String := "java/lang/Math"
def TJ9 : u_T := fun k => match k with
  | _ => ("", "", "", false)
def tyJ9 : Nat → FieldType := fun k => match k with
  | _ => .int
theorem nmJ9 : ∀ a, a < 0 → ∀ b, b < 0 → a ≠ b → (TJ9 a).2.1 ≠ (TJ9 b).2.1 := by decide +kernel
theorem tyJ9_ok : ∀ k, k < 0 → parseFieldDescriptor (TJ9 k).2.2.1 = some (tyJ9 k) := by decide +kernel
abbrev cJ9_floorMod_7cf53 : ByteArray := prog_11_method_50_code
def yJ9_floorMod_7cf53 : MethodName := ⟨RJ9, "floorMod", "(II)I"⟩
abbrev cJ9_abs_0f7a4 : ByteArray := prog_11_method_59_code
def yJ9_abs_0f7a4 : MethodName := ⟨RJ9, "abs", "(I)I"⟩
abbrev cJ9_max_7cf53 : ByteArray := prog_11_method_65_code
def yJ9_max_7cf53 : MethodName := ⟨RJ9, "max", "(II)I"⟩
abbrev cJ9_min_7cf53 : ByteArray := prog_11_method_69_code
def yJ9_min_7cf53 : MethodName := ⟨RJ9, "min", "(II)I"⟩
def RJ0 : String := "java/lang/String"
def TJ0 : u_T := fun k => match k with
  | _ => ("", "", "", false)
def tyJ0 : Nat → FieldType := fun k => match k with
  | _ => .int
theorem nmJ0 : ∀ a, a < 0 → ∀ b, b < 0 → a ≠ b → (TJ0 a).2.1 ≠ (TJ0 b).2.1 := by decide +kernel
theorem tyJ0_ok : ∀ k, k < 0 → parseFieldDescriptor (TJ0 k).2.2.1 = some (tyJ0 k) := by decide +kernel
abbrev cJ0_length_8abf5 : ByteArray := prog_12_method_54_code
def yJ0_length_8abf5 : MethodName := ⟨RJ0, "length", "()I"⟩
abbrev cJ0_charAt_5068e : ByteArray := prog_12_method_56_code
def yJ0_charAt_5068e : MethodName := ⟨RJ0, "charAt", "(I)C"⟩
abbrev cJ0_coder_7d493 : ByteArray := prog_12_method_152_code
def yJ0_coder_7d493 : MethodName := ⟨RJ0, "coder", "()B"⟩
abbrev cJ0_isLatin1_aae02 : ByteArray := prog_12_method_154_code
def yJ0_isLatin1_aae02 : MethodName := ⟨RJ0, "isLatin1", "()Z"⟩
abbrev cJ0_checkIndex_df160 : ByteArray := prog_12_method_155_code
def yJ0_checkIndex_df160 : MethodName := ⟨RJ0, "checkIndex", "(II)V"⟩
def RJ1 : String := "java/lang/StringLatin1"
def TJ1 : u_T := fun k => match k with
  | _ => ("", "", "", false)
def tyJ1 : Nat → FieldType := fun k => match k with
  | _ => .int
theorem nmJ1 : ∀ a, a < 0 → ∀ b, b < 0 → a ≠ b → (TJ1 a).2.1 ≠ (TJ1 b).2.1 := by decide +kernel
theorem tyJ1_ok : ∀ k, k < 0 → parseFieldDescriptor (TJ1 k).2.2.1 = some (tyJ1 k) := by decide +kernel
abbrev cJ1_charAt_3b067 : ByteArray := prog_13_method_2_code
def yJ1_charAt_3b067 : MethodName := ⟨RJ1, "charAt", "([BI)C"⟩
def RJ2 : String := "java/lang/StringUTF16"
def TJ2 : u_T := fun k => match k with
  | _ => ("", "", "", false)
def tyJ2 : Nat → FieldType := fun k => match k with
  | _ => .int
theorem nmJ2 : ∀ a, a < 0 → ∀ b, b < 0 → a ≠ b → (TJ2 a).2.1 ≠ (TJ2 b).2.1 := by decide +kernel
theorem tyJ2_ok : ∀ k, k < 0 → parseFieldDescriptor (TJ2 k).2.2.1 = some (tyJ2 k) := by decide +kernel
abbrev cJ2_getChar_3b067 : ByteArray := prog_14_method_5_code
def yJ2_getChar_3b067 : MethodName := ⟨RJ2, "getChar", "([BI)C"⟩
abbrev cJ2_length_9d52b : ByteArray := prog_14_method_6_code
def yJ2_length_9d52b : MethodName := ⟨RJ2, "length", "([B)I"⟩
abbrev cJ2_charAt_3b067 : ByteArray := prog_14_method_83_code
def yJ2_charAt_3b067 : MethodName := ⟨RJ2, "charAt", "([BI)C"⟩
abbrev cJ2_checkIndex_2214a : ByteArray := prog_14_method_91_code
def yJ2_checkIndex_2214a : MethodName := ⟨RJ2, "checkIndex", "(I[B)V"⟩
def RJ10 : String := "java/lang/System"
def TJ10 : u_T := fun k => match k with
  | _ => ("", "", "", false)
def tyJ10 : Nat → FieldType := fun k => match k with
  | _ => .int
theorem nmJ10 : ∀ a, a < 0 → ∀ b, b < 0 → a ≠ b → (TJ10 a).2.1 ≠ (TJ10 b).2.1 := by decide +kernel
theorem tyJ10_ok : ∀ k, k < 0 → parseFieldDescriptor (TJ10 k).2.2.1 = some (tyJ10 k) := by decide +kernel
def RJ3 : String := "jdk/internal/util/Preconditions"
def TJ3 : u_T := fun k => match k with
  | _ => ("", "", "", false)
def tyJ3 : Nat → FieldType := fun k => match k with
  | _ => .int
theorem nmJ3 : ∀ a, a < 0 → ∀ b, b < 0 → a ≠ b → (TJ3 a).2.1 ≠ (TJ3 b).2.1 := by decide +kernel
theorem tyJ3_ok : ∀ k, k < 0 → parseFieldDescriptor (TJ3 k).2.2.1 = some (tyJ3 k) := by decide +kernel
abbrev cJ3_checkIndex_8e157 : ByteArray := prog_16_method_11_code
def yJ3_checkIndex_8e157 : MethodName := ⟨RJ3, "checkIndex", "(IILjava/util/function/BiFunction;)I"⟩
def RL : String := "TableRocksLaw"
abbrev cL_law : ByteArray := code
def yL_law : MethodName := ⟨RL, "law", "([I)Z"⟩
abbrev vwCl : List vw_C := [(RX0, TX0, 3), (RX1, TX1, 8), (RX2, TX2, 3), (RX3, TX3, 3), (RX4, TX4, 7), (RX5, TX5, 7), (RX7, TX7, 8), (RX8, TX8, 46)]
end
section
theorem dX0_init_0 : decode cX0_init 0 = .ok (.aload_n 0, 1) := by decide +kernel
theorem dX0_init_1 : decode cX0_init 1 = .ok (.invokespecial 3, 3) := by decide +kernel
theorem dX0_init_4 : decode cX0_init 4 = .ok (.aload_n 0, 1) := by decide +kernel
theorem dX0_init_5 : decode cX0_init 5 = .ok (.iconst 0, 1) := by decide +kernel
theorem dX0_init_6 : decode cX0_init 6 = .ok (.putfield 11, 3) := by decide +kernel
theorem dX0_init_9 : decode cX0_init 9 = .ok (.aload_n 0, 1) := by decide +kernel
theorem dX0_init_10 : decode cX0_init 10 = .ok (.bipush 50, 2) := by decide +kernel
theorem dX0_init_12 : decode cX0_init 12 = .ok (.putfield 15, 3) := by decide +kernel
theorem dX0_init_15 : decode cX0_init 15 = .ok (.aload_n 0, 1) := by decide +kernel
theorem dX0_init_16 : decode cX0_init 16 = .ok (.iconst 0, 1) := by decide +kernel
theorem dX0_init_17 : decode cX0_init 17 = .ok (.putfield 18, 3) := by decide +kernel
theorem dX0_init_20 : decode cX0_init 20 = .ok (.return_, 1) := by decide +kernel
theorem dX0_tall_0 : decode cX0_tall 0 = .ok (.aload_n 0, 1) := by decide +kernel
theorem dX0_tall_1 : decode cX0_tall 1 = .ok (.getfield 15, 3) := by decide +kernel
theorem dX0_tall_4 : decode cX0_tall 4 = .ok (.istore_n 2, 1) := by decide +kernel
theorem dX0_tall_5 : decode cX0_tall 5 = .ok (.aload_n 0, 1) := by decide +kernel
theorem dX0_tall_6 : decode cX0_tall 6 = .ok (.getfield 11, 3) := by decide +kernel
theorem dX0_tall_9 : decode cX0_tall 9 = .ok (.tableswitch 88 1 5 #[35, 44, 52, 63, 73], 35) := by decide +kernel
theorem dX0_tall_44 : decode cX0_tall 44 = .ok (.aload_n 0, 1) := by decide +kernel
theorem dX0_tall_45 : decode cX0_tall 45 = .ok (.iload_n 1, 1) := by decide +kernel
theorem dX0_tall_46 : decode cX0_tall 46 = .ok (.invokevirtual 21, 3) := by decide +kernel
theorem dX0_tall_49 : decode cX0_tall 49 = .ok (.istore_n 2, 1) := by decide +kernel
theorem dX0_tall_50 : decode cX0_tall 50 = .ok (.goto 47, 3) := by decide +kernel
theorem dX0_tall_53 : decode cX0_tall 53 = .ok (.aload_n 0, 1) := by decide +kernel
theorem dX0_tall_54 : decode cX0_tall 54 = .ok (.invokevirtual 25, 3) := by decide +kernel
theorem dX0_tall_57 : decode cX0_tall 57 = .ok (.istore_n 2, 1) := by decide +kernel
theorem dX0_tall_58 : decode cX0_tall 58 = .ok (.goto 39, 3) := by decide +kernel
theorem dX0_tall_61 : decode cX0_tall 61 = .ok (.aload_n 0, 1) := by decide +kernel
theorem dX0_tall_62 : decode cX0_tall 62 = .ok (.iload_n 1, 1) := by decide +kernel
theorem dX0_tall_63 : decode cX0_tall 63 = .ok (.invokevirtual 21, 3) := by decide +kernel
theorem dX0_tall_66 : decode cX0_tall 66 = .ok (.iconst 2, 1) := by decide +kernel
theorem dX0_tall_67 : decode cX0_tall 67 = .ok (.idiv, 1) := by decide +kernel
theorem dX0_tall_68 : decode cX0_tall 68 = .ok (.istore_n 2, 1) := by decide +kernel
theorem dX0_tall_69 : decode cX0_tall 69 = .ok (.goto 28, 3) := by decide +kernel
theorem dX0_tall_72 : decode cX0_tall 72 = .ok (.aload_n 0, 1) := by decide +kernel
theorem dX0_tall_73 : decode cX0_tall 73 = .ok (.invokevirtual 25, 3) := by decide +kernel
theorem dX0_tall_76 : decode cX0_tall 76 = .ok (.iconst 2, 1) := by decide +kernel
theorem dX0_tall_77 : decode cX0_tall 77 = .ok (.iadd, 1) := by decide +kernel
theorem dX0_tall_78 : decode cX0_tall 78 = .ok (.istore_n 2, 1) := by decide +kernel
theorem dX0_tall_79 : decode cX0_tall 79 = .ok (.goto 18, 3) := by decide +kernel
theorem dX0_tall_82 : decode cX0_tall 82 = .ok (.aload_n 0, 1) := by decide +kernel
theorem dX0_tall_83 : decode cX0_tall 83 = .ok (.getfield 15, 3) := by decide +kernel
theorem dX0_tall_86 : decode cX0_tall 86 = .ok (.iload_n 1, 1) := by decide +kernel
theorem dX0_tall_87 : decode cX0_tall 87 = .ok (.aload_n 0, 1) := by decide +kernel
theorem dX0_tall_88 : decode cX0_tall 88 = .ok (.getfield 18, 3) := by decide +kernel
theorem dX0_tall_91 : decode cX0_tall 91 = .ok (.imul, 1) := by decide +kernel
theorem dX0_tall_92 : decode cX0_tall 92 = .ok (.isub, 1) := by decide +kernel
theorem dX0_tall_93 : decode cX0_tall 93 = .ok (.istore_n 2, 1) := by decide +kernel
theorem dX0_tall_94 : decode cX0_tall 94 = .ok (.goto 3, 3) := by decide +kernel
theorem dX0_tall_97 : decode cX0_tall 97 = .ok (.iconst 0, 1) := by decide +kernel
theorem dX0_tall_98 : decode cX0_tall 98 = .ok (.iload_n 2, 1) := by decide +kernel
theorem dX0_tall_99 : decode cX0_tall 99 = .ok (.invokestatic 29, 3) := by decide +kernel
theorem dX0_tall_102 : decode cX0_tall 102 = .ok (.ireturn, 1) := by decide +kernel
theorem dX0_feltTall_0 : decode cX0_feltTall 0 = .ok (.aload_n 0, 1) := by decide +kernel
theorem dX0_feltTall_1 : decode cX0_feltTall 1 = .ok (.getfield 15, 3) := by decide +kernel
theorem dX0_feltTall_4 : decode cX0_feltTall 4 = .ok (.aload_n 0, 1) := by decide +kernel
theorem dX0_feltTall_5 : decode cX0_feltTall 5 = .ok (.getfield 18, 3) := by decide +kernel
theorem dX0_feltTall_8 : decode cX0_feltTall 8 = .ok (.iadd, 1) := by decide +kernel
theorem dX0_feltTall_9 : decode cX0_feltTall 9 = .ok (.iload_n 1, 1) := by decide +kernel
theorem dX0_feltTall_10 : decode cX0_feltTall 10 = .ok (.iconst 2, 1) := by decide +kernel
theorem dX0_feltTall_11 : decode cX0_feltTall 11 = .ok (.idiv, 1) := by decide +kernel
theorem dX0_feltTall_12 : decode cX0_feltTall 12 = .ok (.isub, 1) := by decide +kernel
theorem dX0_feltTall_13 : decode cX0_feltTall 13 = .ok (.ireturn, 1) := by decide +kernel
theorem dX0_screwTall_0 : decode cX0_screwTall 0 = .ok (.aload_n 0, 1) := by decide +kernel
theorem dX0_screwTall_1 : decode cX0_screwTall 1 = .ok (.getfield 15, 3) := by decide +kernel
theorem dX0_screwTall_4 : decode cX0_screwTall 4 = .ok (.iconst 3, 1) := by decide +kernel
theorem dX0_screwTall_5 : decode cX0_screwTall 5 = .ok (.aload_n 0, 1) := by decide +kernel
theorem dX0_screwTall_6 : decode cX0_screwTall 6 = .ok (.getfield 18, 3) := by decide +kernel
theorem dX0_screwTall_9 : decode cX0_screwTall 9 = .ok (.imul, 1) := by decide +kernel
theorem dX0_screwTall_10 : decode cX0_screwTall 10 = .ok (.iadd, 1) := by decide +kernel
theorem dX0_screwTall_11 : decode cX0_screwTall 11 = .ok (.ireturn, 1) := by decide +kernel
theorem dX0_gives_0 : decode cX0_gives 0 = .ok (.aload_n 0, 1) := by decide +kernel
theorem dX0_gives_1 : decode cX0_gives 1 = .ok (.getfield 11, 3) := by decide +kernel
theorem dX0_gives_4 : decode cX0_gives 4 = .ok (.tableswitch 59 1 5 #[36, 59, 42, 59, 50], 36) := by decide +kernel
theorem dX0_gives_40 : decode cX0_gives 40 = .ok (.aload_n 0, 1) := by decide +kernel
theorem dX0_gives_41 : decode cX0_gives 41 = .ok (.iload_n 1, 1) := by decide +kernel
theorem dX0_gives_42 : decode cX0_gives 42 = .ok (.invokevirtual 35, 3) := by decide +kernel
theorem dX0_gives_45 : decode cX0_gives 45 = .ok (.ireturn, 1) := by decide +kernel
theorem dX0_gives_46 : decode cX0_gives 46 = .ok (.aload_n 0, 1) := by decide +kernel
theorem dX0_gives_47 : decode cX0_gives 47 = .ok (.iload_n 1, 1) := by decide +kernel
theorem dX0_gives_48 : decode cX0_gives 48 = .ok (.invokevirtual 35, 3) := by decide +kernel
theorem dX0_gives_51 : decode cX0_gives 51 = .ok (.iconst 1, 1) := by decide +kernel
theorem dX0_gives_52 : decode cX0_gives 52 = .ok (.iadd, 1) := by decide +kernel
theorem dX0_gives_53 : decode cX0_gives 53 = .ok (.ireturn, 1) := by decide +kernel
theorem dX0_gives_54 : decode cX0_gives 54 = .ok (.iload_n 1, 1) := by decide +kernel
theorem dX0_gives_55 : decode cX0_gives 55 = .ok (.aload_n 0, 1) := by decide +kernel
theorem dX0_gives_56 : decode cX0_gives 56 = .ok (.getfield 18, 3) := by decide +kernel
theorem dX0_gives_59 : decode cX0_gives 59 = .ok (.invokestatic 38, 3) := by decide +kernel
theorem dX0_gives_62 : decode cX0_gives 62 = .ok (.ireturn, 1) := by decide +kernel
theorem dX0_gives_63 : decode cX0_gives 63 = .ok (.iconst 0, 1) := by decide +kernel
theorem dX0_gives_64 : decode cX0_gives 64 = .ok (.ireturn, 1) := by decide +kernel
theorem dX0_feltGives_0 : decode cX0_feltGives 0 = .ok (.iload_n 1, 1) := by decide +kernel
theorem dX0_feltGives_1 : decode cX0_feltGives 1 = .ok (.iconst 2, 1) := by decide +kernel
theorem dX0_feltGives_2 : decode cX0_feltGives 2 = .ok (.idiv, 1) := by decide +kernel
theorem dX0_feltGives_3 : decode cX0_feltGives 3 = .ok (.aload_n 0, 1) := by decide +kernel
theorem dX0_feltGives_4 : decode cX0_feltGives 4 = .ok (.getfield 18, 3) := by decide +kernel
theorem dX0_feltGives_7 : decode cX0_feltGives 7 = .ok (.invokestatic 38, 3) := by decide +kernel
theorem dX0_feltGives_10 : decode cX0_feltGives 10 = .ok (.ireturn, 1) := by decide +kernel
theorem dX0_isOne_0 : decode cX0_isOne 0 = .ok (.aload_n 0, 1) := by decide +kernel
theorem dX0_isOne_1 : decode cX0_isOne 1 = .ok (.getfield 11, 3) := by decide +kernel
theorem dX0_isOne_4 : decode cX0_isOne 4 = .ok (.istore_n 2, 1) := by decide +kernel
theorem dX0_isOne_5 : decode cX0_isOne 5 = .ok (.iconst 0, 1) := by decide +kernel
theorem dX0_isOne_6 : decode cX0_isOne 6 = .ok (.istore_n 3, 1) := by decide +kernel
theorem dX0_isOne_7 : decode cX0_isOne 7 = .ok (.iload_n 3, 1) := by decide +kernel
theorem dX0_isOne_8 : decode cX0_isOne 8 = .ok (.bipush 6, 2) := by decide +kernel
theorem dX0_isOne_10 : decode cX0_isOne 10 = .ok (.if_icmp .ge 27, 3) := by decide +kernel
theorem dX0_isOne_13 : decode cX0_isOne 13 = .ok (.iload_n 2, 1) := by decide +kernel
theorem dX0_isOne_14 : decode cX0_isOne 14 = .ok (.iload_n 1, 1) := by decide +kernel
theorem dX0_isOne_15 : decode cX0_isOne 15 = .ok (.if_icmp .eq 22, 3) := by decide +kernel
theorem dX0_isOne_18 : decode cX0_isOne 18 = .ok (.iload_n 2, 1) := by decide +kernel
theorem dX0_isOne_19 : decode cX0_isOne 19 = .ok (.invokestatic 41, 3) := by decide +kernel
theorem dX0_isOne_22 : decode cX0_isOne 22 = .ok (.ifCond .eq 15, 3) := by decide +kernel
theorem dX0_isOne_25 : decode cX0_isOne 25 = .ok (.getstatic 45, 3) := by decide +kernel
theorem dX0_isOne_28 : decode cX0_isOne 28 = .ok (.iload_n 2, 1) := by decide +kernel
theorem dX0_isOne_29 : decode cX0_isOne 29 = .ok (.iaload, 1) := by decide +kernel
theorem dX0_isOne_30 : decode cX0_isOne 30 = .ok (.istore_n 2, 1) := by decide +kernel
theorem dX0_isOne_31 : decode cX0_isOne 31 = .ok (.iinc 3 1, 3) := by decide +kernel
theorem dX0_isOne_34 : decode cX0_isOne 34 = .ok (.goto (-27), 3) := by decide +kernel
theorem dX0_isOne_37 : decode cX0_isOne 37 = .ok (.iload_n 2, 1) := by decide +kernel
theorem dX0_isOne_38 : decode cX0_isOne 38 = .ok (.iload_n 1, 1) := by decide +kernel
theorem dX0_isOne_39 : decode cX0_isOne 39 = .ok (.if_icmp .ne 7, 3) := by decide +kernel
theorem dX0_isOne_42 : decode cX0_isOne 42 = .ok (.iconst 1, 1) := by decide +kernel
theorem dX0_isOne_43 : decode cX0_isOne 43 = .ok (.goto 4, 3) := by decide +kernel
theorem dX0_isOne_46 : decode cX0_isOne 46 = .ok (.iconst 0, 1) := by decide +kernel
theorem dX0_isOne_47 : decode cX0_isOne 47 = .ok (.ireturn, 1) := by decide +kernel
theorem dX0_canScrew_0 : decode cX0_canScrew 0 = .ok (.aload_n 0, 1) := by decide +kernel
theorem dX0_canScrew_1 : decode cX0_canScrew 1 = .ok (.iconst 2, 1) := by decide +kernel
theorem dX0_canScrew_2 : decode cX0_canScrew 2 = .ok (.invokevirtual 49, 3) := by decide +kernel
theorem dX0_canScrew_5 : decode cX0_canScrew 5 = .ok (.ifCond .eq 22, 3) := by decide +kernel
theorem dX0_canScrew_8 : decode cX0_canScrew 8 = .ok (.aload_n 0, 1) := by decide +kernel
theorem dX0_canScrew_9 : decode cX0_canScrew 9 = .ok (.getfield 18, 3) := by decide +kernel
theorem dX0_canScrew_12 : decode cX0_canScrew 12 = .ok (.iload_n 1, 1) := by decide +kernel
theorem dX0_canScrew_13 : decode cX0_canScrew 13 = .ok (.iadd, 1) := by decide +kernel
theorem dX0_canScrew_14 : decode cX0_canScrew 14 = .ok (.iconst 0, 1) := by decide +kernel
theorem dX0_canScrew_15 : decode cX0_canScrew 15 = .ok (.bipush 9, 2) := by decide +kernel
theorem dX0_canScrew_17 : decode cX0_canScrew 17 = .ok (.invokestatic 52, 3) := by decide +kernel
theorem dX0_canScrew_20 : decode cX0_canScrew 20 = .ok (.ifCond .eq 7, 3) := by decide +kernel
theorem dX0_canScrew_23 : decode cX0_canScrew 23 = .ok (.iconst 1, 1) := by decide +kernel
theorem dX0_canScrew_24 : decode cX0_canScrew 24 = .ok (.goto 4, 3) := by decide +kernel
theorem dX0_canScrew_27 : decode cX0_canScrew 27 = .ok (.iconst 0, 1) := by decide +kernel
theorem dX0_canScrew_28 : decode cX0_canScrew 28 = .ok (.ireturn, 1) := by decide +kernel
theorem dX0_shorten_0 : decode cX0_shorten 0 = .ok (.aload_n 0, 1) := by decide +kernel
theorem dX0_shorten_1 : decode cX0_shorten 1 = .ok (.iconst 0, 1) := by decide +kernel
theorem dX0_shorten_2 : decode cX0_shorten 2 = .ok (.aload_n 0, 1) := by decide +kernel
theorem dX0_shorten_3 : decode cX0_shorten 3 = .ok (.getfield 15, 3) := by decide +kernel
theorem dX0_shorten_6 : decode cX0_shorten 6 = .ok (.iload_n 1, 1) := by decide +kernel
theorem dX0_shorten_7 : decode cX0_shorten 7 = .ok (.isub, 1) := by decide +kernel
theorem dX0_shorten_8 : decode cX0_shorten 8 = .ok (.invokestatic 29, 3) := by decide +kernel
theorem dX0_shorten_11 : decode cX0_shorten 11 = .ok (.putfield 15, 3) := by decide +kernel
theorem dX0_shorten_14 : decode cX0_shorten 14 = .ok (.return_, 1) := by decide +kernel
theorem dX1_init_0 : decode cX1_init 0 = .ok (.aload_n 0, 1) := by decide +kernel
theorem dX1_init_1 : decode cX1_init 1 = .ok (.invokespecial 3, 3) := by decide +kernel
theorem dX1_init_4 : decode cX1_init 4 = .ok (.aload_n 0, 1) := by decide +kernel
theorem dX1_init_5 : decode cX1_init 5 = .ok (.sipush 160, 3) := by decide +kernel
theorem dX1_init_8 : decode cX1_init 8 = .ok (.newarray .int, 2) := by decide +kernel
theorem dX1_init_10 : decode cX1_init 10 = .ok (.putfield 9, 3) := by decide +kernel
theorem dX1_init_13 : decode cX1_init 13 = .ok (.aload_n 0, 1) := by decide +kernel
theorem dX1_init_14 : decode cX1_init 14 = .ok (.new 15, 3) := by decide +kernel
theorem dX1_init_17 : decode cX1_init 17 = .ok (.dup, 1) := by decide +kernel
theorem dX1_init_18 : decode cX1_init 18 = .ok (.invokespecial 17, 3) := by decide +kernel
theorem dX1_init_21 : decode cX1_init 21 = .ok (.putfield 18, 3) := by decide +kernel
theorem dX1_init_24 : decode cX1_init 24 = .ok (.aload_n 0, 1) := by decide +kernel
theorem dX1_init_25 : decode cX1_init 25 = .ok (.iconst 0, 1) := by decide +kernel
theorem dX1_init_26 : decode cX1_init 26 = .ok (.putfield 22, 3) := by decide +kernel
theorem dX1_init_29 : decode cX1_init 29 = .ok (.aload_n 0, 1) := by decide +kernel
theorem dX1_init_30 : decode cX1_init 30 = .ok (.iconst 0, 1) := by decide +kernel
theorem dX1_init_31 : decode cX1_init 31 = .ok (.putfield 28, 3) := by decide +kernel
theorem dX1_init_34 : decode cX1_init 34 = .ok (.aload_n 0, 1) := by decide +kernel
theorem dX1_init_35 : decode cX1_init 35 = .ok (.iconst 0, 1) := by decide +kernel
theorem dX1_init_36 : decode cX1_init 36 = .ok (.putfield 31, 3) := by decide +kernel
theorem dX1_init_39 : decode cX1_init 39 = .ok (.aload_n 0, 1) := by decide +kernel
theorem dX1_init_40 : decode cX1_init 40 = .ok (.iconst 0, 1) := by decide +kernel
theorem dX1_init_41 : decode cX1_init 41 = .ok (.putfield 34, 3) := by decide +kernel
theorem dX1_init_44 : decode cX1_init 44 = .ok (.aload_n 0, 1) := by decide +kernel
theorem dX1_init_45 : decode cX1_init 45 = .ok (.iconst 0, 1) := by decide +kernel
theorem dX1_init_46 : decode cX1_init 46 = .ok (.putfield 37, 3) := by decide +kernel
theorem dX1_init_49 : decode cX1_init 49 = .ok (.aload_n 0, 1) := by decide +kernel
theorem dX1_init_50 : decode cX1_init 50 = .ok (.iconst (-1), 1) := by decide +kernel
theorem dX1_init_51 : decode cX1_init 51 = .ok (.putfield 40, 3) := by decide +kernel
theorem dX1_init_54 : decode cX1_init 54 = .ok (.return_, 1) := by decide +kernel
theorem dX1_append_0 : decode cX1_append 0 = .ok (.aload_n 0, 1) := by decide +kernel
theorem dX1_append_1 : decode cX1_append 1 = .ok (.getfield 22, 3) := by decide +kernel
theorem dX1_append_4 : decode cX1_append 4 = .ok (.sipush 160, 3) := by decide +kernel
theorem dX1_append_7 : decode cX1_append 7 = .ok (.if_icmp .lt 5, 3) := by decide +kernel
theorem dX1_append_10 : decode cX1_append 10 = .ok (.iconst 0, 1) := by decide +kernel
theorem dX1_append_11 : decode cX1_append 11 = .ok (.ireturn, 1) := by decide +kernel
theorem dX1_append_12 : decode cX1_append 12 = .ok (.aload_n 0, 1) := by decide +kernel
theorem dX1_append_13 : decode cX1_append 13 = .ok (.getfield 9, 3) := by decide +kernel
theorem dX1_append_16 : decode cX1_append 16 = .ok (.aload_n 0, 1) := by decide +kernel
theorem dX1_append_17 : decode cX1_append 17 = .ok (.getfield 22, 3) := by decide +kernel
theorem dX1_append_20 : decode cX1_append 20 = .ok (.iload_n 1, 1) := by decide +kernel
theorem dX1_append_21 : decode cX1_append 21 = .ok (.iastore, 1) := by decide +kernel
theorem dX1_append_22 : decode cX1_append 22 = .ok (.aload_n 0, 1) := by decide +kernel
theorem dX1_append_23 : decode cX1_append 23 = .ok (.dup, 1) := by decide +kernel
theorem dX1_append_24 : decode cX1_append 24 = .ok (.getfield 22, 3) := by decide +kernel
theorem dX1_append_27 : decode cX1_append 27 = .ok (.iconst 1, 1) := by decide +kernel
theorem dX1_append_28 : decode cX1_append 28 = .ok (.iadd, 1) := by decide +kernel
theorem dX1_append_29 : decode cX1_append 29 = .ok (.putfield 22, 3) := by decide +kernel
theorem dX1_append_32 : decode cX1_append 32 = .ok (.iconst 1, 1) := by decide +kernel
theorem dX1_append_33 : decode cX1_append 33 = .ok (.ireturn, 1) := by decide +kernel
theorem dX1_readTape_0 : decode cX1_readTape 0 = .ok (.aload_n 0, 1) := by decide +kernel
theorem dX1_readTape_1 : decode cX1_readTape 1 = .ok (.getfield 18, 3) := by decide +kernel
theorem dX1_readTape_4 : decode cX1_readTape 4 = .ok (.iconst 0, 1) := by decide +kernel
theorem dX1_readTape_5 : decode cX1_readTape 5 = .ok (.putfield 43, 3) := by decide +kernel
theorem dX1_readTape_8 : decode cX1_readTape 8 = .ok (.aload_n 0, 1) := by decide +kernel
theorem dX1_readTape_9 : decode cX1_readTape 9 = .ok (.iconst 0, 1) := by decide +kernel
theorem dX1_readTape_10 : decode cX1_readTape 10 = .ok (.putfield 34, 3) := by decide +kernel
theorem dX1_readTape_13 : decode cX1_readTape 13 = .ok (.aload_n 0, 1) := by decide +kernel
theorem dX1_readTape_14 : decode cX1_readTape 14 = .ok (.iconst (-1), 1) := by decide +kernel
theorem dX1_readTape_15 : decode cX1_readTape 15 = .ok (.putfield 40, 3) := by decide +kernel
theorem dX1_readTape_18 : decode cX1_readTape 18 = .ok (.aload_n 0, 1) := by decide +kernel
theorem dX1_readTape_19 : decode cX1_readTape 19 = .ok (.invokevirtual 44, 3) := by decide +kernel
theorem dX1_readTape_22 : decode cX1_readTape 22 = .ok (.iconst 0, 1) := by decide +kernel
theorem dX1_readTape_23 : decode cX1_readTape 23 = .ok (.istore_n 1, 1) := by decide +kernel
theorem dX1_readTape_24 : decode cX1_readTape 24 = .ok (.iload_n 1, 1) := by decide +kernel
theorem dX1_readTape_25 : decode cX1_readTape 25 = .ok (.iconst 3, 1) := by decide +kernel
theorem dX1_readTape_26 : decode cX1_readTape 26 = .ok (.if_icmp .ge 35, 3) := by decide +kernel
theorem dX1_readTape_29 : decode cX1_readTape 29 = .ok (.aload_n 0, 1) := by decide +kernel
theorem dX1_readTape_30 : decode cX1_readTape 30 = .ok (.bipush 6, 2) := by decide +kernel
theorem dX1_readTape_32 : decode cX1_readTape 32 = .ok (.iload_n 1, 1) := by decide +kernel
theorem dX1_readTape_33 : decode cX1_readTape 33 = .ok (.iadd, 1) := by decide +kernel
theorem dX1_readTape_34 : decode cX1_readTape 34 = .ok (.invokevirtual 47, 3) := by decide +kernel
theorem dX1_readTape_37 : decode cX1_readTape 37 = .ok (.aload_n 0, 1) := by decide +kernel
theorem dX1_readTape_38 : decode cX1_readTape 38 = .ok (.iconst 0, 1) := by decide +kernel
theorem dX1_readTape_39 : decode cX1_readTape 39 = .ok (.invokevirtual 51, 3) := by decide +kernel
theorem dX1_readTape_42 : decode cX1_readTape 42 = .ok (.aload_n 0, 1) := by decide +kernel
theorem dX1_readTape_43 : decode cX1_readTape 43 = .ok (.iconst 5, 1) := by decide +kernel
theorem dX1_readTape_44 : decode cX1_readTape 44 = .ok (.invokevirtual 47, 3) := by decide +kernel
theorem dX1_readTape_47 : decode cX1_readTape 47 = .ok (.aload_n 0, 1) := by decide +kernel
theorem dX1_readTape_48 : decode cX1_readTape 48 = .ok (.getfield 18, 3) := by decide +kernel
theorem dX1_readTape_51 : decode cX1_readTape 51 = .ok (.iload_n 1, 1) := by decide +kernel
theorem dX1_readTape_52 : decode cX1_readTape 52 = .ok (.invokevirtual 54, 3) := by decide +kernel
theorem dX1_readTape_55 : decode cX1_readTape 55 = .ok (.iinc 1 1, 3) := by decide +kernel
theorem dX1_readTape_58 : decode cX1_readTape 58 = .ok (.goto (-34), 3) := by decide +kernel
theorem dX1_readTape_61 : decode cX1_readTape 61 = .ok (.aload_n 0, 1) := by decide +kernel
theorem dX1_readTape_62 : decode cX1_readTape 62 = .ok (.getfield 28, 3) := by decide +kernel
theorem dX1_readTape_65 : decode cX1_readTape 65 = .ok (.ifCond .eq 7, 3) := by decide +kernel
theorem dX1_readTape_68 : decode cX1_readTape 68 = .ok (.aload_n 0, 1) := by decide +kernel
theorem dX1_readTape_69 : decode cX1_readTape 69 = .ok (.invokevirtual 57, 3) := by decide +kernel
theorem dX1_readTape_72 : decode cX1_readTape 72 = .ok (.aload_n 0, 1) := by decide +kernel
theorem dX1_readTape_73 : decode cX1_readTape 73 = .ok (.iconst 0, 1) := by decide +kernel
theorem dX1_readTape_74 : decode cX1_readTape 74 = .ok (.putfield 22, 3) := by decide +kernel
theorem dX1_readTape_77 : decode cX1_readTape 77 = .ok (.aload_n 0, 1) := by decide +kernel
theorem dX1_readTape_78 : decode cX1_readTape 78 = .ok (.getfield 40, 3) := by decide +kernel
theorem dX1_readTape_81 : decode cX1_readTape 81 = .ok (.ireturn, 1) := by decide +kernel
theorem dX1_readOr_0 : decode cX1_readOr 0 = .ok (.aload_n 0, 1) := by decide +kernel
theorem dX1_readOr_1 : decode cX1_readOr 1 = .ok (.iload_n 1, 1) := by decide +kernel
theorem dX1_readOr_2 : decode cX1_readOr 2 = .ok (.invokevirtual 60, 3) := by decide +kernel
theorem dX1_readOr_5 : decode cX1_readOr 5 = .ok (.iconst 0, 1) := by decide +kernel
theorem dX1_readOr_6 : decode cX1_readOr 6 = .ok (.istore_n 2, 1) := by decide +kernel
theorem dX1_readOr_7 : decode cX1_readOr 7 = .ok (.iload_n 2, 1) := by decide +kernel
theorem dX1_readOr_8 : decode cX1_readOr 8 = .ok (.sipush 160, 3) := by decide +kernel
theorem dX1_readOr_11 : decode cX1_readOr 11 = .ok (.if_icmp .ge 36, 3) := by decide +kernel
theorem dX1_readOr_14 : decode cX1_readOr 14 = .ok (.aload_n 0, 1) := by decide +kernel
theorem dX1_readOr_15 : decode cX1_readOr 15 = .ok (.getfield 28, 3) := by decide +kernel
theorem dX1_readOr_18 : decode cX1_readOr 18 = .ok (.bipush (-7), 2) := by decide +kernel
theorem dX1_readOr_20 : decode cX1_readOr 20 = .ok (.if_icmp .ne 27, 3) := by decide +kernel
theorem dX1_readOr_23 : decode cX1_readOr 23 = .ok (.aload_n 0, 1) := by decide +kernel
theorem dX1_readOr_24 : decode cX1_readOr 24 = .ok (.invokevirtual 44, 3) := by decide +kernel
theorem dX1_readOr_27 : decode cX1_readOr 27 = .ok (.aload_n 0, 1) := by decide +kernel
theorem dX1_readOr_28 : decode cX1_readOr 28 = .ok (.iload_n 1, 1) := by decide +kernel
theorem dX1_readOr_29 : decode cX1_readOr 29 = .ok (.invokevirtual 60, 3) := by decide +kernel
theorem dX1_readOr_32 : decode cX1_readOr 32 = .ok (.aload_n 0, 1) := by decide +kernel
theorem dX1_readOr_33 : decode cX1_readOr 33 = .ok (.getfield 18, 3) := by decide +kernel
theorem dX1_readOr_36 : decode cX1_readOr 36 = .ok (.bipush (-7), 2) := by decide +kernel
theorem dX1_readOr_38 : decode cX1_readOr 38 = .ok (.invokevirtual 63, 3) := by decide +kernel
theorem dX1_readOr_41 : decode cX1_readOr 41 = .ok (.iinc 2 1, 3) := by decide +kernel
theorem dX1_readOr_44 : decode cX1_readOr 44 = .ok (.goto (-37), 3) := by decide +kernel
theorem dX1_readOr_47 : decode cX1_readOr 47 = .ok (.return_, 1) := by decide +kernel
theorem dX1_readAnd_0 : decode cX1_readAnd 0 = .ok (.aload_n 0, 1) := by decide +kernel
theorem dX1_readAnd_1 : decode cX1_readAnd 1 = .ok (.iload_n 1, 1) := by decide +kernel
theorem dX1_readAnd_2 : decode cX1_readAnd 2 = .ok (.invokevirtual 66, 3) := by decide +kernel
theorem dX1_readAnd_5 : decode cX1_readAnd 5 = .ok (.iconst 0, 1) := by decide +kernel
theorem dX1_readAnd_6 : decode cX1_readAnd 6 = .ok (.istore_n 2, 1) := by decide +kernel
theorem dX1_readAnd_7 : decode cX1_readAnd 7 = .ok (.iload_n 2, 1) := by decide +kernel
theorem dX1_readAnd_8 : decode cX1_readAnd 8 = .ok (.sipush 160, 3) := by decide +kernel
theorem dX1_readAnd_11 : decode cX1_readAnd 11 = .ok (.if_icmp .ge 36, 3) := by decide +kernel
theorem dX1_readAnd_14 : decode cX1_readAnd 14 = .ok (.aload_n 0, 1) := by decide +kernel
theorem dX1_readAnd_15 : decode cX1_readAnd 15 = .ok (.getfield 28, 3) := by decide +kernel
theorem dX1_readAnd_18 : decode cX1_readAnd 18 = .ok (.bipush (-8), 2) := by decide +kernel
theorem dX1_readAnd_20 : decode cX1_readAnd 20 = .ok (.if_icmp .ne 27, 3) := by decide +kernel
theorem dX1_readAnd_23 : decode cX1_readAnd 23 = .ok (.aload_n 0, 1) := by decide +kernel
theorem dX1_readAnd_24 : decode cX1_readAnd 24 = .ok (.invokevirtual 44, 3) := by decide +kernel
theorem dX1_readAnd_27 : decode cX1_readAnd 27 = .ok (.aload_n 0, 1) := by decide +kernel
theorem dX1_readAnd_28 : decode cX1_readAnd 28 = .ok (.iload_n 1, 1) := by decide +kernel
theorem dX1_readAnd_29 : decode cX1_readAnd 29 = .ok (.invokevirtual 66, 3) := by decide +kernel
theorem dX1_readAnd_32 : decode cX1_readAnd 32 = .ok (.aload_n 0, 1) := by decide +kernel
theorem dX1_readAnd_33 : decode cX1_readAnd 33 = .ok (.getfield 18, 3) := by decide +kernel
theorem dX1_readAnd_36 : decode cX1_readAnd 36 = .ok (.bipush (-8), 2) := by decide +kernel
theorem dX1_readAnd_38 : decode cX1_readAnd 38 = .ok (.invokevirtual 63, 3) := by decide +kernel
theorem dX1_readAnd_41 : decode cX1_readAnd 41 = .ok (.iinc 2 1, 3) := by decide +kernel
theorem dX1_readAnd_44 : decode cX1_readAnd 44 = .ok (.goto (-37), 3) := by decide +kernel
theorem dX1_readAnd_47 : decode cX1_readAnd 47 = .ok (.return_, 1) := by decide +kernel
theorem dX1_readNot_0 : decode cX1_readNot 0 = .ok (.aload_n 0, 1) := by decide +kernel
theorem dX1_readNot_1 : decode cX1_readNot 1 = .ok (.getfield 28, 3) := by decide +kernel
theorem dX1_readNot_4 : decode cX1_readNot 4 = .ok (.bipush (-9), 2) := by decide +kernel
theorem dX1_readNot_6 : decode cX1_readNot 6 = .ok (.if_icmp .ne 34, 3) := by decide +kernel
theorem dX1_readNot_9 : decode cX1_readNot 9 = .ok (.iload_n 1, 1) := by decide +kernel
theorem dX1_readNot_10 : decode cX1_readNot 10 = .ok (.iconst 5, 1) := by decide +kernel
theorem dX1_readNot_11 : decode cX1_readNot 11 = .ok (.if_icmp .lt 8, 3) := by decide +kernel
theorem dX1_readNot_14 : decode cX1_readNot 14 = .ok (.aload_n 0, 1) := by decide +kernel
theorem dX1_readNot_15 : decode cX1_readNot 15 = .ok (.invokevirtual 57, 3) := by decide +kernel
theorem dX1_readNot_18 : decode cX1_readNot 18 = .ok (.return_, 1) := by decide +kernel
theorem dX1_readNot_19 : decode cX1_readNot 19 = .ok (.aload_n 0, 1) := by decide +kernel
theorem dX1_readNot_20 : decode cX1_readNot 20 = .ok (.invokevirtual 44, 3) := by decide +kernel
theorem dX1_readNot_23 : decode cX1_readNot 23 = .ok (.aload_n 0, 1) := by decide +kernel
theorem dX1_readNot_24 : decode cX1_readNot 24 = .ok (.iload_n 1, 1) := by decide +kernel
theorem dX1_readNot_25 : decode cX1_readNot 25 = .ok (.iconst 1, 1) := by decide +kernel
theorem dX1_readNot_26 : decode cX1_readNot 26 = .ok (.iadd, 1) := by decide +kernel
theorem dX1_readNot_27 : decode cX1_readNot 27 = .ok (.invokevirtual 66, 3) := by decide +kernel
theorem dX1_readNot_30 : decode cX1_readNot 30 = .ok (.aload_n 0, 1) := by decide +kernel
theorem dX1_readNot_31 : decode cX1_readNot 31 = .ok (.getfield 18, 3) := by decide +kernel
theorem dX1_readNot_34 : decode cX1_readNot 34 = .ok (.bipush (-9), 2) := by decide +kernel
theorem dX1_readNot_36 : decode cX1_readNot 36 = .ok (.invokevirtual 63, 3) := by decide +kernel
theorem dX1_readNot_39 : decode cX1_readNot 39 = .ok (.return_, 1) := by decide +kernel
theorem dX1_readNot_40 : decode cX1_readNot 40 = .ok (.aload_n 0, 1) := by decide +kernel
theorem dX1_readNot_41 : decode cX1_readNot 41 = .ok (.iload_n 1, 1) := by decide +kernel
theorem dX1_readNot_42 : decode cX1_readNot 42 = .ok (.invokevirtual 69, 3) := by decide +kernel
theorem dX1_readNot_45 : decode cX1_readNot 45 = .ok (.aload_n 0, 1) := by decide +kernel
theorem dX1_readNot_46 : decode cX1_readNot 46 = .ok (.getfield 28, 3) := by decide +kernel
theorem dX1_readNot_49 : decode cX1_readNot 49 = .ok (.bipush (-10), 2) := by decide +kernel
theorem dX1_readNot_51 : decode cX1_readNot 51 = .ok (.if_icmp .eq 12, 3) := by decide +kernel
theorem dX1_readNot_54 : decode cX1_readNot 54 = .ok (.aload_n 0, 1) := by decide +kernel
theorem dX1_readNot_55 : decode cX1_readNot 55 = .ok (.getfield 28, 3) := by decide +kernel
theorem dX1_readNot_58 : decode cX1_readNot 58 = .ok (.bipush (-11), 2) := by decide +kernel
theorem dX1_readNot_60 : decode cX1_readNot 60 = .ok (.if_icmp .ne 25, 3) := by decide +kernel
theorem dX1_readNot_63 : decode cX1_readNot 63 = .ok (.aload_n 0, 1) := by decide +kernel
theorem dX1_readNot_64 : decode cX1_readNot 64 = .ok (.getfield 28, 3) := by decide +kernel
theorem dX1_readNot_67 : decode cX1_readNot 67 = .ok (.istore_n 2, 1) := by decide +kernel
theorem dX1_readNot_68 : decode cX1_readNot 68 = .ok (.aload_n 0, 1) := by decide +kernel
theorem dX1_readNot_69 : decode cX1_readNot 69 = .ok (.invokevirtual 44, 3) := by decide +kernel
theorem dX1_readNot_72 : decode cX1_readNot 72 = .ok (.aload_n 0, 1) := by decide +kernel
theorem dX1_readNot_73 : decode cX1_readNot 73 = .ok (.iload_n 1, 1) := by decide +kernel
theorem dX1_readNot_74 : decode cX1_readNot 74 = .ok (.invokevirtual 69, 3) := by decide +kernel
theorem dX1_readNot_77 : decode cX1_readNot 77 = .ok (.aload_n 0, 1) := by decide +kernel
theorem dX1_readNot_78 : decode cX1_readNot 78 = .ok (.getfield 18, 3) := by decide +kernel
theorem dX1_readNot_81 : decode cX1_readNot 81 = .ok (.iload_n 2, 1) := by decide +kernel
theorem dX1_readNot_82 : decode cX1_readNot 82 = .ok (.invokevirtual 63, 3) := by decide +kernel
theorem dX1_readNot_85 : decode cX1_readNot 85 = .ok (.return_, 1) := by decide +kernel
theorem dX1_readSum_0 : decode cX1_readSum 0 = .ok (.aload_n 0, 1) := by decide +kernel
theorem dX1_readSum_1 : decode cX1_readSum 1 = .ok (.iload_n 1, 1) := by decide +kernel
theorem dX1_readSum_2 : decode cX1_readSum 2 = .ok (.invokevirtual 72, 3) := by decide +kernel
theorem dX1_readSum_5 : decode cX1_readSum 5 = .ok (.iconst 0, 1) := by decide +kernel
theorem dX1_readSum_6 : decode cX1_readSum 6 = .ok (.istore_n 2, 1) := by decide +kernel
theorem dX1_readSum_7 : decode cX1_readSum 7 = .ok (.iload_n 2, 1) := by decide +kernel
theorem dX1_readSum_8 : decode cX1_readSum 8 = .ok (.sipush 160, 3) := by decide +kernel
theorem dX1_readSum_11 : decode cX1_readSum 11 = .ok (.if_icmp .ge 49, 3) := by decide +kernel
theorem dX1_readSum_14 : decode cX1_readSum 14 = .ok (.aload_n 0, 1) := by decide +kernel
theorem dX1_readSum_15 : decode cX1_readSum 15 = .ok (.getfield 28, 3) := by decide +kernel
theorem dX1_readSum_18 : decode cX1_readSum 18 = .ok (.bipush (-12), 2) := by decide +kernel
theorem dX1_readSum_20 : decode cX1_readSum 20 = .ok (.if_icmp .eq 12, 3) := by decide +kernel
theorem dX1_readSum_23 : decode cX1_readSum 23 = .ok (.aload_n 0, 1) := by decide +kernel
theorem dX1_readSum_24 : decode cX1_readSum 24 = .ok (.getfield 28, 3) := by decide +kernel
theorem dX1_readSum_27 : decode cX1_readSum 27 = .ok (.bipush (-13), 2) := by decide +kernel
theorem dX1_readSum_29 : decode cX1_readSum 29 = .ok (.if_icmp .ne 31, 3) := by decide +kernel
theorem dX1_readSum_32 : decode cX1_readSum 32 = .ok (.aload_n 0, 1) := by decide +kernel
theorem dX1_readSum_33 : decode cX1_readSum 33 = .ok (.getfield 28, 3) := by decide +kernel
theorem dX1_readSum_36 : decode cX1_readSum 36 = .ok (.istore_n 3, 1) := by decide +kernel
theorem dX1_readSum_37 : decode cX1_readSum 37 = .ok (.aload_n 0, 1) := by decide +kernel
theorem dX1_readSum_38 : decode cX1_readSum 38 = .ok (.invokevirtual 44, 3) := by decide +kernel
theorem dX1_readSum_41 : decode cX1_readSum 41 = .ok (.aload_n 0, 1) := by decide +kernel
theorem dX1_readSum_42 : decode cX1_readSum 42 = .ok (.iload_n 1, 1) := by decide +kernel
theorem dX1_readSum_43 : decode cX1_readSum 43 = .ok (.invokevirtual 72, 3) := by decide +kernel
theorem dX1_readSum_46 : decode cX1_readSum 46 = .ok (.aload_n 0, 1) := by decide +kernel
theorem dX1_readSum_47 : decode cX1_readSum 47 = .ok (.getfield 18, 3) := by decide +kernel
theorem dX1_readSum_50 : decode cX1_readSum 50 = .ok (.iload_n 3, 1) := by decide +kernel
theorem dX1_readSum_51 : decode cX1_readSum 51 = .ok (.invokevirtual 63, 3) := by decide +kernel
theorem dX1_readSum_54 : decode cX1_readSum 54 = .ok (.iinc 2 1, 3) := by decide +kernel
theorem dX1_readSum_57 : decode cX1_readSum 57 = .ok (.goto (-50), 3) := by decide +kernel
theorem dX1_readSum_60 : decode cX1_readSum 60 = .ok (.return_, 1) := by decide +kernel
theorem dX1_readTerm_0 : decode cX1_readTerm 0 = .ok (.aload_n 0, 1) := by decide +kernel
theorem dX1_readTerm_1 : decode cX1_readTerm 1 = .ok (.iload_n 1, 1) := by decide +kernel
theorem dX1_readTerm_2 : decode cX1_readTerm 2 = .ok (.invokevirtual 75, 3) := by decide +kernel
theorem dX1_readTerm_5 : decode cX1_readTerm 5 = .ok (.iconst 0, 1) := by decide +kernel
theorem dX1_readTerm_6 : decode cX1_readTerm 6 = .ok (.istore_n 2, 1) := by decide +kernel
theorem dX1_readTerm_7 : decode cX1_readTerm 7 = .ok (.iload_n 2, 1) := by decide +kernel
theorem dX1_readTerm_8 : decode cX1_readTerm 8 = .ok (.sipush 160, 3) := by decide +kernel
theorem dX1_readTerm_11 : decode cX1_readTerm 11 = .ok (.if_icmp .ge 36, 3) := by decide +kernel
theorem dX1_readTerm_14 : decode cX1_readTerm 14 = .ok (.aload_n 0, 1) := by decide +kernel
theorem dX1_readTerm_15 : decode cX1_readTerm 15 = .ok (.getfield 28, 3) := by decide +kernel
theorem dX1_readTerm_18 : decode cX1_readTerm 18 = .ok (.bipush (-14), 2) := by decide +kernel
theorem dX1_readTerm_20 : decode cX1_readTerm 20 = .ok (.if_icmp .ne 27, 3) := by decide +kernel
theorem dX1_readTerm_23 : decode cX1_readTerm 23 = .ok (.aload_n 0, 1) := by decide +kernel
theorem dX1_readTerm_24 : decode cX1_readTerm 24 = .ok (.invokevirtual 44, 3) := by decide +kernel
theorem dX1_readTerm_27 : decode cX1_readTerm 27 = .ok (.aload_n 0, 1) := by decide +kernel
theorem dX1_readTerm_28 : decode cX1_readTerm 28 = .ok (.iload_n 1, 1) := by decide +kernel
theorem dX1_readTerm_29 : decode cX1_readTerm 29 = .ok (.invokevirtual 75, 3) := by decide +kernel
theorem dX1_readTerm_32 : decode cX1_readTerm 32 = .ok (.aload_n 0, 1) := by decide +kernel
theorem dX1_readTerm_33 : decode cX1_readTerm 33 = .ok (.getfield 18, 3) := by decide +kernel
theorem dX1_readTerm_36 : decode cX1_readTerm 36 = .ok (.bipush (-14), 2) := by decide +kernel
theorem dX1_readTerm_38 : decode cX1_readTerm 38 = .ok (.invokevirtual 63, 3) := by decide +kernel
theorem dX1_readTerm_41 : decode cX1_readTerm 41 = .ok (.iinc 2 1, 3) := by decide +kernel
theorem dX1_readTerm_44 : decode cX1_readTerm 44 = .ok (.goto (-37), 3) := by decide +kernel
theorem dX1_readTerm_47 : decode cX1_readTerm 47 = .ok (.return_, 1) := by decide +kernel
theorem dX1_readOne_0 : decode cX1_readOne 0 = .ok (.aload_n 0, 1) := by decide +kernel
theorem dX1_readOne_1 : decode cX1_readOne 1 = .ok (.getfield 28, 3) := by decide +kernel
theorem dX1_readOne_4 : decode cX1_readOne 4 = .ok (.iconst 2, 1) := by decide +kernel
theorem dX1_readOne_5 : decode cX1_readOne 5 = .ok (.if_icmp .ne 21, 3) := by decide +kernel
theorem dX1_readOne_8 : decode cX1_readOne 8 = .ok (.aload_n 0, 1) := by decide +kernel
theorem dX1_readOne_9 : decode cX1_readOne 9 = .ok (.getfield 18, 3) := by decide +kernel
theorem dX1_readOne_12 : decode cX1_readOne 12 = .ok (.aload_n 0, 1) := by decide +kernel
theorem dX1_readOne_13 : decode cX1_readOne 13 = .ok (.getfield 37, 3) := by decide +kernel
theorem dX1_readOne_16 : decode cX1_readOne 16 = .ok (.invokevirtual 63, 3) := by decide +kernel
theorem dX1_readOne_19 : decode cX1_readOne 19 = .ok (.aload_n 0, 1) := by decide +kernel
theorem dX1_readOne_20 : decode cX1_readOne 20 = .ok (.invokevirtual 44, 3) := by decide +kernel
theorem dX1_readOne_23 : decode cX1_readOne 23 = .ok (.goto 104, 3) := by decide +kernel
theorem dX1_readOne_26 : decode cX1_readOne 26 = .ok (.aload_n 0, 1) := by decide +kernel
theorem dX1_readOne_27 : decode cX1_readOne 27 = .ok (.getfield 28, 3) := by decide +kernel
theorem dX1_readOne_30 : decode cX1_readOne 30 = .ok (.invokestatic 78, 3) := by decide +kernel
theorem dX1_readOne_33 : decode cX1_readOne 33 = .ok (.ifCond .eq 21, 3) := by decide +kernel
theorem dX1_readOne_36 : decode cX1_readOne 36 = .ok (.aload_n 0, 1) := by decide +kernel
theorem dX1_readOne_37 : decode cX1_readOne 37 = .ok (.getfield 18, 3) := by decide +kernel
theorem dX1_readOne_40 : decode cX1_readOne 40 = .ok (.aload_n 0, 1) := by decide +kernel
theorem dX1_readOne_41 : decode cX1_readOne 41 = .ok (.getfield 28, 3) := by decide +kernel
theorem dX1_readOne_44 : decode cX1_readOne 44 = .ok (.invokevirtual 63, 3) := by decide +kernel
theorem dX1_readOne_47 : decode cX1_readOne 47 = .ok (.aload_n 0, 1) := by decide +kernel
theorem dX1_readOne_48 : decode cX1_readOne 48 = .ok (.invokevirtual 44, 3) := by decide +kernel
theorem dX1_readOne_51 : decode cX1_readOne 51 = .ok (.goto 76, 3) := by decide +kernel
theorem dX1_readOne_54 : decode cX1_readOne 54 = .ok (.aload_n 0, 1) := by decide +kernel
theorem dX1_readOne_55 : decode cX1_readOne 55 = .ok (.getfield 28, 3) := by decide +kernel
theorem dX1_readOne_58 : decode cX1_readOne 58 = .ok (.bipush (-13), 2) := by decide +kernel
theorem dX1_readOne_60 : decode cX1_readOne 60 = .ok (.if_icmp .ne 31, 3) := by decide +kernel
theorem dX1_readOne_63 : decode cX1_readOne 63 = .ok (.iload_n 1, 1) := by decide +kernel
theorem dX1_readOne_64 : decode cX1_readOne 64 = .ok (.iconst 5, 1) := by decide +kernel
theorem dX1_readOne_65 : decode cX1_readOne 65 = .ok (.if_icmp .ge 26, 3) := by decide +kernel
theorem dX1_readOne_68 : decode cX1_readOne 68 = .ok (.aload_n 0, 1) := by decide +kernel
theorem dX1_readOne_69 : decode cX1_readOne 69 = .ok (.invokevirtual 44, 3) := by decide +kernel
theorem dX1_readOne_72 : decode cX1_readOne 72 = .ok (.aload_n 0, 1) := by decide +kernel
theorem dX1_readOne_73 : decode cX1_readOne 73 = .ok (.iload_n 1, 1) := by decide +kernel
theorem dX1_readOne_74 : decode cX1_readOne 74 = .ok (.iconst 1, 1) := by decide +kernel
theorem dX1_readOne_75 : decode cX1_readOne 75 = .ok (.iadd, 1) := by decide +kernel
theorem dX1_readOne_76 : decode cX1_readOne 76 = .ok (.invokevirtual 75, 3) := by decide +kernel
theorem dX1_readOne_79 : decode cX1_readOne 79 = .ok (.aload_n 0, 1) := by decide +kernel
theorem dX1_readOne_80 : decode cX1_readOne 80 = .ok (.getfield 18, 3) := by decide +kernel
theorem dX1_readOne_83 : decode cX1_readOne 83 = .ok (.bipush (-15), 2) := by decide +kernel
theorem dX1_readOne_85 : decode cX1_readOne 85 = .ok (.invokevirtual 63, 3) := by decide +kernel
theorem dX1_readOne_88 : decode cX1_readOne 88 = .ok (.goto 39, 3) := by decide +kernel
theorem dX1_readOne_91 : decode cX1_readOne 91 = .ok (.aload_n 0, 1) := by decide +kernel
theorem dX1_readOne_92 : decode cX1_readOne 92 = .ok (.getfield 28, 3) := by decide +kernel
theorem dX1_readOne_95 : decode cX1_readOne 95 = .ok (.iconst 3, 1) := by decide +kernel
theorem dX1_readOne_96 : decode cX1_readOne 96 = .ok (.if_icmp .ne 27, 3) := by decide +kernel
theorem dX1_readOne_99 : decode cX1_readOne 99 = .ok (.iload_n 1, 1) := by decide +kernel
theorem dX1_readOne_100 : decode cX1_readOne 100 = .ok (.iconst 5, 1) := by decide +kernel
theorem dX1_readOne_101 : decode cX1_readOne 101 = .ok (.if_icmp .ge 22, 3) := by decide +kernel
theorem dX1_readOne_104 : decode cX1_readOne 104 = .ok (.aload_n 0, 1) := by decide +kernel
theorem dX1_readOne_105 : decode cX1_readOne 105 = .ok (.invokevirtual 44, 3) := by decide +kernel
theorem dX1_readOne_108 : decode cX1_readOne 108 = .ok (.aload_n 0, 1) := by decide +kernel
theorem dX1_readOne_109 : decode cX1_readOne 109 = .ok (.iload_n 1, 1) := by decide +kernel
theorem dX1_readOne_110 : decode cX1_readOne 110 = .ok (.iconst 1, 1) := by decide +kernel
theorem dX1_readOne_111 : decode cX1_readOne 111 = .ok (.iadd, 1) := by decide +kernel
theorem dX1_readOne_112 : decode cX1_readOne 112 = .ok (.invokevirtual 51, 3) := by decide +kernel
theorem dX1_readOne_115 : decode cX1_readOne 115 = .ok (.aload_n 0, 1) := by decide +kernel
theorem dX1_readOne_116 : decode cX1_readOne 116 = .ok (.iconst 4, 1) := by decide +kernel
theorem dX1_readOne_117 : decode cX1_readOne 117 = .ok (.invokevirtual 47, 3) := by decide +kernel
theorem dX1_readOne_120 : decode cX1_readOne 120 = .ok (.goto 7, 3) := by decide +kernel
theorem dX1_readOne_123 : decode cX1_readOne 123 = .ok (.aload_n 0, 1) := by decide +kernel
theorem dX1_readOne_124 : decode cX1_readOne 124 = .ok (.invokevirtual 57, 3) := by decide +kernel
theorem dX1_readOne_127 : decode cX1_readOne 127 = .ok (.return_, 1) := by decide +kernel
theorem dX1_accept_0 : decode cX1_accept 0 = .ok (.aload_n 0, 1) := by decide +kernel
theorem dX1_accept_1 : decode cX1_accept 1 = .ok (.getfield 28, 3) := by decide +kernel
theorem dX1_accept_4 : decode cX1_accept 4 = .ok (.iload_n 1, 1) := by decide +kernel
theorem dX1_accept_5 : decode cX1_accept 5 = .ok (.if_icmp .ne 10, 3) := by decide +kernel
theorem dX1_accept_8 : decode cX1_accept 8 = .ok (.aload_n 0, 1) := by decide +kernel
theorem dX1_accept_9 : decode cX1_accept 9 = .ok (.invokevirtual 44, 3) := by decide +kernel
theorem dX1_accept_12 : decode cX1_accept 12 = .ok (.goto 7, 3) := by decide +kernel
theorem dX1_accept_15 : decode cX1_accept 15 = .ok (.aload_n 0, 1) := by decide +kernel
theorem dX1_accept_16 : decode cX1_accept 16 = .ok (.invokevirtual 57, 3) := by decide +kernel
theorem dX1_accept_19 : decode cX1_accept 19 = .ok (.return_, 1) := by decide +kernel
theorem dX1_fail_0 : decode cX1_fail 0 = .ok (.aload_n 0, 1) := by decide +kernel
theorem dX1_fail_1 : decode cX1_fail 1 = .ok (.getfield 40, 3) := by decide +kernel
theorem dX1_fail_4 : decode cX1_fail 4 = .ok (.iconst (-1), 1) := by decide +kernel
theorem dX1_fail_5 : decode cX1_fail 5 = .ok (.if_icmp .ne 11, 3) := by decide +kernel
theorem dX1_fail_8 : decode cX1_fail 8 = .ok (.aload_n 0, 1) := by decide +kernel
theorem dX1_fail_9 : decode cX1_fail 9 = .ok (.aload_n 0, 1) := by decide +kernel
theorem dX1_fail_10 : decode cX1_fail 10 = .ok (.getfield 31, 3) := by decide +kernel
theorem dX1_fail_13 : decode cX1_fail 13 = .ok (.putfield 40, 3) := by decide +kernel
theorem dX1_fail_16 : decode cX1_fail 16 = .ok (.aload_n 0, 1) := by decide +kernel
theorem dX1_fail_17 : decode cX1_fail 17 = .ok (.iconst 1, 1) := by decide +kernel
theorem dX1_fail_18 : decode cX1_fail 18 = .ok (.putfield 28, 3) := by decide +kernel
theorem dX1_fail_21 : decode cX1_fail 21 = .ok (.return_, 1) := by decide +kernel
theorem dX1_advance_0 : decode cX1_advance 0 = .ok (.aload_n 0, 1) := by decide +kernel
theorem dX1_advance_1 : decode cX1_advance 1 = .ok (.aload_n 0, 1) := by decide +kernel
theorem dX1_advance_2 : decode cX1_advance 2 = .ok (.getfield 34, 3) := by decide +kernel
theorem dX1_advance_5 : decode cX1_advance 5 = .ok (.putfield 31, 3) := by decide +kernel
theorem dX1_advance_8 : decode cX1_advance 8 = .ok (.aload_n 0, 1) := by decide +kernel
theorem dX1_advance_9 : decode cX1_advance 9 = .ok (.getfield 31, 3) := by decide +kernel
theorem dX1_advance_12 : decode cX1_advance 12 = .ok (.aload_n 0, 1) := by decide +kernel
theorem dX1_advance_13 : decode cX1_advance 13 = .ok (.getfield 22, 3) := by decide +kernel
theorem dX1_advance_16 : decode cX1_advance 16 = .ok (.if_icmp .ge 44, 3) := by decide +kernel
theorem dX1_advance_19 : decode cX1_advance 19 = .ok (.aload_n 0, 1) := by decide +kernel
theorem dX1_advance_20 : decode cX1_advance 20 = .ok (.getfield 9, 3) := by decide +kernel
theorem dX1_advance_23 : decode cX1_advance 23 = .ok (.aload_n 0, 1) := by decide +kernel
theorem dX1_advance_24 : decode cX1_advance 24 = .ok (.getfield 31, 3) := by decide +kernel
theorem dX1_advance_27 : decode cX1_advance 27 = .ok (.iaload, 1) := by decide +kernel
theorem dX1_advance_28 : decode cX1_advance 28 = .ok (.bipush 32, 2) := by decide +kernel
theorem dX1_advance_30 : decode cX1_advance 30 = .ok (.if_icmp .eq 17, 3) := by decide +kernel
theorem dX1_advance_33 : decode cX1_advance 33 = .ok (.aload_n 0, 1) := by decide +kernel
theorem dX1_advance_34 : decode cX1_advance 34 = .ok (.getfield 9, 3) := by decide +kernel
theorem dX1_advance_37 : decode cX1_advance 37 = .ok (.aload_n 0, 1) := by decide +kernel
theorem dX1_advance_38 : decode cX1_advance 38 = .ok (.getfield 31, 3) := by decide +kernel
theorem dX1_advance_41 : decode cX1_advance 41 = .ok (.iaload, 1) := by decide +kernel
theorem dX1_advance_42 : decode cX1_advance 42 = .ok (.bipush 10, 2) := by decide +kernel
theorem dX1_advance_44 : decode cX1_advance 44 = .ok (.if_icmp .ne 16, 3) := by decide +kernel
theorem dX1_advance_47 : decode cX1_advance 47 = .ok (.aload_n 0, 1) := by decide +kernel
theorem dX1_advance_48 : decode cX1_advance 48 = .ok (.dup, 1) := by decide +kernel
theorem dX1_advance_49 : decode cX1_advance 49 = .ok (.getfield 31, 3) := by decide +kernel
theorem dX1_advance_52 : decode cX1_advance 52 = .ok (.iconst 1, 1) := by decide +kernel
theorem dX1_advance_53 : decode cX1_advance 53 = .ok (.iadd, 1) := by decide +kernel
theorem dX1_advance_54 : decode cX1_advance 54 = .ok (.putfield 31, 3) := by decide +kernel
theorem dX1_advance_57 : decode cX1_advance 57 = .ok (.goto (-49), 3) := by decide +kernel
theorem dX1_advance_60 : decode cX1_advance 60 = .ok (.aload_n 0, 1) := by decide +kernel
theorem dX1_advance_61 : decode cX1_advance 61 = .ok (.aload_n 0, 1) := by decide +kernel
theorem dX1_advance_62 : decode cX1_advance 62 = .ok (.getfield 31, 3) := by decide +kernel
theorem dX1_advance_65 : decode cX1_advance 65 = .ok (.putfield 34, 3) := by decide +kernel
theorem dX1_advance_68 : decode cX1_advance 68 = .ok (.aload_n 0, 1) := by decide +kernel
theorem dX1_advance_69 : decode cX1_advance 69 = .ok (.getfield 31, 3) := by decide +kernel
theorem dX1_advance_72 : decode cX1_advance 72 = .ok (.aload_n 0, 1) := by decide +kernel
theorem dX1_advance_73 : decode cX1_advance 73 = .ok (.getfield 22, 3) := by decide +kernel
theorem dX1_advance_76 : decode cX1_advance 76 = .ok (.if_icmp .lt 11, 3) := by decide +kernel
theorem dX1_advance_79 : decode cX1_advance 79 = .ok (.aload_n 0, 1) := by decide +kernel
theorem dX1_advance_80 : decode cX1_advance 80 = .ok (.iconst 0, 1) := by decide +kernel
theorem dX1_advance_81 : decode cX1_advance 81 = .ok (.putfield 28, 3) := by decide +kernel
theorem dX1_advance_84 : decode cX1_advance 84 = .ok (.goto 113, 3) := by decide +kernel
theorem dX1_advance_87 : decode cX1_advance 87 = .ok (.aload_n 0, 1) := by decide +kernel
theorem dX1_advance_88 : decode cX1_advance 88 = .ok (.getfield 9, 3) := by decide +kernel
theorem dX1_advance_91 : decode cX1_advance 91 = .ok (.aload_n 0, 1) := by decide +kernel
theorem dX1_advance_92 : decode cX1_advance 92 = .ok (.getfield 31, 3) := by decide +kernel
theorem dX1_advance_95 : decode cX1_advance 95 = .ok (.iaload, 1) := by decide +kernel
theorem dX1_advance_96 : decode cX1_advance 96 = .ok (.bipush 97, 2) := by decide +kernel
theorem dX1_advance_98 : decode cX1_advance 98 = .ok (.bipush 122, 2) := by decide +kernel
theorem dX1_advance_100 : decode cX1_advance 100 = .ok (.invokestatic 82, 3) := by decide +kernel
theorem dX1_advance_103 : decode cX1_advance 103 = .ok (.ifCond .eq 26, 3) := by decide +kernel
theorem dX1_advance_106 : decode cX1_advance 106 = .ok (.aload_n 0, 1) := by decide +kernel
theorem dX1_advance_107 : decode cX1_advance 107 = .ok (.aload_n 0, 1) := by decide +kernel
theorem dX1_advance_108 : decode cX1_advance 108 = .ok (.bipush 97, 2) := by decide +kernel
theorem dX1_advance_110 : decode cX1_advance 110 = .ok (.bipush 122, 2) := by decide +kernel
theorem dX1_advance_112 : decode cX1_advance 112 = .ok (.invokevirtual 86, 3) := by decide +kernel
theorem dX1_advance_115 : decode cX1_advance 115 = .ok (.putfield 34, 3) := by decide +kernel
theorem dX1_advance_118 : decode cX1_advance 118 = .ok (.aload_n 0, 1) := by decide +kernel
theorem dX1_advance_119 : decode cX1_advance 119 = .ok (.aload_n 0, 1) := by decide +kernel
theorem dX1_advance_120 : decode cX1_advance 120 = .ok (.invokevirtual 90, 3) := by decide +kernel
theorem dX1_advance_123 : decode cX1_advance 123 = .ok (.putfield 28, 3) := by decide +kernel
theorem dX1_advance_126 : decode cX1_advance 126 = .ok (.goto 71, 3) := by decide +kernel
theorem dX1_advance_129 : decode cX1_advance 129 = .ok (.aload_n 0, 1) := by decide +kernel
theorem dX1_advance_130 : decode cX1_advance 130 = .ok (.getfield 9, 3) := by decide +kernel
theorem dX1_advance_133 : decode cX1_advance 133 = .ok (.aload_n 0, 1) := by decide +kernel
theorem dX1_advance_134 : decode cX1_advance 134 = .ok (.getfield 31, 3) := by decide +kernel
theorem dX1_advance_137 : decode cX1_advance 137 = .ok (.iaload, 1) := by decide +kernel
theorem dX1_advance_138 : decode cX1_advance 138 = .ok (.bipush 48, 2) := by decide +kernel
theorem dX1_advance_140 : decode cX1_advance 140 = .ok (.bipush 57, 2) := by decide +kernel
theorem dX1_advance_142 : decode cX1_advance 142 = .ok (.invokestatic 82, 3) := by decide +kernel
theorem dX1_advance_145 : decode cX1_advance 145 = .ok (.ifCond .eq 26, 3) := by decide +kernel
theorem dX1_advance_148 : decode cX1_advance 148 = .ok (.aload_n 0, 1) := by decide +kernel
theorem dX1_advance_149 : decode cX1_advance 149 = .ok (.aload_n 0, 1) := by decide +kernel
theorem dX1_advance_150 : decode cX1_advance 150 = .ok (.bipush 48, 2) := by decide +kernel
theorem dX1_advance_152 : decode cX1_advance 152 = .ok (.bipush 57, 2) := by decide +kernel
theorem dX1_advance_154 : decode cX1_advance 154 = .ok (.invokevirtual 86, 3) := by decide +kernel
theorem dX1_advance_157 : decode cX1_advance 157 = .ok (.putfield 34, 3) := by decide +kernel
theorem dX1_advance_160 : decode cX1_advance 160 = .ok (.aload_n 0, 1) := by decide +kernel
theorem dX1_advance_161 : decode cX1_advance 161 = .ok (.aload_n 0, 1) := by decide +kernel
theorem dX1_advance_162 : decode cX1_advance 162 = .ok (.invokevirtual 94, 3) := by decide +kernel
theorem dX1_advance_165 : decode cX1_advance 165 = .ok (.putfield 28, 3) := by decide +kernel
theorem dX1_advance_168 : decode cX1_advance 168 = .ok (.goto 29, 3) := by decide +kernel
theorem dX1_advance_171 : decode cX1_advance 171 = .ok (.aload_n 0, 1) := by decide +kernel
theorem dX1_advance_172 : decode cX1_advance 172 = .ok (.aload_n 0, 1) := by decide +kernel
theorem dX1_advance_173 : decode cX1_advance 173 = .ok (.getfield 31, 3) := by decide +kernel
theorem dX1_advance_176 : decode cX1_advance 176 = .ok (.iconst 1, 1) := by decide +kernel
theorem dX1_advance_177 : decode cX1_advance 177 = .ok (.iadd, 1) := by decide +kernel
theorem dX1_advance_178 : decode cX1_advance 178 = .ok (.putfield 34, 3) := by decide +kernel
theorem dX1_advance_181 : decode cX1_advance 181 = .ok (.aload_n 0, 1) := by decide +kernel
theorem dX1_advance_182 : decode cX1_advance 182 = .ok (.aload_n 0, 1) := by decide +kernel
theorem dX1_advance_183 : decode cX1_advance 183 = .ok (.getfield 9, 3) := by decide +kernel
theorem dX1_advance_186 : decode cX1_advance 186 = .ok (.aload_n 0, 1) := by decide +kernel
theorem dX1_advance_187 : decode cX1_advance 187 = .ok (.getfield 31, 3) := by decide +kernel
theorem dX1_advance_190 : decode cX1_advance 190 = .ok (.iaload, 1) := by decide +kernel
theorem dX1_advance_191 : decode cX1_advance 191 = .ok (.invokestatic 97, 3) := by decide +kernel
theorem dX1_advance_194 : decode cX1_advance 194 = .ok (.putfield 28, 3) := by decide +kernel
theorem dX1_advance_197 : decode cX1_advance 197 = .ok (.return_, 1) := by decide +kernel
theorem dX1_endOfRun_0 : decode cX1_endOfRun 0 = .ok (.aload_n 0, 1) := by decide +kernel
theorem dX1_endOfRun_1 : decode cX1_endOfRun 1 = .ok (.getfield 31, 3) := by decide +kernel
theorem dX1_endOfRun_4 : decode cX1_endOfRun 4 = .ok (.istore_n 3, 1) := by decide +kernel
theorem dX1_endOfRun_5 : decode cX1_endOfRun 5 = .ok (.iload_n 3, 1) := by decide +kernel
theorem dX1_endOfRun_6 : decode cX1_endOfRun 6 = .ok (.aload_n 0, 1) := by decide +kernel
theorem dX1_endOfRun_7 : decode cX1_endOfRun 7 = .ok (.getfield 22, 3) := by decide +kernel
theorem dX1_endOfRun_10 : decode cX1_endOfRun 10 = .ok (.if_icmp .ge 23, 3) := by decide +kernel
theorem dX1_endOfRun_13 : decode cX1_endOfRun 13 = .ok (.aload_n 0, 1) := by decide +kernel
theorem dX1_endOfRun_14 : decode cX1_endOfRun 14 = .ok (.getfield 9, 3) := by decide +kernel
theorem dX1_endOfRun_17 : decode cX1_endOfRun 17 = .ok (.iload_n 3, 1) := by decide +kernel
theorem dX1_endOfRun_18 : decode cX1_endOfRun 18 = .ok (.iaload, 1) := by decide +kernel
theorem dX1_endOfRun_19 : decode cX1_endOfRun 19 = .ok (.iload_n 1, 1) := by decide +kernel
theorem dX1_endOfRun_20 : decode cX1_endOfRun 20 = .ok (.iload_n 2, 1) := by decide +kernel
theorem dX1_endOfRun_21 : decode cX1_endOfRun 21 = .ok (.invokestatic 82, 3) := by decide +kernel
theorem dX1_endOfRun_24 : decode cX1_endOfRun 24 = .ok (.ifCond .eq 9, 3) := by decide +kernel
theorem dX1_endOfRun_27 : decode cX1_endOfRun 27 = .ok (.iinc 3 1, 3) := by decide +kernel
theorem dX1_endOfRun_30 : decode cX1_endOfRun 30 = .ok (.goto (-25), 3) := by decide +kernel
theorem dX1_endOfRun_33 : decode cX1_endOfRun 33 = .ok (.iload_n 3, 1) := by decide +kernel
theorem dX1_endOfRun_34 : decode cX1_endOfRun 34 = .ok (.ireturn, 1) := by decide +kernel
theorem dX1_numberToken_0 : decode cX1_numberToken 0 = .ok (.aload_n 0, 1) := by decide +kernel
theorem dX1_numberToken_1 : decode cX1_numberToken 1 = .ok (.getfield 34, 3) := by decide +kernel
theorem dX1_numberToken_4 : decode cX1_numberToken 4 = .ok (.aload_n 0, 1) := by decide +kernel
theorem dX1_numberToken_5 : decode cX1_numberToken 5 = .ok (.getfield 31, 3) := by decide +kernel
theorem dX1_numberToken_8 : decode cX1_numberToken 8 = .ok (.isub, 1) := by decide +kernel
theorem dX1_numberToken_9 : decode cX1_numberToken 9 = .ok (.iconst 4, 1) := by decide +kernel
theorem dX1_numberToken_10 : decode cX1_numberToken 10 = .ok (.if_icmp .le 5, 3) := by decide +kernel
theorem dX1_numberToken_13 : decode cX1_numberToken 13 = .ok (.iconst 1, 1) := by decide +kernel
theorem dX1_numberToken_14 : decode cX1_numberToken 14 = .ok (.ireturn, 1) := by decide +kernel
theorem dX1_numberToken_15 : decode cX1_numberToken 15 = .ok (.aload_n 0, 1) := by decide +kernel
theorem dX1_numberToken_16 : decode cX1_numberToken 16 = .ok (.iconst 0, 1) := by decide +kernel
theorem dX1_numberToken_17 : decode cX1_numberToken 17 = .ok (.putfield 37, 3) := by decide +kernel
theorem dX1_numberToken_20 : decode cX1_numberToken 20 = .ok (.aload_n 0, 1) := by decide +kernel
theorem dX1_numberToken_21 : decode cX1_numberToken 21 = .ok (.getfield 31, 3) := by decide +kernel
theorem dX1_numberToken_24 : decode cX1_numberToken 24 = .ok (.istore_n 1, 1) := by decide +kernel
theorem dX1_numberToken_25 : decode cX1_numberToken 25 = .ok (.iload_n 1, 1) := by decide +kernel
theorem dX1_numberToken_26 : decode cX1_numberToken 26 = .ok (.aload_n 0, 1) := by decide +kernel
theorem dX1_numberToken_27 : decode cX1_numberToken 27 = .ok (.getfield 34, 3) := by decide +kernel
theorem dX1_numberToken_30 : decode cX1_numberToken 30 = .ok (.if_icmp .ge 30, 3) := by decide +kernel
theorem dX1_numberToken_33 : decode cX1_numberToken 33 = .ok (.aload_n 0, 1) := by decide +kernel
theorem dX1_numberToken_34 : decode cX1_numberToken 34 = .ok (.aload_n 0, 1) := by decide +kernel
theorem dX1_numberToken_35 : decode cX1_numberToken 35 = .ok (.getfield 37, 3) := by decide +kernel
theorem dX1_numberToken_38 : decode cX1_numberToken 38 = .ok (.bipush 10, 2) := by decide +kernel
theorem dX1_numberToken_40 : decode cX1_numberToken 40 = .ok (.imul, 1) := by decide +kernel
theorem dX1_numberToken_41 : decode cX1_numberToken 41 = .ok (.aload_n 0, 1) := by decide +kernel
theorem dX1_numberToken_42 : decode cX1_numberToken 42 = .ok (.getfield 9, 3) := by decide +kernel
theorem dX1_numberToken_45 : decode cX1_numberToken 45 = .ok (.iload_n 1, 1) := by decide +kernel
theorem dX1_numberToken_46 : decode cX1_numberToken 46 = .ok (.iaload, 1) := by decide +kernel
theorem dX1_numberToken_47 : decode cX1_numberToken 47 = .ok (.iadd, 1) := by decide +kernel
theorem dX1_numberToken_48 : decode cX1_numberToken 48 = .ok (.bipush 48, 2) := by decide +kernel
theorem dX1_numberToken_50 : decode cX1_numberToken 50 = .ok (.isub, 1) := by decide +kernel
theorem dX1_numberToken_51 : decode cX1_numberToken 51 = .ok (.putfield 37, 3) := by decide +kernel
theorem dX1_numberToken_54 : decode cX1_numberToken 54 = .ok (.iinc 1 1, 3) := by decide +kernel
theorem dX1_numberToken_57 : decode cX1_numberToken 57 = .ok (.goto (-32), 3) := by decide +kernel
theorem dX1_numberToken_60 : decode cX1_numberToken 60 = .ok (.iconst 2, 1) := by decide +kernel
theorem dX1_numberToken_61 : decode cX1_numberToken 61 = .ok (.ireturn, 1) := by decide +kernel
theorem dX1_wordToken_0 : decode cX1_wordToken 0 = .ok (.aload_n 0, 1) := by decide +kernel
theorem dX1_wordToken_1 : decode cX1_wordToken 1 = .ok (.ldc 101, 2) := by decide +kernel
theorem dX1_wordToken_3 : decode cX1_wordToken 3 = .ok (.invokevirtual 103, 3) := by decide +kernel
theorem dX1_wordToken_6 : decode cX1_wordToken 6 = .ok (.ifCond .eq 6, 3) := by decide +kernel
theorem dX1_wordToken_9 : decode cX1_wordToken 9 = .ok (.bipush 6, 2) := by decide +kernel
theorem dX1_wordToken_11 : decode cX1_wordToken 11 = .ok (.ireturn, 1) := by decide +kernel
theorem dX1_wordToken_12 : decode cX1_wordToken 12 = .ok (.aload_n 0, 1) := by decide +kernel
theorem dX1_wordToken_13 : decode cX1_wordToken 13 = .ok (.ldc 107, 2) := by decide +kernel
theorem dX1_wordToken_15 : decode cX1_wordToken 15 = .ok (.invokevirtual 103, 3) := by decide +kernel
theorem dX1_wordToken_18 : decode cX1_wordToken 18 = .ok (.ifCond .eq 6, 3) := by decide +kernel
theorem dX1_wordToken_21 : decode cX1_wordToken 21 = .ok (.bipush 7, 2) := by decide +kernel
theorem dX1_wordToken_23 : decode cX1_wordToken 23 = .ok (.ireturn, 1) := by decide +kernel
theorem dX1_wordToken_24 : decode cX1_wordToken 24 = .ok (.aload_n 0, 1) := by decide +kernel
theorem dX1_wordToken_25 : decode cX1_wordToken 25 = .ok (.ldc 109, 2) := by decide +kernel
theorem dX1_wordToken_27 : decode cX1_wordToken 27 = .ok (.invokevirtual 103, 3) := by decide +kernel
theorem dX1_wordToken_30 : decode cX1_wordToken 30 = .ok (.ifCond .eq 6, 3) := by decide +kernel
theorem dX1_wordToken_33 : decode cX1_wordToken 33 = .ok (.bipush 8, 2) := by decide +kernel
theorem dX1_wordToken_35 : decode cX1_wordToken 35 = .ok (.ireturn, 1) := by decide +kernel
theorem dX1_wordToken_36 : decode cX1_wordToken 36 = .ok (.aload_n 0, 1) := by decide +kernel
theorem dX1_wordToken_37 : decode cX1_wordToken 37 = .ok (.ldc 111, 2) := by decide +kernel
theorem dX1_wordToken_39 : decode cX1_wordToken 39 = .ok (.invokevirtual 103, 3) := by decide +kernel
theorem dX1_wordToken_42 : decode cX1_wordToken 42 = .ok (.ifCond .eq 6, 3) := by decide +kernel
theorem dX1_wordToken_45 : decode cX1_wordToken 45 = .ok (.bipush (-7), 2) := by decide +kernel
theorem dX1_wordToken_47 : decode cX1_wordToken 47 = .ok (.ireturn, 1) := by decide +kernel
theorem dX1_wordToken_48 : decode cX1_wordToken 48 = .ok (.aload_n 0, 1) := by decide +kernel
theorem dX1_wordToken_49 : decode cX1_wordToken 49 = .ok (.ldc 113, 2) := by decide +kernel
theorem dX1_wordToken_51 : decode cX1_wordToken 51 = .ok (.invokevirtual 103, 3) := by decide +kernel
theorem dX1_wordToken_54 : decode cX1_wordToken 54 = .ok (.ifCond .eq 6, 3) := by decide +kernel
theorem dX1_wordToken_57 : decode cX1_wordToken 57 = .ok (.bipush (-8), 2) := by decide +kernel
theorem dX1_wordToken_59 : decode cX1_wordToken 59 = .ok (.ireturn, 1) := by decide +kernel
theorem dX1_wordToken_60 : decode cX1_wordToken 60 = .ok (.aload_n 0, 1) := by decide +kernel
theorem dX1_wordToken_61 : decode cX1_wordToken 61 = .ok (.ldc 115, 2) := by decide +kernel
theorem dX1_wordToken_63 : decode cX1_wordToken 63 = .ok (.invokevirtual 103, 3) := by decide +kernel
theorem dX1_wordToken_66 : decode cX1_wordToken 66 = .ok (.ifCond .eq 6, 3) := by decide +kernel
theorem dX1_wordToken_69 : decode cX1_wordToken 69 = .ok (.bipush (-9), 2) := by decide +kernel
theorem dX1_wordToken_71 : decode cX1_wordToken 71 = .ok (.ireturn, 1) := by decide +kernel
theorem dX1_wordToken_72 : decode cX1_wordToken 72 = .ok (.aload_n 0, 1) := by decide +kernel
theorem dX1_wordToken_73 : decode cX1_wordToken 73 = .ok (.ldc 117, 2) := by decide +kernel
theorem dX1_wordToken_75 : decode cX1_wordToken 75 = .ok (.invokevirtual 103, 3) := by decide +kernel
theorem dX1_wordToken_78 : decode cX1_wordToken 78 = .ok (.ifCond .eq 5, 3) := by decide +kernel
theorem dX1_wordToken_81 : decode cX1_wordToken 81 = .ok (.iconst (-1), 1) := by decide +kernel
theorem dX1_wordToken_82 : decode cX1_wordToken 82 = .ok (.ireturn, 1) := by decide +kernel
theorem dX1_wordToken_83 : decode cX1_wordToken 83 = .ok (.aload_n 0, 1) := by decide +kernel
theorem dX1_wordToken_84 : decode cX1_wordToken 84 = .ok (.ldc 119, 2) := by decide +kernel
theorem dX1_wordToken_86 : decode cX1_wordToken 86 = .ok (.invokevirtual 103, 3) := by decide +kernel
theorem dX1_wordToken_89 : decode cX1_wordToken 89 = .ok (.ifCond .eq 6, 3) := by decide +kernel
theorem dX1_wordToken_92 : decode cX1_wordToken 92 = .ok (.bipush (-2), 2) := by decide +kernel
theorem dX1_wordToken_94 : decode cX1_wordToken 94 = .ok (.ireturn, 1) := by decide +kernel
theorem dX1_wordToken_95 : decode cX1_wordToken 95 = .ok (.aload_n 0, 1) := by decide +kernel
theorem dX1_wordToken_96 : decode cX1_wordToken 96 = .ok (.ldc 121, 2) := by decide +kernel
theorem dX1_wordToken_98 : decode cX1_wordToken 98 = .ok (.invokevirtual 103, 3) := by decide +kernel
theorem dX1_wordToken_101 : decode cX1_wordToken 101 = .ok (.ifCond .eq 6, 3) := by decide +kernel
theorem dX1_wordToken_104 : decode cX1_wordToken 104 = .ok (.bipush (-3), 2) := by decide +kernel
theorem dX1_wordToken_106 : decode cX1_wordToken 106 = .ok (.ireturn, 1) := by decide +kernel
theorem dX1_wordToken_107 : decode cX1_wordToken 107 = .ok (.aload_n 0, 1) := by decide +kernel
theorem dX1_wordToken_108 : decode cX1_wordToken 108 = .ok (.ldc 123, 2) := by decide +kernel
theorem dX1_wordToken_110 : decode cX1_wordToken 110 = .ok (.invokevirtual 103, 3) := by decide +kernel
theorem dX1_wordToken_113 : decode cX1_wordToken 113 = .ok (.ifCond .eq 6, 3) := by decide +kernel
theorem dX1_wordToken_116 : decode cX1_wordToken 116 = .ok (.bipush (-4), 2) := by decide +kernel
theorem dX1_wordToken_118 : decode cX1_wordToken 118 = .ok (.ireturn, 1) := by decide +kernel
theorem dX1_wordToken_119 : decode cX1_wordToken 119 = .ok (.aload_n 0, 1) := by decide +kernel
theorem dX1_wordToken_120 : decode cX1_wordToken 120 = .ok (.ldc 125, 2) := by decide +kernel
theorem dX1_wordToken_122 : decode cX1_wordToken 122 = .ok (.invokevirtual 103, 3) := by decide +kernel
theorem dX1_wordToken_125 : decode cX1_wordToken 125 = .ok (.ifCond .eq 6, 3) := by decide +kernel
theorem dX1_wordToken_128 : decode cX1_wordToken 128 = .ok (.bipush (-5), 2) := by decide +kernel
theorem dX1_wordToken_130 : decode cX1_wordToken 130 = .ok (.ireturn, 1) := by decide +kernel
theorem dX1_wordToken_131 : decode cX1_wordToken 131 = .ok (.aload_n 0, 1) := by decide +kernel
theorem dX1_wordToken_132 : decode cX1_wordToken 132 = .ok (.ldc 127, 2) := by decide +kernel
theorem dX1_wordToken_134 : decode cX1_wordToken 134 = .ok (.invokevirtual 103, 3) := by decide +kernel
theorem dX1_wordToken_137 : decode cX1_wordToken 137 = .ok (.ifCond .eq 8, 3) := by decide +kernel
theorem dX1_wordToken_140 : decode cX1_wordToken 140 = .ok (.bipush (-6), 2) := by decide +kernel
theorem dX1_wordToken_142 : decode cX1_wordToken 142 = .ok (.goto 4, 3) := by decide +kernel
theorem dX1_wordToken_145 : decode cX1_wordToken 145 = .ok (.iconst 1, 1) := by decide +kernel
theorem dX1_wordToken_146 : decode cX1_wordToken 146 = .ok (.ireturn, 1) := by decide +kernel
theorem dX1_spells_0 : decode cX1_spells 0 = .ok (.aload_n 0, 1) := by decide +kernel
theorem dX1_spells_1 : decode cX1_spells 1 = .ok (.getfield 34, 3) := by decide +kernel
theorem dX1_spells_4 : decode cX1_spells 4 = .ok (.aload_n 0, 1) := by decide +kernel
theorem dX1_spells_5 : decode cX1_spells 5 = .ok (.getfield 31, 3) := by decide +kernel
theorem dX1_spells_8 : decode cX1_spells 8 = .ok (.isub, 1) := by decide +kernel
theorem dX1_spells_9 : decode cX1_spells 9 = .ok (.aload_n 1, 1) := by decide +kernel
theorem dX1_spells_10 : decode cX1_spells 10 = .ok (.invokevirtual 129, 3) := by decide +kernel
theorem dX1_spells_13 : decode cX1_spells 13 = .ok (.if_icmp .eq 5, 3) := by decide +kernel
theorem dX1_spells_16 : decode cX1_spells 16 = .ok (.iconst 0, 1) := by decide +kernel
theorem dX1_spells_17 : decode cX1_spells 17 = .ok (.ireturn, 1) := by decide +kernel
theorem dX1_spells_18 : decode cX1_spells 18 = .ok (.iconst 0, 1) := by decide +kernel
theorem dX1_spells_19 : decode cX1_spells 19 = .ok (.istore_n 2, 1) := by decide +kernel
theorem dX1_spells_20 : decode cX1_spells 20 = .ok (.iload_n 2, 1) := by decide +kernel
theorem dX1_spells_21 : decode cX1_spells 21 = .ok (.aload_n 1, 1) := by decide +kernel
theorem dX1_spells_22 : decode cX1_spells 22 = .ok (.invokevirtual 129, 3) := by decide +kernel
theorem dX1_spells_25 : decode cX1_spells 25 = .ok (.if_icmp .ge 30, 3) := by decide +kernel
theorem dX1_spells_28 : decode cX1_spells 28 = .ok (.aload_n 0, 1) := by decide +kernel
theorem dX1_spells_29 : decode cX1_spells 29 = .ok (.getfield 9, 3) := by decide +kernel
theorem dX1_spells_32 : decode cX1_spells 32 = .ok (.aload_n 0, 1) := by decide +kernel
theorem dX1_spells_33 : decode cX1_spells 33 = .ok (.getfield 31, 3) := by decide +kernel
theorem dX1_spells_36 : decode cX1_spells 36 = .ok (.iload_n 2, 1) := by decide +kernel
theorem dX1_spells_37 : decode cX1_spells 37 = .ok (.iadd, 1) := by decide +kernel
theorem dX1_spells_38 : decode cX1_spells 38 = .ok (.iaload, 1) := by decide +kernel
theorem dX1_spells_39 : decode cX1_spells 39 = .ok (.aload_n 1, 1) := by decide +kernel
theorem dX1_spells_40 : decode cX1_spells 40 = .ok (.iload_n 2, 1) := by decide +kernel
theorem dX1_spells_41 : decode cX1_spells 41 = .ok (.invokevirtual 134, 3) := by decide +kernel
theorem dX1_spells_44 : decode cX1_spells 44 = .ok (.if_icmp .eq 5, 3) := by decide +kernel
theorem dX1_spells_47 : decode cX1_spells 47 = .ok (.iconst 0, 1) := by decide +kernel
theorem dX1_spells_48 : decode cX1_spells 48 = .ok (.ireturn, 1) := by decide +kernel
theorem dX1_spells_49 : decode cX1_spells 49 = .ok (.iinc 2 1, 3) := by decide +kernel
theorem dX1_spells_52 : decode cX1_spells 52 = .ok (.goto (-32), 3) := by decide +kernel
theorem dX1_spells_55 : decode cX1_spells 55 = .ok (.iconst 1, 1) := by decide +kernel
theorem dX1_spells_56 : decode cX1_spells 56 = .ok (.ireturn, 1) := by decide +kernel
theorem dX2_init_0 : decode cX2_init 0 = .ok (.aload_n 0, 1) := by decide +kernel
theorem dX2_init_1 : decode cX2_init 1 = .ok (.invokespecial 3, 3) := by decide +kernel
theorem dX2_init_4 : decode cX2_init 4 = .ok (.aload_n 0, 1) := by decide +kernel
theorem dX2_init_5 : decode cX2_init 5 = .ok (.sipush 160, 3) := by decide +kernel
theorem dX2_init_8 : decode cX2_init 8 = .ok (.newarray .int, 2) := by decide +kernel
theorem dX2_init_10 : decode cX2_init 10 = .ok (.putfield 9, 3) := by decide +kernel
theorem dX2_init_13 : decode cX2_init 13 = .ok (.aload_n 0, 1) := by decide +kernel
theorem dX2_init_14 : decode cX2_init 14 = .ok (.iconst 3, 1) := by decide +kernel
theorem dX2_init_15 : decode cX2_init 15 = .ok (.newarray .int, 2) := by decide +kernel
theorem dX2_init_17 : decode cX2_init 17 = .ok (.putfield 15, 3) := by decide +kernel
theorem dX2_init_20 : decode cX2_init 20 = .ok (.aload_n 0, 1) := by decide +kernel
theorem dX2_init_21 : decode cX2_init 21 = .ok (.iconst 0, 1) := by decide +kernel
theorem dX2_init_22 : decode cX2_init 22 = .ok (.putfield 18, 3) := by decide +kernel
theorem dX2_init_25 : decode cX2_init 25 = .ok (.return_, 1) := by decide +kernel
theorem dX2_append_0 : decode cX2_append 0 = .ok (.aload_n 0, 1) := by decide +kernel
theorem dX2_append_1 : decode cX2_append 1 = .ok (.getfield 18, 3) := by decide +kernel
theorem dX2_append_4 : decode cX2_append 4 = .ok (.sipush 160, 3) := by decide +kernel
theorem dX2_append_7 : decode cX2_append 7 = .ok (.if_icmp .ge 23, 3) := by decide +kernel
theorem dX2_append_10 : decode cX2_append 10 = .ok (.aload_n 0, 1) := by decide +kernel
theorem dX2_append_11 : decode cX2_append 11 = .ok (.getfield 9, 3) := by decide +kernel
theorem dX2_append_14 : decode cX2_append 14 = .ok (.aload_n 0, 1) := by decide +kernel
theorem dX2_append_15 : decode cX2_append 15 = .ok (.getfield 18, 3) := by decide +kernel
theorem dX2_append_18 : decode cX2_append 18 = .ok (.iload_n 1, 1) := by decide +kernel
theorem dX2_append_19 : decode cX2_append 19 = .ok (.iastore, 1) := by decide +kernel
theorem dX2_append_20 : decode cX2_append 20 = .ok (.aload_n 0, 1) := by decide +kernel
theorem dX2_append_21 : decode cX2_append 21 = .ok (.dup, 1) := by decide +kernel
theorem dX2_append_22 : decode cX2_append 22 = .ok (.getfield 18, 3) := by decide +kernel
theorem dX2_append_25 : decode cX2_append 25 = .ok (.iconst 1, 1) := by decide +kernel
theorem dX2_append_26 : decode cX2_append 26 = .ok (.iadd, 1) := by decide +kernel
theorem dX2_append_27 : decode cX2_append 27 = .ok (.putfield 18, 3) := by decide +kernel
theorem dX2_append_30 : decode cX2_append 30 = .ok (.return_, 1) := by decide +kernel
theorem dX2_endPart_0 : decode cX2_endPart 0 = .ok (.iload_n 1, 1) := by decide +kernel
theorem dX2_endPart_1 : decode cX2_endPart 1 = .ok (.iconst 0, 1) := by decide +kernel
theorem dX2_endPart_2 : decode cX2_endPart 2 = .ok (.iconst 2, 1) := by decide +kernel
theorem dX2_endPart_3 : decode cX2_endPart 3 = .ok (.invokestatic 22, 3) := by decide +kernel
theorem dX2_endPart_6 : decode cX2_endPart 6 = .ok (.ifCond .eq 13, 3) := by decide +kernel
theorem dX2_endPart_9 : decode cX2_endPart 9 = .ok (.aload_n 0, 1) := by decide +kernel
theorem dX2_endPart_10 : decode cX2_endPart 10 = .ok (.getfield 15, 3) := by decide +kernel
theorem dX2_endPart_13 : decode cX2_endPart 13 = .ok (.iload_n 1, 1) := by decide +kernel
theorem dX2_endPart_14 : decode cX2_endPart 14 = .ok (.aload_n 0, 1) := by decide +kernel
theorem dX2_endPart_15 : decode cX2_endPart 15 = .ok (.getfield 18, 3) := by decide +kernel
theorem dX2_endPart_18 : decode cX2_endPart 18 = .ok (.iastore, 1) := by decide +kernel
theorem dX2_endPart_19 : decode cX2_endPart 19 = .ok (.return_, 1) := by decide +kernel
theorem dX2_becomeLike_0 : decode cX2_becomeLike 0 = .ok (.aload_n 1, 1) := by decide +kernel
theorem dX2_becomeLike_1 : decode cX2_becomeLike 1 = .ok (.getfield 9, 3) := by decide +kernel
theorem dX2_becomeLike_4 : decode cX2_becomeLike 4 = .ok (.iconst 0, 1) := by decide +kernel
theorem dX2_becomeLike_5 : decode cX2_becomeLike 5 = .ok (.aload_n 0, 1) := by decide +kernel
theorem dX2_becomeLike_6 : decode cX2_becomeLike 6 = .ok (.getfield 9, 3) := by decide +kernel
theorem dX2_becomeLike_9 : decode cX2_becomeLike 9 = .ok (.iconst 0, 1) := by decide +kernel
theorem dX2_becomeLike_10 : decode cX2_becomeLike 10 = .ok (.sipush 160, 3) := by decide +kernel
theorem dX2_becomeLike_13 : decode cX2_becomeLike 13 = .ok (.invokestatic 26, 3) := by decide +kernel
theorem dX2_becomeLike_16 : decode cX2_becomeLike 16 = .ok (.aload_n 1, 1) := by decide +kernel
theorem dX2_becomeLike_17 : decode cX2_becomeLike 17 = .ok (.getfield 15, 3) := by decide +kernel
theorem dX2_becomeLike_20 : decode cX2_becomeLike 20 = .ok (.iconst 0, 1) := by decide +kernel
theorem dX2_becomeLike_21 : decode cX2_becomeLike 21 = .ok (.aload_n 0, 1) := by decide +kernel
theorem dX2_becomeLike_22 : decode cX2_becomeLike 22 = .ok (.getfield 15, 3) := by decide +kernel
theorem dX2_becomeLike_25 : decode cX2_becomeLike 25 = .ok (.iconst 0, 1) := by decide +kernel
theorem dX2_becomeLike_26 : decode cX2_becomeLike 26 = .ok (.iconst 3, 1) := by decide +kernel
theorem dX2_becomeLike_27 : decode cX2_becomeLike 27 = .ok (.invokestatic 26, 3) := by decide +kernel
theorem dX2_becomeLike_30 : decode cX2_becomeLike 30 = .ok (.aload_n 0, 1) := by decide +kernel
theorem dX2_becomeLike_31 : decode cX2_becomeLike 31 = .ok (.aload_n 1, 1) := by decide +kernel
theorem dX2_becomeLike_32 : decode cX2_becomeLike 32 = .ok (.getfield 18, 3) := by decide +kernel
theorem dX2_becomeLike_35 : decode cX2_becomeLike 35 = .ok (.putfield 18, 3) := by decide +kernel
theorem dX2_becomeLike_38 : decode cX2_becomeLike 38 = .ok (.return_, 1) := by decide +kernel
theorem dX2_value_0 : decode cX2_value 0 = .ok (.iload_n 1, 1) := by decide +kernel
theorem dX2_value_1 : decode cX2_value 1 = .ok (.iconst 0, 1) := by decide +kernel
theorem dX2_value_2 : decode cX2_value 2 = .ok (.iconst 2, 1) := by decide +kernel
theorem dX2_value_3 : decode cX2_value 3 = .ok (.invokestatic 22, 3) := by decide +kernel
theorem dX2_value_6 : decode cX2_value 6 = .ok (.ifCond .ne 5, 3) := by decide +kernel
theorem dX2_value_9 : decode cX2_value 9 = .ok (.iconst 0, 1) := by decide +kernel
theorem dX2_value_10 : decode cX2_value 10 = .ok (.ireturn, 1) := by decide +kernel
theorem dX2_value_11 : decode cX2_value 11 = .ok (.iconst 0, 1) := by decide +kernel
theorem dX2_value_12 : decode cX2_value 12 = .ok (.istore 4, 2) := by decide +kernel
theorem dX2_value_14 : decode cX2_value 14 = .ok (.iload_n 1, 1) := by decide +kernel
theorem dX2_value_15 : decode cX2_value 15 = .ok (.ifCond .ne 7, 3) := by decide +kernel
theorem dX2_value_18 : decode cX2_value 18 = .ok (.iconst 0, 1) := by decide +kernel
theorem dX2_value_19 : decode cX2_value 19 = .ok (.goto 11, 3) := by decide +kernel
theorem dX2_value_22 : decode cX2_value 22 = .ok (.aload_n 0, 1) := by decide +kernel
theorem dX2_value_23 : decode cX2_value 23 = .ok (.getfield 15, 3) := by decide +kernel
theorem dX2_value_26 : decode cX2_value 26 = .ok (.iload_n 1, 1) := by decide +kernel
theorem dX2_value_27 : decode cX2_value 27 = .ok (.iconst 1, 1) := by decide +kernel
theorem dX2_value_28 : decode cX2_value 28 = .ok (.isub, 1) := by decide +kernel
theorem dX2_value_29 : decode cX2_value 29 = .ok (.iaload, 1) := by decide +kernel
theorem dX2_value_30 : decode cX2_value 30 = .ok (.istore 5, 2) := by decide +kernel
theorem dX2_value_32 : decode cX2_value 32 = .ok (.iload 5, 2) := by decide +kernel
theorem dX2_value_34 : decode cX2_value 34 = .ok (.aload_n 0, 1) := by decide +kernel
theorem dX2_value_35 : decode cX2_value 35 = .ok (.getfield 15, 3) := by decide +kernel
theorem dX2_value_38 : decode cX2_value 38 = .ok (.iload_n 1, 1) := by decide +kernel
theorem dX2_value_39 : decode cX2_value 39 = .ok (.iaload, 1) := by decide +kernel
theorem dX2_value_40 : decode cX2_value 40 = .ok (.if_icmp .ge 137, 3) := by decide +kernel
theorem dX2_value_43 : decode cX2_value 43 = .ok (.aload_n 0, 1) := by decide +kernel
theorem dX2_value_44 : decode cX2_value 44 = .ok (.getfield 9, 3) := by decide +kernel
theorem dX2_value_47 : decode cX2_value 47 = .ok (.iload 5, 2) := by decide +kernel
theorem dX2_value_49 : decode cX2_value 49 = .ok (.iaload, 1) := by decide +kernel
theorem dX2_value_50 : decode cX2_value 50 = .ok (.istore 6, 2) := by decide +kernel
theorem dX2_value_52 : decode cX2_value 52 = .ok (.iload 6, 2) := by decide +kernel
theorem dX2_value_54 : decode cX2_value 54 = .ok (.ifCond .ge 11, 3) := by decide +kernel
theorem dX2_value_57 : decode cX2_value 57 = .ok (.iload 6, 2) := by decide +kernel
theorem dX2_value_59 : decode cX2_value 59 = .ok (.invokestatic 32, 3) := by decide +kernel
theorem dX2_value_62 : decode cX2_value 62 = .ok (.ifCond .eq 37, 3) := by decide +kernel
theorem dX2_value_65 : decode cX2_value 65 = .ok (.iload 4, 2) := by decide +kernel
theorem dX2_value_67 : decode cX2_value 67 = .ok (.aload_n 3, 1) := by decide +kernel
theorem dX2_value_68 : decode cX2_value 68 = .ok (.arraylength, 1) := by decide +kernel
theorem dX2_value_69 : decode cX2_value 69 = .ok (.if_icmp .ge 102, 3) := by decide +kernel
theorem dX2_value_72 : decode cX2_value 72 = .ok (.aload_n 3, 1) := by decide +kernel
theorem dX2_value_73 : decode cX2_value 73 = .ok (.iload 4, 2) := by decide +kernel
theorem dX2_value_75 : decode cX2_value 75 = .ok (.iload 6, 2) := by decide +kernel
theorem dX2_value_77 : decode cX2_value 77 = .ok (.ifCond .lt 8, 3) := by decide +kernel
theorem dX2_value_80 : decode cX2_value 80 = .ok (.iload 6, 2) := by decide +kernel
theorem dX2_value_82 : decode cX2_value 82 = .ok (.goto 10, 3) := by decide +kernel
theorem dX2_value_85 : decode cX2_value 85 = .ok (.aload_n 2, 1) := by decide +kernel
theorem dX2_value_86 : decode cX2_value 86 = .ok (.iload 6, 2) := by decide +kernel
theorem dX2_value_88 : decode cX2_value 88 = .ok (.invokestatic 38, 3) := by decide +kernel
theorem dX2_value_91 : decode cX2_value 91 = .ok (.iaload, 1) := by decide +kernel
theorem dX2_value_92 : decode cX2_value 92 = .ok (.iastore, 1) := by decide +kernel
theorem dX2_value_93 : decode cX2_value 93 = .ok (.iinc 4 1, 3) := by decide +kernel
theorem dX2_value_96 : decode cX2_value 96 = .ok (.goto 75, 3) := by decide +kernel
theorem dX2_value_99 : decode cX2_value 99 = .ok (.iload 6, 2) := by decide +kernel
theorem dX2_value_101 : decode cX2_value 101 = .ok (.bipush (-9), 2) := by decide +kernel
theorem dX2_value_103 : decode cX2_value 103 = .ok (.if_icmp .eq 10, 3) := by decide +kernel
theorem dX2_value_106 : decode cX2_value 106 = .ok (.iload 6, 2) := by decide +kernel
theorem dX2_value_108 : decode cX2_value 108 = .ok (.bipush (-15), 2) := by decide +kernel
theorem dX2_value_110 : decode cX2_value 110 = .ok (.if_icmp .ne 29, 3) := by decide +kernel
theorem dX2_value_113 : decode cX2_value 113 = .ok (.iload 4, 2) := by decide +kernel
theorem dX2_value_115 : decode cX2_value 115 = .ok (.iconst 1, 1) := by decide +kernel
theorem dX2_value_116 : decode cX2_value 116 = .ok (.if_icmp .lt 55, 3) := by decide +kernel
theorem dX2_value_119 : decode cX2_value 119 = .ok (.aload_n 3, 1) := by decide +kernel
theorem dX2_value_120 : decode cX2_value 120 = .ok (.iload 4, 2) := by decide +kernel
theorem dX2_value_122 : decode cX2_value 122 = .ok (.iconst 1, 1) := by decide +kernel
theorem dX2_value_123 : decode cX2_value 123 = .ok (.isub, 1) := by decide +kernel
theorem dX2_value_124 : decode cX2_value 124 = .ok (.iload 6, 2) := by decide +kernel
theorem dX2_value_126 : decode cX2_value 126 = .ok (.aload_n 3, 1) := by decide +kernel
theorem dX2_value_127 : decode cX2_value 127 = .ok (.iload 4, 2) := by decide +kernel
theorem dX2_value_129 : decode cX2_value 129 = .ok (.iconst 1, 1) := by decide +kernel
theorem dX2_value_130 : decode cX2_value 130 = .ok (.isub, 1) := by decide +kernel
theorem dX2_value_131 : decode cX2_value 131 = .ok (.iaload, 1) := by decide +kernel
theorem dX2_value_132 : decode cX2_value 132 = .ok (.invokestatic 42, 3) := by decide +kernel
theorem dX2_value_135 : decode cX2_value 135 = .ok (.iastore, 1) := by decide +kernel
theorem dX2_value_136 : decode cX2_value 136 = .ok (.goto 35, 3) := by decide +kernel
theorem dX2_value_139 : decode cX2_value 139 = .ok (.iload 4, 2) := by decide +kernel
theorem dX2_value_141 : decode cX2_value 141 = .ok (.iconst 2, 1) := by decide +kernel
theorem dX2_value_142 : decode cX2_value 142 = .ok (.if_icmp .lt 29, 3) := by decide +kernel
theorem dX2_value_145 : decode cX2_value 145 = .ok (.aload_n 3, 1) := by decide +kernel
theorem dX2_value_146 : decode cX2_value 146 = .ok (.iload 4, 2) := by decide +kernel
theorem dX2_value_148 : decode cX2_value 148 = .ok (.iconst 2, 1) := by decide +kernel
theorem dX2_value_149 : decode cX2_value 149 = .ok (.isub, 1) := by decide +kernel
theorem dX2_value_150 : decode cX2_value 150 = .ok (.iload 6, 2) := by decide +kernel
theorem dX2_value_152 : decode cX2_value 152 = .ok (.aload_n 3, 1) := by decide +kernel
theorem dX2_value_153 : decode cX2_value 153 = .ok (.iload 4, 2) := by decide +kernel
theorem dX2_value_155 : decode cX2_value 155 = .ok (.iconst 2, 1) := by decide +kernel
theorem dX2_value_156 : decode cX2_value 156 = .ok (.isub, 1) := by decide +kernel
theorem dX2_value_157 : decode cX2_value 157 = .ok (.iaload, 1) := by decide +kernel
theorem dX2_value_158 : decode cX2_value 158 = .ok (.aload_n 3, 1) := by decide +kernel
theorem dX2_value_159 : decode cX2_value 159 = .ok (.iload 4, 2) := by decide +kernel
theorem dX2_value_161 : decode cX2_value 161 = .ok (.iconst 1, 1) := by decide +kernel
theorem dX2_value_162 : decode cX2_value 162 = .ok (.isub, 1) := by decide +kernel
theorem dX2_value_163 : decode cX2_value 163 = .ok (.iaload, 1) := by decide +kernel
theorem dX2_value_164 : decode cX2_value 164 = .ok (.invokestatic 46, 3) := by decide +kernel
theorem dX2_value_167 : decode cX2_value 167 = .ok (.iastore, 1) := by decide +kernel
theorem dX2_value_168 : decode cX2_value 168 = .ok (.iinc 4 (-1), 3) := by decide +kernel
theorem dX2_value_171 : decode cX2_value 171 = .ok (.iinc 5 1, 3) := by decide +kernel
theorem dX2_value_174 : decode cX2_value 174 = .ok (.goto (-142), 3) := by decide +kernel
theorem dX2_value_177 : decode cX2_value 177 = .ok (.iload 4, 2) := by decide +kernel
theorem dX2_value_179 : decode cX2_value 179 = .ok (.iconst 1, 1) := by decide +kernel
theorem dX2_value_180 : decode cX2_value 180 = .ok (.if_icmp .lt 9, 3) := by decide +kernel
theorem dX2_value_183 : decode cX2_value 183 = .ok (.aload_n 3, 1) := by decide +kernel
theorem dX2_value_184 : decode cX2_value 184 = .ok (.iconst 0, 1) := by decide +kernel
theorem dX2_value_185 : decode cX2_value 185 = .ok (.iaload, 1) := by decide +kernel
theorem dX2_value_186 : decode cX2_value 186 = .ok (.goto 4, 3) := by decide +kernel
theorem dX2_value_189 : decode cX2_value 189 = .ok (.iconst 0, 1) := by decide +kernel
theorem dX2_value_190 : decode cX2_value 190 = .ok (.ireturn, 1) := by decide +kernel
theorem dX2_turnedRound_0 : decode cX2_turnedRound 0 = .ok (.iload_n 0, 1) := by decide +kernel
theorem dX2_turnedRound_1 : decode cX2_turnedRound 1 = .ok (.bipush (-15), 2) := by decide +kernel
theorem dX2_turnedRound_3 : decode cX2_turnedRound 3 = .ok (.if_icmp .ne 6, 3) := by decide +kernel
theorem dX2_turnedRound_6 : decode cX2_turnedRound 6 = .ok (.iload_n 1, 1) := by decide +kernel
theorem dX2_turnedRound_7 : decode cX2_turnedRound 7 = .ok (.ineg, 1) := by decide +kernel
theorem dX2_turnedRound_8 : decode cX2_turnedRound 8 = .ok (.ireturn, 1) := by decide +kernel
theorem dX2_turnedRound_9 : decode cX2_turnedRound 9 = .ok (.iload_n 1, 1) := by decide +kernel
theorem dX2_turnedRound_10 : decode cX2_turnedRound 10 = .ok (.ifCond .ne 7, 3) := by decide +kernel
theorem dX2_turnedRound_13 : decode cX2_turnedRound 13 = .ok (.iconst 1, 1) := by decide +kernel
theorem dX2_turnedRound_14 : decode cX2_turnedRound 14 = .ok (.goto 4, 3) := by decide +kernel
theorem dX2_turnedRound_17 : decode cX2_turnedRound 17 = .ok (.iconst 0, 1) := by decide +kernel
theorem dX2_turnedRound_18 : decode cX2_turnedRound 18 = .ok (.ireturn, 1) := by decide +kernel
theorem dX2_joined_0 : decode cX2_joined 0 = .ok (.iload_n 0, 1) := by decide +kernel
theorem dX2_joined_1 : decode cX2_joined 1 = .ok (.tableswitch 101 (-13) (-7) #[97, 93, 82, 71, 101, 57, 43], 43) := by decide +kernel
theorem dX2_joined_44 : decode cX2_joined 44 = .ok (.iload_n 1, 1) := by decide +kernel
theorem dX2_joined_45 : decode cX2_joined 45 = .ok (.ifCond .ne 7, 3) := by decide +kernel
theorem dX2_joined_48 : decode cX2_joined 48 = .ok (.iload_n 2, 1) := by decide +kernel
theorem dX2_joined_49 : decode cX2_joined 49 = .ok (.ifCond .eq 7, 3) := by decide +kernel
theorem dX2_joined_52 : decode cX2_joined 52 = .ok (.iconst 1, 1) := by decide +kernel
theorem dX2_joined_53 : decode cX2_joined 53 = .ok (.goto 4, 3) := by decide +kernel
theorem dX2_joined_56 : decode cX2_joined 56 = .ok (.iconst 0, 1) := by decide +kernel
theorem dX2_joined_57 : decode cX2_joined 57 = .ok (.ireturn, 1) := by decide +kernel
theorem dX2_joined_58 : decode cX2_joined 58 = .ok (.iload_n 1, 1) := by decide +kernel
theorem dX2_joined_59 : decode cX2_joined 59 = .ok (.ifCond .eq 11, 3) := by decide +kernel
theorem dX2_joined_62 : decode cX2_joined 62 = .ok (.iload_n 2, 1) := by decide +kernel
theorem dX2_joined_63 : decode cX2_joined 63 = .ok (.ifCond .eq 7, 3) := by decide +kernel
theorem dX2_joined_66 : decode cX2_joined 66 = .ok (.iconst 1, 1) := by decide +kernel
theorem dX2_joined_67 : decode cX2_joined 67 = .ok (.goto 4, 3) := by decide +kernel
theorem dX2_joined_70 : decode cX2_joined 70 = .ok (.iconst 0, 1) := by decide +kernel
theorem dX2_joined_71 : decode cX2_joined 71 = .ok (.ireturn, 1) := by decide +kernel
theorem dX2_joined_72 : decode cX2_joined 72 = .ok (.iload_n 1, 1) := by decide +kernel
theorem dX2_joined_73 : decode cX2_joined 73 = .ok (.iload_n 2, 1) := by decide +kernel
theorem dX2_joined_74 : decode cX2_joined 74 = .ok (.if_icmp .ge 7, 3) := by decide +kernel
theorem dX2_joined_77 : decode cX2_joined 77 = .ok (.iconst 1, 1) := by decide +kernel
theorem dX2_joined_78 : decode cX2_joined 78 = .ok (.goto 4, 3) := by decide +kernel
theorem dX2_joined_81 : decode cX2_joined 81 = .ok (.iconst 0, 1) := by decide +kernel
theorem dX2_joined_82 : decode cX2_joined 82 = .ok (.ireturn, 1) := by decide +kernel
theorem dX2_joined_83 : decode cX2_joined 83 = .ok (.iload_n 1, 1) := by decide +kernel
theorem dX2_joined_84 : decode cX2_joined 84 = .ok (.iload_n 2, 1) := by decide +kernel
theorem dX2_joined_85 : decode cX2_joined 85 = .ok (.if_icmp .ne 7, 3) := by decide +kernel
theorem dX2_joined_88 : decode cX2_joined 88 = .ok (.iconst 1, 1) := by decide +kernel
theorem dX2_joined_89 : decode cX2_joined 89 = .ok (.goto 4, 3) := by decide +kernel
theorem dX2_joined_92 : decode cX2_joined 92 = .ok (.iconst 0, 1) := by decide +kernel
theorem dX2_joined_93 : decode cX2_joined 93 = .ok (.ireturn, 1) := by decide +kernel
theorem dX2_joined_94 : decode cX2_joined 94 = .ok (.iload_n 1, 1) := by decide +kernel
theorem dX2_joined_95 : decode cX2_joined 95 = .ok (.iload_n 2, 1) := by decide +kernel
theorem dX2_joined_96 : decode cX2_joined 96 = .ok (.iadd, 1) := by decide +kernel
theorem dX2_joined_97 : decode cX2_joined 97 = .ok (.ireturn, 1) := by decide +kernel
theorem dX2_joined_98 : decode cX2_joined 98 = .ok (.iload_n 1, 1) := by decide +kernel
theorem dX2_joined_99 : decode cX2_joined 99 = .ok (.iload_n 2, 1) := by decide +kernel
theorem dX2_joined_100 : decode cX2_joined 100 = .ok (.isub, 1) := by decide +kernel
theorem dX2_joined_101 : decode cX2_joined 101 = .ok (.ireturn, 1) := by decide +kernel
theorem dX2_joined_102 : decode cX2_joined 102 = .ok (.iload_n 1, 1) := by decide +kernel
theorem dX2_joined_103 : decode cX2_joined 103 = .ok (.iload_n 2, 1) := by decide +kernel
theorem dX2_joined_104 : decode cX2_joined 104 = .ok (.imul, 1) := by decide +kernel
theorem dX2_joined_105 : decode cX2_joined 105 = .ok (.ireturn, 1) := by decide +kernel
theorem dX3_init_0 : decode cX3_init 0 = .ok (.aload_n 0, 1) := by decide +kernel
theorem dX3_init_1 : decode cX3_init 1 = .ok (.invokespecial 3, 3) := by decide +kernel
theorem dX3_init_4 : decode cX3_init 4 = .ok (.aload_n 0, 1) := by decide +kernel
theorem dX3_init_5 : decode cX3_init 5 = .ok (.iconst (-1), 1) := by decide +kernel
theorem dX3_init_6 : decode cX3_init 6 = .ok (.putfield 9, 3) := by decide +kernel
theorem dX3_init_9 : decode cX3_init 9 = .ok (.aload_n 0, 1) := by decide +kernel
theorem dX3_init_10 : decode cX3_init 10 = .ok (.iconst 0, 1) := by decide +kernel
theorem dX3_init_11 : decode cX3_init 11 = .ok (.putfield 15, 3) := by decide +kernel
theorem dX3_init_14 : decode cX3_init 14 = .ok (.aload_n 0, 1) := by decide +kernel
theorem dX3_init_15 : decode cX3_init 15 = .ok (.bipush 40, 2) := by decide +kernel
theorem dX3_init_17 : decode cX3_init 17 = .ok (.newarray .int, 2) := by decide +kernel
theorem dX3_init_19 : decode cX3_init 19 = .ok (.putfield 18, 3) := by decide +kernel
theorem dX3_init_22 : decode cX3_init 22 = .ok (.return_, 1) := by decide +kernel
theorem dX3_isMissing_0 : decode cX3_isMissing 0 = .ok (.aload_n 0, 1) := by decide +kernel
theorem dX3_isMissing_1 : decode cX3_isMissing 1 = .ok (.getfield 9, 3) := by decide +kernel
theorem dX3_isMissing_4 : decode cX3_isMissing 4 = .ok (.iconst (-1), 1) := by decide +kernel
theorem dX3_isMissing_5 : decode cX3_isMissing 5 = .ok (.if_icmp .ne 7, 3) := by decide +kernel
theorem dX3_isMissing_8 : decode cX3_isMissing 8 = .ok (.iconst 1, 1) := by decide +kernel
theorem dX3_isMissing_9 : decode cX3_isMissing 9 = .ok (.goto 4, 3) := by decide +kernel
theorem dX3_isMissing_12 : decode cX3_isMissing 12 = .ok (.iconst 0, 1) := by decide +kernel
theorem dX3_isMissing_13 : decode cX3_isMissing 13 = .ok (.ireturn, 1) := by decide +kernel
theorem dX3_vanish_0 : decode cX3_vanish 0 = .ok (.aload_n 0, 1) := by decide +kernel
theorem dX3_vanish_1 : decode cX3_vanish 1 = .ok (.iconst (-1), 1) := by decide +kernel
theorem dX3_vanish_2 : decode cX3_vanish 2 = .ok (.putfield 9, 3) := by decide +kernel
theorem dX3_vanish_5 : decode cX3_vanish 5 = .ok (.aload_n 0, 1) := by decide +kernel
theorem dX3_vanish_6 : decode cX3_vanish 6 = .ok (.iconst 0, 1) := by decide +kernel
theorem dX3_vanish_7 : decode cX3_vanish 7 = .ok (.putfield 15, 3) := by decide +kernel
theorem dX3_vanish_10 : decode cX3_vanish 10 = .ok (.return_, 1) := by decide +kernel
theorem dX3_become_0 : decode cX3_become 0 = .ok (.aload_n 0, 1) := by decide +kernel
theorem dX3_become_1 : decode cX3_become 1 = .ok (.iload_n 1, 1) := by decide +kernel
theorem dX3_become_2 : decode cX3_become 2 = .ok (.putfield 9, 3) := by decide +kernel
theorem dX3_become_5 : decode cX3_become 5 = .ok (.aload_n 0, 1) := by decide +kernel
theorem dX3_become_6 : decode cX3_become 6 = .ok (.iload_n 2, 1) := by decide +kernel
theorem dX3_become_7 : decode cX3_become 7 = .ok (.iconst 0, 1) := by decide +kernel
theorem dX3_become_8 : decode cX3_become 8 = .ok (.bipush 40, 2) := by decide +kernel
theorem dX3_become_10 : decode cX3_become 10 = .ok (.invokestatic 22, 3) := by decide +kernel
theorem dX3_become_13 : decode cX3_become 13 = .ok (.putfield 15, 3) := by decide +kernel
theorem dX3_become_16 : decode cX3_become 16 = .ok (.iconst 0, 1) := by decide +kernel
theorem dX3_become_17 : decode cX3_become 17 = .ok (.istore_n 3, 1) := by decide +kernel
theorem dX3_become_18 : decode cX3_become 18 = .ok (.iload_n 3, 1) := by decide +kernel
theorem dX3_become_19 : decode cX3_become 19 = .ok (.bipush 40, 2) := by decide +kernel
theorem dX3_become_21 : decode cX3_become 21 = .ok (.if_icmp .ge 16, 3) := by decide +kernel
theorem dX3_become_24 : decode cX3_become 24 = .ok (.aload_n 0, 1) := by decide +kernel
theorem dX3_become_25 : decode cX3_become 25 = .ok (.getfield 18, 3) := by decide +kernel
theorem dX3_become_28 : decode cX3_become 28 = .ok (.iload_n 3, 1) := by decide +kernel
theorem dX3_become_29 : decode cX3_become 29 = .ok (.iconst 0, 1) := by decide +kernel
theorem dX3_become_30 : decode cX3_become 30 = .ok (.iastore, 1) := by decide +kernel
theorem dX3_become_31 : decode cX3_become 31 = .ok (.iinc 3 1, 3) := by decide +kernel
theorem dX3_become_34 : decode cX3_become 34 = .ok (.goto (-16), 3) := by decide +kernel
theorem dX3_become_37 : decode cX3_become 37 = .ok (.return_, 1) := by decide +kernel
theorem dX3_hasItem_0 : decode cX3_hasItem 0 = .ok (.iload_n 1, 1) := by decide +kernel
theorem dX3_hasItem_1 : decode cX3_hasItem 1 = .ok (.ifCond .lt 15, 3) := by decide +kernel
theorem dX3_hasItem_4 : decode cX3_hasItem 4 = .ok (.iload_n 1, 1) := by decide +kernel
theorem dX3_hasItem_5 : decode cX3_hasItem 5 = .ok (.aload_n 0, 1) := by decide +kernel
theorem dX3_hasItem_6 : decode cX3_hasItem 6 = .ok (.getfield 15, 3) := by decide +kernel
theorem dX3_hasItem_9 : decode cX3_hasItem 9 = .ok (.if_icmp .ge 7, 3) := by decide +kernel
theorem dX3_hasItem_12 : decode cX3_hasItem 12 = .ok (.iconst 1, 1) := by decide +kernel
theorem dX3_hasItem_13 : decode cX3_hasItem 13 = .ok (.goto 4, 3) := by decide +kernel
theorem dX3_hasItem_16 : decode cX3_hasItem 16 = .ok (.iconst 0, 1) := by decide +kernel
theorem dX3_hasItem_17 : decode cX3_hasItem 17 = .ok (.ireturn, 1) := by decide +kernel
theorem dX3_hasItems_0 : decode cX3_hasItems 0 = .ok (.iload_n 1, 1) := by decide +kernel
theorem dX3_hasItems_1 : decode cX3_hasItems 1 = .ok (.ifCond .lt 21, 3) := by decide +kernel
theorem dX3_hasItems_4 : decode cX3_hasItems 4 = .ok (.iload_n 2, 1) := by decide +kernel
theorem dX3_hasItems_5 : decode cX3_hasItems 5 = .ok (.ifCond .lt 17, 3) := by decide +kernel
theorem dX3_hasItems_8 : decode cX3_hasItems 8 = .ok (.iload_n 1, 1) := by decide +kernel
theorem dX3_hasItems_9 : decode cX3_hasItems 9 = .ok (.aload_n 0, 1) := by decide +kernel
theorem dX3_hasItems_10 : decode cX3_hasItems 10 = .ok (.getfield 15, 3) := by decide +kernel
theorem dX3_hasItems_13 : decode cX3_hasItems 13 = .ok (.iload_n 2, 1) := by decide +kernel
theorem dX3_hasItems_14 : decode cX3_hasItems 14 = .ok (.isub, 1) := by decide +kernel
theorem dX3_hasItems_15 : decode cX3_hasItems 15 = .ok (.if_icmp .gt 7, 3) := by decide +kernel
theorem dX3_hasItems_18 : decode cX3_hasItems 18 = .ok (.iconst 1, 1) := by decide +kernel
theorem dX3_hasItems_19 : decode cX3_hasItems 19 = .ok (.goto 4, 3) := by decide +kernel
theorem dX3_hasItems_22 : decode cX3_hasItems 22 = .ok (.iconst 0, 1) := by decide +kernel
theorem dX3_hasItems_23 : decode cX3_hasItems 23 = .ok (.ireturn, 1) := by decide +kernel
theorem dX3_put_0 : decode cX3_put 0 = .ok (.aload_n 0, 1) := by decide +kernel
theorem dX3_put_1 : decode cX3_put 1 = .ok (.iload_n 1, 1) := by decide +kernel
theorem dX3_put_2 : decode cX3_put 2 = .ok (.invokevirtual 26, 3) := by decide +kernel
theorem dX3_put_5 : decode cX3_put 5 = .ok (.ifCond .ne 4, 3) := by decide +kernel
theorem dX3_put_8 : decode cX3_put 8 = .ok (.return_, 1) := by decide +kernel
theorem dX3_put_9 : decode cX3_put 9 = .ok (.aload_n 0, 1) := by decide +kernel
theorem dX3_put_10 : decode cX3_put 10 = .ok (.getfield 9, 3) := by decide +kernel
theorem dX3_put_13 : decode cX3_put 13 = .ok (.ifCond .ne 14, 3) := by decide +kernel
theorem dX3_put_16 : decode cX3_put 16 = .ok (.aload_n 0, 1) := by decide +kernel
theorem dX3_put_17 : decode cX3_put 17 = .ok (.getfield 18, 3) := by decide +kernel
theorem dX3_put_20 : decode cX3_put 20 = .ok (.iload_n 1, 1) := by decide +kernel
theorem dX3_put_21 : decode cX3_put 21 = .ok (.iload_n 2, 1) := by decide +kernel
theorem dX3_put_22 : decode cX3_put 22 = .ok (.i2b, 1) := by decide +kernel
theorem dX3_put_23 : decode cX3_put 23 = .ok (.iastore, 1) := by decide +kernel
theorem dX3_put_24 : decode cX3_put 24 = .ok (.goto 29, 3) := by decide +kernel
theorem dX3_put_27 : decode cX3_put 27 = .ok (.aload_n 0, 1) := by decide +kernel
theorem dX3_put_28 : decode cX3_put 28 = .ok (.getfield 9, 3) := by decide +kernel
theorem dX3_put_31 : decode cX3_put 31 = .ok (.iconst 1, 1) := by decide +kernel
theorem dX3_put_32 : decode cX3_put 32 = .ok (.if_icmp .ne 14, 3) := by decide +kernel
theorem dX3_put_35 : decode cX3_put 35 = .ok (.aload_n 0, 1) := by decide +kernel
theorem dX3_put_36 : decode cX3_put 36 = .ok (.getfield 18, 3) := by decide +kernel
theorem dX3_put_39 : decode cX3_put 39 = .ok (.iload_n 1, 1) := by decide +kernel
theorem dX3_put_40 : decode cX3_put 40 = .ok (.iload_n 2, 1) := by decide +kernel
theorem dX3_put_41 : decode cX3_put 41 = .ok (.i2s, 1) := by decide +kernel
theorem dX3_put_42 : decode cX3_put 42 = .ok (.iastore, 1) := by decide +kernel
theorem dX3_put_43 : decode cX3_put 43 = .ok (.goto 10, 3) := by decide +kernel
theorem dX3_put_46 : decode cX3_put 46 = .ok (.aload_n 0, 1) := by decide +kernel
theorem dX3_put_47 : decode cX3_put 47 = .ok (.getfield 18, 3) := by decide +kernel
theorem dX3_put_50 : decode cX3_put 50 = .ok (.iload_n 1, 1) := by decide +kernel
theorem dX3_put_51 : decode cX3_put 51 = .ok (.iload_n 2, 1) := by decide +kernel
theorem dX3_put_52 : decode cX3_put 52 = .ok (.iastore, 1) := by decide +kernel
theorem dX3_put_53 : decode cX3_put 53 = .ok (.return_, 1) := by decide +kernel
theorem dX4_init_0 : decode cX4_init 0 = .ok (.aload_n 0, 1) := by decide +kernel
theorem dX4_init_1 : decode cX4_init 1 = .ok (.invokespecial 3, 3) := by decide +kernel
theorem dX4_init_4 : decode cX4_init 4 = .ok (.aload_n 0, 1) := by decide +kernel
theorem dX4_init_5 : decode cX4_init 5 = .ok (.iconst 4, 1) := by decide +kernel
theorem dX4_init_6 : decode cX4_init 6 = .ok (.newarray .int, 2) := by decide +kernel
theorem dX4_init_8 : decode cX4_init 8 = .ok (.putfield 9, 3) := by decide +kernel
theorem dX4_init_11 : decode cX4_init 11 = .ok (.aload_n 0, 1) := by decide +kernel
theorem dX4_init_12 : decode cX4_init 12 = .ok (.bipush 6, 2) := by decide +kernel
theorem dX4_init_14 : decode cX4_init 14 = .ok (.newarray .int, 2) := by decide +kernel
theorem dX4_init_16 : decode cX4_init 16 = .ok (.putfield 17, 3) := by decide +kernel
theorem dX4_init_19 : decode cX4_init 19 = .ok (.aload_n 0, 1) := by decide +kernel
theorem dX4_init_20 : decode cX4_init 20 = .ok (.sipush 160, 3) := by decide +kernel
theorem dX4_init_23 : decode cX4_init 23 = .ok (.newarray .int, 2) := by decide +kernel
theorem dX4_init_25 : decode cX4_init 25 = .ok (.putfield 20, 3) := by decide +kernel
theorem dX4_init_28 : decode cX4_init 28 = .ok (.aload_n 0, 1) := by decide +kernel
theorem dX4_init_29 : decode cX4_init 29 = .ok (.iconst 0, 1) := by decide +kernel
theorem dX4_init_30 : decode cX4_init 30 = .ok (.putfield 23, 3) := by decide +kernel
theorem dX4_init_33 : decode cX4_init 33 = .ok (.aload_n 0, 1) := by decide +kernel
theorem dX4_init_34 : decode cX4_init 34 = .ok (.iconst 0, 1) := by decide +kernel
theorem dX4_init_35 : decode cX4_init 35 = .ok (.putfield 27, 3) := by decide +kernel
theorem dX4_init_38 : decode cX4_init 38 = .ok (.aload_n 0, 1) := by decide +kernel
theorem dX4_init_39 : decode cX4_init 39 = .ok (.iconst 0, 1) := by decide +kernel
theorem dX4_init_40 : decode cX4_init 40 = .ok (.putfield 30, 3) := by decide +kernel
theorem dX4_init_43 : decode cX4_init 43 = .ok (.aload_n 0, 1) := by decide +kernel
theorem dX4_init_44 : decode cX4_init 44 = .ok (.iconst 0, 1) := by decide +kernel
theorem dX4_init_45 : decode cX4_init 45 = .ok (.putfield 33, 3) := by decide +kernel
theorem dX4_init_48 : decode cX4_init 48 = .ok (.return_, 1) := by decide +kernel
theorem dX4_measure_0 : decode cX4_measure 0 = .ok (.iconst 0, 1) := by decide +kernel
theorem dX4_measure_1 : decode cX4_measure 1 = .ok (.istore 5, 2) := by decide +kernel
theorem dX4_measure_3 : decode cX4_measure 3 = .ok (.iload 5, 2) := by decide +kernel
theorem dX4_measure_5 : decode cX4_measure 5 = .ok (.iconst 4, 1) := by decide +kernel
theorem dX4_measure_6 : decode cX4_measure 6 = .ok (.if_icmp .ge 25, 3) := by decide +kernel
theorem dX4_measure_9 : decode cX4_measure 9 = .ok (.aload_n 0, 1) := by decide +kernel
theorem dX4_measure_10 : decode cX4_measure 10 = .ok (.getfield 9, 3) := by decide +kernel
theorem dX4_measure_13 : decode cX4_measure 13 = .ok (.iload 5, 2) := by decide +kernel
theorem dX4_measure_15 : decode cX4_measure 15 = .ok (.aload_n 1, 1) := by decide +kernel
theorem dX4_measure_16 : decode cX4_measure 16 = .ok (.iload 5, 2) := by decide +kernel
theorem dX4_measure_18 : decode cX4_measure 18 = .ok (.iload_n 3, 1) := by decide +kernel
theorem dX4_measure_19 : decode cX4_measure 19 = .ok (.iload 4, 2) := by decide +kernel
theorem dX4_measure_21 : decode cX4_measure 21 = .ok (.invokevirtual 36, 3) := by decide +kernel
theorem dX4_measure_24 : decode cX4_measure 24 = .ok (.iastore, 1) := by decide +kernel
theorem dX4_measure_25 : decode cX4_measure 25 = .ok (.iinc 5 1, 3) := by decide +kernel
theorem dX4_measure_28 : decode cX4_measure 28 = .ok (.goto (-25), 3) := by decide +kernel
theorem dX4_measure_31 : decode cX4_measure 31 = .ok (.aload_n 0, 1) := by decide +kernel
theorem dX4_measure_32 : decode cX4_measure 32 = .ok (.aload_n 0, 1) := by decide +kernel
theorem dX4_measure_33 : decode cX4_measure 33 = .ok (.getfield 9, 3) := by decide +kernel
theorem dX4_measure_36 : decode cX4_measure 36 = .ok (.iconst 0, 1) := by decide +kernel
theorem dX4_measure_37 : decode cX4_measure 37 = .ok (.iaload, 1) := by decide +kernel
theorem dX4_measure_38 : decode cX4_measure 38 = .ok (.aload_n 0, 1) := by decide +kernel
theorem dX4_measure_39 : decode cX4_measure 39 = .ok (.getfield 9, 3) := by decide +kernel
theorem dX4_measure_42 : decode cX4_measure 42 = .ok (.iconst 2, 1) := by decide +kernel
theorem dX4_measure_43 : decode cX4_measure 43 = .ok (.iaload, 1) := by decide +kernel
theorem dX4_measure_44 : decode cX4_measure 44 = .ok (.iadd, 1) := by decide +kernel
theorem dX4_measure_45 : decode cX4_measure 45 = .ok (.aload_n 0, 1) := by decide +kernel
theorem dX4_measure_46 : decode cX4_measure 46 = .ok (.getfield 9, 3) := by decide +kernel
theorem dX4_measure_49 : decode cX4_measure 49 = .ok (.iconst 1, 1) := by decide +kernel
theorem dX4_measure_50 : decode cX4_measure 50 = .ok (.iaload, 1) := by decide +kernel
theorem dX4_measure_51 : decode cX4_measure 51 = .ok (.isub, 1) := by decide +kernel
theorem dX4_measure_52 : decode cX4_measure 52 = .ok (.aload_n 0, 1) := by decide +kernel
theorem dX4_measure_53 : decode cX4_measure 53 = .ok (.getfield 9, 3) := by decide +kernel
theorem dX4_measure_56 : decode cX4_measure 56 = .ok (.iconst 3, 1) := by decide +kernel
theorem dX4_measure_57 : decode cX4_measure 57 = .ok (.iaload, 1) := by decide +kernel
theorem dX4_measure_58 : decode cX4_measure 58 = .ok (.isub, 1) := by decide +kernel
theorem dX4_measure_59 : decode cX4_measure 59 = .ok (.putfield 23, 3) := by decide +kernel
theorem dX4_measure_62 : decode cX4_measure 62 = .ok (.aload_n 0, 1) := by decide +kernel
theorem dX4_measure_63 : decode cX4_measure 63 = .ok (.aload_n 0, 1) := by decide +kernel
theorem dX4_measure_64 : decode cX4_measure 64 = .ok (.getfield 23, 3) := by decide +kernel
theorem dX4_measure_67 : decode cX4_measure 67 = .ok (.invokestatic 42, 3) := by decide +kernel
theorem dX4_measure_70 : decode cX4_measure 70 = .ok (.putfield 27, 3) := by decide +kernel
theorem dX4_measure_73 : decode cX4_measure 73 = .ok (.aload_n 0, 1) := by decide +kernel
theorem dX4_measure_74 : decode cX4_measure 74 = .ok (.aload_n 0, 1) := by decide +kernel
theorem dX4_measure_75 : decode cX4_measure 75 = .ok (.invokevirtual 48, 3) := by decide +kernel
theorem dX4_measure_78 : decode cX4_measure 78 = .ok (.putfield 33, 3) := by decide +kernel
theorem dX4_measure_81 : decode cX4_measure 81 = .ok (.aload_n 0, 1) := by decide +kernel
theorem dX4_measure_82 : decode cX4_measure 82 = .ok (.aload_n 1, 1) := by decide +kernel
theorem dX4_measure_83 : decode cX4_measure 83 = .ok (.invokevirtual 52, 3) := by decide +kernel
theorem dX4_measure_86 : decode cX4_measure 86 = .ok (.istore 5, 2) := by decide +kernel
theorem dX4_measure_88 : decode cX4_measure 88 = .ok (.aload_n 0, 1) := by decide +kernel
theorem dX4_measure_89 : decode cX4_measure 89 = .ok (.bipush (-3), 2) := by decide +kernel
theorem dX4_measure_91 : decode cX4_measure 91 = .ok (.iload 4, 2) := by decide +kernel
theorem dX4_measure_93 : decode cX4_measure 93 = .ok (.invokevirtual 56, 3) := by decide +kernel
theorem dX4_measure_96 : decode cX4_measure 96 = .ok (.aload_n 0, 1) := by decide +kernel
theorem dX4_measure_97 : decode cX4_measure 97 = .ok (.bipush (-4), 2) := by decide +kernel
theorem dX4_measure_99 : decode cX4_measure 99 = .ok (.iload_n 3, 1) := by decide +kernel
theorem dX4_measure_100 : decode cX4_measure 100 = .ok (.bipush 8, 2) := by decide +kernel
theorem dX4_measure_102 : decode cX4_measure 102 = .ok (.idiv, 1) := by decide +kernel
theorem dX4_measure_103 : decode cX4_measure 103 = .ok (.invokevirtual 56, 3) := by decide +kernel
theorem dX4_measure_106 : decode cX4_measure 106 = .ok (.aload_n 0, 1) := by decide +kernel
theorem dX4_measure_107 : decode cX4_measure 107 = .ok (.bipush (-5), 2) := by decide +kernel
theorem dX4_measure_109 : decode cX4_measure 109 = .ok (.iload_n 3, 1) := by decide +kernel
theorem dX4_measure_110 : decode cX4_measure 110 = .ok (.bipush 8, 2) := by decide +kernel
theorem dX4_measure_112 : decode cX4_measure 112 = .ok (.irem, 1) := by decide +kernel
theorem dX4_measure_113 : decode cX4_measure 113 = .ok (.invokevirtual 56, 3) := by decide +kernel
theorem dX4_measure_116 : decode cX4_measure 116 = .ok (.aload_n 0, 1) := by decide +kernel
theorem dX4_measure_117 : decode cX4_measure 117 = .ok (.bipush (-6), 2) := by decide +kernel
theorem dX4_measure_119 : decode cX4_measure 119 = .ok (.iload 5, 2) := by decide +kernel
theorem dX4_measure_121 : decode cX4_measure 121 = .ok (.invokevirtual 56, 3) := by decide +kernel
theorem dX4_measure_124 : decode cX4_measure 124 = .ok (.aload_n 0, 1) := by decide +kernel
theorem dX4_measure_125 : decode cX4_measure 125 = .ok (.aload_n 0, 1) := by decide +kernel
theorem dX4_measure_126 : decode cX4_measure 126 = .ok (.getfield 27, 3) := by decide +kernel
theorem dX4_measure_129 : decode cX4_measure 129 = .ok (.aload_n 0, 1) := by decide +kernel
theorem dX4_measure_130 : decode cX4_measure 130 = .ok (.aload_n 2, 1) := by decide +kernel
theorem dX4_measure_131 : decode cX4_measure 131 = .ok (.invokevirtual 60, 3) := by decide +kernel
theorem dX4_measure_134 : decode cX4_measure 134 = .ok (.if_icmp .gt 7, 3) := by decide +kernel
theorem dX4_measure_137 : decode cX4_measure 137 = .ok (.iconst 0, 1) := by decide +kernel
theorem dX4_measure_138 : decode cX4_measure 138 = .ok (.goto 14, 3) := by decide +kernel
theorem dX4_measure_141 : decode cX4_measure 141 = .ok (.iconst 0, 1) := by decide +kernel
theorem dX4_measure_142 : decode cX4_measure 142 = .ok (.aload_n 0, 1) := by decide +kernel
theorem dX4_measure_143 : decode cX4_measure 143 = .ok (.getfield 27, 3) := by decide +kernel
theorem dX4_measure_146 : decode cX4_measure 146 = .ok (.iload 5, 2) := by decide +kernel
theorem dX4_measure_148 : decode cX4_measure 148 = .ok (.isub, 1) := by decide +kernel
theorem dX4_measure_149 : decode cX4_measure 149 = .ok (.invokestatic 64, 3) := by decide +kernel
theorem dX4_measure_152 : decode cX4_measure 152 = .ok (.putfield 30, 3) := by decide +kernel
theorem dX4_measure_155 : decode cX4_measure 155 = .ok (.return_, 1) := by decide +kernel
theorem dX4_measureLean_0 : decode cX4_measureLean 0 = .ok (.aload_n 0, 1) := by decide +kernel
theorem dX4_measureLean_1 : decode cX4_measureLean 1 = .ok (.getfield 9, 3) := by decide +kernel
theorem dX4_measureLean_4 : decode cX4_measureLean 4 = .ok (.aload_n 0, 1) := by decide +kernel
theorem dX4_measureLean_5 : decode cX4_measureLean 5 = .ok (.invokevirtual 68, 3) := by decide +kernel
theorem dX4_measureLean_8 : decode cX4_measureLean 8 = .ok (.iaload, 1) := by decide +kernel
theorem dX4_measureLean_9 : decode cX4_measureLean 9 = .ok (.istore_n 1, 1) := by decide +kernel
theorem dX4_measureLean_10 : decode cX4_measureLean 10 = .ok (.aload_n 0, 1) := by decide +kernel
theorem dX4_measureLean_11 : decode cX4_measureLean 11 = .ok (.getfield 9, 3) := by decide +kernel
theorem dX4_measureLean_14 : decode cX4_measureLean 14 = .ok (.aload_n 0, 1) := by decide +kernel
theorem dX4_measureLean_15 : decode cX4_measureLean 15 = .ok (.invokevirtual 68, 3) := by decide +kernel
theorem dX4_measureLean_18 : decode cX4_measureLean 18 = .ok (.iconst 2, 1) := by decide +kernel
theorem dX4_measureLean_19 : decode cX4_measureLean 19 = .ok (.iadd, 1) := by decide +kernel
theorem dX4_measureLean_20 : decode cX4_measureLean 20 = .ok (.iaload, 1) := by decide +kernel
theorem dX4_measureLean_21 : decode cX4_measureLean 21 = .ok (.istore_n 2, 1) := by decide +kernel
theorem dX4_measureLean_22 : decode cX4_measureLean 22 = .ok (.aload_n 0, 1) := by decide +kernel
theorem dX4_measureLean_23 : decode cX4_measureLean 23 = .ok (.getfield 9, 3) := by decide +kernel
theorem dX4_measureLean_26 : decode cX4_measureLean 26 = .ok (.iconst 1, 1) := by decide +kernel
theorem dX4_measureLean_27 : decode cX4_measureLean 27 = .ok (.aload_n 0, 1) := by decide +kernel
theorem dX4_measureLean_28 : decode cX4_measureLean 28 = .ok (.invokevirtual 68, 3) := by decide +kernel
theorem dX4_measureLean_31 : decode cX4_measureLean 31 = .ok (.isub, 1) := by decide +kernel
theorem dX4_measureLean_32 : decode cX4_measureLean 32 = .ok (.iaload, 1) := by decide +kernel
theorem dX4_measureLean_33 : decode cX4_measureLean 33 = .ok (.istore_n 3, 1) := by decide +kernel
theorem dX4_measureLean_34 : decode cX4_measureLean 34 = .ok (.iload_n 1, 1) := by decide +kernel
theorem dX4_measureLean_35 : decode cX4_measureLean 35 = .ok (.iload_n 2, 1) := by decide +kernel
theorem dX4_measureLean_36 : decode cX4_measureLean 36 = .ok (.iadd, 1) := by decide +kernel
theorem dX4_measureLean_37 : decode cX4_measureLean 37 = .ok (.iload_n 3, 1) := by decide +kernel
theorem dX4_measureLean_38 : decode cX4_measureLean 38 = .ok (.isub, 1) := by decide +kernel
theorem dX4_measureLean_39 : decode cX4_measureLean 39 = .ok (.istore 4, 2) := by decide +kernel
theorem dX4_measureLean_41 : decode cX4_measureLean 41 = .ok (.iload_n 1, 1) := by decide +kernel
theorem dX4_measureLean_42 : decode cX4_measureLean 42 = .ok (.iload_n 2, 1) := by decide +kernel
theorem dX4_measureLean_43 : decode cX4_measureLean 43 = .ok (.invokestatic 64, 3) := by decide +kernel
theorem dX4_measureLean_46 : decode cX4_measureLean 46 = .ok (.iload_n 3, 1) := by decide +kernel
theorem dX4_measureLean_47 : decode cX4_measureLean 47 = .ok (.iload 4, 2) := by decide +kernel
theorem dX4_measureLean_49 : decode cX4_measureLean 49 = .ok (.invokestatic 64, 3) := by decide +kernel
theorem dX4_measureLean_52 : decode cX4_measureLean 52 = .ok (.invokestatic 64, 3) := by decide +kernel
theorem dX4_measureLean_55 : decode cX4_measureLean 55 = .ok (.istore 5, 2) := by decide +kernel
theorem dX4_measureLean_57 : decode cX4_measureLean 57 = .ok (.iload_n 1, 1) := by decide +kernel
theorem dX4_measureLean_58 : decode cX4_measureLean 58 = .ok (.iload_n 2, 1) := by decide +kernel
theorem dX4_measureLean_59 : decode cX4_measureLean 59 = .ok (.invokestatic 71, 3) := by decide +kernel
theorem dX4_measureLean_62 : decode cX4_measureLean 62 = .ok (.iload_n 3, 1) := by decide +kernel
theorem dX4_measureLean_63 : decode cX4_measureLean 63 = .ok (.iload 4, 2) := by decide +kernel
theorem dX4_measureLean_65 : decode cX4_measureLean 65 = .ok (.invokestatic 71, 3) := by decide +kernel
theorem dX4_measureLean_68 : decode cX4_measureLean 68 = .ok (.invokestatic 71, 3) := by decide +kernel
theorem dX4_measureLean_71 : decode cX4_measureLean 71 = .ok (.istore 6, 2) := by decide +kernel
theorem dX4_measureLean_73 : decode cX4_measureLean 73 = .ok (.iload 5, 2) := by decide +kernel
theorem dX4_measureLean_75 : decode cX4_measureLean 75 = .ok (.iload 6, 2) := by decide +kernel
theorem dX4_measureLean_77 : decode cX4_measureLean 77 = .ok (.isub, 1) := by decide +kernel
theorem dX4_measureLean_78 : decode cX4_measureLean 78 = .ok (.ireturn, 1) := by decide +kernel
theorem dX4_giveOfLoose_0 : decode cX4_giveOfLoose 0 = .ok (.aload_n 0, 1) := by decide +kernel
theorem dX4_giveOfLoose_1 : decode cX4_giveOfLoose 1 = .ok (.getfield 23, 3) := by decide +kernel
theorem dX4_giveOfLoose_4 : decode cX4_giveOfLoose 4 = .ok (.ifCond .ne 5, 3) := by decide +kernel
theorem dX4_giveOfLoose_7 : decode cX4_giveOfLoose 7 = .ok (.iconst 0, 1) := by decide +kernel
theorem dX4_giveOfLoose_8 : decode cX4_giveOfLoose 8 = .ok (.ireturn, 1) := by decide +kernel
theorem dX4_giveOfLoose_9 : decode cX4_giveOfLoose 9 = .ok (.aload_n 1, 1) := by decide +kernel
theorem dX4_giveOfLoose_10 : decode cX4_giveOfLoose 10 = .ok (.getfield 74, 3) := by decide +kernel
theorem dX4_giveOfLoose_13 : decode cX4_giveOfLoose 13 = .ok (.aload_n 0, 1) := by decide +kernel
theorem dX4_giveOfLoose_14 : decode cX4_giveOfLoose 14 = .ok (.invokevirtual 78, 3) := by decide +kernel
theorem dX4_giveOfLoose_17 : decode cX4_giveOfLoose 17 = .ok (.aaload, 1) := by decide +kernel
theorem dX4_giveOfLoose_18 : decode cX4_giveOfLoose 18 = .ok (.aload_n 0, 1) := by decide +kernel
theorem dX4_giveOfLoose_19 : decode cX4_giveOfLoose 19 = .ok (.getfield 27, 3) := by decide +kernel
theorem dX4_giveOfLoose_22 : decode cX4_giveOfLoose 22 = .ok (.invokevirtual 81, 3) := by decide +kernel
theorem dX4_giveOfLoose_25 : decode cX4_giveOfLoose 25 = .ok (.aload_n 1, 1) := by decide +kernel
theorem dX4_giveOfLoose_26 : decode cX4_giveOfLoose 26 = .ok (.getfield 74, 3) := by decide +kernel
theorem dX4_giveOfLoose_29 : decode cX4_giveOfLoose 29 = .ok (.aload_n 0, 1) := by decide +kernel
theorem dX4_giveOfLoose_30 : decode cX4_giveOfLoose 30 = .ok (.invokevirtual 78, 3) := by decide +kernel
theorem dX4_giveOfLoose_33 : decode cX4_giveOfLoose 33 = .ok (.iconst 2, 1) := by decide +kernel
theorem dX4_giveOfLoose_34 : decode cX4_giveOfLoose 34 = .ok (.iadd, 1) := by decide +kernel
theorem dX4_giveOfLoose_35 : decode cX4_giveOfLoose 35 = .ok (.aaload, 1) := by decide +kernel
theorem dX4_giveOfLoose_36 : decode cX4_giveOfLoose 36 = .ok (.aload_n 0, 1) := by decide +kernel
theorem dX4_giveOfLoose_37 : decode cX4_giveOfLoose 37 = .ok (.getfield 27, 3) := by decide +kernel
theorem dX4_giveOfLoose_40 : decode cX4_giveOfLoose 40 = .ok (.invokevirtual 81, 3) := by decide +kernel
theorem dX4_giveOfLoose_43 : decode cX4_giveOfLoose 43 = .ok (.iadd, 1) := by decide +kernel
theorem dX4_giveOfLoose_44 : decode cX4_giveOfLoose 44 = .ok (.ireturn, 1) := by decide +kernel
theorem dX4_name_0 : decode cX4_name 0 = .ok (.iload_n 1, 1) := by decide +kernel
theorem dX4_name_1 : decode cX4_name 1 = .ok (.invokestatic 86, 3) := by decide +kernel
theorem dX4_name_4 : decode cX4_name 4 = .ok (.istore_n 3, 1) := by decide +kernel
theorem dX4_name_5 : decode cX4_name 5 = .ok (.iload_n 3, 1) := by decide +kernel
theorem dX4_name_6 : decode cX4_name 6 = .ok (.iconst 0, 1) := by decide +kernel
theorem dX4_name_7 : decode cX4_name 7 = .ok (.iconst 5, 1) := by decide +kernel
theorem dX4_name_8 : decode cX4_name 8 = .ok (.invokestatic 89, 3) := by decide +kernel
theorem dX4_name_11 : decode cX4_name 11 = .ok (.ifCond .eq 10, 3) := by decide +kernel
theorem dX4_name_14 : decode cX4_name 14 = .ok (.aload_n 0, 1) := by decide +kernel
theorem dX4_name_15 : decode cX4_name 15 = .ok (.getfield 17, 3) := by decide +kernel
theorem dX4_name_18 : decode cX4_name 18 = .ok (.iload_n 3, 1) := by decide +kernel
theorem dX4_name_19 : decode cX4_name 19 = .ok (.iload_n 2, 1) := by decide +kernel
theorem dX4_name_20 : decode cX4_name 20 = .ok (.iastore, 1) := by decide +kernel
theorem dX4_name_21 : decode cX4_name 21 = .ok (.return_, 1) := by decide +kernel
theorem dX4_slack_0 : decode cX4_slack 0 = .ok (.aload_n 0, 1) := by decide +kernel
theorem dX4_slack_1 : decode cX4_slack 1 = .ok (.iconst (-1), 1) := by decide +kernel
theorem dX4_slack_2 : decode cX4_slack 2 = .ok (.aload_n 0, 1) := by decide +kernel
theorem dX4_slack_3 : decode cX4_slack 3 = .ok (.getfield 27, 3) := by decide +kernel
theorem dX4_slack_6 : decode cX4_slack 6 = .ok (.invokevirtual 56, 3) := by decide +kernel
theorem dX4_slack_9 : decode cX4_slack 9 = .ok (.aload_n 0, 1) := by decide +kernel
theorem dX4_slack_10 : decode cX4_slack 10 = .ok (.bipush (-2), 2) := by decide +kernel
theorem dX4_slack_12 : decode cX4_slack 12 = .ok (.iconst 0, 1) := by decide +kernel
theorem dX4_slack_13 : decode cX4_slack 13 = .ok (.invokevirtual 56, 3) := by decide +kernel
theorem dX4_slack_16 : decode cX4_slack 16 = .ok (.aload_n 1, 1) := by decide +kernel
theorem dX4_slack_17 : decode cX4_slack 17 = .ok (.iconst 0, 1) := by decide +kernel
theorem dX4_slack_18 : decode cX4_slack 18 = .ok (.aload_n 0, 1) := by decide +kernel
theorem dX4_slack_19 : decode cX4_slack 19 = .ok (.getfield 17, 3) := by decide +kernel
theorem dX4_slack_22 : decode cX4_slack 22 = .ok (.aload_n 0, 1) := by decide +kernel
theorem dX4_slack_23 : decode cX4_slack 23 = .ok (.getfield 20, 3) := by decide +kernel
theorem dX4_slack_26 : decode cX4_slack 26 = .ok (.invokevirtual 93, 3) := by decide +kernel
theorem dX4_slack_29 : decode cX4_slack 29 = .ok (.iconst 0, 1) := by decide +kernel
theorem dX4_slack_30 : decode cX4_slack 30 = .ok (.bipush 9, 2) := by decide +kernel
theorem dX4_slack_32 : decode cX4_slack 32 = .ok (.invokestatic 99, 3) := by decide +kernel
theorem dX4_slack_35 : decode cX4_slack 35 = .ok (.ireturn, 1) := by decide +kernel
theorem dX4_worth_0 : decode cX4_worth 0 = .ok (.aload_n 0, 1) := by decide +kernel
theorem dX4_worth_1 : decode cX4_worth 1 = .ok (.iconst (-1), 1) := by decide +kernel
theorem dX4_worth_2 : decode cX4_worth 2 = .ok (.aload_n 0, 1) := by decide +kernel
theorem dX4_worth_3 : decode cX4_worth 3 = .ok (.getfield 30, 3) := by decide +kernel
theorem dX4_worth_6 : decode cX4_worth 6 = .ok (.invokevirtual 56, 3) := by decide +kernel
theorem dX4_worth_9 : decode cX4_worth 9 = .ok (.aload_n 0, 1) := by decide +kernel
theorem dX4_worth_10 : decode cX4_worth 10 = .ok (.bipush (-2), 2) := by decide +kernel
theorem dX4_worth_12 : decode cX4_worth 12 = .ok (.aload_n 0, 1) := by decide +kernel
theorem dX4_worth_13 : decode cX4_worth 13 = .ok (.getfield 33, 3) := by decide +kernel
theorem dX4_worth_16 : decode cX4_worth 16 = .ok (.invokevirtual 56, 3) := by decide +kernel
theorem dX4_worth_19 : decode cX4_worth 19 = .ok (.aload_n 1, 1) := by decide +kernel
theorem dX4_worth_20 : decode cX4_worth 20 = .ok (.iconst 1, 1) := by decide +kernel
theorem dX4_worth_21 : decode cX4_worth 21 = .ok (.aload_n 0, 1) := by decide +kernel
theorem dX4_worth_22 : decode cX4_worth 22 = .ok (.getfield 17, 3) := by decide +kernel
theorem dX4_worth_25 : decode cX4_worth 25 = .ok (.aload_n 0, 1) := by decide +kernel
theorem dX4_worth_26 : decode cX4_worth 26 = .ok (.getfield 20, 3) := by decide +kernel
theorem dX4_worth_29 : decode cX4_worth 29 = .ok (.invokevirtual 93, 3) := by decide +kernel
theorem dX4_worth_32 : decode cX4_worth 32 = .ok (.sipush (-999), 3) := by decide +kernel
theorem dX4_worth_35 : decode cX4_worth 35 = .ok (.sipush 999, 3) := by decide +kernel
theorem dX4_worth_38 : decode cX4_worth 38 = .ok (.invokestatic 99, 3) := by decide +kernel
theorem dX4_worth_41 : decode cX4_worth 41 = .ok (.ireturn, 1) := by decide +kernel
theorem dX4_spills_0 : decode cX4_spills 0 = .ok (.aload_n 0, 1) := by decide +kernel
theorem dX4_spills_1 : decode cX4_spills 1 = .ok (.iconst (-1), 1) := by decide +kernel
theorem dX4_spills_2 : decode cX4_spills 2 = .ok (.aload_n 0, 1) := by decide +kernel
theorem dX4_spills_3 : decode cX4_spills 3 = .ok (.getfield 30, 3) := by decide +kernel
theorem dX4_spills_6 : decode cX4_spills 6 = .ok (.invokevirtual 56, 3) := by decide +kernel
theorem dX4_spills_9 : decode cX4_spills 9 = .ok (.aload_n 0, 1) := by decide +kernel
theorem dX4_spills_10 : decode cX4_spills 10 = .ok (.bipush (-2), 2) := by decide +kernel
theorem dX4_spills_12 : decode cX4_spills 12 = .ok (.aload_n 0, 1) := by decide +kernel
theorem dX4_spills_13 : decode cX4_spills 13 = .ok (.getfield 33, 3) := by decide +kernel
theorem dX4_spills_16 : decode cX4_spills 16 = .ok (.invokevirtual 56, 3) := by decide +kernel
theorem dX4_spills_19 : decode cX4_spills 19 = .ok (.aload_n 1, 1) := by decide +kernel
theorem dX4_spills_20 : decode cX4_spills 20 = .ok (.iconst 2, 1) := by decide +kernel
theorem dX4_spills_21 : decode cX4_spills 21 = .ok (.aload_n 0, 1) := by decide +kernel
theorem dX4_spills_22 : decode cX4_spills 22 = .ok (.getfield 17, 3) := by decide +kernel
theorem dX4_spills_25 : decode cX4_spills 25 = .ok (.aload_n 0, 1) := by decide +kernel
theorem dX4_spills_26 : decode cX4_spills 26 = .ok (.getfield 20, 3) := by decide +kernel
theorem dX4_spills_29 : decode cX4_spills 29 = .ok (.invokevirtual 93, 3) := by decide +kernel
theorem dX4_spills_32 : decode cX4_spills 32 = .ok (.iconst 0, 1) := by decide +kernel
theorem dX4_spills_33 : decode cX4_spills 33 = .ok (.bipush 99, 2) := by decide +kernel
theorem dX4_spills_35 : decode cX4_spills 35 = .ok (.invokestatic 99, 3) := by decide +kernel
theorem dX4_spills_38 : decode cX4_spills 38 = .ok (.ireturn, 1) := by decide +kernel
theorem dX4_isFirm_0 : decode cX4_isFirm 0 = .ok (.aload_n 0, 1) := by decide +kernel
theorem dX4_isFirm_1 : decode cX4_isFirm 1 = .ok (.getfield 30, 3) := by decide +kernel
theorem dX4_isFirm_4 : decode cX4_isFirm 4 = .ok (.ifCond .ne 7, 3) := by decide +kernel
theorem dX4_isFirm_7 : decode cX4_isFirm 7 = .ok (.iconst 1, 1) := by decide +kernel
theorem dX4_isFirm_8 : decode cX4_isFirm 8 = .ok (.goto 4, 3) := by decide +kernel
theorem dX4_isFirm_11 : decode cX4_isFirm 11 = .ok (.iconst 0, 1) := by decide +kernel
theorem dX4_isFirm_12 : decode cX4_isFirm 12 = .ok (.ireturn, 1) := by decide +kernel
theorem dX4_firstBearing_0 : decode cX4_firstBearing 0 = .ok (.aload_n 0, 1) := by decide +kernel
theorem dX4_firstBearing_1 : decode cX4_firstBearing 1 = .ok (.getfield 23, 3) := by decide +kernel
theorem dX4_firstBearing_4 : decode cX4_firstBearing 4 = .ok (.ifCond .ge 7, 3) := by decide +kernel
theorem dX4_firstBearing_7 : decode cX4_firstBearing 7 = .ok (.iconst 1, 1) := by decide +kernel
theorem dX4_firstBearing_8 : decode cX4_firstBearing 8 = .ok (.goto 4, 3) := by decide +kernel
theorem dX4_firstBearing_11 : decode cX4_firstBearing 11 = .ok (.iconst 0, 1) := by decide +kernel
theorem dX4_firstBearing_12 : decode cX4_firstBearing 12 = .ok (.ireturn, 1) := by decide +kernel
theorem dX4_firstLoose_0 : decode cX4_firstLoose 0 = .ok (.aload_n 0, 1) := by decide +kernel
theorem dX4_firstLoose_1 : decode cX4_firstLoose 1 = .ok (.getfield 23, 3) := by decide +kernel
theorem dX4_firstLoose_4 : decode cX4_firstLoose 4 = .ok (.ifCond .ge 7, 3) := by decide +kernel
theorem dX4_firstLoose_7 : decode cX4_firstLoose 7 = .ok (.iconst 0, 1) := by decide +kernel
theorem dX4_firstLoose_8 : decode cX4_firstLoose 8 = .ok (.goto 4, 3) := by decide +kernel
theorem dX4_firstLoose_11 : decode cX4_firstLoose 11 = .ok (.iconst 1, 1) := by decide +kernel
theorem dX4_firstLoose_12 : decode cX4_firstLoose 12 = .ok (.ireturn, 1) := by decide +kernel
theorem dX4_looseBits_0 : decode cX4_looseBits 0 = .ok (.aload_n 0, 1) := by decide +kernel
theorem dX4_looseBits_1 : decode cX4_looseBits 1 = .ok (.getfield 23, 3) := by decide +kernel
theorem dX4_looseBits_4 : decode cX4_looseBits 4 = .ok (.ifCond .ne 5, 3) := by decide +kernel
theorem dX4_looseBits_7 : decode cX4_looseBits 7 = .ok (.iconst 0, 1) := by decide +kernel
theorem dX4_looseBits_8 : decode cX4_looseBits 8 = .ok (.ireturn, 1) := by decide +kernel
theorem dX4_looseBits_9 : decode cX4_looseBits 9 = .ok (.aload_n 0, 1) := by decide +kernel
theorem dX4_looseBits_10 : decode cX4_looseBits 10 = .ok (.getfield 23, 3) := by decide +kernel
theorem dX4_looseBits_13 : decode cX4_looseBits 13 = .ok (.ifCond .le 8, 3) := by decide +kernel
theorem dX4_looseBits_16 : decode cX4_looseBits 16 = .ok (.bipush 10, 2) := by decide +kernel
theorem dX4_looseBits_18 : decode cX4_looseBits 18 = .ok (.goto 4, 3) := by decide +kernel
theorem dX4_looseBits_21 : decode cX4_looseBits 21 = .ok (.iconst 5, 1) := by decide +kernel
theorem dX4_looseBits_22 : decode cX4_looseBits 22 = .ok (.ireturn, 1) := by decide +kernel
theorem dX4_knock_0 : decode cX4_knock 0 = .ok (.aload_n 0, 1) := by decide +kernel
theorem dX4_knock_1 : decode cX4_knock 1 = .ok (.invokevirtual 102, 3) := by decide +kernel
theorem dX4_knock_4 : decode cX4_knock 4 = .ok (.ifCond .eq 5, 3) := by decide +kernel
theorem dX4_knock_7 : decode cX4_knock 7 = .ok (.iconst 0, 1) := by decide +kernel
theorem dX4_knock_8 : decode cX4_knock 8 = .ok (.ireturn, 1) := by decide +kernel
theorem dX4_knock_9 : decode cX4_knock 9 = .ok (.aload_n 0, 1) := by decide +kernel
theorem dX4_knock_10 : decode cX4_knock 10 = .ok (.getfield 23, 3) := by decide +kernel
theorem dX4_knock_13 : decode cX4_knock 13 = .ok (.ifCond .le 7, 3) := by decide +kernel
theorem dX4_knock_16 : decode cX4_knock 16 = .ok (.iconst 1, 1) := by decide +kernel
theorem dX4_knock_17 : decode cX4_knock 17 = .ok (.goto 4, 3) := by decide +kernel
theorem dX4_knock_20 : decode cX4_knock 20 = .ok (.iconst 2, 1) := by decide +kernel
theorem dX4_knock_21 : decode cX4_knock 21 = .ok (.ireturn, 1) := by decide +kernel
theorem dX5_init_0 : decode cX5_init 0 = .ok (.aload_n 0, 1) := by decide +kernel
theorem dX5_init_1 : decode cX5_init 1 = .ok (.invokespecial 3, 3) := by decide +kernel
theorem dX5_init_4 : decode cX5_init 4 = .ok (.aload_n 0, 1) := by decide +kernel
theorem dX5_init_5 : decode cX5_init 5 = .ok (.bipush 64, 2) := by decide +kernel
theorem dX5_init_7 : decode cX5_init 7 = .ok (.newarray .int, 2) := by decide +kernel
theorem dX5_init_9 : decode cX5_init 9 = .ok (.putfield 9, 3) := by decide +kernel
theorem dX5_init_12 : decode cX5_init 12 = .ok (.aload_n 0, 1) := by decide +kernel
theorem dX5_init_13 : decode cX5_init 13 = .ok (.iconst 4, 1) := by decide +kernel
theorem dX5_init_14 : decode cX5_init 14 = .ok (.anewarray 15, 3) := by decide +kernel
theorem dX5_init_17 : decode cX5_init 17 = .ok (.putfield 17, 3) := by decide +kernel
theorem dX5_init_20 : decode cX5_init 20 = .ok (.aload_n 0, 1) := by decide +kernel
theorem dX5_init_21 : decode cX5_init 21 = .ok (.bipush 27, 2) := by decide +kernel
theorem dX5_init_23 : decode cX5_init 23 = .ok (.putfield 21, 3) := by decide +kernel
theorem dX5_init_26 : decode cX5_init 26 = .ok (.aload_n 0, 1) := by decide +kernel
theorem dX5_init_27 : decode cX5_init 27 = .ok (.iconst 1, 1) := by decide +kernel
theorem dX5_init_28 : decode cX5_init 28 = .ok (.putfield 25, 3) := by decide +kernel
theorem dX5_init_31 : decode cX5_init 31 = .ok (.aload_n 0, 1) := by decide +kernel
theorem dX5_init_32 : decode cX5_init 32 = .ok (.iconst 0, 1) := by decide +kernel
theorem dX5_init_33 : decode cX5_init 33 = .ok (.putfield 28, 3) := by decide +kernel
theorem dX5_init_36 : decode cX5_init 36 = .ok (.aload_n 0, 1) := by decide +kernel
theorem dX5_init_37 : decode cX5_init 37 = .ok (.iconst 0, 1) := by decide +kernel
theorem dX5_init_38 : decode cX5_init 38 = .ok (.putfield 31, 3) := by decide +kernel
theorem dX5_init_41 : decode cX5_init 41 = .ok (.aload_n 0, 1) := by decide +kernel
theorem dX5_init_42 : decode cX5_init 42 = .ok (.iconst 0, 1) := by decide +kernel
theorem dX5_init_43 : decode cX5_init 43 = .ok (.putfield 34, 3) := by decide +kernel
theorem dX5_init_46 : decode cX5_init 46 = .ok (.iconst 0, 1) := by decide +kernel
theorem dX5_init_47 : decode cX5_init 47 = .ok (.istore_n 1, 1) := by decide +kernel
theorem dX5_init_48 : decode cX5_init 48 = .ok (.iload_n 1, 1) := by decide +kernel
theorem dX5_init_49 : decode cX5_init 49 = .ok (.iconst 4, 1) := by decide +kernel
theorem dX5_init_50 : decode cX5_init 50 = .ok (.if_icmp .ge 22, 3) := by decide +kernel
theorem dX5_init_53 : decode cX5_init 53 = .ok (.aload_n 0, 1) := by decide +kernel
theorem dX5_init_54 : decode cX5_init 54 = .ok (.getfield 17, 3) := by decide +kernel
theorem dX5_init_57 : decode cX5_init 57 = .ok (.iload_n 1, 1) := by decide +kernel
theorem dX5_init_58 : decode cX5_init 58 = .ok (.new 15, 3) := by decide +kernel
theorem dX5_init_61 : decode cX5_init 61 = .ok (.dup, 1) := by decide +kernel
theorem dX5_init_62 : decode cX5_init 62 = .ok (.invokespecial 37, 3) := by decide +kernel
theorem dX5_init_65 : decode cX5_init 65 = .ok (.aastore, 1) := by decide +kernel
theorem dX5_init_66 : decode cX5_init 66 = .ok (.iinc 1 1, 3) := by decide +kernel
theorem dX5_init_69 : decode cX5_init 69 = .ok (.goto (-21), 3) := by decide +kernel
theorem dX5_init_72 : decode cX5_init 72 = .ok (.return_, 1) := by decide +kernel
theorem dX5_cellBeneath_0 : decode cX5_cellBeneath 0 = .ok (.iload_n 3, 1) := by decide +kernel
theorem dX5_cellBeneath_1 : decode cX5_cellBeneath 1 = .ok (.iconst 2, 1) := by decide +kernel
theorem dX5_cellBeneath_2 : decode cX5_cellBeneath 2 = .ok (.iload_n 1, 1) := by decide +kernel
theorem dX5_cellBeneath_3 : decode cX5_cellBeneath 3 = .ok (.imul, 1) := by decide +kernel
theorem dX5_cellBeneath_4 : decode cX5_cellBeneath 4 = .ok (.iadd, 1) := by decide +kernel
theorem dX5_cellBeneath_5 : decode cX5_cellBeneath 5 = .ok (.invokestatic 38, 3) := by decide +kernel
theorem dX5_cellBeneath_8 : decode cX5_cellBeneath 8 = .ok (.istore 4, 2) := by decide +kernel
theorem dX5_cellBeneath_10 : decode cX5_cellBeneath 10 = .ok (.iload_n 2, 1) := by decide +kernel
theorem dX5_cellBeneath_11 : decode cX5_cellBeneath 11 = .ok (.bipush 8, 2) := by decide +kernel
theorem dX5_cellBeneath_13 : decode cX5_cellBeneath 13 = .ok (.idiv, 1) := by decide +kernel
theorem dX5_cellBeneath_14 : decode cX5_cellBeneath 14 = .ok (.aload_n 0, 1) := by decide +kernel
theorem dX5_cellBeneath_15 : decode cX5_cellBeneath 15 = .ok (.getfield 25, 3) := by decide +kernel
theorem dX5_cellBeneath_18 : decode cX5_cellBeneath 18 = .ok (.getstatic 42, 3) := by decide +kernel
theorem dX5_cellBeneath_21 : decode cX5_cellBeneath 21 = .ok (.iload 4, 2) := by decide +kernel
theorem dX5_cellBeneath_23 : decode cX5_cellBeneath 23 = .ok (.iaload, 1) := by decide +kernel
theorem dX5_cellBeneath_24 : decode cX5_cellBeneath 24 = .ok (.imul, 1) := by decide +kernel
theorem dX5_cellBeneath_25 : decode cX5_cellBeneath 25 = .ok (.iadd, 1) := by decide +kernel
theorem dX5_cellBeneath_26 : decode cX5_cellBeneath 26 = .ok (.iconst 0, 1) := by decide +kernel
theorem dX5_cellBeneath_27 : decode cX5_cellBeneath 27 = .ok (.bipush 7, 2) := by decide +kernel
theorem dX5_cellBeneath_29 : decode cX5_cellBeneath 29 = .ok (.invokestatic 45, 3) := by decide +kernel
theorem dX5_cellBeneath_32 : decode cX5_cellBeneath 32 = .ok (.istore 5, 2) := by decide +kernel
theorem dX5_cellBeneath_34 : decode cX5_cellBeneath 34 = .ok (.iload_n 2, 1) := by decide +kernel
theorem dX5_cellBeneath_35 : decode cX5_cellBeneath 35 = .ok (.bipush 8, 2) := by decide +kernel
theorem dX5_cellBeneath_37 : decode cX5_cellBeneath 37 = .ok (.irem, 1) := by decide +kernel
theorem dX5_cellBeneath_38 : decode cX5_cellBeneath 38 = .ok (.aload_n 0, 1) := by decide +kernel
theorem dX5_cellBeneath_39 : decode cX5_cellBeneath 39 = .ok (.getfield 25, 3) := by decide +kernel
theorem dX5_cellBeneath_42 : decode cX5_cellBeneath 42 = .ok (.getstatic 49, 3) := by decide +kernel
theorem dX5_cellBeneath_45 : decode cX5_cellBeneath 45 = .ok (.iload 4, 2) := by decide +kernel
theorem dX5_cellBeneath_47 : decode cX5_cellBeneath 47 = .ok (.iaload, 1) := by decide +kernel
theorem dX5_cellBeneath_48 : decode cX5_cellBeneath 48 = .ok (.imul, 1) := by decide +kernel
theorem dX5_cellBeneath_49 : decode cX5_cellBeneath 49 = .ok (.iadd, 1) := by decide +kernel
theorem dX5_cellBeneath_50 : decode cX5_cellBeneath 50 = .ok (.iconst 0, 1) := by decide +kernel
theorem dX5_cellBeneath_51 : decode cX5_cellBeneath 51 = .ok (.bipush 7, 2) := by decide +kernel
theorem dX5_cellBeneath_53 : decode cX5_cellBeneath 53 = .ok (.invokestatic 45, 3) := by decide +kernel
theorem dX5_cellBeneath_56 : decode cX5_cellBeneath 56 = .ok (.istore 6, 2) := by decide +kernel
theorem dX5_cellBeneath_58 : decode cX5_cellBeneath 58 = .ok (.iload 5, 2) := by decide +kernel
theorem dX5_cellBeneath_60 : decode cX5_cellBeneath 60 = .ok (.bipush 8, 2) := by decide +kernel
theorem dX5_cellBeneath_62 : decode cX5_cellBeneath 62 = .ok (.imul, 1) := by decide +kernel
theorem dX5_cellBeneath_63 : decode cX5_cellBeneath 63 = .ok (.iload 6, 2) := by decide +kernel
theorem dX5_cellBeneath_65 : decode cX5_cellBeneath 65 = .ok (.iadd, 1) := by decide +kernel
theorem dX5_cellBeneath_66 : decode cX5_cellBeneath 66 = .ok (.ireturn, 1) := by decide +kernel
theorem dX5_heightOf_0 : decode cX5_heightOf 0 = .ok (.aload_n 0, 1) := by decide +kernel
theorem dX5_heightOf_1 : decode cX5_heightOf 1 = .ok (.getfield 9, 3) := by decide +kernel
theorem dX5_heightOf_4 : decode cX5_heightOf 4 = .ok (.aload_n 0, 1) := by decide +kernel
theorem dX5_heightOf_5 : decode cX5_heightOf 5 = .ok (.iload_n 1, 1) := by decide +kernel
theorem dX5_heightOf_6 : decode cX5_heightOf 6 = .ok (.iload_n 2, 1) := by decide +kernel
theorem dX5_heightOf_7 : decode cX5_heightOf 7 = .ok (.iload_n 3, 1) := by decide +kernel
theorem dX5_heightOf_8 : decode cX5_heightOf 8 = .ok (.invokevirtual 52, 3) := by decide +kernel
theorem dX5_heightOf_11 : decode cX5_heightOf 11 = .ok (.iaload, 1) := by decide +kernel
theorem dX5_heightOf_12 : decode cX5_heightOf 12 = .ok (.aload_n 0, 1) := by decide +kernel
theorem dX5_heightOf_13 : decode cX5_heightOf 13 = .ok (.getfield 17, 3) := by decide +kernel
theorem dX5_heightOf_16 : decode cX5_heightOf 16 = .ok (.iload_n 1, 1) := by decide +kernel
theorem dX5_heightOf_17 : decode cX5_heightOf 17 = .ok (.aaload, 1) := by decide +kernel
theorem dX5_heightOf_18 : decode cX5_heightOf 18 = .ok (.aload_n 0, 1) := by decide +kernel
theorem dX5_heightOf_19 : decode cX5_heightOf 19 = .ok (.getfield 31, 3) := by decide +kernel
theorem dX5_heightOf_22 : decode cX5_heightOf 22 = .ok (.invokevirtual 55, 3) := by decide +kernel
theorem dX5_heightOf_25 : decode cX5_heightOf 25 = .ok (.iadd, 1) := by decide +kernel
theorem dX5_heightOf_26 : decode cX5_heightOf 26 = .ok (.ireturn, 1) := by decide +kernel
theorem dX5_becomeLike_0 : decode cX5_becomeLike 0 = .ok (.aload_n 1, 1) := by decide +kernel
theorem dX5_becomeLike_1 : decode cX5_becomeLike 1 = .ok (.getfield 9, 3) := by decide +kernel
theorem dX5_becomeLike_4 : decode cX5_becomeLike 4 = .ok (.iconst 0, 1) := by decide +kernel
theorem dX5_becomeLike_5 : decode cX5_becomeLike 5 = .ok (.aload_n 0, 1) := by decide +kernel
theorem dX5_becomeLike_6 : decode cX5_becomeLike 6 = .ok (.getfield 9, 3) := by decide +kernel
theorem dX5_becomeLike_9 : decode cX5_becomeLike 9 = .ok (.iconst 0, 1) := by decide +kernel
theorem dX5_becomeLike_10 : decode cX5_becomeLike 10 = .ok (.bipush 64, 2) := by decide +kernel
theorem dX5_becomeLike_12 : decode cX5_becomeLike 12 = .ok (.invokestatic 58, 3) := by decide +kernel
theorem dX5_becomeLike_15 : decode cX5_becomeLike 15 = .ok (.iconst 0, 1) := by decide +kernel
theorem dX5_becomeLike_16 : decode cX5_becomeLike 16 = .ok (.istore_n 2, 1) := by decide +kernel
theorem dX5_becomeLike_17 : decode cX5_becomeLike 17 = .ok (.iload_n 2, 1) := by decide +kernel
theorem dX5_becomeLike_18 : decode cX5_becomeLike 18 = .ok (.iconst 4, 1) := by decide +kernel
theorem dX5_becomeLike_19 : decode cX5_becomeLike 19 = .ok (.if_icmp .ge 45, 3) := by decide +kernel
theorem dX5_becomeLike_22 : decode cX5_becomeLike 22 = .ok (.aload_n 0, 1) := by decide +kernel
theorem dX5_becomeLike_23 : decode cX5_becomeLike 23 = .ok (.getfield 17, 3) := by decide +kernel
theorem dX5_becomeLike_26 : decode cX5_becomeLike 26 = .ok (.iload_n 2, 1) := by decide +kernel
theorem dX5_becomeLike_27 : decode cX5_becomeLike 27 = .ok (.aaload, 1) := by decide +kernel
theorem dX5_becomeLike_28 : decode cX5_becomeLike 28 = .ok (.aload_n 1, 1) := by decide +kernel
theorem dX5_becomeLike_29 : decode cX5_becomeLike 29 = .ok (.getfield 17, 3) := by decide +kernel
theorem dX5_becomeLike_32 : decode cX5_becomeLike 32 = .ok (.iload_n 2, 1) := by decide +kernel
theorem dX5_becomeLike_33 : decode cX5_becomeLike 33 = .ok (.aaload, 1) := by decide +kernel
theorem dX5_becomeLike_34 : decode cX5_becomeLike 34 = .ok (.getfield 64, 3) := by decide +kernel
theorem dX5_becomeLike_37 : decode cX5_becomeLike 37 = .ok (.putfield 64, 3) := by decide +kernel
theorem dX5_becomeLike_40 : decode cX5_becomeLike 40 = .ok (.aload_n 0, 1) := by decide +kernel
theorem dX5_becomeLike_41 : decode cX5_becomeLike 41 = .ok (.getfield 17, 3) := by decide +kernel
theorem dX5_becomeLike_44 : decode cX5_becomeLike 44 = .ok (.iload_n 2, 1) := by decide +kernel
theorem dX5_becomeLike_45 : decode cX5_becomeLike 45 = .ok (.aaload, 1) := by decide +kernel
theorem dX5_becomeLike_46 : decode cX5_becomeLike 46 = .ok (.aload_n 1, 1) := by decide +kernel
theorem dX5_becomeLike_47 : decode cX5_becomeLike 47 = .ok (.getfield 17, 3) := by decide +kernel
theorem dX5_becomeLike_50 : decode cX5_becomeLike 50 = .ok (.iload_n 2, 1) := by decide +kernel
theorem dX5_becomeLike_51 : decode cX5_becomeLike 51 = .ok (.aaload, 1) := by decide +kernel
theorem dX5_becomeLike_52 : decode cX5_becomeLike 52 = .ok (.getfield 67, 3) := by decide +kernel
theorem dX5_becomeLike_55 : decode cX5_becomeLike 55 = .ok (.putfield 67, 3) := by decide +kernel
theorem dX5_becomeLike_58 : decode cX5_becomeLike 58 = .ok (.iinc 2 1, 3) := by decide +kernel
theorem dX5_becomeLike_61 : decode cX5_becomeLike 61 = .ok (.goto (-44), 3) := by decide +kernel
theorem dX5_becomeLike_64 : decode cX5_becomeLike 64 = .ok (.aload_n 0, 1) := by decide +kernel
theorem dX5_becomeLike_65 : decode cX5_becomeLike 65 = .ok (.aload_n 1, 1) := by decide +kernel
theorem dX5_becomeLike_66 : decode cX5_becomeLike 66 = .ok (.getfield 21, 3) := by decide +kernel
theorem dX5_becomeLike_69 : decode cX5_becomeLike 69 = .ok (.putfield 21, 3) := by decide +kernel
theorem dX5_becomeLike_72 : decode cX5_becomeLike 72 = .ok (.aload_n 0, 1) := by decide +kernel
theorem dX5_becomeLike_73 : decode cX5_becomeLike 73 = .ok (.aload_n 1, 1) := by decide +kernel
theorem dX5_becomeLike_74 : decode cX5_becomeLike 74 = .ok (.getfield 25, 3) := by decide +kernel
theorem dX5_becomeLike_77 : decode cX5_becomeLike 77 = .ok (.putfield 25, 3) := by decide +kernel
theorem dX5_becomeLike_80 : decode cX5_becomeLike 80 = .ok (.aload_n 0, 1) := by decide +kernel
theorem dX5_becomeLike_81 : decode cX5_becomeLike 81 = .ok (.aload_n 1, 1) := by decide +kernel
theorem dX5_becomeLike_82 : decode cX5_becomeLike 82 = .ok (.getfield 28, 3) := by decide +kernel
theorem dX5_becomeLike_85 : decode cX5_becomeLike 85 = .ok (.putfield 28, 3) := by decide +kernel
theorem dX5_becomeLike_88 : decode cX5_becomeLike 88 = .ok (.aload_n 0, 1) := by decide +kernel
theorem dX5_becomeLike_89 : decode cX5_becomeLike 89 = .ok (.aload_n 1, 1) := by decide +kernel
theorem dX5_becomeLike_90 : decode cX5_becomeLike 90 = .ok (.getfield 31, 3) := by decide +kernel
theorem dX5_becomeLike_93 : decode cX5_becomeLike 93 = .ok (.putfield 31, 3) := by decide +kernel
theorem dX5_becomeLike_96 : decode cX5_becomeLike 96 = .ok (.aload_n 0, 1) := by decide +kernel
theorem dX5_becomeLike_97 : decode cX5_becomeLike 97 = .ok (.aload_n 1, 1) := by decide +kernel
theorem dX5_becomeLike_98 : decode cX5_becomeLike 98 = .ok (.getfield 34, 3) := by decide +kernel
theorem dX5_becomeLike_101 : decode cX5_becomeLike 101 = .ok (.putfield 34, 3) := by decide +kernel
theorem dX5_becomeLike_104 : decode cX5_becomeLike 104 = .ok (.return_, 1) := by decide +kernel
theorem dX6_isName_0 : decode cX6_isName 0 = .ok (.iload_n 0, 1) := by decide +kernel
theorem dX6_isName_1 : decode cX6_isName 1 = .ok (.invokestatic 7, 3) := by decide +kernel
theorem dX6_isName_4 : decode cX6_isName 4 = .ok (.iconst 0, 1) := by decide +kernel
theorem dX6_isName_5 : decode cX6_isName 5 = .ok (.iconst 5, 1) := by decide +kernel
theorem dX6_isName_6 : decode cX6_isName 6 = .ok (.invokestatic 13, 3) := by decide +kernel
theorem dX6_isName_9 : decode cX6_isName 9 = .ok (.ireturn, 1) := by decide +kernel
theorem dX6_nameIndex_0 : decode cX6_nameIndex 0 = .ok (.iconst (-1), 1) := by decide +kernel
theorem dX6_nameIndex_1 : decode cX6_nameIndex 1 = .ok (.iload_n 0, 1) := by decide +kernel
theorem dX6_nameIndex_2 : decode cX6_nameIndex 2 = .ok (.isub, 1) := by decide +kernel
theorem dX6_nameIndex_3 : decode cX6_nameIndex 3 = .ok (.ireturn, 1) := by decide +kernel
theorem dX6_ofSign_0 : decode cX6_ofSign 0 = .ok (.iload_n 0, 1) := by decide +kernel
theorem dX6_ofSign_1 : decode cX6_ofSign 1 = .ok (.tableswitch 124 40 61 #[103, 105, 115, 109, 124, 112, 124, 124, 124, 124, 124, 124, 124, 124, 124, 124, 124, 124, 124, 107, 118, 121], 103) := by decide +kernel
theorem dX6_ofSign_104 : decode cX6_ofSign 104 = .ok (.iconst 3, 1) := by decide +kernel
theorem dX6_ofSign_105 : decode cX6_ofSign 105 = .ok (.ireturn, 1) := by decide +kernel
theorem dX6_ofSign_106 : decode cX6_ofSign 106 = .ok (.iconst 4, 1) := by decide +kernel
theorem dX6_ofSign_107 : decode cX6_ofSign 107 = .ok (.ireturn, 1) := by decide +kernel
theorem dX6_ofSign_108 : decode cX6_ofSign 108 = .ok (.iconst 5, 1) := by decide +kernel
theorem dX6_ofSign_109 : decode cX6_ofSign 109 = .ok (.ireturn, 1) := by decide +kernel
theorem dX6_ofSign_110 : decode cX6_ofSign 110 = .ok (.bipush (-12), 2) := by decide +kernel
theorem dX6_ofSign_112 : decode cX6_ofSign 112 = .ok (.ireturn, 1) := by decide +kernel
theorem dX6_ofSign_113 : decode cX6_ofSign 113 = .ok (.bipush (-13), 2) := by decide +kernel
theorem dX6_ofSign_115 : decode cX6_ofSign 115 = .ok (.ireturn, 1) := by decide +kernel
theorem dX6_ofSign_116 : decode cX6_ofSign 116 = .ok (.bipush (-14), 2) := by decide +kernel
theorem dX6_ofSign_118 : decode cX6_ofSign 118 = .ok (.ireturn, 1) := by decide +kernel
theorem dX6_ofSign_119 : decode cX6_ofSign 119 = .ok (.bipush (-10), 2) := by decide +kernel
theorem dX6_ofSign_121 : decode cX6_ofSign 121 = .ok (.ireturn, 1) := by decide +kernel
theorem dX6_ofSign_122 : decode cX6_ofSign 122 = .ok (.bipush (-11), 2) := by decide +kernel
theorem dX6_ofSign_124 : decode cX6_ofSign 124 = .ok (.ireturn, 1) := by decide +kernel
theorem dX6_ofSign_125 : decode cX6_ofSign 125 = .ok (.iconst 1, 1) := by decide +kernel
theorem dX6_ofSign_126 : decode cX6_ofSign 126 = .ok (.ireturn, 1) := by decide +kernel
theorem dX7_init_0 : decode cX7_init 0 = .ok (.aload_n 0, 1) := by decide +kernel
theorem dX7_init_1 : decode cX7_init 1 = .ok (.invokespecial 1, 3) := by decide +kernel
theorem dX7_init_4 : decode cX7_init 4 = .ok (.aload_n 0, 1) := by decide +kernel
theorem dX7_init_5 : decode cX7_init 5 = .ok (.new 7, 3) := by decide +kernel
theorem dX7_init_8 : decode cX7_init 8 = .ok (.dup, 1) := by decide +kernel
theorem dX7_init_9 : decode cX7_init 9 = .ok (.invokespecial 9, 3) := by decide +kernel
theorem dX7_init_12 : decode cX7_init 12 = .ok (.putfield 10, 3) := by decide +kernel
theorem dX7_init_15 : decode cX7_init 15 = .ok (.aload_n 0, 1) := by decide +kernel
theorem dX7_init_16 : decode cX7_init 16 = .ok (.new 7, 3) := by decide +kernel
theorem dX7_init_19 : decode cX7_init 19 = .ok (.dup, 1) := by decide +kernel
theorem dX7_init_20 : decode cX7_init 20 = .ok (.invokespecial 9, 3) := by decide +kernel
theorem dX7_init_23 : decode cX7_init 23 = .ok (.putfield 16, 3) := by decide +kernel
theorem dX7_init_26 : decode cX7_init 26 = .ok (.aload_n 0, 1) := by decide +kernel
theorem dX7_init_27 : decode cX7_init 27 = .ok (.iconst 0, 1) := by decide +kernel
theorem dX7_init_28 : decode cX7_init 28 = .ok (.putfield 19, 3) := by decide +kernel
theorem dX7_init_31 : decode cX7_init 31 = .ok (.aload_n 0, 1) := by decide +kernel
theorem dX7_init_32 : decode cX7_init 32 = .ok (.new 23, 3) := by decide +kernel
theorem dX7_init_35 : decode cX7_init 35 = .ok (.dup, 1) := by decide +kernel
theorem dX7_init_36 : decode cX7_init 36 = .ok (.invokespecial 25, 3) := by decide +kernel
theorem dX7_init_39 : decode cX7_init 39 = .ok (.putfield 26, 3) := by decide +kernel
theorem dX7_init_42 : decode cX7_init 42 = .ok (.aload_n 0, 1) := by decide +kernel
theorem dX7_init_43 : decode cX7_init 43 = .ok (.bipush 6, 2) := by decide +kernel
theorem dX7_init_45 : decode cX7_init 45 = .ok (.anewarray 30, 3) := by decide +kernel
theorem dX7_init_48 : decode cX7_init 48 = .ok (.putfield 32, 3) := by decide +kernel
theorem dX7_init_51 : decode cX7_init 51 = .ok (.aload_n 0, 1) := by decide +kernel
theorem dX7_init_52 : decode cX7_init 52 = .ok (.iconst 0, 1) := by decide +kernel
theorem dX7_init_53 : decode cX7_init 53 = .ok (.putfield 36, 3) := by decide +kernel
theorem dX7_init_56 : decode cX7_init 56 = .ok (.aload_n 0, 1) := by decide +kernel
theorem dX7_init_57 : decode cX7_init 57 = .ok (.new 40, 3) := by decide +kernel
theorem dX7_init_60 : decode cX7_init 60 = .ok (.dup, 1) := by decide +kernel
theorem dX7_init_61 : decode cX7_init 61 = .ok (.invokespecial 42, 3) := by decide +kernel
theorem dX7_init_64 : decode cX7_init 64 = .ok (.putfield 43, 3) := by decide +kernel
theorem dX7_init_67 : decode cX7_init 67 = .ok (.aload_n 0, 1) := by decide +kernel
theorem dX7_init_68 : decode cX7_init 68 = .ok (.iconst 4, 1) := by decide +kernel
theorem dX7_init_69 : decode cX7_init 69 = .ok (.anewarray 47, 3) := by decide +kernel
theorem dX7_init_72 : decode cX7_init 72 = .ok (.putfield 49, 3) := by decide +kernel
theorem dX7_init_75 : decode cX7_init 75 = .ok (.iconst 0, 1) := by decide +kernel
theorem dX7_init_76 : decode cX7_init 76 = .ok (.istore_n 1, 1) := by decide +kernel
theorem dX7_init_77 : decode cX7_init 77 = .ok (.iload_n 1, 1) := by decide +kernel
theorem dX7_init_78 : decode cX7_init 78 = .ok (.bipush 6, 2) := by decide +kernel
theorem dX7_init_80 : decode cX7_init 80 = .ok (.if_icmp .ge 22, 3) := by decide +kernel
theorem dX7_init_83 : decode cX7_init 83 = .ok (.aload_n 0, 1) := by decide +kernel
theorem dX7_init_84 : decode cX7_init 84 = .ok (.getfield 32, 3) := by decide +kernel
theorem dX7_init_87 : decode cX7_init 87 = .ok (.iload_n 1, 1) := by decide +kernel
theorem dX7_init_88 : decode cX7_init 88 = .ok (.new 30, 3) := by decide +kernel
theorem dX7_init_91 : decode cX7_init 91 = .ok (.dup, 1) := by decide +kernel
theorem dX7_init_92 : decode cX7_init 92 = .ok (.invokespecial 53, 3) := by decide +kernel
theorem dX7_init_95 : decode cX7_init 95 = .ok (.aastore, 1) := by decide +kernel
theorem dX7_init_96 : decode cX7_init 96 = .ok (.iinc 1 1, 3) := by decide +kernel
theorem dX7_init_99 : decode cX7_init 99 = .ok (.goto (-22), 3) := by decide +kernel
theorem dX7_init_102 : decode cX7_init 102 = .ok (.iconst 0, 1) := by decide +kernel
theorem dX7_init_103 : decode cX7_init 103 = .ok (.istore_n 1, 1) := by decide +kernel
theorem dX7_init_104 : decode cX7_init 104 = .ok (.iload_n 1, 1) := by decide +kernel
theorem dX7_init_105 : decode cX7_init 105 = .ok (.iconst 4, 1) := by decide +kernel
theorem dX7_init_106 : decode cX7_init 106 = .ok (.if_icmp .ge 22, 3) := by decide +kernel
theorem dX7_init_109 : decode cX7_init 109 = .ok (.aload_n 0, 1) := by decide +kernel
theorem dX7_init_110 : decode cX7_init 110 = .ok (.getfield 49, 3) := by decide +kernel
theorem dX7_init_113 : decode cX7_init 113 = .ok (.iload_n 1, 1) := by decide +kernel
theorem dX7_init_114 : decode cX7_init 114 = .ok (.new 47, 3) := by decide +kernel
theorem dX7_init_117 : decode cX7_init 117 = .ok (.dup, 1) := by decide +kernel
theorem dX7_init_118 : decode cX7_init 118 = .ok (.invokespecial 54, 3) := by decide +kernel
theorem dX7_init_121 : decode cX7_init 121 = .ok (.aastore, 1) := by decide +kernel
theorem dX7_init_122 : decode cX7_init 122 = .ok (.iinc 1 1, 3) := by decide +kernel
theorem dX7_init_125 : decode cX7_init 125 = .ok (.goto (-21), 3) := by decide +kernel
theorem dX7_init_128 : decode cX7_init 128 = .ok (.iconst 0, 1) := by decide +kernel
theorem dX7_init_129 : decode cX7_init 129 = .ok (.istore_n 1, 1) := by decide +kernel
theorem dX7_init_130 : decode cX7_init 130 = .ok (.iload_n 1, 1) := by decide +kernel
theorem dX7_init_131 : decode cX7_init 131 = .ok (.ldc 55, 2) := by decide +kernel
theorem dX7_init_133 : decode cX7_init 133 = .ok (.invokevirtual 57, 3) := by decide +kernel
theorem dX7_init_136 : decode cX7_init 136 = .ok (.if_icmp .ge 23, 3) := by decide +kernel
theorem dX7_init_139 : decode cX7_init 139 = .ok (.aload_n 0, 1) := by decide +kernel
theorem dX7_init_140 : decode cX7_init 140 = .ok (.getfield 26, 3) := by decide +kernel
theorem dX7_init_143 : decode cX7_init 143 = .ok (.ldc 55, 2) := by decide +kernel
theorem dX7_init_145 : decode cX7_init 145 = .ok (.iload_n 1, 1) := by decide +kernel
theorem dX7_init_146 : decode cX7_init 146 = .ok (.invokevirtual 63, 3) := by decide +kernel
theorem dX7_init_149 : decode cX7_init 149 = .ok (.invokevirtual 67, 3) := by decide +kernel
theorem dX7_init_152 : decode cX7_init 152 = .ok (.pop, 1) := by decide +kernel
theorem dX7_init_153 : decode cX7_init 153 = .ok (.iinc 1 1, 3) := by decide +kernel
theorem dX7_init_156 : decode cX7_init 156 = .ok (.goto (-26), 3) := by decide +kernel
theorem dX7_init_159 : decode cX7_init 159 = .ok (.aload_n 0, 1) := by decide +kernel
theorem dX7_init_160 : decode cX7_init 160 = .ok (.invokevirtual 71, 3) := by decide +kernel
theorem dX7_init_163 : decode cX7_init 163 = .ok (.pop, 1) := by decide +kernel
theorem dX7_init_164 : decode cX7_init 164 = .ok (.return_, 1) := by decide +kernel
theorem dX7_floor_0 : decode cX7_floor 0 = .ok (.iload_n 1, 1) := by decide +kernel
theorem dX7_floor_1 : decode cX7_floor 1 = .ok (.iconst 0, 1) := by decide +kernel
theorem dX7_floor_2 : decode cX7_floor 2 = .ok (.bipush 63, 2) := by decide +kernel
theorem dX7_floor_4 : decode cX7_floor 4 = .ok (.invokestatic 74, 3) := by decide +kernel
theorem dX7_floor_7 : decode cX7_floor 7 = .ok (.ifCond .eq 13, 3) := by decide +kernel
theorem dX7_floor_10 : decode cX7_floor 10 = .ok (.iload_n 2, 1) := by decide +kernel
theorem dX7_floor_11 : decode cX7_floor 11 = .ok (.iconst 0, 1) := by decide +kernel
theorem dX7_floor_12 : decode cX7_floor 12 = .ok (.bipush 99, 2) := by decide +kernel
theorem dX7_floor_14 : decode cX7_floor 14 = .ok (.invokestatic 74, 3) := by decide +kernel
theorem dX7_floor_17 : decode cX7_floor 17 = .ok (.ifCond .ne 6, 3) := by decide +kernel
theorem dX7_floor_20 : decode cX7_floor 20 = .ok (.bipush (-2), 2) := by decide +kernel
theorem dX7_floor_22 : decode cX7_floor 22 = .ok (.ireturn, 1) := by decide +kernel
theorem dX7_floor_23 : decode cX7_floor 23 = .ok (.aload_n 0, 1) := by decide +kernel
theorem dX7_floor_24 : decode cX7_floor 24 = .ok (.getfield 10, 3) := by decide +kernel
theorem dX7_floor_27 : decode cX7_floor 27 = .ok (.getfield 78, 3) := by decide +kernel
theorem dX7_floor_30 : decode cX7_floor 30 = .ok (.iload_n 1, 1) := by decide +kernel
theorem dX7_floor_31 : decode cX7_floor 31 = .ok (.iaload, 1) := by decide +kernel
theorem dX7_floor_32 : decode cX7_floor 32 = .ok (.istore_n 3, 1) := by decide +kernel
theorem dX7_floor_33 : decode cX7_floor 33 = .ok (.aload_n 0, 1) := by decide +kernel
theorem dX7_floor_34 : decode cX7_floor 34 = .ok (.getfield 10, 3) := by decide +kernel
theorem dX7_floor_37 : decode cX7_floor 37 = .ok (.getfield 78, 3) := by decide +kernel
theorem dX7_floor_40 : decode cX7_floor 40 = .ok (.iload_n 1, 1) := by decide +kernel
theorem dX7_floor_41 : decode cX7_floor 41 = .ok (.iload_n 2, 1) := by decide +kernel
theorem dX7_floor_42 : decode cX7_floor 42 = .ok (.iastore, 1) := by decide +kernel
theorem dX7_floor_43 : decode cX7_floor 43 = .ok (.iload_n 3, 1) := by decide +kernel
theorem dX7_floor_44 : decode cX7_floor 44 = .ok (.ireturn, 1) := by decide +kernel
theorem dX7_wave_0 : decode cX7_wave 0 = .ok (.iload_n 1, 1) := by decide +kernel
theorem dX7_wave_1 : decode cX7_wave 1 = .ok (.iconst 0, 1) := by decide +kernel
theorem dX7_wave_2 : decode cX7_wave 2 = .ok (.bipush 99, 2) := by decide +kernel
theorem dX7_wave_4 : decode cX7_wave 4 = .ok (.invokestatic 74, 3) := by decide +kernel
theorem dX7_wave_7 : decode cX7_wave 7 = .ok (.ifCond .eq 23, 3) := by decide +kernel
theorem dX7_wave_10 : decode cX7_wave 10 = .ok (.iload_n 2, 1) := by decide +kernel
theorem dX7_wave_11 : decode cX7_wave 11 = .ok (.iconst 0, 1) := by decide +kernel
theorem dX7_wave_12 : decode cX7_wave 12 = .ok (.bipush 99, 2) := by decide +kernel
theorem dX7_wave_14 : decode cX7_wave 14 = .ok (.invokestatic 74, 3) := by decide +kernel
theorem dX7_wave_17 : decode cX7_wave 17 = .ok (.ifCond .eq 13, 3) := by decide +kernel
theorem dX7_wave_20 : decode cX7_wave 20 = .ok (.iload_n 3, 1) := by decide +kernel
theorem dX7_wave_21 : decode cX7_wave 21 = .ok (.iconst 0, 1) := by decide +kernel
theorem dX7_wave_22 : decode cX7_wave 22 = .ok (.bipush 99, 2) := by decide +kernel
theorem dX7_wave_24 : decode cX7_wave 24 = .ok (.invokestatic 74, 3) := by decide +kernel
theorem dX7_wave_27 : decode cX7_wave 27 = .ok (.ifCond .ne 6, 3) := by decide +kernel
theorem dX7_wave_30 : decode cX7_wave 30 = .ok (.bipush (-2), 2) := by decide +kernel
theorem dX7_wave_32 : decode cX7_wave 32 = .ok (.ireturn, 1) := by decide +kernel
theorem dX7_wave_33 : decode cX7_wave 33 = .ok (.iconst 0, 1) := by decide +kernel
theorem dX7_wave_34 : decode cX7_wave 34 = .ok (.istore 4, 2) := by decide +kernel
theorem dX7_wave_36 : decode cX7_wave 36 = .ok (.iconst 0, 1) := by decide +kernel
theorem dX7_wave_37 : decode cX7_wave 37 = .ok (.istore 5, 2) := by decide +kernel
theorem dX7_wave_39 : decode cX7_wave 39 = .ok (.iload 5, 2) := by decide +kernel
theorem dX7_wave_41 : decode cX7_wave 41 = .ok (.bipush 64, 2) := by decide +kernel
theorem dX7_wave_43 : decode cX7_wave 43 = .ok (.if_icmp .ge 68, 3) := by decide +kernel
theorem dX7_wave_46 : decode cX7_wave 46 = .ok (.iload 5, 2) := by decide +kernel
theorem dX7_wave_48 : decode cX7_wave 48 = .ok (.bipush 8, 2) := by decide +kernel
theorem dX7_wave_50 : decode cX7_wave 50 = .ok (.idiv, 1) := by decide +kernel
theorem dX7_wave_51 : decode cX7_wave 51 = .ok (.istore 6, 2) := by decide +kernel
theorem dX7_wave_53 : decode cX7_wave 53 = .ok (.iload 5, 2) := by decide +kernel
theorem dX7_wave_55 : decode cX7_wave 55 = .ok (.bipush 8, 2) := by decide +kernel
theorem dX7_wave_57 : decode cX7_wave 57 = .ok (.irem, 1) := by decide +kernel
theorem dX7_wave_58 : decode cX7_wave 58 = .ok (.istore 7, 2) := by decide +kernel
theorem dX7_wave_60 : decode cX7_wave 60 = .ok (.aload_n 0, 1) := by decide +kernel
theorem dX7_wave_61 : decode cX7_wave 61 = .ok (.getfield 10, 3) := by decide +kernel
theorem dX7_wave_64 : decode cX7_wave 64 = .ok (.getfield 78, 3) := by decide +kernel
theorem dX7_wave_67 : decode cX7_wave 67 = .ok (.iload 5, 2) := by decide +kernel
theorem dX7_wave_69 : decode cX7_wave 69 = .ok (.iload 6, 2) := by decide +kernel
theorem dX7_wave_71 : decode cX7_wave 71 = .ok (.iload_n 1, 1) := by decide +kernel
theorem dX7_wave_72 : decode cX7_wave 72 = .ok (.imul, 1) := by decide +kernel
theorem dX7_wave_73 : decode cX7_wave 73 = .ok (.iload 7, 2) := by decide +kernel
theorem dX7_wave_75 : decode cX7_wave 75 = .ok (.iload_n 2, 1) := by decide +kernel
theorem dX7_wave_76 : decode cX7_wave 76 = .ok (.imul, 1) := by decide +kernel
theorem dX7_wave_77 : decode cX7_wave 77 = .ok (.iadd, 1) := by decide +kernel
theorem dX7_wave_78 : decode cX7_wave 78 = .ok (.iload 6, 2) := by decide +kernel
theorem dX7_wave_80 : decode cX7_wave 80 = .ok (.iload 7, 2) := by decide +kernel
theorem dX7_wave_82 : decode cX7_wave 82 = .ok (.imul, 1) := by decide +kernel
theorem dX7_wave_83 : decode cX7_wave 83 = .ok (.iload_n 3, 1) := by decide +kernel
theorem dX7_wave_84 : decode cX7_wave 84 = .ok (.imul, 1) := by decide +kernel
theorem dX7_wave_85 : decode cX7_wave 85 = .ok (.iadd, 1) := by decide +kernel
theorem dX7_wave_86 : decode cX7_wave 86 = .ok (.bipush 100, 2) := by decide +kernel
theorem dX7_wave_88 : decode cX7_wave 88 = .ok (.irem, 1) := by decide +kernel
theorem dX7_wave_89 : decode cX7_wave 89 = .ok (.iastore, 1) := by decide +kernel
theorem dX7_wave_90 : decode cX7_wave 90 = .ok (.iload 4, 2) := by decide +kernel
theorem dX7_wave_92 : decode cX7_wave 92 = .ok (.aload_n 0, 1) := by decide +kernel
theorem dX7_wave_93 : decode cX7_wave 93 = .ok (.getfield 10, 3) := by decide +kernel
theorem dX7_wave_96 : decode cX7_wave 96 = .ok (.getfield 78, 3) := by decide +kernel
theorem dX7_wave_99 : decode cX7_wave 99 = .ok (.iload 5, 2) := by decide +kernel
theorem dX7_wave_101 : decode cX7_wave 101 = .ok (.iaload, 1) := by decide +kernel
theorem dX7_wave_102 : decode cX7_wave 102 = .ok (.iadd, 1) := by decide +kernel
theorem dX7_wave_103 : decode cX7_wave 103 = .ok (.istore 4, 2) := by decide +kernel
theorem dX7_wave_105 : decode cX7_wave 105 = .ok (.iinc 5 1, 3) := by decide +kernel
theorem dX7_wave_108 : decode cX7_wave 108 = .ok (.goto (-69), 3) := by decide +kernel
theorem dX7_wave_111 : decode cX7_wave 111 = .ok (.iload 4, 2) := by decide +kernel
theorem dX7_wave_113 : decode cX7_wave 113 = .ok (.ireturn, 1) := by decide +kernel
theorem dX7_leg_0 : decode cX7_leg 0 = .ok (.iload_n 1, 1) := by decide +kernel
theorem dX7_leg_1 : decode cX7_leg 1 = .ok (.invokestatic 82, 3) := by decide +kernel
theorem dX7_leg_4 : decode cX7_leg 4 = .ok (.ifCond .eq 20, 3) := by decide +kernel
theorem dX7_leg_7 : decode cX7_leg 7 = .ok (.iload_n 2, 1) := by decide +kernel
theorem dX7_leg_8 : decode cX7_leg 8 = .ok (.invokestatic 85, 3) := by decide +kernel
theorem dX7_leg_11 : decode cX7_leg 11 = .ok (.ifCond .eq 13, 3) := by decide +kernel
theorem dX7_leg_14 : decode cX7_leg 14 = .ok (.iload_n 3, 1) := by decide +kernel
theorem dX7_leg_15 : decode cX7_leg 15 = .ok (.iconst 0, 1) := by decide +kernel
theorem dX7_leg_16 : decode cX7_leg 16 = .ok (.bipush 9, 2) := by decide +kernel
theorem dX7_leg_18 : decode cX7_leg 18 = .ok (.invokestatic 74, 3) := by decide +kernel
theorem dX7_leg_21 : decode cX7_leg 21 = .ok (.ifCond .ne 6, 3) := by decide +kernel
theorem dX7_leg_24 : decode cX7_leg 24 = .ok (.bipush (-2), 2) := by decide +kernel
theorem dX7_leg_26 : decode cX7_leg 26 = .ok (.ireturn, 1) := by decide +kernel
theorem dX7_leg_27 : decode cX7_leg 27 = .ok (.aload_n 0, 1) := by decide +kernel
theorem dX7_leg_28 : decode cX7_leg 28 = .ok (.getfield 10, 3) := by decide +kernel
theorem dX7_leg_31 : decode cX7_leg 31 = .ok (.getfield 88, 3) := by decide +kernel
theorem dX7_leg_34 : decode cX7_leg 34 = .ok (.iload_n 1, 1) := by decide +kernel
theorem dX7_leg_35 : decode cX7_leg 35 = .ok (.aaload, 1) := by decide +kernel
theorem dX7_leg_36 : decode cX7_leg 36 = .ok (.getfield 92, 3) := by decide +kernel
theorem dX7_leg_39 : decode cX7_leg 39 = .ok (.istore 4, 2) := by decide +kernel
theorem dX7_leg_41 : decode cX7_leg 41 = .ok (.aload_n 0, 1) := by decide +kernel
theorem dX7_leg_42 : decode cX7_leg 42 = .ok (.getfield 10, 3) := by decide +kernel
theorem dX7_leg_45 : decode cX7_leg 45 = .ok (.getfield 88, 3) := by decide +kernel
theorem dX7_leg_48 : decode cX7_leg 48 = .ok (.iload_n 1, 1) := by decide +kernel
theorem dX7_leg_49 : decode cX7_leg 49 = .ok (.aaload, 1) := by decide +kernel
theorem dX7_leg_50 : decode cX7_leg 50 = .ok (.iload_n 2, 1) := by decide +kernel
theorem dX7_leg_51 : decode cX7_leg 51 = .ok (.putfield 92, 3) := by decide +kernel
theorem dX7_leg_54 : decode cX7_leg 54 = .ok (.aload_n 0, 1) := by decide +kernel
theorem dX7_leg_55 : decode cX7_leg 55 = .ok (.getfield 10, 3) := by decide +kernel
theorem dX7_leg_58 : decode cX7_leg 58 = .ok (.getfield 88, 3) := by decide +kernel
theorem dX7_leg_61 : decode cX7_leg 61 = .ok (.iload_n 1, 1) := by decide +kernel
theorem dX7_leg_62 : decode cX7_leg 62 = .ok (.aaload, 1) := by decide +kernel
theorem dX7_leg_63 : decode cX7_leg 63 = .ok (.iload_n 3, 1) := by decide +kernel
theorem dX7_leg_64 : decode cX7_leg 64 = .ok (.putfield 97, 3) := by decide +kernel
theorem dX7_leg_67 : decode cX7_leg 67 = .ok (.iload 4, 2) := by decide +kernel
theorem dX7_leg_69 : decode cX7_leg 69 = .ok (.ireturn, 1) := by decide +kernel
theorem dX7_set_0 : decode cX7_set 0 = .ok (.iload_n 1, 1) := by decide +kernel
theorem dX7_set_1 : decode cX7_set 1 = .ok (.tableswitch 54 0 5 #[39, 39, 47, 47, 47, 47], 39) := by decide +kernel
theorem dX7_set_40 : decode cX7_set 40 = .ok (.aload_n 0, 1) := by decide +kernel
theorem dX7_set_41 : decode cX7_set 41 = .ok (.iload_n 1, 1) := by decide +kernel
theorem dX7_set_42 : decode cX7_set 42 = .ok (.iload_n 2, 1) := by decide +kernel
theorem dX7_set_43 : decode cX7_set 43 = .ok (.iload_n 3, 1) := by decide +kernel
theorem dX7_set_44 : decode cX7_set 44 = .ok (.invokevirtual 100, 3) := by decide +kernel
theorem dX7_set_47 : decode cX7_set 47 = .ok (.ireturn, 1) := by decide +kernel
theorem dX7_set_48 : decode cX7_set 48 = .ok (.aload_n 0, 1) := by decide +kernel
theorem dX7_set_49 : decode cX7_set 49 = .ok (.iload_n 1, 1) := by decide +kernel
theorem dX7_set_50 : decode cX7_set 50 = .ok (.iload_n 3, 1) := by decide +kernel
theorem dX7_set_51 : decode cX7_set 51 = .ok (.invokevirtual 104, 3) := by decide +kernel
theorem dX7_set_54 : decode cX7_set 54 = .ok (.ireturn, 1) := by decide +kernel
theorem dX7_set_55 : decode cX7_set 55 = .ok (.bipush (-2), 2) := by decide +kernel
theorem dX7_set_57 : decode cX7_set 57 = .ok (.ireturn, 1) := by decide +kernel
theorem dX7_told_0 : decode cX7_told 0 = .ok (.iload_n 2, 1) := by decide +kernel
theorem dX7_told_1 : decode cX7_told 1 = .ok (.bipush 6, 2) := by decide +kernel
theorem dX7_told_3 : decode cX7_told 3 = .ok (.if_icmp .ne 28, 3) := by decide +kernel
theorem dX7_told_6 : decode cX7_told 6 = .ok (.iload_n 1, 1) := by decide +kernel
theorem dX7_told_7 : decode cX7_told 7 = .ok (.iconst 0, 1) := by decide +kernel
theorem dX7_told_8 : decode cX7_told 8 = .ok (.bipush 63, 2) := by decide +kernel
theorem dX7_told_10 : decode cX7_told 10 = .ok (.invokestatic 74, 3) := by decide +kernel
theorem dX7_told_13 : decode cX7_told 13 = .ok (.ifCond .eq 15, 3) := by decide +kernel
theorem dX7_told_16 : decode cX7_told 16 = .ok (.aload_n 0, 1) := by decide +kernel
theorem dX7_told_17 : decode cX7_told 17 = .ok (.getfield 10, 3) := by decide +kernel
theorem dX7_told_20 : decode cX7_told 20 = .ok (.getfield 78, 3) := by decide +kernel
theorem dX7_told_23 : decode cX7_told 23 = .ok (.iload_n 1, 1) := by decide +kernel
theorem dX7_told_24 : decode cX7_told 24 = .ok (.iaload, 1) := by decide +kernel
theorem dX7_told_25 : decode cX7_told 25 = .ok (.goto 5, 3) := by decide +kernel
theorem dX7_told_28 : decode cX7_told 28 = .ok (.bipush (-2), 2) := by decide +kernel
theorem dX7_told_30 : decode cX7_told 30 = .ok (.ireturn, 1) := by decide +kernel
theorem dX7_told_31 : decode cX7_told 31 = .ok (.iload_n 1, 1) := by decide +kernel
theorem dX7_told_32 : decode cX7_told 32 = .ok (.invokestatic 82, 3) := by decide +kernel
theorem dX7_told_35 : decode cX7_told 35 = .ok (.ifCond .ne 6, 3) := by decide +kernel
theorem dX7_told_38 : decode cX7_told 38 = .ok (.bipush (-2), 2) := by decide +kernel
theorem dX7_told_40 : decode cX7_told 40 = .ok (.ireturn, 1) := by decide +kernel
theorem dX7_told_41 : decode cX7_told 41 = .ok (.iload_n 2, 1) := by decide +kernel
theorem dX7_told_42 : decode cX7_told 42 = .ok (.tableswitch 143 0 5 #[38, 51, 64, 77, 97, 120], 38) := by decide +kernel
theorem dX7_told_80 : decode cX7_told 80 = .ok (.aload_n 0, 1) := by decide +kernel
theorem dX7_told_81 : decode cX7_told 81 = .ok (.getfield 10, 3) := by decide +kernel
theorem dX7_told_84 : decode cX7_told 84 = .ok (.getfield 88, 3) := by decide +kernel
theorem dX7_told_87 : decode cX7_told 87 = .ok (.iload_n 1, 1) := by decide +kernel
theorem dX7_told_88 : decode cX7_told 88 = .ok (.aaload, 1) := by decide +kernel
theorem dX7_told_89 : decode cX7_told 89 = .ok (.getfield 92, 3) := by decide +kernel
theorem dX7_told_92 : decode cX7_told 92 = .ok (.ireturn, 1) := by decide +kernel
theorem dX7_told_93 : decode cX7_told 93 = .ok (.aload_n 0, 1) := by decide +kernel
theorem dX7_told_94 : decode cX7_told 94 = .ok (.getfield 10, 3) := by decide +kernel
theorem dX7_told_97 : decode cX7_told 97 = .ok (.getfield 88, 3) := by decide +kernel
theorem dX7_told_100 : decode cX7_told 100 = .ok (.iload_n 1, 1) := by decide +kernel
theorem dX7_told_101 : decode cX7_told 101 = .ok (.aaload, 1) := by decide +kernel
theorem dX7_told_102 : decode cX7_told 102 = .ok (.getfield 108, 3) := by decide +kernel
theorem dX7_told_105 : decode cX7_told 105 = .ok (.ireturn, 1) := by decide +kernel
theorem dX7_told_106 : decode cX7_told 106 = .ok (.aload_n 0, 1) := by decide +kernel
theorem dX7_told_107 : decode cX7_told 107 = .ok (.getfield 10, 3) := by decide +kernel
theorem dX7_told_110 : decode cX7_told 110 = .ok (.getfield 88, 3) := by decide +kernel
theorem dX7_told_113 : decode cX7_told 113 = .ok (.iload_n 1, 1) := by decide +kernel
theorem dX7_told_114 : decode cX7_told 114 = .ok (.aaload, 1) := by decide +kernel
theorem dX7_told_115 : decode cX7_told 115 = .ok (.getfield 97, 3) := by decide +kernel
theorem dX7_told_118 : decode cX7_told 118 = .ok (.ireturn, 1) := by decide +kernel
theorem dX7_told_119 : decode cX7_told 119 = .ok (.aload_n 0, 1) := by decide +kernel
theorem dX7_told_120 : decode cX7_told 120 = .ok (.getfield 10, 3) := by decide +kernel
theorem dX7_told_123 : decode cX7_told 123 = .ok (.getfield 88, 3) := by decide +kernel
theorem dX7_told_126 : decode cX7_told 126 = .ok (.iload_n 1, 1) := by decide +kernel
theorem dX7_told_127 : decode cX7_told 127 = .ok (.aaload, 1) := by decide +kernel
theorem dX7_told_128 : decode cX7_told 128 = .ok (.aload_n 0, 1) := by decide +kernel
theorem dX7_told_129 : decode cX7_told 129 = .ok (.getfield 10, 3) := by decide +kernel
theorem dX7_told_132 : decode cX7_told 132 = .ok (.getfield 110, 3) := by decide +kernel
theorem dX7_told_135 : decode cX7_told 135 = .ok (.invokevirtual 113, 3) := by decide +kernel
theorem dX7_told_138 : decode cX7_told 138 = .ok (.ireturn, 1) := by decide +kernel
theorem dX7_told_139 : decode cX7_told 139 = .ok (.aload_n 0, 1) := by decide +kernel
theorem dX7_told_140 : decode cX7_told 140 = .ok (.getfield 10, 3) := by decide +kernel
theorem dX7_told_143 : decode cX7_told 143 = .ok (.iload_n 1, 1) := by decide +kernel
theorem dX7_told_144 : decode cX7_told 144 = .ok (.aload_n 0, 1) := by decide +kernel
theorem dX7_told_145 : decode cX7_told 145 = .ok (.getfield 10, 3) := by decide +kernel
theorem dX7_told_148 : decode cX7_told 148 = .ok (.getfield 117, 3) := by decide +kernel
theorem dX7_told_151 : decode cX7_told 151 = .ok (.aload_n 0, 1) := by decide +kernel
theorem dX7_told_152 : decode cX7_told 152 = .ok (.getfield 10, 3) := by decide +kernel
theorem dX7_told_155 : decode cX7_told 155 = .ok (.getfield 120, 3) := by decide +kernel
theorem dX7_told_158 : decode cX7_told 158 = .ok (.invokevirtual 123, 3) := by decide +kernel
theorem dX7_told_161 : decode cX7_told 161 = .ok (.ireturn, 1) := by decide +kernel
theorem dX7_told_162 : decode cX7_told 162 = .ok (.aload_n 0, 1) := by decide +kernel
theorem dX7_told_163 : decode cX7_told 163 = .ok (.getfield 10, 3) := by decide +kernel
theorem dX7_told_166 : decode cX7_told 166 = .ok (.iload_n 1, 1) := by decide +kernel
theorem dX7_told_167 : decode cX7_told 167 = .ok (.aload_n 0, 1) := by decide +kernel
theorem dX7_told_168 : decode cX7_told 168 = .ok (.getfield 10, 3) := by decide +kernel
theorem dX7_told_171 : decode cX7_told 171 = .ok (.getfield 117, 3) := by decide +kernel
theorem dX7_told_174 : decode cX7_told 174 = .ok (.aload_n 0, 1) := by decide +kernel
theorem dX7_told_175 : decode cX7_told 175 = .ok (.getfield 10, 3) := by decide +kernel
theorem dX7_told_178 : decode cX7_told 178 = .ok (.getfield 120, 3) := by decide +kernel
theorem dX7_told_181 : decode cX7_told 181 = .ok (.invokevirtual 126, 3) := by decide +kernel
theorem dX7_told_184 : decode cX7_told 184 = .ok (.ireturn, 1) := by decide +kernel
theorem dX7_told_185 : decode cX7_told 185 = .ok (.bipush (-2), 2) := by decide +kernel
theorem dX7_told_187 : decode cX7_told 187 = .ok (.ireturn, 1) := by decide +kernel
theorem dX7_feed_0 : decode cX7_feed 0 = .ok (.iload_n 1, 1) := by decide +kernel
theorem dX7_feed_1 : decode cX7_feed 1 = .ok (.iconst 0, 1) := by decide +kernel
theorem dX7_feed_2 : decode cX7_feed 2 = .ok (.sipush 255, 3) := by decide +kernel
theorem dX7_feed_5 : decode cX7_feed 5 = .ok (.invokestatic 74, 3) := by decide +kernel
theorem dX7_feed_8 : decode cX7_feed 8 = .ok (.ifCond .ne 6, 3) := by decide +kernel
theorem dX7_feed_11 : decode cX7_feed 11 = .ok (.bipush (-2), 2) := by decide +kernel
theorem dX7_feed_13 : decode cX7_feed 13 = .ok (.ireturn, 1) := by decide +kernel
theorem dX7_feed_14 : decode cX7_feed 14 = .ok (.aload_n 0, 1) := by decide +kernel
theorem dX7_feed_15 : decode cX7_feed 15 = .ok (.getfield 26, 3) := by decide +kernel
theorem dX7_feed_18 : decode cX7_feed 18 = .ok (.iload_n 1, 1) := by decide +kernel
theorem dX7_feed_19 : decode cX7_feed 19 = .ok (.invokevirtual 67, 3) := by decide +kernel
theorem dX7_feed_22 : decode cX7_feed 22 = .ok (.ifCond .eq 13, 3) := by decide +kernel
theorem dX7_feed_25 : decode cX7_feed 25 = .ok (.aload_n 0, 1) := by decide +kernel
theorem dX7_feed_26 : decode cX7_feed 26 = .ok (.getfield 26, 3) := by decide +kernel
theorem dX7_feed_29 : decode cX7_feed 29 = .ok (.getfield 129, 3) := by decide +kernel
theorem dX7_feed_32 : decode cX7_feed 32 = .ok (.goto 5, 3) := by decide +kernel
theorem dX7_feed_35 : decode cX7_feed 35 = .ok (.bipush (-4), 2) := by decide +kernel
theorem dX7_feed_37 : decode cX7_feed 37 = .ok (.ireturn, 1) := by decide +kernel
theorem dX7_text_0 : decode cX7_text 0 = .ok (.aload_n 0, 1) := by decide +kernel
theorem dX7_text_1 : decode cX7_text 1 = .ok (.getfield 36, 3) := by decide +kernel
theorem dX7_text_4 : decode cX7_text 4 = .ok (.bipush 6, 2) := by decide +kernel
theorem dX7_text_6 : decode cX7_text 6 = .ok (.if_icmp .lt 6, 3) := by decide +kernel
theorem dX7_text_9 : decode cX7_text 9 = .ok (.bipush (-4), 2) := by decide +kernel
theorem dX7_text_11 : decode cX7_text 11 = .ok (.ireturn, 1) := by decide +kernel
theorem dX7_text_12 : decode cX7_text 12 = .ok (.aload_n 0, 1) := by decide +kernel
theorem dX7_text_13 : decode cX7_text 13 = .ok (.getfield 26, 3) := by decide +kernel
theorem dX7_text_16 : decode cX7_text 16 = .ok (.invokevirtual 132, 3) := by decide +kernel
theorem dX7_text_19 : decode cX7_text 19 = .ok (.istore_n 1, 1) := by decide +kernel
theorem dX7_text_20 : decode cX7_text 20 = .ok (.iload_n 1, 1) := by decide +kernel
theorem dX7_text_21 : decode cX7_text 21 = .ok (.iconst (-1), 1) := by decide +kernel
theorem dX7_text_22 : decode cX7_text 22 = .ok (.if_icmp .eq 8, 3) := by decide +kernel
theorem dX7_text_25 : decode cX7_text 25 = .ok (.bipush (-100), 2) := by decide +kernel
theorem dX7_text_27 : decode cX7_text 27 = .ok (.iload_n 1, 1) := by decide +kernel
theorem dX7_text_28 : decode cX7_text 28 = .ok (.isub, 1) := by decide +kernel
theorem dX7_text_29 : decode cX7_text 29 = .ok (.ireturn, 1) := by decide +kernel
theorem dX7_text_30 : decode cX7_text 30 = .ok (.aload_n 0, 1) := by decide +kernel
theorem dX7_text_31 : decode cX7_text 31 = .ok (.getfield 32, 3) := by decide +kernel
theorem dX7_text_34 : decode cX7_text 34 = .ok (.aload_n 0, 1) := by decide +kernel
theorem dX7_text_35 : decode cX7_text 35 = .ok (.getfield 36, 3) := by decide +kernel
theorem dX7_text_38 : decode cX7_text 38 = .ok (.aaload, 1) := by decide +kernel
theorem dX7_text_39 : decode cX7_text 39 = .ok (.aload_n 0, 1) := by decide +kernel
theorem dX7_text_40 : decode cX7_text 40 = .ok (.getfield 26, 3) := by decide +kernel
theorem dX7_text_43 : decode cX7_text 43 = .ok (.getfield 135, 3) := by decide +kernel
theorem dX7_text_46 : decode cX7_text 46 = .ok (.invokevirtual 139, 3) := by decide +kernel
theorem dX7_text_49 : decode cX7_text 49 = .ok (.aload_n 0, 1) := by decide +kernel
theorem dX7_text_50 : decode cX7_text 50 = .ok (.dup, 1) := by decide +kernel
theorem dX7_text_51 : decode cX7_text 51 = .ok (.getfield 36, 3) := by decide +kernel
theorem dX7_text_54 : decode cX7_text 54 = .ok (.iconst 1, 1) := by decide +kernel
theorem dX7_text_55 : decode cX7_text 55 = .ok (.iadd, 1) := by decide +kernel
theorem dX7_text_56 : decode cX7_text 56 = .ok (.putfield 36, 3) := by decide +kernel
theorem dX7_text_59 : decode cX7_text 59 = .ok (.aload_n 0, 1) := by decide +kernel
theorem dX7_text_60 : decode cX7_text 60 = .ok (.getfield 36, 3) := by decide +kernel
theorem dX7_text_63 : decode cX7_text 63 = .ok (.iconst 1, 1) := by decide +kernel
theorem dX7_text_64 : decode cX7_text 64 = .ok (.isub, 1) := by decide +kernel
theorem dX7_text_65 : decode cX7_text 65 = .ok (.ireturn, 1) := by decide +kernel
theorem dX7_force_0 : decode cX7_force 0 = .ok (.iload_n 1, 1) := by decide +kernel
theorem dX7_force_1 : decode cX7_force 1 = .ok (.iconst 0, 1) := by decide +kernel
theorem dX7_force_2 : decode cX7_force 2 = .ok (.aload_n 0, 1) := by decide +kernel
theorem dX7_force_3 : decode cX7_force 3 = .ok (.getfield 36, 3) := by decide +kernel
theorem dX7_force_6 : decode cX7_force 6 = .ok (.iconst 1, 1) := by decide +kernel
theorem dX7_force_7 : decode cX7_force 7 = .ok (.isub, 1) := by decide +kernel
theorem dX7_force_8 : decode cX7_force 8 = .ok (.invokestatic 74, 3) := by decide +kernel
theorem dX7_force_11 : decode cX7_force 11 = .ok (.ifCond .ne 6, 3) := by decide +kernel
theorem dX7_force_14 : decode cX7_force 14 = .ok (.bipush (-2), 2) := by decide +kernel
theorem dX7_force_16 : decode cX7_force 16 = .ok (.ireturn, 1) := by decide +kernel
theorem dX7_force_17 : decode cX7_force 17 = .ok (.aload_n 0, 1) := by decide +kernel
theorem dX7_force_18 : decode cX7_force 18 = .ok (.getfield 10, 3) := by decide +kernel
theorem dX7_force_21 : decode cX7_force 21 = .ok (.getfield 143, 3) := by decide +kernel
theorem dX7_force_24 : decode cX7_force 24 = .ok (.istore_n 2, 1) := by decide +kernel
theorem dX7_force_25 : decode cX7_force 25 = .ok (.aload_n 0, 1) := by decide +kernel
theorem dX7_force_26 : decode cX7_force 26 = .ok (.getfield 10, 3) := by decide +kernel
theorem dX7_force_29 : decode cX7_force 29 = .ok (.iload_n 1, 1) := by decide +kernel
theorem dX7_force_30 : decode cX7_force 30 = .ok (.putfield 143, 3) := by decide +kernel
theorem dX7_force_33 : decode cX7_force 33 = .ok (.iload_n 2, 1) := by decide +kernel
theorem dX7_force_34 : decode cX7_force 34 = .ok (.ireturn, 1) := by decide +kernel
theorem dX7_stands_0 : decode cX7_stands 0 = .ok (.aload_n 0, 1) := by decide +kernel
theorem dX7_stands_1 : decode cX7_stands 1 = .ok (.aload_n 0, 1) := by decide +kernel
theorem dX7_stands_2 : decode cX7_stands 2 = .ok (.getfield 10, 3) := by decide +kernel
theorem dX7_stands_5 : decode cX7_stands 5 = .ok (.getfield 117, 3) := by decide +kernel
theorem dX7_stands_8 : decode cX7_stands 8 = .ok (.aload_n 0, 1) := by decide +kernel
theorem dX7_stands_9 : decode cX7_stands 9 = .ok (.getfield 10, 3) := by decide +kernel
theorem dX7_stands_12 : decode cX7_stands 12 = .ok (.getfield 120, 3) := by decide +kernel
theorem dX7_stands_15 : decode cX7_stands 15 = .ok (.iload_n 1, 1) := by decide +kernel
theorem dX7_stands_16 : decode cX7_stands 16 = .ok (.invokevirtual 145, 3) := by decide +kernel
theorem dX7_stands_19 : decode cX7_stands 19 = .ok (.ireturn, 1) := by decide +kernel
theorem dX7_standsAt_0 : decode cX7_standsAt 0 = .ok (.iload_n 1, 1) := by decide +kernel
theorem dX7_standsAt_1 : decode cX7_standsAt 1 = .ok (.iconst 0, 1) := by decide +kernel
theorem dX7_standsAt_2 : decode cX7_standsAt 2 = .ok (.bipush 63, 2) := by decide +kernel
theorem dX7_standsAt_4 : decode cX7_standsAt 4 = .ok (.invokestatic 74, 3) := by decide +kernel
theorem dX7_standsAt_7 : decode cX7_standsAt 7 = .ok (.ifCond .eq 13, 3) := by decide +kernel
theorem dX7_standsAt_10 : decode cX7_standsAt 10 = .ok (.iload_n 2, 1) := by decide +kernel
theorem dX7_standsAt_11 : decode cX7_standsAt 11 = .ok (.iconst 0, 1) := by decide +kernel
theorem dX7_standsAt_12 : decode cX7_standsAt 12 = .ok (.bipush 7, 2) := by decide +kernel
theorem dX7_standsAt_14 : decode cX7_standsAt 14 = .ok (.invokestatic 74, 3) := by decide +kernel
theorem dX7_standsAt_17 : decode cX7_standsAt 17 = .ok (.ifCond .ne 6, 3) := by decide +kernel
theorem dX7_standsAt_20 : decode cX7_standsAt 20 = .ok (.ldc 148, 2) := by decide +kernel
theorem dX7_standsAt_22 : decode cX7_standsAt 22 = .ok (.ireturn, 1) := by decide +kernel
theorem dX7_standsAt_23 : decode cX7_standsAt 23 = .ok (.aload_n 0, 1) := by decide +kernel
theorem dX7_standsAt_24 : decode cX7_standsAt 24 = .ok (.iload_n 1, 1) := by decide +kernel
theorem dX7_standsAt_25 : decode cX7_standsAt 25 = .ok (.iload_n 2, 1) := by decide +kernel
theorem dX7_standsAt_26 : decode cX7_standsAt 26 = .ok (.iload_n 3, 1) := by decide +kernel
theorem dX7_standsAt_27 : decode cX7_standsAt 27 = .ok (.invokevirtual 145, 3) := by decide +kernel
theorem dX7_standsAt_30 : decode cX7_standsAt 30 = .ok (.ireturn, 1) := by decide +kernel
theorem dX7_firm_0 : decode cX7_firm 0 = .ok (.iconst 0, 1) := by decide +kernel
theorem dX7_firm_1 : decode cX7_firm 1 = .ok (.istore_n 1, 1) := by decide +kernel
theorem dX7_firm_2 : decode cX7_firm 2 = .ok (.iconst 0, 1) := by decide +kernel
theorem dX7_firm_3 : decode cX7_firm 3 = .ok (.istore_n 2, 1) := by decide +kernel
theorem dX7_firm_4 : decode cX7_firm 4 = .ok (.iload_n 2, 1) := by decide +kernel
theorem dX7_firm_5 : decode cX7_firm 5 = .ok (.bipush 8, 2) := by decide +kernel
theorem dX7_firm_7 : decode cX7_firm 7 = .ok (.if_icmp .ge 30, 3) := by decide +kernel
theorem dX7_firm_10 : decode cX7_firm 10 = .ok (.aload_n 0, 1) := by decide +kernel
theorem dX7_firm_11 : decode cX7_firm 11 = .ok (.aload_n 0, 1) := by decide +kernel
theorem dX7_firm_12 : decode cX7_firm 12 = .ok (.getfield 10, 3) := by decide +kernel
theorem dX7_firm_15 : decode cX7_firm 15 = .ok (.getfield 117, 3) := by decide +kernel
theorem dX7_firm_18 : decode cX7_firm 18 = .ok (.iload_n 2, 1) := by decide +kernel
theorem dX7_firm_19 : decode cX7_firm 19 = .ok (.invokevirtual 149, 3) := by decide +kernel
theorem dX7_firm_22 : decode cX7_firm 22 = .ok (.ifCond .eq 9, 3) := by decide +kernel
theorem dX7_firm_25 : decode cX7_firm 25 = .ok (.iload_n 1, 1) := by decide +kernel
theorem dX7_firm_26 : decode cX7_firm 26 = .ok (.iconst 1, 1) := by decide +kernel
theorem dX7_firm_27 : decode cX7_firm 27 = .ok (.iload_n 2, 1) := by decide +kernel
theorem dX7_firm_28 : decode cX7_firm 28 = .ok (.ishl, 1) := by decide +kernel
theorem dX7_firm_29 : decode cX7_firm 29 = .ok (.ior, 1) := by decide +kernel
theorem dX7_firm_30 : decode cX7_firm 30 = .ok (.istore_n 1, 1) := by decide +kernel
theorem dX7_firm_31 : decode cX7_firm 31 = .ok (.iinc 2 1, 3) := by decide +kernel
theorem dX7_firm_34 : decode cX7_firm 34 = .ok (.goto (-30), 3) := by decide +kernel
theorem dX7_firm_37 : decode cX7_firm 37 = .ok (.iload_n 1, 1) := by decide +kernel
theorem dX7_firm_38 : decode cX7_firm 38 = .ok (.ireturn, 1) := by decide +kernel
theorem dX7_fewest_0 : decode cX7_fewest 0 = .ok (.iload_n 1, 1) := by decide +kernel
theorem dX7_fewest_1 : decode cX7_fewest 1 = .ok (.iconst 0, 1) := by decide +kernel
theorem dX7_fewest_2 : decode cX7_fewest 2 = .ok (.iconst 1, 1) := by decide +kernel
theorem dX7_fewest_3 : decode cX7_fewest 3 = .ok (.invokestatic 74, 3) := by decide +kernel
theorem dX7_fewest_6 : decode cX7_fewest 6 = .ok (.ifCond .ne 6, 3) := by decide +kernel
theorem dX7_fewest_9 : decode cX7_fewest 9 = .ok (.bipush (-2), 2) := by decide +kernel
theorem dX7_fewest_11 : decode cX7_fewest 11 = .ok (.ireturn, 1) := by decide +kernel
theorem dX7_fewest_12 : decode cX7_fewest 12 = .ok (.iconst 0, 1) := by decide +kernel
theorem dX7_fewest_13 : decode cX7_fewest 13 = .ok (.istore_n 2, 1) := by decide +kernel
theorem dX7_fewest_14 : decode cX7_fewest 14 = .ok (.iload_n 2, 1) := by decide +kernel
theorem dX7_fewest_15 : decode cX7_fewest 15 = .ok (.iconst 4, 1) := by decide +kernel
theorem dX7_fewest_16 : decode cX7_fewest 16 = .ok (.if_icmp .gt 88, 3) := by decide +kernel
theorem dX7_fewest_19 : decode cX7_fewest 19 = .ok (.aload_n 0, 1) := by decide +kernel
theorem dX7_fewest_20 : decode cX7_fewest 20 = .ok (.getfield 10, 3) := by decide +kernel
theorem dX7_fewest_23 : decode cX7_fewest 23 = .ok (.getfield 120, 3) := by decide +kernel
theorem dX7_fewest_26 : decode cX7_fewest 26 = .ok (.iload_n 2, 1) := by decide +kernel
theorem dX7_fewest_27 : decode cX7_fewest 27 = .ok (.iadd, 1) := by decide +kernel
theorem dX7_fewest_28 : decode cX7_fewest 28 = .ok (.invokestatic 153, 3) := by decide +kernel
theorem dX7_fewest_31 : decode cX7_fewest 31 = .ok (.istore_n 3, 1) := by decide +kernel
theorem dX7_fewest_32 : decode cX7_fewest 32 = .ok (.aload_n 0, 1) := by decide +kernel
theorem dX7_fewest_33 : decode cX7_fewest 33 = .ok (.aload_n 0, 1) := by decide +kernel
theorem dX7_fewest_34 : decode cX7_fewest 34 = .ok (.getfield 10, 3) := by decide +kernel
theorem dX7_fewest_37 : decode cX7_fewest 37 = .ok (.getfield 117, 3) := by decide +kernel
theorem dX7_fewest_40 : decode cX7_fewest 40 = .ok (.iload_n 3, 1) := by decide +kernel
theorem dX7_fewest_41 : decode cX7_fewest 41 = .ok (.invokevirtual 149, 3) := by decide +kernel
theorem dX7_fewest_44 : decode cX7_fewest 44 = .ok (.ifCond .eq 13, 3) := by decide +kernel
theorem dX7_fewest_47 : decode cX7_fewest 47 = .ok (.iload_n 1, 1) := by decide +kernel
theorem dX7_fewest_48 : decode cX7_fewest 48 = .ok (.ifCond .ne 7, 3) := by decide +kernel
theorem dX7_fewest_51 : decode cX7_fewest 51 = .ok (.iload_n 2, 1) := by decide +kernel
theorem dX7_fewest_52 : decode cX7_fewest 52 = .ok (.goto 4, 3) := by decide +kernel
theorem dX7_fewest_55 : decode cX7_fewest 55 = .ok (.iload_n 3, 1) := by decide +kernel
theorem dX7_fewest_56 : decode cX7_fewest 56 = .ok (.ireturn, 1) := by decide +kernel
theorem dX7_fewest_57 : decode cX7_fewest 57 = .ok (.aload_n 0, 1) := by decide +kernel
theorem dX7_fewest_58 : decode cX7_fewest 58 = .ok (.getfield 10, 3) := by decide +kernel
theorem dX7_fewest_61 : decode cX7_fewest 61 = .ok (.getfield 120, 3) := by decide +kernel
theorem dX7_fewest_64 : decode cX7_fewest 64 = .ok (.iload_n 2, 1) := by decide +kernel
theorem dX7_fewest_65 : decode cX7_fewest 65 = .ok (.isub, 1) := by decide +kernel
theorem dX7_fewest_66 : decode cX7_fewest 66 = .ok (.invokestatic 153, 3) := by decide +kernel
theorem dX7_fewest_69 : decode cX7_fewest 69 = .ok (.istore 4, 2) := by decide +kernel
theorem dX7_fewest_71 : decode cX7_fewest 71 = .ok (.aload_n 0, 1) := by decide +kernel
theorem dX7_fewest_72 : decode cX7_fewest 72 = .ok (.aload_n 0, 1) := by decide +kernel
theorem dX7_fewest_73 : decode cX7_fewest 73 = .ok (.getfield 10, 3) := by decide +kernel
theorem dX7_fewest_76 : decode cX7_fewest 76 = .ok (.getfield 117, 3) := by decide +kernel
theorem dX7_fewest_79 : decode cX7_fewest 79 = .ok (.iload 4, 2) := by decide +kernel
theorem dX7_fewest_81 : decode cX7_fewest 81 = .ok (.invokevirtual 149, 3) := by decide +kernel
theorem dX7_fewest_84 : decode cX7_fewest 84 = .ok (.ifCond .eq 14, 3) := by decide +kernel
theorem dX7_fewest_87 : decode cX7_fewest 87 = .ok (.iload_n 1, 1) := by decide +kernel
theorem dX7_fewest_88 : decode cX7_fewest 88 = .ok (.ifCond .ne 7, 3) := by decide +kernel
theorem dX7_fewest_91 : decode cX7_fewest 91 = .ok (.iload_n 2, 1) := by decide +kernel
theorem dX7_fewest_92 : decode cX7_fewest 92 = .ok (.goto 5, 3) := by decide +kernel
theorem dX7_fewest_95 : decode cX7_fewest 95 = .ok (.iload 4, 2) := by decide +kernel
theorem dX7_fewest_97 : decode cX7_fewest 97 = .ok (.ireturn, 1) := by decide +kernel
theorem dX7_fewest_98 : decode cX7_fewest 98 = .ok (.iinc 2 1, 3) := by decide +kernel
theorem dX7_fewest_101 : decode cX7_fewest 101 = .ok (.goto (-87), 3) := by decide +kernel
theorem dX7_fewest_104 : decode cX7_fewest 104 = .ok (.iconst (-1), 1) := by decide +kernel
theorem dX7_fewest_105 : decode cX7_fewest 105 = .ok (.ireturn, 1) := by decide +kernel
theorem dX7_feels_0 : decode cX7_feels 0 = .ok (.iload_n 1, 1) := by decide +kernel
theorem dX7_feels_1 : decode cX7_feels 1 = .ok (.iconst 0, 1) := by decide +kernel
theorem dX7_feels_2 : decode cX7_feels 2 = .ok (.iconst 1, 1) := by decide +kernel
theorem dX7_feels_3 : decode cX7_feels 3 = .ok (.invokestatic 74, 3) := by decide +kernel
theorem dX7_feels_6 : decode cX7_feels 6 = .ok (.ifCond .ne 6, 3) := by decide +kernel
theorem dX7_feels_9 : decode cX7_feels 9 = .ok (.bipush (-2), 2) := by decide +kernel
theorem dX7_feels_11 : decode cX7_feels 11 = .ok (.ireturn, 1) := by decide +kernel
theorem dX7_feels_12 : decode cX7_feels 12 = .ok (.iconst 0, 1) := by decide +kernel
theorem dX7_feels_13 : decode cX7_feels 13 = .ok (.istore_n 2, 1) := by decide +kernel
theorem dX7_feels_14 : decode cX7_feels 14 = .ok (.aload_n 0, 1) := by decide +kernel
theorem dX7_feels_15 : decode cX7_feels 15 = .ok (.aload_n 0, 1) := by decide +kernel
theorem dX7_feels_16 : decode cX7_feels 16 = .ok (.getfield 10, 3) := by decide +kernel
theorem dX7_feels_19 : decode cX7_feels 19 = .ok (.getfield 117, 3) := by decide +kernel
theorem dX7_feels_22 : decode cX7_feels 22 = .ok (.aload_n 0, 1) := by decide +kernel
theorem dX7_feels_23 : decode cX7_feels 23 = .ok (.getfield 10, 3) := by decide +kernel
theorem dX7_feels_26 : decode cX7_feels 26 = .ok (.getfield 120, 3) := by decide +kernel
theorem dX7_feels_29 : decode cX7_feels 29 = .ok (.invokevirtual 156, 3) := by decide +kernel
theorem dX7_feels_32 : decode cX7_feels 32 = .ok (.aload_n 0, 1) := by decide +kernel
theorem dX7_feels_33 : decode cX7_feels 33 = .ok (.getfield 43, 3) := by decide +kernel
theorem dX7_feels_36 : decode cX7_feels 36 = .ok (.invokevirtual 160, 3) := by decide +kernel
theorem dX7_feels_39 : decode cX7_feels 39 = .ok (.istore_n 3, 1) := by decide +kernel
theorem dX7_feels_40 : decode cX7_feels 40 = .ok (.iload_n 2, 1) := by decide +kernel
theorem dX7_feels_41 : decode cX7_feels 41 = .ok (.bipush 8, 2) := by decide +kernel
theorem dX7_feels_43 : decode cX7_feels 43 = .ok (.if_icmp .ge 53, 3) := by decide +kernel
theorem dX7_feels_46 : decode cX7_feels 46 = .ok (.aload_n 0, 1) := by decide +kernel
theorem dX7_feels_47 : decode cX7_feels 47 = .ok (.getfield 43, 3) := by decide +kernel
theorem dX7_feels_50 : decode cX7_feels 50 = .ok (.invokevirtual 163, 3) := by decide +kernel
theorem dX7_feels_53 : decode cX7_feels 53 = .ok (.ifCond .ne 43, 3) := by decide +kernel
theorem dX7_feels_56 : decode cX7_feels 56 = .ok (.aload_n 0, 1) := by decide +kernel
theorem dX7_feels_57 : decode cX7_feels 57 = .ok (.getfield 43, 3) := by decide +kernel
theorem dX7_feels_60 : decode cX7_feels 60 = .ok (.invokevirtual 160, 3) := by decide +kernel
theorem dX7_feels_63 : decode cX7_feels 63 = .ok (.iload_n 3, 1) := by decide +kernel
theorem dX7_feels_64 : decode cX7_feels 64 = .ok (.if_icmp .ne 32, 3) := by decide +kernel
theorem dX7_feels_67 : decode cX7_feels 67 = .ok (.iinc 2 1, 3) := by decide +kernel
theorem dX7_feels_70 : decode cX7_feels 70 = .ok (.aload_n 0, 1) := by decide +kernel
theorem dX7_feels_71 : decode cX7_feels 71 = .ok (.aload_n 0, 1) := by decide +kernel
theorem dX7_feels_72 : decode cX7_feels 72 = .ok (.getfield 10, 3) := by decide +kernel
theorem dX7_feels_75 : decode cX7_feels 75 = .ok (.getfield 117, 3) := by decide +kernel
theorem dX7_feels_78 : decode cX7_feels 78 = .ok (.aload_n 0, 1) := by decide +kernel
theorem dX7_feels_79 : decode cX7_feels 79 = .ok (.getfield 10, 3) := by decide +kernel
theorem dX7_feels_82 : decode cX7_feels 82 = .ok (.getfield 120, 3) := by decide +kernel
theorem dX7_feels_85 : decode cX7_feels 85 = .ok (.iload_n 2, 1) := by decide +kernel
theorem dX7_feels_86 : decode cX7_feels 86 = .ok (.iadd, 1) := by decide +kernel
theorem dX7_feels_87 : decode cX7_feels 87 = .ok (.invokestatic 153, 3) := by decide +kernel
theorem dX7_feels_90 : decode cX7_feels 90 = .ok (.invokevirtual 156, 3) := by decide +kernel
theorem dX7_feels_93 : decode cX7_feels 93 = .ok (.goto (-53), 3) := by decide +kernel
theorem dX7_feels_96 : decode cX7_feels 96 = .ok (.iload_n 1, 1) := by decide +kernel
theorem dX7_feels_97 : decode cX7_feels 97 = .ok (.ifCond .ne 5, 3) := by decide +kernel
theorem dX7_feels_100 : decode cX7_feels 100 = .ok (.iload_n 2, 1) := by decide +kernel
theorem dX7_feels_101 : decode cX7_feels 101 = .ok (.ireturn, 1) := by decide +kernel
theorem dX7_feels_102 : decode cX7_feels 102 = .ok (.aload_n 0, 1) := by decide +kernel
theorem dX7_feels_103 : decode cX7_feels 103 = .ok (.getfield 43, 3) := by decide +kernel
theorem dX7_feels_106 : decode cX7_feels 106 = .ok (.invokevirtual 163, 3) := by decide +kernel
theorem dX7_feels_109 : decode cX7_feels 109 = .ok (.ifCond .eq 7, 3) := by decide +kernel
theorem dX7_feels_112 : decode cX7_feels 112 = .ok (.iconst 1, 1) := by decide +kernel
theorem dX7_feels_113 : decode cX7_feels 113 = .ok (.goto 4, 3) := by decide +kernel
theorem dX7_feels_116 : decode cX7_feels 116 = .ok (.iconst 0, 1) := by decide +kernel
theorem dX7_feels_117 : decode cX7_feels 117 = .ok (.ireturn, 1) := by decide +kernel
theorem dX7_best_0 : decode cX7_best 0 = .ok (.iload_n 1, 1) := by decide +kernel
theorem dX7_best_1 : decode cX7_best 1 = .ok (.iconst 0, 1) := by decide +kernel
theorem dX7_best_2 : decode cX7_best 2 = .ok (.iconst 2, 1) := by decide +kernel
theorem dX7_best_3 : decode cX7_best 3 = .ok (.invokestatic 74, 3) := by decide +kernel
theorem dX7_best_6 : decode cX7_best 6 = .ok (.ifCond .ne 6, 3) := by decide +kernel
theorem dX7_best_9 : decode cX7_best 9 = .ok (.ldc 148, 2) := by decide +kernel
theorem dX7_best_11 : decode cX7_best 11 = .ok (.ireturn, 1) := by decide +kernel
theorem dX7_best_12 : decode cX7_best 12 = .ok (.iconst 0, 1) := by decide +kernel
theorem dX7_best_13 : decode cX7_best 13 = .ok (.istore_n 2, 1) := by decide +kernel
theorem dX7_best_14 : decode cX7_best 14 = .ok (.aload_n 0, 1) := by decide +kernel
theorem dX7_best_15 : decode cX7_best 15 = .ok (.iconst 0, 1) := by decide +kernel
theorem dX7_best_16 : decode cX7_best 16 = .ok (.iconst 0, 1) := by decide +kernel
theorem dX7_best_17 : decode cX7_best 17 = .ok (.invokevirtual 167, 3) := by decide +kernel
theorem dX7_best_20 : decode cX7_best 20 = .ok (.istore_n 3, 1) := by decide +kernel
theorem dX7_best_21 : decode cX7_best 21 = .ok (.iconst 1, 1) := by decide +kernel
theorem dX7_best_22 : decode cX7_best 22 = .ok (.istore 4, 2) := by decide +kernel
theorem dX7_best_24 : decode cX7_best 24 = .ok (.iload 4, 2) := by decide +kernel
theorem dX7_best_26 : decode cX7_best 26 = .ok (.sipush 512, 3) := by decide +kernel
theorem dX7_best_29 : decode cX7_best 29 = .ok (.if_icmp .ge 37, 3) := by decide +kernel
theorem dX7_best_32 : decode cX7_best 32 = .ok (.aload_n 0, 1) := by decide +kernel
theorem dX7_best_33 : decode cX7_best 33 = .ok (.iload 4, 2) := by decide +kernel
theorem dX7_best_35 : decode cX7_best 35 = .ok (.bipush 8, 2) := by decide +kernel
theorem dX7_best_37 : decode cX7_best 37 = .ok (.idiv, 1) := by decide +kernel
theorem dX7_best_38 : decode cX7_best 38 = .ok (.iload 4, 2) := by decide +kernel
theorem dX7_best_40 : decode cX7_best 40 = .ok (.bipush 8, 2) := by decide +kernel
theorem dX7_best_42 : decode cX7_best 42 = .ok (.irem, 1) := by decide +kernel
theorem dX7_best_43 : decode cX7_best 43 = .ok (.invokevirtual 167, 3) := by decide +kernel
theorem dX7_best_46 : decode cX7_best 46 = .ok (.istore 5, 2) := by decide +kernel
theorem dX7_best_48 : decode cX7_best 48 = .ok (.iload 5, 2) := by decide +kernel
theorem dX7_best_50 : decode cX7_best 50 = .ok (.iload_n 3, 1) := by decide +kernel
theorem dX7_best_51 : decode cX7_best 51 = .ok (.if_icmp .le 9, 3) := by decide +kernel
theorem dX7_best_54 : decode cX7_best 54 = .ok (.iload 5, 2) := by decide +kernel
theorem dX7_best_56 : decode cX7_best 56 = .ok (.istore_n 3, 1) := by decide +kernel
theorem dX7_best_57 : decode cX7_best 57 = .ok (.iload 4, 2) := by decide +kernel
theorem dX7_best_59 : decode cX7_best 59 = .ok (.istore_n 2, 1) := by decide +kernel
theorem dX7_best_60 : decode cX7_best 60 = .ok (.iinc 4 1, 3) := by decide +kernel
theorem dX7_best_63 : decode cX7_best 63 = .ok (.goto (-39), 3) := by decide +kernel
theorem dX7_best_66 : decode cX7_best 66 = .ok (.iload_n 1, 1) := by decide +kernel
theorem dX7_best_67 : decode cX7_best 67 = .ok (.iconst 2, 1) := by decide +kernel
theorem dX7_best_68 : decode cX7_best 68 = .ok (.if_icmp .ne 5, 3) := by decide +kernel
theorem dX7_best_71 : decode cX7_best 71 = .ok (.iload_n 3, 1) := by decide +kernel
theorem dX7_best_72 : decode cX7_best 72 = .ok (.ireturn, 1) := by decide +kernel
theorem dX7_best_73 : decode cX7_best 73 = .ok (.iload_n 1, 1) := by decide +kernel
theorem dX7_best_74 : decode cX7_best 74 = .ok (.ifCond .ne 10, 3) := by decide +kernel
theorem dX7_best_77 : decode cX7_best 77 = .ok (.iload_n 2, 1) := by decide +kernel
theorem dX7_best_78 : decode cX7_best 78 = .ok (.bipush 8, 2) := by decide +kernel
theorem dX7_best_80 : decode cX7_best 80 = .ok (.idiv, 1) := by decide +kernel
theorem dX7_best_81 : decode cX7_best 81 = .ok (.goto 7, 3) := by decide +kernel
theorem dX7_best_84 : decode cX7_best 84 = .ok (.iload_n 2, 1) := by decide +kernel
theorem dX7_best_85 : decode cX7_best 85 = .ok (.bipush 8, 2) := by decide +kernel
theorem dX7_best_87 : decode cX7_best 87 = .ok (.irem, 1) := by decide +kernel
theorem dX7_best_88 : decode cX7_best 88 = .ok (.ireturn, 1) := by decide +kernel
theorem dX7_turn_0 : decode cX7_turn 0 = .ok (.iload_n 1, 1) := by decide +kernel
theorem dX7_turn_1 : decode cX7_turn 1 = .ok (.bipush (-7), 2) := by decide +kernel
theorem dX7_turn_3 : decode cX7_turn 3 = .ok (.bipush 7, 2) := by decide +kernel
theorem dX7_turn_5 : decode cX7_turn 5 = .ok (.invokestatic 74, 3) := by decide +kernel
theorem dX7_turn_8 : decode cX7_turn 8 = .ok (.ifCond .ne 6, 3) := by decide +kernel
theorem dX7_turn_11 : decode cX7_turn 11 = .ok (.bipush (-2), 2) := by decide +kernel
theorem dX7_turn_13 : decode cX7_turn 13 = .ok (.ireturn, 1) := by decide +kernel
theorem dX7_turn_14 : decode cX7_turn 14 = .ok (.aload_n 0, 1) := by decide +kernel
theorem dX7_turn_15 : decode cX7_turn 15 = .ok (.getfield 10, 3) := by decide +kernel
theorem dX7_turn_18 : decode cX7_turn 18 = .ok (.aload_n 0, 1) := by decide +kernel
theorem dX7_turn_19 : decode cX7_turn 19 = .ok (.getfield 10, 3) := by decide +kernel
theorem dX7_turn_22 : decode cX7_turn 22 = .ok (.getfield 120, 3) := by decide +kernel
theorem dX7_turn_25 : decode cX7_turn 25 = .ok (.iload_n 1, 1) := by decide +kernel
theorem dX7_turn_26 : decode cX7_turn 26 = .ok (.iadd, 1) := by decide +kernel
theorem dX7_turn_27 : decode cX7_turn 27 = .ok (.invokestatic 153, 3) := by decide +kernel
theorem dX7_turn_30 : decode cX7_turn 30 = .ok (.putfield 120, 3) := by decide +kernel
theorem dX7_turn_33 : decode cX7_turn 33 = .ok (.aload_n 0, 1) := by decide +kernel
theorem dX7_turn_34 : decode cX7_turn 34 = .ok (.invokevirtual 170, 3) := by decide +kernel
theorem dX7_turn_37 : decode cX7_turn 37 = .ok (.ireturn, 1) := by decide +kernel
theorem dX7_wedge_0 : decode cX7_wedge 0 = .ok (.aload_n 0, 1) := by decide +kernel
theorem dX7_wedge_1 : decode cX7_wedge 1 = .ok (.invokevirtual 170, 3) := by decide +kernel
theorem dX7_wedge_4 : decode cX7_wedge 4 = .ok (.istore_n 1, 1) := by decide +kernel
theorem dX7_wedge_5 : decode cX7_wedge 5 = .ok (.iload_n 1, 1) := by decide +kernel
theorem dX7_wedge_6 : decode cX7_wedge 6 = .ok (.ifCond .ne 6, 3) := by decide +kernel
theorem dX7_wedge_9 : decode cX7_wedge 9 = .ok (.bipush (-3), 2) := by decide +kernel
theorem dX7_wedge_11 : decode cX7_wedge 11 = .ok (.ireturn, 1) := by decide +kernel
theorem dX7_wedge_12 : decode cX7_wedge 12 = .ok (.aload_n 0, 1) := by decide +kernel
theorem dX7_wedge_13 : decode cX7_wedge 13 = .ok (.getfield 10, 3) := by decide +kernel
theorem dX7_wedge_16 : decode cX7_wedge 16 = .ok (.aload_n 0, 1) := by decide +kernel
theorem dX7_wedge_17 : decode cX7_wedge 17 = .ok (.getfield 43, 3) := by decide +kernel
theorem dX7_wedge_20 : decode cX7_wedge 20 = .ok (.invokevirtual 173, 3) := by decide +kernel
theorem dX7_wedge_23 : decode cX7_wedge 23 = .ok (.aload_n 0, 1) := by decide +kernel
theorem dX7_wedge_24 : decode cX7_wedge 24 = .ok (.getfield 10, 3) := by decide +kernel
theorem dX7_wedge_27 : decode cX7_wedge 27 = .ok (.getfield 117, 3) := by decide +kernel
theorem dX7_wedge_30 : decode cX7_wedge 30 = .ok (.aload_n 0, 1) := by decide +kernel
theorem dX7_wedge_31 : decode cX7_wedge 31 = .ok (.getfield 10, 3) := by decide +kernel
theorem dX7_wedge_34 : decode cX7_wedge 34 = .ok (.getfield 120, 3) := by decide +kernel
theorem dX7_wedge_37 : decode cX7_wedge 37 = .ok (.invokevirtual 123, 3) := by decide +kernel
theorem dX7_wedge_40 : decode cX7_wedge 40 = .ok (.istore_n 2, 1) := by decide +kernel
theorem dX7_wedge_41 : decode cX7_wedge 41 = .ok (.aload_n 0, 1) := by decide +kernel
theorem dX7_wedge_42 : decode cX7_wedge 42 = .ok (.getfield 10, 3) := by decide +kernel
theorem dX7_wedge_45 : decode cX7_wedge 45 = .ok (.getfield 78, 3) := by decide +kernel
theorem dX7_wedge_48 : decode cX7_wedge 48 = .ok (.iload_n 2, 1) := by decide +kernel
theorem dX7_wedge_49 : decode cX7_wedge 49 = .ok (.bipush 99, 2) := by decide +kernel
theorem dX7_wedge_51 : decode cX7_wedge 51 = .ok (.aload_n 0, 1) := by decide +kernel
theorem dX7_wedge_52 : decode cX7_wedge 52 = .ok (.getfield 10, 3) := by decide +kernel
theorem dX7_wedge_55 : decode cX7_wedge 55 = .ok (.getfield 78, 3) := by decide +kernel
theorem dX7_wedge_58 : decode cX7_wedge 58 = .ok (.iload_n 2, 1) := by decide +kernel
theorem dX7_wedge_59 : decode cX7_wedge 59 = .ok (.iaload, 1) := by decide +kernel
theorem dX7_wedge_60 : decode cX7_wedge 60 = .ok (.iload_n 1, 1) := by decide +kernel
theorem dX7_wedge_61 : decode cX7_wedge 61 = .ok (.iadd, 1) := by decide +kernel
theorem dX7_wedge_62 : decode cX7_wedge 62 = .ok (.invokestatic 176, 3) := by decide +kernel
theorem dX7_wedge_65 : decode cX7_wedge 65 = .ok (.iastore, 1) := by decide +kernel
theorem dX7_wedge_66 : decode cX7_wedge 66 = .ok (.iload_n 1, 1) := by decide +kernel
theorem dX7_wedge_67 : decode cX7_wedge 67 = .ok (.ireturn, 1) := by decide +kernel
theorem dX7_saw_0 : decode cX7_saw 0 = .ok (.aload_n 0, 1) := by decide +kernel
theorem dX7_saw_1 : decode cX7_saw 1 = .ok (.invokevirtual 170, 3) := by decide +kernel
theorem dX7_saw_4 : decode cX7_saw 4 = .ok (.istore_n 1, 1) := by decide +kernel
theorem dX7_saw_5 : decode cX7_saw 5 = .ok (.iload_n 1, 1) := by decide +kernel
theorem dX7_saw_6 : decode cX7_saw 6 = .ok (.ifCond .ne 6, 3) := by decide +kernel
theorem dX7_saw_9 : decode cX7_saw 9 = .ok (.bipush (-3), 2) := by decide +kernel
theorem dX7_saw_11 : decode cX7_saw 11 = .ok (.ireturn, 1) := by decide +kernel
theorem dX7_saw_12 : decode cX7_saw 12 = .ok (.iload_n 1, 1) := by decide +kernel
theorem dX7_saw_13 : decode cX7_saw 13 = .ok (.iconst 2, 1) := by decide +kernel
theorem dX7_saw_14 : decode cX7_saw 14 = .ok (.idiv, 1) := by decide +kernel
theorem dX7_saw_15 : decode cX7_saw 15 = .ok (.istore_n 2, 1) := by decide +kernel
theorem dX7_saw_16 : decode cX7_saw 16 = .ok (.aload_n 0, 1) := by decide +kernel
theorem dX7_saw_17 : decode cX7_saw 17 = .ok (.getfield 43, 3) := by decide +kernel
theorem dX7_saw_20 : decode cX7_saw 20 = .ok (.invokevirtual 160, 3) := by decide +kernel
theorem dX7_saw_23 : decode cX7_saw 23 = .ok (.istore_n 3, 1) := by decide +kernel
theorem dX7_saw_24 : decode cX7_saw 24 = .ok (.aload_n 0, 1) := by decide +kernel
theorem dX7_saw_25 : decode cX7_saw 25 = .ok (.getfield 10, 3) := by decide +kernel
theorem dX7_saw_28 : decode cX7_saw 28 = .ok (.getfield 88, 3) := by decide +kernel
theorem dX7_saw_31 : decode cX7_saw 31 = .ok (.iload_n 3, 1) := by decide +kernel
theorem dX7_saw_32 : decode cX7_saw 32 = .ok (.aaload, 1) := by decide +kernel
theorem dX7_saw_33 : decode cX7_saw 33 = .ok (.iload_n 2, 1) := by decide +kernel
theorem dX7_saw_34 : decode cX7_saw 34 = .ok (.invokevirtual 181, 3) := by decide +kernel
theorem dX7_saw_37 : decode cX7_saw 37 = .ok (.aload_n 0, 1) := by decide +kernel
theorem dX7_saw_38 : decode cX7_saw 38 = .ok (.getfield 10, 3) := by decide +kernel
theorem dX7_saw_41 : decode cX7_saw 41 = .ok (.getfield 88, 3) := by decide +kernel
theorem dX7_saw_44 : decode cX7_saw 44 = .ok (.iload_n 3, 1) := by decide +kernel
theorem dX7_saw_45 : decode cX7_saw 45 = .ok (.iconst 2, 1) := by decide +kernel
theorem dX7_saw_46 : decode cX7_saw 46 = .ok (.iadd, 1) := by decide +kernel
theorem dX7_saw_47 : decode cX7_saw 47 = .ok (.aaload, 1) := by decide +kernel
theorem dX7_saw_48 : decode cX7_saw 48 = .ok (.iload_n 1, 1) := by decide +kernel
theorem dX7_saw_49 : decode cX7_saw 49 = .ok (.iload_n 2, 1) := by decide +kernel
theorem dX7_saw_50 : decode cX7_saw 50 = .ok (.isub, 1) := by decide +kernel
theorem dX7_saw_51 : decode cX7_saw 51 = .ok (.invokevirtual 181, 3) := by decide +kernel
theorem dX7_saw_54 : decode cX7_saw 54 = .ok (.aload_n 0, 1) := by decide +kernel
theorem dX7_saw_55 : decode cX7_saw 55 = .ok (.invokevirtual 170, 3) := by decide +kernel
theorem dX7_saw_58 : decode cX7_saw 58 = .ok (.ireturn, 1) := by decide +kernel
theorem dX7_screwed_0 : decode cX7_screwed 0 = .ok (.iconst (-1), 1) := by decide +kernel
theorem dX7_screwed_1 : decode cX7_screwed 1 = .ok (.istore_n 1, 1) := by decide +kernel
theorem dX7_screwed_2 : decode cX7_screwed 2 = .ok (.iconst 0, 1) := by decide +kernel
theorem dX7_screwed_3 : decode cX7_screwed 3 = .ok (.istore_n 2, 1) := by decide +kernel
theorem dX7_screwed_4 : decode cX7_screwed 4 = .ok (.iload_n 2, 1) := by decide +kernel
theorem dX7_screwed_5 : decode cX7_screwed 5 = .ok (.sipush 2401, 3) := by decide +kernel
theorem dX7_screwed_8 : decode cX7_screwed 8 = .ok (.if_icmp .ge 52, 3) := by decide +kernel
theorem dX7_screwed_11 : decode cX7_screwed 11 = .ok (.aload_n 0, 1) := by decide +kernel
theorem dX7_screwed_12 : decode cX7_screwed 12 = .ok (.iload_n 2, 1) := by decide +kernel
theorem dX7_screwed_13 : decode cX7_screwed 13 = .ok (.invokevirtual 185, 3) := by decide +kernel
theorem dX7_screwed_16 : decode cX7_screwed 16 = .ok (.istore_n 3, 1) := by decide +kernel
theorem dX7_screwed_17 : decode cX7_screwed 17 = .ok (.iload_n 3, 1) := by decide +kernel
theorem dX7_screwed_18 : decode cX7_screwed 18 = .ok (.iconst (-1), 1) := by decide +kernel
theorem dX7_screwed_19 : decode cX7_screwed 19 = .ok (.if_icmp .eq 17, 3) := by decide +kernel
theorem dX7_screwed_22 : decode cX7_screwed 22 = .ok (.iload_n 1, 1) := by decide +kernel
theorem dX7_screwed_23 : decode cX7_screwed 23 = .ok (.iconst (-1), 1) := by decide +kernel
theorem dX7_screwed_24 : decode cX7_screwed 24 = .ok (.if_icmp .eq 8, 3) := by decide +kernel
theorem dX7_screwed_27 : decode cX7_screwed 27 = .ok (.iload_n 3, 1) := by decide +kernel
theorem dX7_screwed_28 : decode cX7_screwed 28 = .ok (.iload_n 1, 1) := by decide +kernel
theorem dX7_screwed_29 : decode cX7_screwed 29 = .ok (.if_icmp .ge 7, 3) := by decide +kernel
theorem dX7_screwed_32 : decode cX7_screwed 32 = .ok (.iconst 1, 1) := by decide +kernel
theorem dX7_screwed_33 : decode cX7_screwed 33 = .ok (.goto 4, 3) := by decide +kernel
theorem dX7_screwed_36 : decode cX7_screwed 36 = .ok (.iconst 0, 1) := by decide +kernel
theorem dX7_screwed_37 : decode cX7_screwed 37 = .ok (.istore 4, 2) := by decide +kernel
theorem dX7_screwed_39 : decode cX7_screwed 39 = .ok (.iload 4, 2) := by decide +kernel
theorem dX7_screwed_41 : decode cX7_screwed 41 = .ok (.ifCond .eq 13, 3) := by decide +kernel
theorem dX7_screwed_44 : decode cX7_screwed 44 = .ok (.aload_n 0, 1) := by decide +kernel
theorem dX7_screwed_45 : decode cX7_screwed 45 = .ok (.iload_n 2, 1) := by decide +kernel
theorem dX7_screwed_46 : decode cX7_screwed 46 = .ok (.invokevirtual 188, 3) := by decide +kernel
theorem dX7_screwed_49 : decode cX7_screwed 49 = .ok (.ifCond .eq 5, 3) := by decide +kernel
theorem dX7_screwed_52 : decode cX7_screwed 52 = .ok (.iload_n 3, 1) := by decide +kernel
theorem dX7_screwed_53 : decode cX7_screwed 53 = .ok (.istore_n 1, 1) := by decide +kernel
theorem dX7_screwed_54 : decode cX7_screwed 54 = .ok (.iinc 2 1, 3) := by decide +kernel
theorem dX7_screwed_57 : decode cX7_screwed 57 = .ok (.goto (-53), 3) := by decide +kernel
theorem dX7_screwed_60 : decode cX7_screwed 60 = .ok (.iload_n 1, 1) := by decide +kernel
theorem dX7_screwed_61 : decode cX7_screwed 61 = .ok (.ireturn, 1) := by decide +kernel
theorem dX7_blame_0 : decode cX7_blame 0 = .ok (.iload_n 1, 1) := by decide +kernel
theorem dX7_blame_1 : decode cX7_blame 1 = .ok (.iconst 0, 1) := by decide +kernel
theorem dX7_blame_2 : decode cX7_blame 2 = .ok (.iconst 1, 1) := by decide +kernel
theorem dX7_blame_3 : decode cX7_blame 3 = .ok (.invokestatic 74, 3) := by decide +kernel
theorem dX7_blame_6 : decode cX7_blame 6 = .ok (.ifCond .ne 6, 3) := by decide +kernel
theorem dX7_blame_9 : decode cX7_blame 9 = .ok (.ldc 148, 2) := by decide +kernel
theorem dX7_blame_11 : decode cX7_blame 11 = .ok (.ireturn, 1) := by decide +kernel
theorem dX7_blame_12 : decode cX7_blame 12 = .ok (.aload_n 0, 1) := by decide +kernel
theorem dX7_blame_13 : decode cX7_blame 13 = .ok (.aload_n 0, 1) := by decide +kernel
theorem dX7_blame_14 : decode cX7_blame 14 = .ok (.getfield 10, 3) := by decide +kernel
theorem dX7_blame_17 : decode cX7_blame 17 = .ok (.getfield 120, 3) := by decide +kernel
theorem dX7_blame_20 : decode cX7_blame 20 = .ok (.invokevirtual 191, 3) := by decide +kernel
theorem dX7_blame_23 : decode cX7_blame 23 = .ok (.istore_n 2, 1) := by decide +kernel
theorem dX7_blame_24 : decode cX7_blame 24 = .ok (.iload_n 2, 1) := by decide +kernel
theorem dX7_blame_25 : decode cX7_blame 25 = .ok (.aload_n 0, 1) := by decide +kernel
theorem dX7_blame_26 : decode cX7_blame 26 = .ok (.aload_n 0, 1) := by decide +kernel
theorem dX7_blame_27 : decode cX7_blame 27 = .ok (.getfield 10, 3) := by decide +kernel
theorem dX7_blame_30 : decode cX7_blame 30 = .ok (.getfield 120, 3) := by decide +kernel
theorem dX7_blame_33 : decode cX7_blame 33 = .ok (.iconst 2, 1) := by decide +kernel
theorem dX7_blame_34 : decode cX7_blame 34 = .ok (.iadd, 1) := by decide +kernel
theorem dX7_blame_35 : decode cX7_blame 35 = .ok (.invokestatic 153, 3) := by decide +kernel
theorem dX7_blame_38 : decode cX7_blame 38 = .ok (.invokevirtual 191, 3) := by decide +kernel
theorem dX7_blame_41 : decode cX7_blame 41 = .ok (.iadd, 1) := by decide +kernel
theorem dX7_blame_42 : decode cX7_blame 42 = .ok (.iconst 2, 1) := by decide +kernel
theorem dX7_blame_43 : decode cX7_blame 43 = .ok (.idiv, 1) := by decide +kernel
theorem dX7_blame_44 : decode cX7_blame 44 = .ok (.istore_n 3, 1) := by decide +kernel
theorem dX7_blame_45 : decode cX7_blame 45 = .ok (.iload_n 1, 1) := by decide +kernel
theorem dX7_blame_46 : decode cX7_blame 46 = .ok (.ifCond .ne 7, 3) := by decide +kernel
theorem dX7_blame_49 : decode cX7_blame 49 = .ok (.iload_n 3, 1) := by decide +kernel
theorem dX7_blame_50 : decode cX7_blame 50 = .ok (.goto 6, 3) := by decide +kernel
theorem dX7_blame_53 : decode cX7_blame 53 = .ok (.iload_n 2, 1) := by decide +kernel
theorem dX7_blame_54 : decode cX7_blame 54 = .ok (.iload_n 3, 1) := by decide +kernel
theorem dX7_blame_55 : decode cX7_blame 55 = .ok (.isub, 1) := by decide +kernel
theorem dX7_blame_56 : decode cX7_blame 56 = .ok (.ireturn, 1) := by decide +kernel
theorem dX7_beside_0 : decode cX7_beside 0 = .ok (.iload_n 1, 1) := by decide +kernel
theorem dX7_beside_1 : decode cX7_beside 1 = .ok (.iconst 0, 1) := by decide +kernel
theorem dX7_beside_2 : decode cX7_beside 2 = .ok (.iconst 1, 1) := by decide +kernel
theorem dX7_beside_3 : decode cX7_beside 3 = .ok (.invokestatic 74, 3) := by decide +kernel
theorem dX7_beside_6 : decode cX7_beside 6 = .ok (.ifCond .ne 6, 3) := by decide +kernel
theorem dX7_beside_9 : decode cX7_beside 9 = .ok (.bipush (-2), 2) := by decide +kernel
theorem dX7_beside_11 : decode cX7_beside 11 = .ok (.ireturn, 1) := by decide +kernel
theorem dX7_beside_12 : decode cX7_beside 12 = .ok (.iconst 0, 1) := by decide +kernel
theorem dX7_beside_13 : decode cX7_beside 13 = .ok (.istore_n 2, 1) := by decide +kernel
theorem dX7_beside_14 : decode cX7_beside 14 = .ok (.iload_n 2, 1) := by decide +kernel
theorem dX7_beside_15 : decode cX7_beside 15 = .ok (.sipush 512, 3) := by decide +kernel
theorem dX7_beside_18 : decode cX7_beside 18 = .ok (.if_icmp .ge 49, 3) := by decide +kernel
theorem dX7_beside_21 : decode cX7_beside 21 = .ok (.iload_n 2, 1) := by decide +kernel
theorem dX7_beside_22 : decode cX7_beside 22 = .ok (.bipush 8, 2) := by decide +kernel
theorem dX7_beside_24 : decode cX7_beside 24 = .ok (.idiv, 1) := by decide +kernel
theorem dX7_beside_25 : decode cX7_beside 25 = .ok (.istore_n 3, 1) := by decide +kernel
theorem dX7_beside_26 : decode cX7_beside 26 = .ok (.iload_n 2, 1) := by decide +kernel
theorem dX7_beside_27 : decode cX7_beside 27 = .ok (.bipush 8, 2) := by decide +kernel
theorem dX7_beside_29 : decode cX7_beside 29 = .ok (.irem, 1) := by decide +kernel
theorem dX7_beside_30 : decode cX7_beside 30 = .ok (.istore 4, 2) := by decide +kernel
theorem dX7_beside_32 : decode cX7_beside 32 = .ok (.aload_n 0, 1) := by decide +kernel
theorem dX7_beside_33 : decode cX7_beside 33 = .ok (.iload_n 3, 1) := by decide +kernel
theorem dX7_beside_34 : decode cX7_beside 34 = .ok (.invokevirtual 194, 3) := by decide +kernel
theorem dX7_beside_37 : decode cX7_beside 37 = .ok (.ifCond .eq 24, 3) := by decide +kernel
theorem dX7_beside_40 : decode cX7_beside 40 = .ok (.aload_n 0, 1) := by decide +kernel
theorem dX7_beside_41 : decode cX7_beside 41 = .ok (.iload_n 3, 1) := by decide +kernel
theorem dX7_beside_42 : decode cX7_beside 42 = .ok (.iload 4, 2) := by decide +kernel
theorem dX7_beside_44 : decode cX7_beside 44 = .ok (.invokevirtual 149, 3) := by decide +kernel
theorem dX7_beside_47 : decode cX7_beside 47 = .ok (.ifCond .eq 14, 3) := by decide +kernel
theorem dX7_beside_50 : decode cX7_beside 50 = .ok (.iload_n 1, 1) := by decide +kernel
theorem dX7_beside_51 : decode cX7_beside 51 = .ok (.ifCond .ne 7, 3) := by decide +kernel
theorem dX7_beside_54 : decode cX7_beside 54 = .ok (.iload_n 3, 1) := by decide +kernel
theorem dX7_beside_55 : decode cX7_beside 55 = .ok (.goto 5, 3) := by decide +kernel
theorem dX7_beside_58 : decode cX7_beside 58 = .ok (.iload 4, 2) := by decide +kernel
theorem dX7_beside_60 : decode cX7_beside 60 = .ok (.ireturn, 1) := by decide +kernel
theorem dX7_beside_61 : decode cX7_beside 61 = .ok (.iinc 2 1, 3) := by decide +kernel
theorem dX7_beside_64 : decode cX7_beside 64 = .ok (.goto (-50), 3) := by decide +kernel
theorem dX7_beside_67 : decode cX7_beside 67 = .ok (.iconst (-1), 1) := by decide +kernel
theorem dX7_beside_68 : decode cX7_beside 68 = .ok (.ireturn, 1) := by decide +kernel
theorem dX7_sit_0 : decode cX7_sit 0 = .ok (.aload_n 0, 1) := by decide +kernel
theorem dX7_sit_1 : decode cX7_sit 1 = .ok (.getfield 10, 3) := by decide +kernel
theorem dX7_sit_4 : decode cX7_sit 4 = .ok (.getfield 110, 3) := by decide +kernel
theorem dX7_sit_7 : decode cX7_sit 7 = .ok (.istore_n 1, 1) := by decide +kernel
theorem dX7_sit_8 : decode cX7_sit 8 = .ok (.iconst (-1), 1) := by decide +kernel
theorem dX7_sit_9 : decode cX7_sit 9 = .ok (.istore_n 2, 1) := by decide +kernel
theorem dX7_sit_10 : decode cX7_sit 10 = .ok (.iconst 0, 1) := by decide +kernel
theorem dX7_sit_11 : decode cX7_sit 11 = .ok (.istore_n 3, 1) := by decide +kernel
theorem dX7_sit_12 : decode cX7_sit 12 = .ok (.iload_n 3, 1) := by decide +kernel
theorem dX7_sit_13 : decode cX7_sit 13 = .ok (.bipush 9, 2) := by decide +kernel
theorem dX7_sit_15 : decode cX7_sit 15 = .ok (.iload_n 1, 1) := by decide +kernel
theorem dX7_sit_16 : decode cX7_sit 16 = .ok (.isub, 1) := by decide +kernel
theorem dX7_sit_17 : decode cX7_sit 17 = .ok (.if_icmp .gt 47, 3) := by decide +kernel
theorem dX7_sit_20 : decode cX7_sit 20 = .ok (.iload_n 2, 1) := by decide +kernel
theorem dX7_sit_21 : decode cX7_sit 21 = .ok (.iconst (-1), 1) := by decide +kernel
theorem dX7_sit_22 : decode cX7_sit 22 = .ok (.if_icmp .ne 42, 3) := by decide +kernel
theorem dX7_sit_25 : decode cX7_sit 25 = .ok (.aload_n 0, 1) := by decide +kernel
theorem dX7_sit_26 : decode cX7_sit 26 = .ok (.getfield 10, 3) := by decide +kernel
theorem dX7_sit_29 : decode cX7_sit 29 = .ok (.iload_n 1, 1) := by decide +kernel
theorem dX7_sit_30 : decode cX7_sit 30 = .ok (.iload_n 3, 1) := by decide +kernel
theorem dX7_sit_31 : decode cX7_sit 31 = .ok (.iadd, 1) := by decide +kernel
theorem dX7_sit_32 : decode cX7_sit 32 = .ok (.putfield 110, 3) := by decide +kernel
theorem dX7_sit_35 : decode cX7_sit 35 = .ok (.aload_n 0, 1) := by decide +kernel
theorem dX7_sit_36 : decode cX7_sit 36 = .ok (.aload_n 0, 1) := by decide +kernel
theorem dX7_sit_37 : decode cX7_sit 37 = .ok (.getfield 10, 3) := by decide +kernel
theorem dX7_sit_40 : decode cX7_sit 40 = .ok (.getfield 117, 3) := by decide +kernel
theorem dX7_sit_43 : decode cX7_sit 43 = .ok (.aload_n 0, 1) := by decide +kernel
theorem dX7_sit_44 : decode cX7_sit 44 = .ok (.getfield 10, 3) := by decide +kernel
theorem dX7_sit_47 : decode cX7_sit 47 = .ok (.getfield 120, 3) := by decide +kernel
theorem dX7_sit_50 : decode cX7_sit 50 = .ok (.invokevirtual 149, 3) := by decide +kernel
theorem dX7_sit_53 : decode cX7_sit 53 = .ok (.ifCond .eq 5, 3) := by decide +kernel
theorem dX7_sit_56 : decode cX7_sit 56 = .ok (.iload_n 3, 1) := by decide +kernel
theorem dX7_sit_57 : decode cX7_sit 57 = .ok (.istore_n 2, 1) := by decide +kernel
theorem dX7_sit_58 : decode cX7_sit 58 = .ok (.iinc 3 1, 3) := by decide +kernel
theorem dX7_sit_61 : decode cX7_sit 61 = .ok (.goto (-49), 3) := by decide +kernel
theorem dX7_sit_64 : decode cX7_sit 64 = .ok (.aload_n 0, 1) := by decide +kernel
theorem dX7_sit_65 : decode cX7_sit 65 = .ok (.getfield 10, 3) := by decide +kernel
theorem dX7_sit_68 : decode cX7_sit 68 = .ok (.iload_n 1, 1) := by decide +kernel
theorem dX7_sit_69 : decode cX7_sit 69 = .ok (.putfield 110, 3) := by decide +kernel
theorem dX7_sit_72 : decode cX7_sit 72 = .ok (.iload_n 2, 1) := by decide +kernel
theorem dX7_sit_73 : decode cX7_sit 73 = .ok (.ireturn, 1) := by decide +kernel
theorem dX7_judge_0 : decode cX7_judge 0 = .ok (.iload_n 1, 1) := by decide +kernel
theorem dX7_judge_1 : decode cX7_judge 1 = .ok (.invokestatic 197, 3) := by decide +kernel
theorem dX7_judge_4 : decode cX7_judge 4 = .ok (.ifCond .ne 6, 3) := by decide +kernel
theorem dX7_judge_7 : decode cX7_judge 7 = .ok (.bipush (-2), 2) := by decide +kernel
theorem dX7_judge_9 : decode cX7_judge 9 = .ok (.ireturn, 1) := by decide +kernel
theorem dX7_judge_10 : decode cX7_judge 10 = .ok (.aload_n 0, 1) := by decide +kernel
theorem dX7_judge_11 : decode cX7_judge 11 = .ok (.getfield 49, 3) := by decide +kernel
theorem dX7_judge_14 : decode cX7_judge 14 = .ok (.iload_n 1, 1) := by decide +kernel
theorem dX7_judge_15 : decode cX7_judge 15 = .ok (.aaload, 1) := by decide +kernel
theorem dX7_judge_16 : decode cX7_judge 16 = .ok (.invokevirtual 200, 3) := by decide +kernel
theorem dX7_judge_19 : decode cX7_judge 19 = .ok (.ifCond .eq 8, 3) := by decide +kernel
theorem dX7_judge_22 : decode cX7_judge 22 = .ok (.bipush (-11), 2) := by decide +kernel
theorem dX7_judge_24 : decode cX7_judge 24 = .ok (.goto 20, 3) := by decide +kernel
theorem dX7_judge_27 : decode cX7_judge 27 = .ok (.aload_n 0, 1) := by decide +kernel
theorem dX7_judge_28 : decode cX7_judge 28 = .ok (.aload_n 0, 1) := by decide +kernel
theorem dX7_judge_29 : decode cX7_judge 29 = .ok (.getfield 49, 3) := by decide +kernel
theorem dX7_judge_32 : decode cX7_judge 32 = .ok (.iload_n 1, 1) := by decide +kernel
theorem dX7_judge_33 : decode cX7_judge 33 = .ok (.aaload, 1) := by decide +kernel
theorem dX7_judge_34 : decode cX7_judge 34 = .ok (.aload_n 0, 1) := by decide +kernel
theorem dX7_judge_35 : decode cX7_judge 35 = .ok (.getfield 10, 3) := by decide +kernel
theorem dX7_judge_38 : decode cX7_judge 38 = .ok (.getfield 117, 3) := by decide +kernel
theorem dX7_judge_41 : decode cX7_judge 41 = .ok (.invokevirtual 203, 3) := by decide +kernel
theorem dX7_judge_44 : decode cX7_judge 44 = .ok (.ireturn, 1) := by decide +kernel
theorem dX7_which_0 : decode cX7_which 0 = .ok (.iload_n 1, 1) := by decide +kernel
theorem dX7_which_1 : decode cX7_which 1 = .ok (.invokestatic 197, 3) := by decide +kernel
theorem dX7_which_4 : decode cX7_which 4 = .ok (.ifCond .eq 15, 3) := by decide +kernel
theorem dX7_which_7 : decode cX7_which 7 = .ok (.aload_n 0, 1) := by decide +kernel
theorem dX7_which_8 : decode cX7_which 8 = .ok (.getfield 49, 3) := by decide +kernel
theorem dX7_which_11 : decode cX7_which 11 = .ok (.iload_n 1, 1) := by decide +kernel
theorem dX7_which_12 : decode cX7_which 12 = .ok (.aaload, 1) := by decide +kernel
theorem dX7_which_13 : decode cX7_which 13 = .ok (.invokevirtual 200, 3) := by decide +kernel
theorem dX7_which_16 : decode cX7_which 16 = .ok (.ifCond .eq 7, 3) := by decide +kernel
theorem dX7_which_19 : decode cX7_which 19 = .ok (.ldc2_w 207, 3) := by decide +kernel
theorem dX7_which_22 : decode cX7_which 22 = .ok (.lreturn, 1) := by decide +kernel
theorem dX7_which_23 : decode cX7_which 23 = .ok (.lconst 0, 1) := by decide +kernel
theorem dX7_which_24 : decode cX7_which 24 = .ok (.lstore_n 2, 1) := by decide +kernel
theorem dX7_which_25 : decode cX7_which 25 = .ok (.iconst 0, 1) := by decide +kernel
theorem dX7_which_26 : decode cX7_which 26 = .ok (.istore 4, 2) := by decide +kernel
theorem dX7_which_28 : decode cX7_which 28 = .ok (.iload 4, 2) := by decide +kernel
theorem dX7_which_30 : decode cX7_which 30 = .ok (.bipush 64, 2) := by decide +kernel
theorem dX7_which_32 : decode cX7_which 32 = .ok (.if_icmp .ge 32, 3) := by decide +kernel
theorem dX7_which_35 : decode cX7_which 35 = .ok (.aload_n 0, 1) := by decide +kernel
theorem dX7_which_36 : decode cX7_which 36 = .ok (.aload_n 0, 1) := by decide +kernel
theorem dX7_which_37 : decode cX7_which 37 = .ok (.getfield 49, 3) := by decide +kernel
theorem dX7_which_40 : decode cX7_which 40 = .ok (.iload_n 1, 1) := by decide +kernel
theorem dX7_which_41 : decode cX7_which 41 = .ok (.aaload, 1) := by decide +kernel
theorem dX7_which_42 : decode cX7_which 42 = .ok (.iload 4, 2) := by decide +kernel
theorem dX7_which_44 : decode cX7_which 44 = .ok (.invokevirtual 203, 3) := by decide +kernel
theorem dX7_which_47 : decode cX7_which 47 = .ok (.iconst (-1), 1) := by decide +kernel
theorem dX7_which_48 : decode cX7_which 48 = .ok (.if_icmp .ne 10, 3) := by decide +kernel
theorem dX7_which_51 : decode cX7_which 51 = .ok (.lload_n 2, 1) := by decide +kernel
theorem dX7_which_52 : decode cX7_which 52 = .ok (.lconst 1, 1) := by decide +kernel
theorem dX7_which_53 : decode cX7_which 53 = .ok (.iload 4, 2) := by decide +kernel
theorem dX7_which_55 : decode cX7_which 55 = .ok (.lshl, 1) := by decide +kernel
theorem dX7_which_56 : decode cX7_which 56 = .ok (.lor, 1) := by decide +kernel
theorem dX7_which_57 : decode cX7_which 57 = .ok (.lstore_n 2, 1) := by decide +kernel
theorem dX7_which_58 : decode cX7_which 58 = .ok (.iinc 4 1, 3) := by decide +kernel
theorem dX7_which_61 : decode cX7_which 61 = .ok (.goto (-33), 3) := by decide +kernel
theorem dX7_which_64 : decode cX7_which 64 = .ok (.lload_n 2, 1) := by decide +kernel
theorem dX7_which_65 : decode cX7_which 65 = .ok (.lreturn, 1) := by decide +kernel
theorem dX7_drawn_0 : decode cX7_drawn 0 = .ok (.iload_n 1, 1) := by decide +kernel
theorem dX7_drawn_1 : decode cX7_drawn 1 = .ok (.invokestatic 209, 3) := by decide +kernel
theorem dX7_drawn_4 : decode cX7_drawn 4 = .ok (.istore_n 2, 1) := by decide +kernel
theorem dX7_drawn_5 : decode cX7_drawn 5 = .ok (.iload_n 2, 1) := by decide +kernel
theorem dX7_drawn_6 : decode cX7_drawn 6 = .ok (.invokestatic 209, 3) := by decide +kernel
theorem dX7_drawn_9 : decode cX7_drawn 9 = .ok (.istore_n 3, 1) := by decide +kernel
theorem dX7_drawn_10 : decode cX7_drawn 10 = .ok (.aload_n 0, 1) := by decide +kernel
theorem dX7_drawn_11 : decode cX7_drawn 11 = .ok (.iload_n 2, 1) := by decide +kernel
theorem dX7_drawn_12 : decode cX7_drawn 12 = .ok (.bipush 8, 2) := by decide +kernel
theorem dX7_drawn_14 : decode cX7_drawn 14 = .ok (.iushr, 1) := by decide +kernel
theorem dX7_drawn_15 : decode cX7_drawn 15 = .ok (.bipush 64, 2) := by decide +kernel
theorem dX7_drawn_17 : decode cX7_drawn 17 = .ok (.irem, 1) := by decide +kernel
theorem dX7_drawn_18 : decode cX7_drawn 18 = .ok (.iload_n 3, 1) := by decide +kernel
theorem dX7_drawn_19 : decode cX7_drawn 19 = .ok (.bipush 10, 2) := by decide +kernel
theorem dX7_drawn_21 : decode cX7_drawn 21 = .ok (.iushr, 1) := by decide +kernel
theorem dX7_drawn_22 : decode cX7_drawn 22 = .ok (.bipush 8, 2) := by decide +kernel
theorem dX7_drawn_24 : decode cX7_drawn 24 = .ok (.irem, 1) := by decide +kernel
theorem dX7_drawn_25 : decode cX7_drawn 25 = .ok (.invokevirtual 156, 3) := by decide +kernel
theorem dX7_drawn_28 : decode cX7_drawn 28 = .ok (.aload_n 0, 1) := by decide +kernel
theorem dX7_drawn_29 : decode cX7_drawn 29 = .ok (.getfield 43, 3) := by decide +kernel
theorem dX7_drawn_32 : decode cX7_drawn 32 = .ok (.getfield 212, 3) := by decide +kernel
theorem dX7_drawn_35 : decode cX7_drawn 35 = .ok (.ireturn, 1) := by decide +kernel
theorem dX7_odds_0 : decode cX7_odds 0 = .ok (.iload_n 2, 1) := by decide +kernel
theorem dX7_odds_1 : decode cX7_odds 1 = .ok (.iconst 1, 1) := by decide +kernel
theorem dX7_odds_2 : decode cX7_odds 2 = .ok (.bipush 30, 2) := by decide +kernel
theorem dX7_odds_4 : decode cX7_odds 4 = .ok (.invokestatic 74, 3) := by decide +kernel
theorem dX7_odds_7 : decode cX7_odds 7 = .ok (.ifCond .eq 12, 3) := by decide +kernel
theorem dX7_odds_10 : decode cX7_odds 10 = .ok (.iload_n 3, 1) := by decide +kernel
theorem dX7_odds_11 : decode cX7_odds 11 = .ok (.iconst 0, 1) := by decide +kernel
theorem dX7_odds_12 : decode cX7_odds 12 = .ok (.iconst 1, 1) := by decide +kernel
theorem dX7_odds_13 : decode cX7_odds 13 = .ok (.invokestatic 74, 3) := by decide +kernel
theorem dX7_odds_16 : decode cX7_odds 16 = .ok (.ifCond .ne 7, 3) := by decide +kernel
theorem dX7_odds_19 : decode cX7_odds 19 = .ok (.ldc2_w 207, 3) := by decide +kernel
theorem dX7_odds_22 : decode cX7_odds 22 = .ok (.lreturn, 1) := by decide +kernel
theorem dX7_odds_23 : decode cX7_odds 23 = .ok (.iconst 0, 1) := by decide +kernel
theorem dX7_odds_24 : decode cX7_odds 24 = .ok (.istore 4, 2) := by decide +kernel
theorem dX7_odds_26 : decode cX7_odds 26 = .ok (.iconst 0, 1) := by decide +kernel
theorem dX7_odds_27 : decode cX7_odds 27 = .ok (.istore 5, 2) := by decide +kernel
theorem dX7_odds_29 : decode cX7_odds 29 = .ok (.iload 5, 2) := by decide +kernel
theorem dX7_odds_31 : decode cX7_odds 31 = .ok (.iload_n 2, 1) := by decide +kernel
theorem dX7_odds_32 : decode cX7_odds 32 = .ok (.if_icmp .ge 23, 3) := by decide +kernel
theorem dX7_odds_35 : decode cX7_odds 35 = .ok (.aload_n 0, 1) := by decide +kernel
theorem dX7_odds_36 : decode cX7_odds 36 = .ok (.iload_n 1, 1) := by decide +kernel
theorem dX7_odds_37 : decode cX7_odds 37 = .ok (.iload 5, 2) := by decide +kernel
theorem dX7_odds_39 : decode cX7_odds 39 = .ok (.iadd, 1) := by decide +kernel
theorem dX7_odds_40 : decode cX7_odds 40 = .ok (.invokevirtual 215, 3) := by decide +kernel
theorem dX7_odds_43 : decode cX7_odds 43 = .ok (.ifCond .ne 6, 3) := by decide +kernel
theorem dX7_odds_46 : decode cX7_odds 46 = .ok (.iinc 4 1, 3) := by decide +kernel
theorem dX7_odds_49 : decode cX7_odds 49 = .ok (.iinc 5 1, 3) := by decide +kernel
theorem dX7_odds_52 : decode cX7_odds 52 = .ok (.goto (-23), 3) := by decide +kernel
theorem dX7_odds_55 : decode cX7_odds 55 = .ok (.iload 4, 2) := by decide +kernel
theorem dX7_odds_57 : decode cX7_odds 57 = .ok (.iload_n 2, 1) := by decide +kernel
theorem dX7_odds_58 : decode cX7_odds 58 = .ok (.invokestatic 218, 3) := by decide +kernel
theorem dX7_odds_61 : decode cX7_odds 61 = .ok (.istore 5, 2) := by decide +kernel
theorem dX7_odds_63 : decode cX7_odds 63 = .ok (.iload_n 3, 1) := by decide +kernel
theorem dX7_odds_64 : decode cX7_odds 64 = .ok (.ifCond .ne 12, 3) := by decide +kernel
theorem dX7_odds_67 : decode cX7_odds 67 = .ok (.iload 4, 2) := by decide +kernel
theorem dX7_odds_69 : decode cX7_odds 69 = .ok (.iload 5, 2) := by decide +kernel
theorem dX7_odds_71 : decode cX7_odds 71 = .ok (.idiv, 1) := by decide +kernel
theorem dX7_odds_72 : decode cX7_odds 72 = .ok (.i2l, 1) := by decide +kernel
theorem dX7_odds_73 : decode cX7_odds 73 = .ok (.goto 8, 3) := by decide +kernel
theorem dX7_odds_76 : decode cX7_odds 76 = .ok (.iload_n 2, 1) := by decide +kernel
theorem dX7_odds_77 : decode cX7_odds 77 = .ok (.iload 5, 2) := by decide +kernel
theorem dX7_odds_79 : decode cX7_odds 79 = .ok (.idiv, 1) := by decide +kernel
theorem dX7_odds_80 : decode cX7_odds 80 = .ok (.i2l, 1) := by decide +kernel
theorem dX7_odds_81 : decode cX7_odds 81 = .ok (.lreturn, 1) := by decide +kernel
theorem dX7_image_0 : decode cX7_image 0 = .ok (.aload_n 0, 1) := by decide +kernel
theorem dX7_image_1 : decode cX7_image 1 = .ok (.getfield 16, 3) := by decide +kernel
theorem dX7_image_4 : decode cX7_image 4 = .ok (.aload_n 0, 1) := by decide +kernel
theorem dX7_image_5 : decode cX7_image 5 = .ok (.getfield 10, 3) := by decide +kernel
theorem dX7_image_8 : decode cX7_image 8 = .ok (.invokevirtual 221, 3) := by decide +kernel
theorem dX7_image_11 : decode cX7_image 11 = .ok (.aload_n 0, 1) := by decide +kernel
theorem dX7_image_12 : decode cX7_image 12 = .ok (.iconst 1, 1) := by decide +kernel
theorem dX7_image_13 : decode cX7_image 13 = .ok (.putfield 19, 3) := by decide +kernel
theorem dX7_image_16 : decode cX7_image 16 = .ok (.aload_n 0, 1) := by decide +kernel
theorem dX7_image_17 : decode cX7_image 17 = .ok (.getfield 10, 3) := by decide +kernel
theorem dX7_image_20 : decode cX7_image 20 = .ok (.getfield 120, 3) := by decide +kernel
theorem dX7_image_23 : decode cX7_image 23 = .ok (.ireturn, 1) := by decide +kernel
theorem dX7_back_0 : decode cX7_back 0 = .ok (.aload_n 0, 1) := by decide +kernel
theorem dX7_back_1 : decode cX7_back 1 = .ok (.getfield 19, 3) := by decide +kernel
theorem dX7_back_4 : decode cX7_back 4 = .ok (.ifCond .ne 6, 3) := by decide +kernel
theorem dX7_back_7 : decode cX7_back 7 = .ok (.bipush (-3), 2) := by decide +kernel
theorem dX7_back_9 : decode cX7_back 9 = .ok (.ireturn, 1) := by decide +kernel
theorem dX7_back_10 : decode cX7_back 10 = .ok (.aload_n 0, 1) := by decide +kernel
theorem dX7_back_11 : decode cX7_back 11 = .ok (.getfield 10, 3) := by decide +kernel
theorem dX7_back_14 : decode cX7_back 14 = .ok (.aload_n 0, 1) := by decide +kernel
theorem dX7_back_15 : decode cX7_back 15 = .ok (.getfield 16, 3) := by decide +kernel
theorem dX7_back_18 : decode cX7_back 18 = .ok (.invokevirtual 221, 3) := by decide +kernel
theorem dX7_back_21 : decode cX7_back 21 = .ok (.aload_n 0, 1) := by decide +kernel
theorem dX7_back_22 : decode cX7_back 22 = .ok (.getfield 10, 3) := by decide +kernel
theorem dX7_back_25 : decode cX7_back 25 = .ok (.getfield 120, 3) := by decide +kernel
theorem dX7_back_28 : decode cX7_back 28 = .ok (.ireturn, 1) := by decide +kernel
theorem dX7_count_0 : decode cX7_count 0 = .ok (.iload_n 1, 1) := by decide +kernel
theorem dX7_count_1 : decode cX7_count 1 = .ok (.tableswitch 96 0 6 #[43, 51, 59, 67, 75, 80, 88], 43) := by decide +kernel
theorem dX7_count_44 : decode cX7_count 44 = .ok (.aload_n 0, 1) := by decide +kernel
theorem dX7_count_45 : decode cX7_count 45 = .ok (.getfield 10, 3) := by decide +kernel
theorem dX7_count_48 : decode cX7_count 48 = .ok (.getfield 117, 3) := by decide +kernel
theorem dX7_count_51 : decode cX7_count 51 = .ok (.ireturn, 1) := by decide +kernel
theorem dX7_count_52 : decode cX7_count 52 = .ok (.aload_n 0, 1) := by decide +kernel
theorem dX7_count_53 : decode cX7_count 53 = .ok (.getfield 10, 3) := by decide +kernel
theorem dX7_count_56 : decode cX7_count 56 = .ok (.getfield 224, 3) := by decide +kernel
theorem dX7_count_59 : decode cX7_count 59 = .ok (.ireturn, 1) := by decide +kernel
theorem dX7_count_60 : decode cX7_count 60 = .ok (.aload_n 0, 1) := by decide +kernel
theorem dX7_count_61 : decode cX7_count 61 = .ok (.getfield 10, 3) := by decide +kernel
theorem dX7_count_64 : decode cX7_count 64 = .ok (.getfield 120, 3) := by decide +kernel
theorem dX7_count_67 : decode cX7_count 67 = .ok (.ireturn, 1) := by decide +kernel
theorem dX7_count_68 : decode cX7_count 68 = .ok (.aload_n 0, 1) := by decide +kernel
theorem dX7_count_69 : decode cX7_count 69 = .ok (.getfield 10, 3) := by decide +kernel
theorem dX7_count_72 : decode cX7_count 72 = .ok (.getfield 110, 3) := by decide +kernel
theorem dX7_count_75 : decode cX7_count 75 = .ok (.ireturn, 1) := by decide +kernel
theorem dX7_count_76 : decode cX7_count 76 = .ok (.aload_n 0, 1) := by decide +kernel
theorem dX7_count_77 : decode cX7_count 77 = .ok (.getfield 36, 3) := by decide +kernel
theorem dX7_count_80 : decode cX7_count 80 = .ok (.ireturn, 1) := by decide +kernel
theorem dX7_count_81 : decode cX7_count 81 = .ok (.aload_n 0, 1) := by decide +kernel
theorem dX7_count_82 : decode cX7_count 82 = .ok (.getfield 26, 3) := by decide +kernel
theorem dX7_count_85 : decode cX7_count 85 = .ok (.getfield 129, 3) := by decide +kernel
theorem dX7_count_88 : decode cX7_count 88 = .ok (.ireturn, 1) := by decide +kernel
theorem dX7_count_89 : decode cX7_count 89 = .ok (.aload_n 0, 1) := by decide +kernel
theorem dX7_count_90 : decode cX7_count 90 = .ok (.getfield 10, 3) := by decide +kernel
theorem dX7_count_93 : decode cX7_count 93 = .ok (.getfield 143, 3) := by decide +kernel
theorem dX7_count_96 : decode cX7_count 96 = .ok (.ireturn, 1) := by decide +kernel
theorem dX7_count_97 : decode cX7_count 97 = .ok (.bipush (-2), 2) := by decide +kernel
theorem dX7_count_99 : decode cX7_count 99 = .ok (.ireturn, 1) := by decide +kernel
theorem dX7_sheet_0 : decode cX7_sheet 0 = .ok (.iload_n 1, 1) := by decide +kernel
theorem dX7_sheet_1 : decode cX7_sheet 1 = .ok (.invokestatic 197, 3) := by decide +kernel
theorem dX7_sheet_4 : decode cX7_sheet 4 = .ok (.ifCond .eq 12, 3) := by decide +kernel
theorem dX7_sheet_7 : decode cX7_sheet 7 = .ok (.iload_n 2, 1) := by decide +kernel
theorem dX7_sheet_8 : decode cX7_sheet 8 = .ok (.iconst (-1), 1) := by decide +kernel
theorem dX7_sheet_9 : decode cX7_sheet 9 = .ok (.iconst 2, 1) := by decide +kernel
theorem dX7_sheet_10 : decode cX7_sheet 10 = .ok (.invokestatic 74, 3) := by decide +kernel
theorem dX7_sheet_13 : decode cX7_sheet 13 = .ok (.ifCond .ne 6, 3) := by decide +kernel
theorem dX7_sheet_16 : decode cX7_sheet 16 = .ok (.bipush (-2), 2) := by decide +kernel
theorem dX7_sheet_18 : decode cX7_sheet 18 = .ok (.ireturn, 1) := by decide +kernel
theorem dX7_sheet_19 : decode cX7_sheet 19 = .ok (.iload_n 2, 1) := by decide +kernel
theorem dX7_sheet_20 : decode cX7_sheet 20 = .ok (.iconst (-1), 1) := by decide +kernel
theorem dX7_sheet_21 : decode cX7_sheet 21 = .ok (.if_icmp .ne 14, 3) := by decide +kernel
theorem dX7_sheet_24 : decode cX7_sheet 24 = .ok (.aload_n 0, 1) := by decide +kernel
theorem dX7_sheet_25 : decode cX7_sheet 25 = .ok (.getfield 49, 3) := by decide +kernel
theorem dX7_sheet_28 : decode cX7_sheet 28 = .ok (.iload_n 1, 1) := by decide +kernel
theorem dX7_sheet_29 : decode cX7_sheet 29 = .ok (.aaload, 1) := by decide +kernel
theorem dX7_sheet_30 : decode cX7_sheet 30 = .ok (.invokevirtual 227, 3) := by decide +kernel
theorem dX7_sheet_33 : decode cX7_sheet 33 = .ok (.iconst 1, 1) := by decide +kernel
theorem dX7_sheet_34 : decode cX7_sheet 34 = .ok (.ireturn, 1) := by decide +kernel
theorem dX7_sheet_35 : decode cX7_sheet 35 = .ok (.iload_n 3, 1) := by decide +kernel
theorem dX7_sheet_36 : decode cX7_sheet 36 = .ok (.bipush 40, 2) := by decide +kernel
theorem dX7_sheet_38 : decode cX7_sheet 38 = .ok (.if_icmp .le 6, 3) := by decide +kernel
theorem dX7_sheet_41 : decode cX7_sheet 41 = .ok (.bipush (-2), 2) := by decide +kernel
theorem dX7_sheet_43 : decode cX7_sheet 43 = .ok (.ireturn, 1) := by decide +kernel
theorem dX7_sheet_44 : decode cX7_sheet 44 = .ok (.iload_n 3, 1) := by decide +kernel
theorem dX7_sheet_45 : decode cX7_sheet 45 = .ok (.ifCond .ge 6, 3) := by decide +kernel
theorem dX7_sheet_48 : decode cX7_sheet 48 = .ok (.bipush (-14), 2) := by decide +kernel
theorem dX7_sheet_50 : decode cX7_sheet 50 = .ok (.ireturn, 1) := by decide +kernel
theorem dX7_sheet_51 : decode cX7_sheet 51 = .ok (.aload_n 0, 1) := by decide +kernel
theorem dX7_sheet_52 : decode cX7_sheet 52 = .ok (.getfield 49, 3) := by decide +kernel
theorem dX7_sheet_55 : decode cX7_sheet 55 = .ok (.iload_n 1, 1) := by decide +kernel
theorem dX7_sheet_56 : decode cX7_sheet 56 = .ok (.aaload, 1) := by decide +kernel
theorem dX7_sheet_57 : decode cX7_sheet 57 = .ok (.iload_n 2, 1) := by decide +kernel
theorem dX7_sheet_58 : decode cX7_sheet 58 = .ok (.iload_n 3, 1) := by decide +kernel
theorem dX7_sheet_59 : decode cX7_sheet 59 = .ok (.invokevirtual 230, 3) := by decide +kernel
theorem dX7_sheet_62 : decode cX7_sheet 62 = .ok (.iconst 1, 1) := by decide +kernel
theorem dX7_sheet_63 : decode cX7_sheet 63 = .ok (.ireturn, 1) := by decide +kernel
theorem dX7_cell_0 : decode cX7_cell 0 = .ok (.iload_n 1, 1) := by decide +kernel
theorem dX7_cell_1 : decode cX7_cell 1 = .ok (.invokestatic 197, 3) := by decide +kernel
theorem dX7_cell_4 : decode cX7_cell 4 = .ok (.ifCond .ne 6, 3) := by decide +kernel
theorem dX7_cell_7 : decode cX7_cell 7 = .ok (.bipush (-2), 2) := by decide +kernel
theorem dX7_cell_9 : decode cX7_cell 9 = .ok (.ireturn, 1) := by decide +kernel
theorem dX7_cell_10 : decode cX7_cell 10 = .ok (.aload_n 0, 1) := by decide +kernel
theorem dX7_cell_11 : decode cX7_cell 11 = .ok (.getfield 49, 3) := by decide +kernel
theorem dX7_cell_14 : decode cX7_cell 14 = .ok (.iload_n 1, 1) := by decide +kernel
theorem dX7_cell_15 : decode cX7_cell 15 = .ok (.aaload, 1) := by decide +kernel
theorem dX7_cell_16 : decode cX7_cell 16 = .ok (.invokevirtual 200, 3) := by decide +kernel
theorem dX7_cell_19 : decode cX7_cell 19 = .ok (.ifCond .eq 6, 3) := by decide +kernel
theorem dX7_cell_22 : decode cX7_cell 22 = .ok (.bipush (-11), 2) := by decide +kernel
theorem dX7_cell_24 : decode cX7_cell 24 = .ok (.ireturn, 1) := by decide +kernel
theorem dX7_cell_25 : decode cX7_cell 25 = .ok (.aload_n 0, 1) := by decide +kernel
theorem dX7_cell_26 : decode cX7_cell 26 = .ok (.getfield 49, 3) := by decide +kernel
theorem dX7_cell_29 : decode cX7_cell 29 = .ok (.iload_n 1, 1) := by decide +kernel
theorem dX7_cell_30 : decode cX7_cell 30 = .ok (.aaload, 1) := by decide +kernel
theorem dX7_cell_31 : decode cX7_cell 31 = .ok (.iload_n 2, 1) := by decide +kernel
theorem dX7_cell_32 : decode cX7_cell 32 = .ok (.invokevirtual 233, 3) := by decide +kernel
theorem dX7_cell_35 : decode cX7_cell 35 = .ok (.ifCond .ne 6, 3) := by decide +kernel
theorem dX7_cell_38 : decode cX7_cell 38 = .ok (.bipush (-12), 2) := by decide +kernel
theorem dX7_cell_40 : decode cX7_cell 40 = .ok (.ireturn, 1) := by decide +kernel
theorem dX7_cell_41 : decode cX7_cell 41 = .ok (.aload_n 0, 1) := by decide +kernel
theorem dX7_cell_42 : decode cX7_cell 42 = .ok (.getfield 49, 3) := by decide +kernel
theorem dX7_cell_45 : decode cX7_cell 45 = .ok (.iload_n 1, 1) := by decide +kernel
theorem dX7_cell_46 : decode cX7_cell 46 = .ok (.aaload, 1) := by decide +kernel
theorem dX7_cell_47 : decode cX7_cell 47 = .ok (.iload_n 2, 1) := by decide +kernel
theorem dX7_cell_48 : decode cX7_cell 48 = .ok (.iload_n 3, 1) := by decide +kernel
theorem dX7_cell_49 : decode cX7_cell 49 = .ok (.invokevirtual 236, 3) := by decide +kernel
theorem dX7_cell_52 : decode cX7_cell 52 = .ok (.iconst 1, 1) := by decide +kernel
theorem dX7_cell_53 : decode cX7_cell 53 = .ok (.ireturn, 1) := by decide +kernel
theorem dX7_copy_0 : decode cX7_copy 0 = .ok (.iload_n 1, 1) := by decide +kernel
theorem dX7_copy_1 : decode cX7_copy 1 = .ok (.invokestatic 197, 3) := by decide +kernel
theorem dX7_copy_4 : decode cX7_copy 4 = .ok (.ifCond .eq 10, 3) := by decide +kernel
theorem dX7_copy_7 : decode cX7_copy 7 = .ok (.iload_n 3, 1) := by decide +kernel
theorem dX7_copy_8 : decode cX7_copy 8 = .ok (.invokestatic 197, 3) := by decide +kernel
theorem dX7_copy_11 : decode cX7_copy 11 = .ok (.ifCond .ne 6, 3) := by decide +kernel
theorem dX7_copy_14 : decode cX7_copy 14 = .ok (.bipush (-2), 2) := by decide +kernel
theorem dX7_copy_16 : decode cX7_copy 16 = .ok (.ireturn, 1) := by decide +kernel
theorem dX7_copy_17 : decode cX7_copy 17 = .ok (.aload_n 0, 1) := by decide +kernel
theorem dX7_copy_18 : decode cX7_copy 18 = .ok (.getfield 49, 3) := by decide +kernel
theorem dX7_copy_21 : decode cX7_copy 21 = .ok (.iload_n 1, 1) := by decide +kernel
theorem dX7_copy_22 : decode cX7_copy 22 = .ok (.aaload, 1) := by decide +kernel
theorem dX7_copy_23 : decode cX7_copy 23 = .ok (.astore 6, 2) := by decide +kernel
theorem dX7_copy_25 : decode cX7_copy 25 = .ok (.aload_n 0, 1) := by decide +kernel
theorem dX7_copy_26 : decode cX7_copy 26 = .ok (.getfield 49, 3) := by decide +kernel
theorem dX7_copy_29 : decode cX7_copy 29 = .ok (.iload_n 3, 1) := by decide +kernel
theorem dX7_copy_30 : decode cX7_copy 30 = .ok (.aaload, 1) := by decide +kernel
theorem dX7_copy_31 : decode cX7_copy 31 = .ok (.astore 7, 2) := by decide +kernel
theorem dX7_copy_33 : decode cX7_copy 33 = .ok (.aload 6, 2) := by decide +kernel
theorem dX7_copy_35 : decode cX7_copy 35 = .ok (.invokevirtual 200, 3) := by decide +kernel
theorem dX7_copy_38 : decode cX7_copy 38 = .ok (.ifCond .ne 11, 3) := by decide +kernel
theorem dX7_copy_41 : decode cX7_copy 41 = .ok (.aload 7, 2) := by decide +kernel
theorem dX7_copy_43 : decode cX7_copy 43 = .ok (.invokevirtual 200, 3) := by decide +kernel
theorem dX7_copy_46 : decode cX7_copy 46 = .ok (.ifCond .eq 6, 3) := by decide +kernel
theorem dX7_copy_49 : decode cX7_copy 49 = .ok (.bipush (-11), 2) := by decide +kernel
theorem dX7_copy_51 : decode cX7_copy 51 = .ok (.ireturn, 1) := by decide +kernel
theorem dX7_copy_52 : decode cX7_copy 52 = .ok (.aload 6, 2) := by decide +kernel
theorem dX7_copy_54 : decode cX7_copy 54 = .ok (.getfield 239, 3) := by decide +kernel
theorem dX7_copy_57 : decode cX7_copy 57 = .ok (.aload 7, 2) := by decide +kernel
theorem dX7_copy_59 : decode cX7_copy 59 = .ok (.getfield 239, 3) := by decide +kernel
theorem dX7_copy_62 : decode cX7_copy 62 = .ok (.if_icmp .eq 6, 3) := by decide +kernel
theorem dX7_copy_65 : decode cX7_copy 65 = .ok (.bipush (-13), 2) := by decide +kernel
theorem dX7_copy_67 : decode cX7_copy 67 = .ok (.ireturn, 1) := by decide +kernel
theorem dX7_copy_68 : decode cX7_copy 68 = .ok (.aload 6, 2) := by decide +kernel
theorem dX7_copy_70 : decode cX7_copy 70 = .ok (.iload_n 2, 1) := by decide +kernel
theorem dX7_copy_71 : decode cX7_copy 71 = .ok (.iload 5, 2) := by decide +kernel
theorem dX7_copy_73 : decode cX7_copy 73 = .ok (.invokevirtual 242, 3) := by decide +kernel
theorem dX7_copy_76 : decode cX7_copy 76 = .ok (.ifCond .eq 15, 3) := by decide +kernel
theorem dX7_copy_79 : decode cX7_copy 79 = .ok (.aload 7, 2) := by decide +kernel
theorem dX7_copy_81 : decode cX7_copy 81 = .ok (.iload 4, 2) := by decide +kernel
theorem dX7_copy_83 : decode cX7_copy 83 = .ok (.iload 5, 2) := by decide +kernel
theorem dX7_copy_85 : decode cX7_copy 85 = .ok (.invokevirtual 242, 3) := by decide +kernel
theorem dX7_copy_88 : decode cX7_copy 88 = .ok (.ifCond .ne 6, 3) := by decide +kernel
theorem dX7_copy_91 : decode cX7_copy 91 = .ok (.bipush (-12), 2) := by decide +kernel
theorem dX7_copy_93 : decode cX7_copy 93 = .ok (.ireturn, 1) := by decide +kernel
theorem dX7_copy_94 : decode cX7_copy 94 = .ok (.aload 6, 2) := by decide +kernel
theorem dX7_copy_96 : decode cX7_copy 96 = .ok (.getfield 245, 3) := by decide +kernel
theorem dX7_copy_99 : decode cX7_copy 99 = .ok (.iload_n 2, 1) := by decide +kernel
theorem dX7_copy_100 : decode cX7_copy 100 = .ok (.aload 7, 2) := by decide +kernel
theorem dX7_copy_102 : decode cX7_copy 102 = .ok (.getfield 245, 3) := by decide +kernel
theorem dX7_copy_105 : decode cX7_copy 105 = .ok (.iload 4, 2) := by decide +kernel
theorem dX7_copy_107 : decode cX7_copy 107 = .ok (.iload 5, 2) := by decide +kernel
theorem dX7_copy_109 : decode cX7_copy 109 = .ok (.invokestatic 248, 3) := by decide +kernel
theorem dX7_copy_112 : decode cX7_copy 112 = .ok (.iload 5, 2) := by decide +kernel
theorem dX7_copy_114 : decode cX7_copy 114 = .ok (.ireturn, 1) := by decide +kernel
theorem dX7_floors_0 : decode cX7_floors 0 = .ok (.iload_n 1, 1) := by decide +kernel
theorem dX7_floors_1 : decode cX7_floors 1 = .ok (.invokestatic 197, 3) := by decide +kernel
theorem dX7_floors_4 : decode cX7_floors 4 = .ok (.ifCond .eq 23, 3) := by decide +kernel
theorem dX7_floors_7 : decode cX7_floors 7 = .ok (.iload_n 2, 1) := by decide +kernel
theorem dX7_floors_8 : decode cX7_floors 8 = .ok (.iconst 0, 1) := by decide +kernel
theorem dX7_floors_9 : decode cX7_floors 9 = .ok (.iconst 2, 1) := by decide +kernel
theorem dX7_floors_10 : decode cX7_floors 10 = .ok (.invokestatic 74, 3) := by decide +kernel
theorem dX7_floors_13 : decode cX7_floors 13 = .ok (.ifCond .eq 14, 3) := by decide +kernel
theorem dX7_floors_16 : decode cX7_floors 16 = .ok (.iload 4, 2) := by decide +kernel
theorem dX7_floors_18 : decode cX7_floors 18 = .ok (.iconst 0, 1) := by decide +kernel
theorem dX7_floors_19 : decode cX7_floors 19 = .ok (.bipush 20, 2) := by decide +kernel
theorem dX7_floors_21 : decode cX7_floors 21 = .ok (.invokestatic 74, 3) := by decide +kernel
theorem dX7_floors_24 : decode cX7_floors 24 = .ok (.ifCond .ne 6, 3) := by decide +kernel
theorem dX7_floors_27 : decode cX7_floors 27 = .ok (.bipush (-2), 2) := by decide +kernel
theorem dX7_floors_29 : decode cX7_floors 29 = .ok (.ireturn, 1) := by decide +kernel
theorem dX7_floors_30 : decode cX7_floors 30 = .ok (.aload_n 0, 1) := by decide +kernel
theorem dX7_floors_31 : decode cX7_floors 31 = .ok (.getfield 49, 3) := by decide +kernel
theorem dX7_floors_34 : decode cX7_floors 34 = .ok (.iload_n 1, 1) := by decide +kernel
theorem dX7_floors_35 : decode cX7_floors 35 = .ok (.aaload, 1) := by decide +kernel
theorem dX7_floors_36 : decode cX7_floors 36 = .ok (.astore 5, 2) := by decide +kernel
theorem dX7_floors_38 : decode cX7_floors 38 = .ok (.aload 5, 2) := by decide +kernel
theorem dX7_floors_40 : decode cX7_floors 40 = .ok (.invokevirtual 200, 3) := by decide +kernel
theorem dX7_floors_43 : decode cX7_floors 43 = .ok (.ifCond .eq 6, 3) := by decide +kernel
theorem dX7_floors_46 : decode cX7_floors 46 = .ok (.bipush (-11), 2) := by decide +kernel
theorem dX7_floors_48 : decode cX7_floors 48 = .ok (.ireturn, 1) := by decide +kernel
theorem dX7_floors_49 : decode cX7_floors 49 = .ok (.aload 5, 2) := by decide +kernel
theorem dX7_floors_51 : decode cX7_floors 51 = .ok (.getfield 239, 3) := by decide +kernel
theorem dX7_floors_54 : decode cX7_floors 54 = .ok (.iload_n 2, 1) := by decide +kernel
theorem dX7_floors_55 : decode cX7_floors 55 = .ok (.if_icmp .eq 6, 3) := by decide +kernel
theorem dX7_floors_58 : decode cX7_floors 58 = .ok (.bipush (-13), 2) := by decide +kernel
theorem dX7_floors_60 : decode cX7_floors 60 = .ok (.ireturn, 1) := by decide +kernel
theorem dX7_floors_61 : decode cX7_floors 61 = .ok (.iconst 0, 1) := by decide +kernel
theorem dX7_floors_62 : decode cX7_floors 62 = .ok (.istore 6, 2) := by decide +kernel
theorem dX7_floors_64 : decode cX7_floors 64 = .ok (.iconst 0, 1) := by decide +kernel
theorem dX7_floors_65 : decode cX7_floors 65 = .ok (.istore 7, 2) := by decide +kernel
theorem dX7_floors_67 : decode cX7_floors 67 = .ok (.iload 7, 2) := by decide +kernel
theorem dX7_floors_69 : decode cX7_floors 69 = .ok (.iload 4, 2) := by decide +kernel
theorem dX7_floors_71 : decode cX7_floors 71 = .ok (.if_icmp .ge 61, 3) := by decide +kernel
theorem dX7_floors_74 : decode cX7_floors 74 = .ok (.iload_n 3, 1) := by decide +kernel
theorem dX7_floors_75 : decode cX7_floors 75 = .ok (.iconst 2, 1) := by decide +kernel
theorem dX7_floors_76 : decode cX7_floors 76 = .ok (.iload 7, 2) := by decide +kernel
theorem dX7_floors_78 : decode cX7_floors 78 = .ok (.imul, 1) := by decide +kernel
theorem dX7_floors_79 : decode cX7_floors 79 = .ok (.iadd, 1) := by decide +kernel
theorem dX7_floors_80 : decode cX7_floors 80 = .ok (.istore 8, 2) := by decide +kernel
theorem dX7_floors_82 : decode cX7_floors 82 = .ok (.aload 5, 2) := by decide +kernel
theorem dX7_floors_84 : decode cX7_floors 84 = .ok (.iload 8, 2) := by decide +kernel
theorem dX7_floors_86 : decode cX7_floors 86 = .ok (.iconst 2, 1) := by decide +kernel
theorem dX7_floors_87 : decode cX7_floors 87 = .ok (.invokevirtual 242, 3) := by decide +kernel
theorem dX7_floors_90 : decode cX7_floors 90 = .ok (.ifCond .ne 6, 3) := by decide +kernel
theorem dX7_floors_93 : decode cX7_floors 93 = .ok (.bipush (-12), 2) := by decide +kernel
theorem dX7_floors_95 : decode cX7_floors 95 = .ok (.ireturn, 1) := by decide +kernel
theorem dX7_floors_96 : decode cX7_floors 96 = .ok (.aload_n 0, 1) := by decide +kernel
theorem dX7_floors_97 : decode cX7_floors 97 = .ok (.aload 5, 2) := by decide +kernel
theorem dX7_floors_99 : decode cX7_floors 99 = .ok (.getfield 245, 3) := by decide +kernel
theorem dX7_floors_102 : decode cX7_floors 102 = .ok (.iload 8, 2) := by decide +kernel
theorem dX7_floors_104 : decode cX7_floors 104 = .ok (.iaload, 1) := by decide +kernel
theorem dX7_floors_105 : decode cX7_floors 105 = .ok (.aload 5, 2) := by decide +kernel
theorem dX7_floors_107 : decode cX7_floors 107 = .ok (.getfield 245, 3) := by decide +kernel
theorem dX7_floors_110 : decode cX7_floors 110 = .ok (.iload 8, 2) := by decide +kernel
theorem dX7_floors_112 : decode cX7_floors 112 = .ok (.iconst 1, 1) := by decide +kernel
theorem dX7_floors_113 : decode cX7_floors 113 = .ok (.iadd, 1) := by decide +kernel
theorem dX7_floors_114 : decode cX7_floors 114 = .ok (.iaload, 1) := by decide +kernel
theorem dX7_floors_115 : decode cX7_floors 115 = .ok (.invokevirtual 254, 3) := by decide +kernel
theorem dX7_floors_118 : decode cX7_floors 118 = .ok (.bipush (-2), 2) := by decide +kernel
theorem dX7_floors_120 : decode cX7_floors 120 = .ok (.if_icmp .eq 6, 3) := by decide +kernel
theorem dX7_floors_123 : decode cX7_floors 123 = .ok (.iinc 6 1, 3) := by decide +kernel
theorem dX7_floors_126 : decode cX7_floors 126 = .ok (.iinc 7 1, 3) := by decide +kernel
theorem dX7_floors_129 : decode cX7_floors 129 = .ok (.goto (-62), 3) := by decide +kernel
theorem dX7_floors_132 : decode cX7_floors 132 = .ok (.iload 6, 2) := by decide +kernel
theorem dX7_floors_134 : decode cX7_floors 134 = .ok (.ireturn, 1) := by decide +kernel
theorem dX7_taken_0 : decode cX7_taken 0 = .ok (.iload_n 2, 1) := by decide +kernel
theorem dX7_taken_1 : decode cX7_taken 1 = .ok (.invokestatic 85, 3) := by decide +kernel
theorem dX7_taken_4 : decode cX7_taken 4 = .ok (.ifCond .ne 6, 3) := by decide +kernel
theorem dX7_taken_7 : decode cX7_taken 7 = .ok (.bipush (-2), 2) := by decide +kernel
theorem dX7_taken_9 : decode cX7_taken 9 = .ok (.ireturn, 1) := by decide +kernel
theorem dX7_taken_10 : decode cX7_taken 10 = .ok (.iload_n 1, 1) := by decide +kernel
theorem dX7_taken_11 : decode cX7_taken 11 = .ok (.invokestatic 82, 3) := by decide +kernel
theorem dX7_taken_14 : decode cX7_taken 14 = .ok (.ifCond .ne 6, 3) := by decide +kernel
theorem dX7_taken_17 : decode cX7_taken 17 = .ok (.bipush (-11), 2) := by decide +kernel
theorem dX7_taken_19 : decode cX7_taken 19 = .ok (.ireturn, 1) := by decide +kernel
theorem dX7_taken_20 : decode cX7_taken 20 = .ok (.aload_n 0, 1) := by decide +kernel
theorem dX7_taken_21 : decode cX7_taken 21 = .ok (.getfield 10, 3) := by decide +kernel
theorem dX7_taken_24 : decode cX7_taken 24 = .ok (.getfield 88, 3) := by decide +kernel
theorem dX7_taken_27 : decode cX7_taken 27 = .ok (.iload_n 1, 1) := by decide +kernel
theorem dX7_taken_28 : decode cX7_taken 28 = .ok (.aaload, 1) := by decide +kernel
theorem dX7_taken_29 : decode cX7_taken 29 = .ok (.iload_n 2, 1) := by decide +kernel
theorem dX7_taken_30 : decode cX7_taken 30 = .ok (.invokevirtual 257, 3) := by decide +kernel
theorem dX7_taken_33 : decode cX7_taken 33 = .ok (.ifCond .eq 18, 3) := by decide +kernel
theorem dX7_taken_36 : decode cX7_taken 36 = .ok (.aload_n 0, 1) := by decide +kernel
theorem dX7_taken_37 : decode cX7_taken 37 = .ok (.getfield 10, 3) := by decide +kernel
theorem dX7_taken_40 : decode cX7_taken 40 = .ok (.getfield 88, 3) := by decide +kernel
theorem dX7_taken_43 : decode cX7_taken 43 = .ok (.iload_n 1, 1) := by decide +kernel
theorem dX7_taken_44 : decode cX7_taken 44 = .ok (.aaload, 1) := by decide +kernel
theorem dX7_taken_45 : decode cX7_taken 45 = .ok (.getfield 108, 3) := by decide +kernel
theorem dX7_taken_48 : decode cX7_taken 48 = .ok (.goto 5, 3) := by decide +kernel
theorem dX7_taken_51 : decode cX7_taken 51 = .ok (.bipush (-13), 2) := by decide +kernel
theorem dX7_taken_53 : decode cX7_taken 53 = .ok (.ireturn, 1) := by decide +kernel
theorem dX7_within_0 : decode cX7_within 0 = .ok (.iload_n 0, 1) := by decide +kernel
theorem dX7_within_1 : decode cX7_within 1 = .ok (.iload_n 1, 1) := by decide +kernel
theorem dX7_within_2 : decode cX7_within 2 = .ok (.if_icmp .lt 12, 3) := by decide +kernel
theorem dX7_within_5 : decode cX7_within 5 = .ok (.iload_n 0, 1) := by decide +kernel
theorem dX7_within_6 : decode cX7_within 6 = .ok (.iload_n 2, 1) := by decide +kernel
theorem dX7_within_7 : decode cX7_within 7 = .ok (.if_icmp .gt 7, 3) := by decide +kernel
theorem dX7_within_10 : decode cX7_within 10 = .ok (.iconst 1, 1) := by decide +kernel
theorem dX7_within_11 : decode cX7_within 11 = .ok (.goto 4, 3) := by decide +kernel
theorem dX7_within_14 : decode cX7_within 14 = .ok (.iconst 0, 1) := by decide +kernel
theorem dX7_within_15 : decode cX7_within 15 = .ok (.ireturn, 1) := by decide +kernel
theorem dX7_held_0 : decode cX7_held 0 = .ok (.iload_n 0, 1) := by decide +kernel
theorem dX7_held_1 : decode cX7_held 1 = .ok (.iload_n 1, 1) := by decide +kernel
theorem dX7_held_2 : decode cX7_held 2 = .ok (.if_icmp .ge 5, 3) := by decide +kernel
theorem dX7_held_5 : decode cX7_held 5 = .ok (.iload_n 1, 1) := by decide +kernel
theorem dX7_held_6 : decode cX7_held 6 = .ok (.ireturn, 1) := by decide +kernel
theorem dX7_held_7 : decode cX7_held 7 = .ok (.iload_n 0, 1) := by decide +kernel
theorem dX7_held_8 : decode cX7_held 8 = .ok (.iload_n 2, 1) := by decide +kernel
theorem dX7_held_9 : decode cX7_held 9 = .ok (.if_icmp .le 7, 3) := by decide +kernel
theorem dX7_held_12 : decode cX7_held 12 = .ok (.iload_n 2, 1) := by decide +kernel
theorem dX7_held_13 : decode cX7_held 13 = .ok (.goto 4, 3) := by decide +kernel
theorem dX7_held_16 : decode cX7_held 16 = .ok (.iload_n 0, 1) := by decide +kernel
theorem dX7_held_17 : decode cX7_held 17 = .ok (.ireturn, 1) := by decide +kernel
theorem dX7_round_0 : decode cX7_round 0 = .ok (.iload_n 0, 1) := by decide +kernel
theorem dX7_round_1 : decode cX7_round 1 = .ok (.bipush 8, 2) := by decide +kernel
theorem dX7_round_3 : decode cX7_round 3 = .ok (.invokestatic 260, 3) := by decide +kernel
theorem dX7_round_6 : decode cX7_round 6 = .ok (.ireturn, 1) := by decide +kernel
theorem dX7_isLeg_0 : decode cX7_isLeg 0 = .ok (.iload_n 0, 1) := by decide +kernel
theorem dX7_isLeg_1 : decode cX7_isLeg 1 = .ok (.iconst 0, 1) := by decide +kernel
theorem dX7_isLeg_2 : decode cX7_isLeg 2 = .ok (.iconst 3, 1) := by decide +kernel
theorem dX7_isLeg_3 : decode cX7_isLeg 3 = .ok (.invokestatic 74, 3) := by decide +kernel
theorem dX7_isLeg_6 : decode cX7_isLeg 6 = .ok (.ireturn, 1) := by decide +kernel
theorem dX7_isKind_0 : decode cX7_isKind 0 = .ok (.iload_n 0, 1) := by decide +kernel
theorem dX7_isKind_1 : decode cX7_isKind 1 = .ok (.iconst 0, 1) := by decide +kernel
theorem dX7_isKind_2 : decode cX7_isKind 2 = .ok (.iconst 5, 1) := by decide +kernel
theorem dX7_isKind_3 : decode cX7_isKind 3 = .ok (.invokestatic 74, 3) := by decide +kernel
theorem dX7_isKind_6 : decode cX7_isKind 6 = .ok (.ireturn, 1) := by decide +kernel
theorem dX7_isSheet_0 : decode cX7_isSheet 0 = .ok (.iload_n 0, 1) := by decide +kernel
theorem dX7_isSheet_1 : decode cX7_isSheet 1 = .ok (.iconst 0, 1) := by decide +kernel
theorem dX7_isSheet_2 : decode cX7_isSheet 2 = .ok (.iconst 3, 1) := by decide +kernel
theorem dX7_isSheet_3 : decode cX7_isSheet 3 = .ok (.invokestatic 74, 3) := by decide +kernel
theorem dX7_isSheet_6 : decode cX7_isSheet 6 = .ok (.ireturn, 1) := by decide +kernel
theorem dX7_nextDraw_0 : decode cX7_nextDraw 0 = .ok (.iload_n 0, 1) := by decide +kernel
theorem dX7_nextDraw_1 : decode cX7_nextDraw 1 = .ok (.ldc_w 263, 3) := by decide +kernel
theorem dX7_nextDraw_4 : decode cX7_nextDraw 4 = .ok (.imul, 1) := by decide +kernel
theorem dX7_nextDraw_5 : decode cX7_nextDraw 5 = .ok (.sipush 12345, 3) := by decide +kernel
theorem dX7_nextDraw_8 : decode cX7_nextDraw 8 = .ok (.iadd, 1) := by decide +kernel
theorem dX7_nextDraw_9 : decode cX7_nextDraw 9 = .ok (.ireturn, 1) := by decide +kernel
theorem dX7_commonDivisor_0 : decode cX7_commonDivisor 0 = .ok (.iconst 1, 1) := by decide +kernel
theorem dX7_commonDivisor_1 : decode cX7_commonDivisor 1 = .ok (.istore_n 2, 1) := by decide +kernel
theorem dX7_commonDivisor_2 : decode cX7_commonDivisor 2 = .ok (.iconst 2, 1) := by decide +kernel
theorem dX7_commonDivisor_3 : decode cX7_commonDivisor 3 = .ok (.istore_n 3, 1) := by decide +kernel
theorem dX7_commonDivisor_4 : decode cX7_commonDivisor 4 = .ok (.iload_n 3, 1) := by decide +kernel
theorem dX7_commonDivisor_5 : decode cX7_commonDivisor 5 = .ok (.iload_n 1, 1) := by decide +kernel
theorem dX7_commonDivisor_6 : decode cX7_commonDivisor 6 = .ok (.if_icmp .gt 23, 3) := by decide +kernel
theorem dX7_commonDivisor_9 : decode cX7_commonDivisor 9 = .ok (.iload_n 0, 1) := by decide +kernel
theorem dX7_commonDivisor_10 : decode cX7_commonDivisor 10 = .ok (.iload_n 3, 1) := by decide +kernel
theorem dX7_commonDivisor_11 : decode cX7_commonDivisor 11 = .ok (.irem, 1) := by decide +kernel
theorem dX7_commonDivisor_12 : decode cX7_commonDivisor 12 = .ok (.ifCond .ne 11, 3) := by decide +kernel
theorem dX7_commonDivisor_15 : decode cX7_commonDivisor 15 = .ok (.iload_n 1, 1) := by decide +kernel
theorem dX7_commonDivisor_16 : decode cX7_commonDivisor 16 = .ok (.iload_n 3, 1) := by decide +kernel
theorem dX7_commonDivisor_17 : decode cX7_commonDivisor 17 = .ok (.irem, 1) := by decide +kernel
theorem dX7_commonDivisor_18 : decode cX7_commonDivisor 18 = .ok (.ifCond .ne 5, 3) := by decide +kernel
theorem dX7_commonDivisor_21 : decode cX7_commonDivisor 21 = .ok (.iload_n 3, 1) := by decide +kernel
theorem dX7_commonDivisor_22 : decode cX7_commonDivisor 22 = .ok (.istore_n 2, 1) := by decide +kernel
theorem dX7_commonDivisor_23 : decode cX7_commonDivisor 23 = .ok (.iinc 3 1, 3) := by decide +kernel
theorem dX7_commonDivisor_26 : decode cX7_commonDivisor 26 = .ok (.goto (-22), 3) := by decide +kernel
theorem dX7_commonDivisor_29 : decode cX7_commonDivisor 29 = .ok (.iload_n 2, 1) := by decide +kernel
theorem dX7_commonDivisor_30 : decode cX7_commonDivisor 30 = .ok (.ireturn, 1) := by decide +kernel
theorem dX7_setOfLeg_0 : decode cX7_setOfLeg 0 = .ok (.iload_n 2, 1) := by decide +kernel
theorem dX7_setOfLeg_1 : decode cX7_setOfLeg 1 = .ok (.invokestatic 82, 3) := by decide +kernel
theorem dX7_setOfLeg_4 : decode cX7_setOfLeg 4 = .ok (.ifCond .eq 22, 3) := by decide +kernel
theorem dX7_setOfLeg_7 : decode cX7_setOfLeg 7 = .ok (.iload_n 3, 1) := by decide +kernel
theorem dX7_setOfLeg_8 : decode cX7_setOfLeg 8 = .ok (.iconst 0, 1) := by decide +kernel
theorem dX7_setOfLeg_9 : decode cX7_setOfLeg 9 = .ok (.iload_n 1, 1) := by decide +kernel
theorem dX7_setOfLeg_10 : decode cX7_setOfLeg 10 = .ok (.ifCond .ne 8, 3) := by decide +kernel
theorem dX7_setOfLeg_13 : decode cX7_setOfLeg 13 = .ok (.bipush 99, 2) := by decide +kernel
theorem dX7_setOfLeg_15 : decode cX7_setOfLeg 15 = .ok (.goto 5, 3) := by decide +kernel
theorem dX7_setOfLeg_18 : decode cX7_setOfLeg 18 = .ok (.bipush 9, 2) := by decide +kernel
theorem dX7_setOfLeg_20 : decode cX7_setOfLeg 20 = .ok (.invokestatic 74, 3) := by decide +kernel
theorem dX7_setOfLeg_23 : decode cX7_setOfLeg 23 = .ok (.ifCond .ne 6, 3) := by decide +kernel
theorem dX7_setOfLeg_26 : decode cX7_setOfLeg 26 = .ok (.bipush (-2), 2) := by decide +kernel
theorem dX7_setOfLeg_28 : decode cX7_setOfLeg 28 = .ok (.ireturn, 1) := by decide +kernel
theorem dX7_setOfLeg_29 : decode cX7_setOfLeg 29 = .ok (.aload_n 0, 1) := by decide +kernel
theorem dX7_setOfLeg_30 : decode cX7_setOfLeg 30 = .ok (.getfield 10, 3) := by decide +kernel
theorem dX7_setOfLeg_33 : decode cX7_setOfLeg 33 = .ok (.getfield 88, 3) := by decide +kernel
theorem dX7_setOfLeg_36 : decode cX7_setOfLeg 36 = .ok (.iload_n 2, 1) := by decide +kernel
theorem dX7_setOfLeg_37 : decode cX7_setOfLeg 37 = .ok (.aaload, 1) := by decide +kernel
theorem dX7_setOfLeg_38 : decode cX7_setOfLeg 38 = .ok (.astore 4, 2) := by decide +kernel
theorem dX7_setOfLeg_40 : decode cX7_setOfLeg 40 = .ok (.iload_n 1, 1) := by decide +kernel
theorem dX7_setOfLeg_41 : decode cX7_setOfLeg 41 = .ok (.ifCond .ne 11, 3) := by decide +kernel
theorem dX7_setOfLeg_44 : decode cX7_setOfLeg 44 = .ok (.aload 4, 2) := by decide +kernel
theorem dX7_setOfLeg_46 : decode cX7_setOfLeg 46 = .ok (.getfield 108, 3) := by decide +kernel
theorem dX7_setOfLeg_49 : decode cX7_setOfLeg 49 = .ok (.goto 8, 3) := by decide +kernel
theorem dX7_setOfLeg_52 : decode cX7_setOfLeg 52 = .ok (.aload 4, 2) := by decide +kernel
theorem dX7_setOfLeg_54 : decode cX7_setOfLeg 54 = .ok (.getfield 97, 3) := by decide +kernel
theorem dX7_setOfLeg_57 : decode cX7_setOfLeg 57 = .ok (.istore 5, 2) := by decide +kernel
theorem dX7_setOfLeg_59 : decode cX7_setOfLeg 59 = .ok (.iload_n 1, 1) := by decide +kernel
theorem dX7_setOfLeg_60 : decode cX7_setOfLeg 60 = .ok (.ifCond .ne 12, 3) := by decide +kernel
theorem dX7_setOfLeg_63 : decode cX7_setOfLeg 63 = .ok (.aload 4, 2) := by decide +kernel
theorem dX7_setOfLeg_65 : decode cX7_setOfLeg 65 = .ok (.iload_n 3, 1) := by decide +kernel
theorem dX7_setOfLeg_66 : decode cX7_setOfLeg 66 = .ok (.putfield 108, 3) := by decide +kernel
theorem dX7_setOfLeg_69 : decode cX7_setOfLeg 69 = .ok (.goto 9, 3) := by decide +kernel
theorem dX7_setOfLeg_72 : decode cX7_setOfLeg 72 = .ok (.aload 4, 2) := by decide +kernel
theorem dX7_setOfLeg_74 : decode cX7_setOfLeg 74 = .ok (.iload_n 3, 1) := by decide +kernel
theorem dX7_setOfLeg_75 : decode cX7_setOfLeg 75 = .ok (.putfield 97, 3) := by decide +kernel
theorem dX7_setOfLeg_78 : decode cX7_setOfLeg 78 = .ok (.iload 5, 2) := by decide +kernel
theorem dX7_setOfLeg_80 : decode cX7_setOfLeg 80 = .ok (.ireturn, 1) := by decide +kernel
theorem dX7_setOfTable_0 : decode cX7_setOfTable 0 = .ok (.bipush (-2), 2) := by decide +kernel
theorem dX7_setOfTable_2 : decode cX7_setOfTable 2 = .ok (.istore_n 3, 1) := by decide +kernel
theorem dX7_setOfTable_3 : decode cX7_setOfTable 3 = .ok (.iload_n 1, 1) := by decide +kernel
theorem dX7_setOfTable_4 : decode cX7_setOfTable 4 = .ok (.iconst 2, 1) := by decide +kernel
theorem dX7_setOfTable_5 : decode cX7_setOfTable 5 = .ok (.if_icmp .ne 32, 3) := by decide +kernel
theorem dX7_setOfTable_8 : decode cX7_setOfTable 8 = .ok (.iload_n 2, 1) := by decide +kernel
theorem dX7_setOfTable_9 : decode cX7_setOfTable 9 = .ok (.iconst 0, 1) := by decide +kernel
theorem dX7_setOfTable_10 : decode cX7_setOfTable 10 = .ok (.bipush 63, 2) := by decide +kernel
theorem dX7_setOfTable_12 : decode cX7_setOfTable 12 = .ok (.invokestatic 74, 3) := by decide +kernel
theorem dX7_setOfTable_15 : decode cX7_setOfTable 15 = .ok (.ifCond .eq 22, 3) := by decide +kernel
theorem dX7_setOfTable_18 : decode cX7_setOfTable 18 = .ok (.aload_n 0, 1) := by decide +kernel
theorem dX7_setOfTable_19 : decode cX7_setOfTable 19 = .ok (.getfield 10, 3) := by decide +kernel
theorem dX7_setOfTable_22 : decode cX7_setOfTable 22 = .ok (.getfield 117, 3) := by decide +kernel
theorem dX7_setOfTable_25 : decode cX7_setOfTable 25 = .ok (.istore_n 3, 1) := by decide +kernel
theorem dX7_setOfTable_26 : decode cX7_setOfTable 26 = .ok (.aload_n 0, 1) := by decide +kernel
theorem dX7_setOfTable_27 : decode cX7_setOfTable 27 = .ok (.getfield 10, 3) := by decide +kernel
theorem dX7_setOfTable_30 : decode cX7_setOfTable 30 = .ok (.iload_n 2, 1) := by decide +kernel
theorem dX7_setOfTable_31 : decode cX7_setOfTable 31 = .ok (.putfield 117, 3) := by decide +kernel
theorem dX7_setOfTable_34 : decode cX7_setOfTable 34 = .ok (.goto 101, 3) := by decide +kernel
theorem dX7_setOfTable_37 : decode cX7_setOfTable 37 = .ok (.iload_n 1, 1) := by decide +kernel
theorem dX7_setOfTable_38 : decode cX7_setOfTable 38 = .ok (.iconst 3, 1) := by decide +kernel
theorem dX7_setOfTable_39 : decode cX7_setOfTable 39 = .ok (.if_icmp .ne 31, 3) := by decide +kernel
theorem dX7_setOfTable_42 : decode cX7_setOfTable 42 = .ok (.iload_n 2, 1) := by decide +kernel
theorem dX7_setOfTable_43 : decode cX7_setOfTable 43 = .ok (.iconst 1, 1) := by decide +kernel
theorem dX7_setOfTable_44 : decode cX7_setOfTable 44 = .ok (.iconst 3, 1) := by decide +kernel
theorem dX7_setOfTable_45 : decode cX7_setOfTable 45 = .ok (.invokestatic 74, 3) := by decide +kernel
theorem dX7_setOfTable_48 : decode cX7_setOfTable 48 = .ok (.ifCond .eq 22, 3) := by decide +kernel
theorem dX7_setOfTable_51 : decode cX7_setOfTable 51 = .ok (.aload_n 0, 1) := by decide +kernel
theorem dX7_setOfTable_52 : decode cX7_setOfTable 52 = .ok (.getfield 10, 3) := by decide +kernel
theorem dX7_setOfTable_55 : decode cX7_setOfTable 55 = .ok (.getfield 224, 3) := by decide +kernel
theorem dX7_setOfTable_58 : decode cX7_setOfTable 58 = .ok (.istore_n 3, 1) := by decide +kernel
theorem dX7_setOfTable_59 : decode cX7_setOfTable 59 = .ok (.aload_n 0, 1) := by decide +kernel
theorem dX7_setOfTable_60 : decode cX7_setOfTable 60 = .ok (.getfield 10, 3) := by decide +kernel
theorem dX7_setOfTable_63 : decode cX7_setOfTable 63 = .ok (.iload_n 2, 1) := by decide +kernel
theorem dX7_setOfTable_64 : decode cX7_setOfTable 64 = .ok (.putfield 224, 3) := by decide +kernel
theorem dX7_setOfTable_67 : decode cX7_setOfTable 67 = .ok (.goto 68, 3) := by decide +kernel
theorem dX7_setOfTable_70 : decode cX7_setOfTable 70 = .ok (.iload_n 1, 1) := by decide +kernel
theorem dX7_setOfTable_71 : decode cX7_setOfTable 71 = .ok (.iconst 4, 1) := by decide +kernel
theorem dX7_setOfTable_72 : decode cX7_setOfTable 72 = .ok (.if_icmp .ne 32, 3) := by decide +kernel
theorem dX7_setOfTable_75 : decode cX7_setOfTable 75 = .ok (.iload_n 2, 1) := by decide +kernel
theorem dX7_setOfTable_76 : decode cX7_setOfTable 76 = .ok (.iconst 0, 1) := by decide +kernel
theorem dX7_setOfTable_77 : decode cX7_setOfTable 77 = .ok (.bipush 7, 2) := by decide +kernel
theorem dX7_setOfTable_79 : decode cX7_setOfTable 79 = .ok (.invokestatic 74, 3) := by decide +kernel
theorem dX7_setOfTable_82 : decode cX7_setOfTable 82 = .ok (.ifCond .eq 22, 3) := by decide +kernel
theorem dX7_setOfTable_85 : decode cX7_setOfTable 85 = .ok (.aload_n 0, 1) := by decide +kernel
theorem dX7_setOfTable_86 : decode cX7_setOfTable 86 = .ok (.getfield 10, 3) := by decide +kernel
theorem dX7_setOfTable_89 : decode cX7_setOfTable 89 = .ok (.getfield 120, 3) := by decide +kernel
theorem dX7_setOfTable_92 : decode cX7_setOfTable 92 = .ok (.istore_n 3, 1) := by decide +kernel
theorem dX7_setOfTable_93 : decode cX7_setOfTable 93 = .ok (.aload_n 0, 1) := by decide +kernel
theorem dX7_setOfTable_94 : decode cX7_setOfTable 94 = .ok (.getfield 10, 3) := by decide +kernel
theorem dX7_setOfTable_97 : decode cX7_setOfTable 97 = .ok (.iload_n 2, 1) := by decide +kernel
theorem dX7_setOfTable_98 : decode cX7_setOfTable 98 = .ok (.putfield 120, 3) := by decide +kernel
theorem dX7_setOfTable_101 : decode cX7_setOfTable 101 = .ok (.goto 34, 3) := by decide +kernel
theorem dX7_setOfTable_104 : decode cX7_setOfTable 104 = .ok (.iload_n 1, 1) := by decide +kernel
theorem dX7_setOfTable_105 : decode cX7_setOfTable 105 = .ok (.iconst 5, 1) := by decide +kernel
theorem dX7_setOfTable_106 : decode cX7_setOfTable 106 = .ok (.if_icmp .ne 29, 3) := by decide +kernel
theorem dX7_setOfTable_109 : decode cX7_setOfTable 109 = .ok (.iload_n 2, 1) := by decide +kernel
theorem dX7_setOfTable_110 : decode cX7_setOfTable 110 = .ok (.iconst 0, 1) := by decide +kernel
theorem dX7_setOfTable_111 : decode cX7_setOfTable 111 = .ok (.bipush 9, 2) := by decide +kernel
theorem dX7_setOfTable_113 : decode cX7_setOfTable 113 = .ok (.invokestatic 74, 3) := by decide +kernel
theorem dX7_setOfTable_116 : decode cX7_setOfTable 116 = .ok (.ifCond .eq 19, 3) := by decide +kernel
theorem dX7_setOfTable_119 : decode cX7_setOfTable 119 = .ok (.aload_n 0, 1) := by decide +kernel
theorem dX7_setOfTable_120 : decode cX7_setOfTable 120 = .ok (.getfield 10, 3) := by decide +kernel
theorem dX7_setOfTable_123 : decode cX7_setOfTable 123 = .ok (.getfield 110, 3) := by decide +kernel
theorem dX7_setOfTable_126 : decode cX7_setOfTable 126 = .ok (.istore_n 3, 1) := by decide +kernel
theorem dX7_setOfTable_127 : decode cX7_setOfTable 127 = .ok (.aload_n 0, 1) := by decide +kernel
theorem dX7_setOfTable_128 : decode cX7_setOfTable 128 = .ok (.getfield 10, 3) := by decide +kernel
theorem dX7_setOfTable_131 : decode cX7_setOfTable 131 = .ok (.iload_n 2, 1) := by decide +kernel
theorem dX7_setOfTable_132 : decode cX7_setOfTable 132 = .ok (.putfield 110, 3) := by decide +kernel
theorem dX7_setOfTable_135 : decode cX7_setOfTable 135 = .ok (.iload_n 3, 1) := by decide +kernel
theorem dX7_setOfTable_136 : decode cX7_setOfTable 136 = .ok (.ireturn, 1) := by decide +kernel
theorem dX7_ruleInForce_0 : decode cX7_ruleInForce 0 = .ok (.aload_n 0, 1) := by decide +kernel
theorem dX7_ruleInForce_1 : decode cX7_ruleInForce 1 = .ok (.getfield 32, 3) := by decide +kernel
theorem dX7_ruleInForce_4 : decode cX7_ruleInForce 4 = .ok (.aload_n 0, 1) := by decide +kernel
theorem dX7_ruleInForce_5 : decode cX7_ruleInForce 5 = .ok (.getfield 10, 3) := by decide +kernel
theorem dX7_ruleInForce_8 : decode cX7_ruleInForce 8 = .ok (.getfield 143, 3) := by decide +kernel
theorem dX7_ruleInForce_11 : decode cX7_ruleInForce 11 = .ok (.aaload, 1) := by decide +kernel
theorem dX7_ruleInForce_12 : decode cX7_ruleInForce 12 = .ok (.areturn, 1) := by decide +kernel
theorem dX7_measure_0 : decode cX7_measure 0 = .ok (.aload_n 0, 1) := by decide +kernel
theorem dX7_measure_1 : decode cX7_measure 1 = .ok (.getfield 43, 3) := by decide +kernel
theorem dX7_measure_4 : decode cX7_measure 4 = .ok (.aload_n 0, 1) := by decide +kernel
theorem dX7_measure_5 : decode cX7_measure 5 = .ok (.getfield 10, 3) := by decide +kernel
theorem dX7_measure_8 : decode cX7_measure 8 = .ok (.aload_n 0, 1) := by decide +kernel
theorem dX7_measure_9 : decode cX7_measure 9 = .ok (.invokevirtual 264, 3) := by decide +kernel
theorem dX7_measure_12 : decode cX7_measure 12 = .ok (.iload_n 1, 1) := by decide +kernel
theorem dX7_measure_13 : decode cX7_measure 13 = .ok (.iload_n 2, 1) := by decide +kernel
theorem dX7_measure_14 : decode cX7_measure 14 = .ok (.invokevirtual 268, 3) := by decide +kernel
theorem dX7_measure_17 : decode cX7_measure 17 = .ok (.return_, 1) := by decide +kernel
theorem dX7_standing_0 : decode cX7_standing 0 = .ok (.iload_n 3, 1) := by decide +kernel
theorem dX7_standing_1 : decode cX7_standing 1 = .ok (.iconst 0, 1) := by decide +kernel
theorem dX7_standing_2 : decode cX7_standing 2 = .ok (.iconst 5, 1) := by decide +kernel
theorem dX7_standing_3 : decode cX7_standing 3 = .ok (.invokestatic 74, 3) := by decide +kernel
theorem dX7_standing_6 : decode cX7_standing 6 = .ok (.ifCond .ne 6, 3) := by decide +kernel
theorem dX7_standing_9 : decode cX7_standing 9 = .ok (.ldc 148, 2) := by decide +kernel
theorem dX7_standing_11 : decode cX7_standing 11 = .ok (.ireturn, 1) := by decide +kernel
theorem dX7_standing_12 : decode cX7_standing 12 = .ok (.aload_n 0, 1) := by decide +kernel
theorem dX7_standing_13 : decode cX7_standing 13 = .ok (.iload_n 1, 1) := by decide +kernel
theorem dX7_standing_14 : decode cX7_standing 14 = .ok (.iload_n 2, 1) := by decide +kernel
theorem dX7_standing_15 : decode cX7_standing 15 = .ok (.invokevirtual 156, 3) := by decide +kernel
theorem dX7_standing_18 : decode cX7_standing 18 = .ok (.iload_n 3, 1) := by decide +kernel
theorem dX7_standing_19 : decode cX7_standing 19 = .ok (.tableswitch 77 0 4 #[33, 41, 49, 57, 65], 33) := by decide +kernel
theorem dX7_standing_52 : decode cX7_standing 52 = .ok (.aload_n 0, 1) := by decide +kernel
theorem dX7_standing_53 : decode cX7_standing 53 = .ok (.getfield 43, 3) := by decide +kernel
theorem dX7_standing_56 : decode cX7_standing 56 = .ok (.getfield 271, 3) := by decide +kernel
theorem dX7_standing_59 : decode cX7_standing 59 = .ok (.ireturn, 1) := by decide +kernel
theorem dX7_standing_60 : decode cX7_standing 60 = .ok (.aload_n 0, 1) := by decide +kernel
theorem dX7_standing_61 : decode cX7_standing 61 = .ok (.getfield 43, 3) := by decide +kernel
theorem dX7_standing_64 : decode cX7_standing 64 = .ok (.getfield 212, 3) := by decide +kernel
theorem dX7_standing_67 : decode cX7_standing 67 = .ok (.ireturn, 1) := by decide +kernel
theorem dX7_standing_68 : decode cX7_standing 68 = .ok (.aload_n 0, 1) := by decide +kernel
theorem dX7_standing_69 : decode cX7_standing 69 = .ok (.getfield 43, 3) := by decide +kernel
theorem dX7_standing_72 : decode cX7_standing 72 = .ok (.getfield 274, 3) := by decide +kernel
theorem dX7_standing_75 : decode cX7_standing 75 = .ok (.ireturn, 1) := by decide +kernel
theorem dX7_standing_76 : decode cX7_standing 76 = .ok (.aload_n 0, 1) := by decide +kernel
theorem dX7_standing_77 : decode cX7_standing 77 = .ok (.getfield 43, 3) := by decide +kernel
theorem dX7_standing_80 : decode cX7_standing 80 = .ok (.invokevirtual 277, 3) := by decide +kernel
theorem dX7_standing_83 : decode cX7_standing 83 = .ok (.ireturn, 1) := by decide +kernel
theorem dX7_standing_84 : decode cX7_standing 84 = .ok (.aload_n 0, 1) := by decide +kernel
theorem dX7_standing_85 : decode cX7_standing 85 = .ok (.getfield 43, 3) := by decide +kernel
theorem dX7_standing_88 : decode cX7_standing 88 = .ok (.aload_n 0, 1) := by decide +kernel
theorem dX7_standing_89 : decode cX7_standing 89 = .ok (.invokevirtual 264, 3) := by decide +kernel
theorem dX7_standing_92 : decode cX7_standing 92 = .ok (.invokevirtual 280, 3) := by decide +kernel
theorem dX7_standing_95 : decode cX7_standing 95 = .ok (.ireturn, 1) := by decide +kernel
theorem dX7_standing_96 : decode cX7_standing 96 = .ok (.aload_n 0, 1) := by decide +kernel
theorem dX7_standing_97 : decode cX7_standing 97 = .ok (.getfield 43, 3) := by decide +kernel
theorem dX7_standing_100 : decode cX7_standing 100 = .ok (.aload_n 0, 1) := by decide +kernel
theorem dX7_standing_101 : decode cX7_standing 101 = .ok (.invokevirtual 264, 3) := by decide +kernel
theorem dX7_standing_104 : decode cX7_standing 104 = .ok (.invokevirtual 284, 3) := by decide +kernel
theorem dX7_standing_107 : decode cX7_standing 107 = .ok (.ireturn, 1) := by decide +kernel
theorem dX7_isFirmAt_0 : decode cX7_isFirmAt 0 = .ok (.aload_n 0, 1) := by decide +kernel
theorem dX7_isFirmAt_1 : decode cX7_isFirmAt 1 = .ok (.iload_n 1, 1) := by decide +kernel
theorem dX7_isFirmAt_2 : decode cX7_isFirmAt 2 = .ok (.iload_n 2, 1) := by decide +kernel
theorem dX7_isFirmAt_3 : decode cX7_isFirmAt 3 = .ok (.invokevirtual 156, 3) := by decide +kernel
theorem dX7_isFirmAt_6 : decode cX7_isFirmAt 6 = .ok (.aload_n 0, 1) := by decide +kernel
theorem dX7_isFirmAt_7 : decode cX7_isFirmAt 7 = .ok (.getfield 43, 3) := by decide +kernel
theorem dX7_isFirmAt_10 : decode cX7_isFirmAt 10 = .ok (.invokevirtual 163, 3) := by decide +kernel
theorem dX7_isFirmAt_13 : decode cX7_isFirmAt 13 = .ok (.ireturn, 1) := by decide +kernel
theorem dX7_worthAt_0 : decode cX7_worthAt 0 = .ok (.aload_n 0, 1) := by decide +kernel
theorem dX7_worthAt_1 : decode cX7_worthAt 1 = .ok (.iload_n 1, 1) := by decide +kernel
theorem dX7_worthAt_2 : decode cX7_worthAt 2 = .ok (.iload_n 2, 1) := by decide +kernel
theorem dX7_worthAt_3 : decode cX7_worthAt 3 = .ok (.invokevirtual 156, 3) := by decide +kernel
theorem dX7_worthAt_6 : decode cX7_worthAt 6 = .ok (.aload_n 0, 1) := by decide +kernel
theorem dX7_worthAt_7 : decode cX7_worthAt 7 = .ok (.getfield 43, 3) := by decide +kernel
theorem dX7_worthAt_10 : decode cX7_worthAt 10 = .ok (.aload_n 0, 1) := by decide +kernel
theorem dX7_worthAt_11 : decode cX7_worthAt 11 = .ok (.invokevirtual 264, 3) := by decide +kernel
theorem dX7_worthAt_14 : decode cX7_worthAt 14 = .ok (.invokevirtual 280, 3) := by decide +kernel
theorem dX7_worthAt_17 : decode cX7_worthAt 17 = .ok (.ireturn, 1) := by decide +kernel
theorem dX7_gapAt_0 : decode cX7_gapAt 0 = .ok (.aload_n 0, 1) := by decide +kernel
theorem dX7_gapAt_1 : decode cX7_gapAt 1 = .ok (.aload_n 0, 1) := by decide +kernel
theorem dX7_gapAt_2 : decode cX7_gapAt 2 = .ok (.getfield 10, 3) := by decide +kernel
theorem dX7_gapAt_5 : decode cX7_gapAt 5 = .ok (.getfield 117, 3) := by decide +kernel
theorem dX7_gapAt_8 : decode cX7_gapAt 8 = .ok (.iload_n 1, 1) := by decide +kernel
theorem dX7_gapAt_9 : decode cX7_gapAt 9 = .ok (.invokevirtual 156, 3) := by decide +kernel
theorem dX7_gapAt_12 : decode cX7_gapAt 12 = .ok (.aload_n 0, 1) := by decide +kernel
theorem dX7_gapAt_13 : decode cX7_gapAt 13 = .ok (.getfield 43, 3) := by decide +kernel
theorem dX7_gapAt_16 : decode cX7_gapAt 16 = .ok (.getfield 271, 3) := by decide +kernel
theorem dX7_gapAt_19 : decode cX7_gapAt 19 = .ok (.ireturn, 1) := by decide +kernel
theorem dX7_rockHere_0 : decode cX7_rockHere 0 = .ok (.aload_n 0, 1) := by decide +kernel
theorem dX7_rockHere_1 : decode cX7_rockHere 1 = .ok (.aload_n 0, 1) := by decide +kernel
theorem dX7_rockHere_2 : decode cX7_rockHere 2 = .ok (.getfield 10, 3) := by decide +kernel
theorem dX7_rockHere_5 : decode cX7_rockHere 5 = .ok (.getfield 117, 3) := by decide +kernel
theorem dX7_rockHere_8 : decode cX7_rockHere 8 = .ok (.aload_n 0, 1) := by decide +kernel
theorem dX7_rockHere_9 : decode cX7_rockHere 9 = .ok (.getfield 10, 3) := by decide +kernel
theorem dX7_rockHere_12 : decode cX7_rockHere 12 = .ok (.getfield 120, 3) := by decide +kernel
theorem dX7_rockHere_15 : decode cX7_rockHere 15 = .ok (.invokevirtual 156, 3) := by decide +kernel
theorem dX7_rockHere_18 : decode cX7_rockHere 18 = .ok (.aload_n 0, 1) := by decide +kernel
theorem dX7_rockHere_19 : decode cX7_rockHere 19 = .ok (.getfield 43, 3) := by decide +kernel
theorem dX7_rockHere_22 : decode cX7_rockHere 22 = .ok (.getfield 212, 3) := by decide +kernel
theorem dX7_rockHere_25 : decode cX7_rockHere 25 = .ok (.ireturn, 1) := by decide +kernel
theorem dX7_isApart_0 : decode cX7_isApart 0 = .ok (.iconst 2, 1) := by decide +kernel
theorem dX7_isApart_1 : decode cX7_isApart 1 = .ok (.aload_n 0, 1) := by decide +kernel
theorem dX7_isApart_2 : decode cX7_isApart 2 = .ok (.getfield 10, 3) := by decide +kernel
theorem dX7_isApart_5 : decode cX7_isApart 5 = .ok (.getfield 224, 3) := by decide +kernel
theorem dX7_isApart_8 : decode cX7_isApart 8 = .ok (.imul, 1) := by decide +kernel
theorem dX7_isApart_9 : decode cX7_isApart 9 = .ok (.istore_n 2, 1) := by decide +kernel
theorem dX7_isApart_10 : decode cX7_isApart 10 = .ok (.iload_n 1, 1) := by decide +kernel
theorem dX7_isApart_11 : decode cX7_isApart 11 = .ok (.bipush 8, 2) := by decide +kernel
theorem dX7_isApart_13 : decode cX7_isApart 13 = .ok (.idiv, 1) := by decide +kernel
theorem dX7_isApart_14 : decode cX7_isApart 14 = .ok (.aload_n 0, 1) := by decide +kernel
theorem dX7_isApart_15 : decode cX7_isApart 15 = .ok (.getfield 10, 3) := by decide +kernel
theorem dX7_isApart_18 : decode cX7_isApart 18 = .ok (.getfield 117, 3) := by decide +kernel
theorem dX7_isApart_21 : decode cX7_isApart 21 = .ok (.bipush 8, 2) := by decide +kernel
theorem dX7_isApart_23 : decode cX7_isApart 23 = .ok (.idiv, 1) := by decide +kernel
theorem dX7_isApart_24 : decode cX7_isApart 24 = .ok (.isub, 1) := by decide +kernel
theorem dX7_isApart_25 : decode cX7_isApart 25 = .ok (.invokestatic 287, 3) := by decide +kernel
theorem dX7_isApart_28 : decode cX7_isApart 28 = .ok (.iload_n 2, 1) := by decide +kernel
theorem dX7_isApart_29 : decode cX7_isApart 29 = .ok (.if_icmp .gt 25, 3) := by decide +kernel
theorem dX7_isApart_32 : decode cX7_isApart 32 = .ok (.iload_n 1, 1) := by decide +kernel
theorem dX7_isApart_33 : decode cX7_isApart 33 = .ok (.bipush 8, 2) := by decide +kernel
theorem dX7_isApart_35 : decode cX7_isApart 35 = .ok (.irem, 1) := by decide +kernel
theorem dX7_isApart_36 : decode cX7_isApart 36 = .ok (.aload_n 0, 1) := by decide +kernel
theorem dX7_isApart_37 : decode cX7_isApart 37 = .ok (.getfield 10, 3) := by decide +kernel
theorem dX7_isApart_40 : decode cX7_isApart 40 = .ok (.getfield 117, 3) := by decide +kernel
theorem dX7_isApart_43 : decode cX7_isApart 43 = .ok (.bipush 8, 2) := by decide +kernel
theorem dX7_isApart_45 : decode cX7_isApart 45 = .ok (.irem, 1) := by decide +kernel
theorem dX7_isApart_46 : decode cX7_isApart 46 = .ok (.isub, 1) := by decide +kernel
theorem dX7_isApart_47 : decode cX7_isApart 47 = .ok (.invokestatic 287, 3) := by decide +kernel
theorem dX7_isApart_50 : decode cX7_isApart 50 = .ok (.iload_n 2, 1) := by decide +kernel
theorem dX7_isApart_51 : decode cX7_isApart 51 = .ok (.if_icmp .le 7, 3) := by decide +kernel
theorem dX7_isApart_54 : decode cX7_isApart 54 = .ok (.iconst 1, 1) := by decide +kernel
theorem dX7_isApart_55 : decode cX7_isApart 55 = .ok (.goto 4, 3) := by decide +kernel
theorem dX7_isApart_58 : decode cX7_isApart 58 = .ok (.iconst 0, 1) := by decide +kernel
theorem dX7_isApart_59 : decode cX7_isApart 59 = .ok (.ireturn, 1) := by decide +kernel
theorem dX7_screwStep_0 : decode cX7_screwStep 0 = .ok (.iload_n 0, 1) := by decide +kernel
theorem dX7_screwStep_1 : decode cX7_screwStep 1 = .ok (.istore_n 2, 1) := by decide +kernel
theorem dX7_screwStep_2 : decode cX7_screwStep 2 = .ok (.iconst 0, 1) := by decide +kernel
theorem dX7_screwStep_3 : decode cX7_screwStep 3 = .ok (.istore_n 3, 1) := by decide +kernel
theorem dX7_screwStep_4 : decode cX7_screwStep 4 = .ok (.iload_n 3, 1) := by decide +kernel
theorem dX7_screwStep_5 : decode cX7_screwStep 5 = .ok (.iload_n 1, 1) := by decide +kernel
theorem dX7_screwStep_6 : decode cX7_screwStep 6 = .ok (.if_icmp .ge 14, 3) := by decide +kernel
theorem dX7_screwStep_9 : decode cX7_screwStep 9 = .ok (.iload_n 2, 1) := by decide +kernel
theorem dX7_screwStep_10 : decode cX7_screwStep 10 = .ok (.bipush 7, 2) := by decide +kernel
theorem dX7_screwStep_12 : decode cX7_screwStep 12 = .ok (.idiv, 1) := by decide +kernel
theorem dX7_screwStep_13 : decode cX7_screwStep 13 = .ok (.istore_n 2, 1) := by decide +kernel
theorem dX7_screwStep_14 : decode cX7_screwStep 14 = .ok (.iinc 3 1, 3) := by decide +kernel
theorem dX7_screwStep_17 : decode cX7_screwStep 17 = .ok (.goto (-13), 3) := by decide +kernel
theorem dX7_screwStep_20 : decode cX7_screwStep 20 = .ok (.iload_n 2, 1) := by decide +kernel
theorem dX7_screwStep_21 : decode cX7_screwStep 21 = .ok (.bipush 7, 2) := by decide +kernel
theorem dX7_screwStep_23 : decode cX7_screwStep 23 = .ok (.irem, 1) := by decide +kernel
theorem dX7_screwStep_24 : decode cX7_screwStep 24 = .ok (.iconst 3, 1) := by decide +kernel
theorem dX7_screwStep_25 : decode cX7_screwStep 25 = .ok (.isub, 1) := by decide +kernel
theorem dX7_screwStep_26 : decode cX7_screwStep 26 = .ok (.ireturn, 1) := by decide +kernel
theorem dX7_screwSum_0 : decode cX7_screwSum 0 = .ok (.iconst 0, 1) := by decide +kernel
theorem dX7_screwSum_1 : decode cX7_screwSum 1 = .ok (.istore_n 2, 1) := by decide +kernel
theorem dX7_screwSum_2 : decode cX7_screwSum 2 = .ok (.iconst 0, 1) := by decide +kernel
theorem dX7_screwSum_3 : decode cX7_screwSum 3 = .ok (.istore_n 3, 1) := by decide +kernel
theorem dX7_screwSum_4 : decode cX7_screwSum 4 = .ok (.iload_n 3, 1) := by decide +kernel
theorem dX7_screwSum_5 : decode cX7_screwSum 5 = .ok (.iconst 4, 1) := by decide +kernel
theorem dX7_screwSum_6 : decode cX7_screwSum 6 = .ok (.if_icmp .ge 48, 3) := by decide +kernel
theorem dX7_screwSum_9 : decode cX7_screwSum 9 = .ok (.iload_n 1, 1) := by decide +kernel
theorem dX7_screwSum_10 : decode cX7_screwSum 10 = .ok (.iload_n 3, 1) := by decide +kernel
theorem dX7_screwSum_11 : decode cX7_screwSum 11 = .ok (.invokestatic 290, 3) := by decide +kernel
theorem dX7_screwSum_14 : decode cX7_screwSum 14 = .ok (.istore 4, 2) := by decide +kernel
theorem dX7_screwSum_16 : decode cX7_screwSum 16 = .ok (.iload 4, 2) := by decide +kernel
theorem dX7_screwSum_18 : decode cX7_screwSum 18 = .ok (.ifCond .eq 22, 3) := by decide +kernel
theorem dX7_screwSum_21 : decode cX7_screwSum 21 = .ok (.aload_n 0, 1) := by decide +kernel
theorem dX7_screwSum_22 : decode cX7_screwSum 22 = .ok (.getfield 10, 3) := by decide +kernel
theorem dX7_screwSum_25 : decode cX7_screwSum 25 = .ok (.getfield 88, 3) := by decide +kernel
theorem dX7_screwSum_28 : decode cX7_screwSum 28 = .ok (.iload_n 3, 1) := by decide +kernel
theorem dX7_screwSum_29 : decode cX7_screwSum 29 = .ok (.aaload, 1) := by decide +kernel
theorem dX7_screwSum_30 : decode cX7_screwSum 30 = .ok (.iload 4, 2) := by decide +kernel
theorem dX7_screwSum_32 : decode cX7_screwSum 32 = .ok (.invokevirtual 293, 3) := by decide +kernel
theorem dX7_screwSum_35 : decode cX7_screwSum 35 = .ok (.ifCond .ne 5, 3) := by decide +kernel
theorem dX7_screwSum_38 : decode cX7_screwSum 38 = .ok (.iconst (-1), 1) := by decide +kernel
theorem dX7_screwSum_39 : decode cX7_screwSum 39 = .ok (.ireturn, 1) := by decide +kernel
theorem dX7_screwSum_40 : decode cX7_screwSum 40 = .ok (.iload_n 2, 1) := by decide +kernel
theorem dX7_screwSum_41 : decode cX7_screwSum 41 = .ok (.iload 4, 2) := by decide +kernel
theorem dX7_screwSum_43 : decode cX7_screwSum 43 = .ok (.invokestatic 287, 3) := by decide +kernel
theorem dX7_screwSum_46 : decode cX7_screwSum 46 = .ok (.iadd, 1) := by decide +kernel
theorem dX7_screwSum_47 : decode cX7_screwSum 47 = .ok (.istore_n 2, 1) := by decide +kernel
theorem dX7_screwSum_48 : decode cX7_screwSum 48 = .ok (.iinc 3 1, 3) := by decide +kernel
theorem dX7_screwSum_51 : decode cX7_screwSum 51 = .ok (.goto (-47), 3) := by decide +kernel
theorem dX7_screwSum_54 : decode cX7_screwSum 54 = .ok (.iload_n 2, 1) := by decide +kernel
theorem dX7_screwSum_55 : decode cX7_screwSum 55 = .ok (.iconst 4, 1) := by decide +kernel
theorem dX7_screwSum_56 : decode cX7_screwSum 56 = .ok (.if_icmp .gt 7, 3) := by decide +kernel
theorem dX7_screwSum_59 : decode cX7_screwSum 59 = .ok (.iload_n 2, 1) := by decide +kernel
theorem dX7_screwSum_60 : decode cX7_screwSum 60 = .ok (.goto 4, 3) := by decide +kernel
theorem dX7_screwSum_63 : decode cX7_screwSum 63 = .ok (.iconst (-1), 1) := by decide +kernel
theorem dX7_screwSum_64 : decode cX7_screwSum 64 = .ok (.ireturn, 1) := by decide +kernel
theorem dX7_isFirmScrewed_0 : decode cX7_isFirmScrewed 0 = .ok (.aload_n 0, 1) := by decide +kernel
theorem dX7_isFirmScrewed_1 : decode cX7_isFirmScrewed 1 = .ok (.iload_n 1, 1) := by decide +kernel
theorem dX7_isFirmScrewed_2 : decode cX7_isFirmScrewed 2 = .ok (.iconst 1, 1) := by decide +kernel
theorem dX7_isFirmScrewed_3 : decode cX7_isFirmScrewed 3 = .ok (.invokevirtual 296, 3) := by decide +kernel
theorem dX7_isFirmScrewed_6 : decode cX7_isFirmScrewed 6 = .ok (.aload_n 0, 1) := by decide +kernel
theorem dX7_isFirmScrewed_7 : decode cX7_isFirmScrewed 7 = .ok (.aload_n 0, 1) := by decide +kernel
theorem dX7_isFirmScrewed_8 : decode cX7_isFirmScrewed 8 = .ok (.getfield 10, 3) := by decide +kernel
theorem dX7_isFirmScrewed_11 : decode cX7_isFirmScrewed 11 = .ok (.getfield 117, 3) := by decide +kernel
theorem dX7_isFirmScrewed_14 : decode cX7_isFirmScrewed 14 = .ok (.aload_n 0, 1) := by decide +kernel
theorem dX7_isFirmScrewed_15 : decode cX7_isFirmScrewed 15 = .ok (.getfield 10, 3) := by decide +kernel
theorem dX7_isFirmScrewed_18 : decode cX7_isFirmScrewed 18 = .ok (.getfield 120, 3) := by decide +kernel
theorem dX7_isFirmScrewed_21 : decode cX7_isFirmScrewed 21 = .ok (.invokevirtual 156, 3) := by decide +kernel
theorem dX7_isFirmScrewed_24 : decode cX7_isFirmScrewed 24 = .ok (.aload_n 0, 1) := by decide +kernel
theorem dX7_isFirmScrewed_25 : decode cX7_isFirmScrewed 25 = .ok (.iload_n 1, 1) := by decide +kernel
theorem dX7_isFirmScrewed_26 : decode cX7_isFirmScrewed 26 = .ok (.iconst (-1), 1) := by decide +kernel
theorem dX7_isFirmScrewed_27 : decode cX7_isFirmScrewed 27 = .ok (.invokevirtual 296, 3) := by decide +kernel
theorem dX7_isFirmScrewed_30 : decode cX7_isFirmScrewed 30 = .ok (.aload_n 0, 1) := by decide +kernel
theorem dX7_isFirmScrewed_31 : decode cX7_isFirmScrewed 31 = .ok (.getfield 43, 3) := by decide +kernel
theorem dX7_isFirmScrewed_34 : decode cX7_isFirmScrewed 34 = .ok (.invokevirtual 163, 3) := by decide +kernel
theorem dX7_isFirmScrewed_37 : decode cX7_isFirmScrewed 37 = .ok (.ireturn, 1) := by decide +kernel
theorem dX7_screwAll_0 : decode cX7_screwAll 0 = .ok (.iconst 0, 1) := by decide +kernel
theorem dX7_screwAll_1 : decode cX7_screwAll 1 = .ok (.istore_n 3, 1) := by decide +kernel
theorem dX7_screwAll_2 : decode cX7_screwAll 2 = .ok (.iload_n 3, 1) := by decide +kernel
theorem dX7_screwAll_3 : decode cX7_screwAll 3 = .ok (.iconst 4, 1) := by decide +kernel
theorem dX7_screwAll_4 : decode cX7_screwAll 4 = .ok (.if_icmp .ge 33, 3) := by decide +kernel
theorem dX7_screwAll_7 : decode cX7_screwAll 7 = .ok (.aload_n 0, 1) := by decide +kernel
theorem dX7_screwAll_8 : decode cX7_screwAll 8 = .ok (.getfield 10, 3) := by decide +kernel
theorem dX7_screwAll_11 : decode cX7_screwAll 11 = .ok (.getfield 88, 3) := by decide +kernel
theorem dX7_screwAll_14 : decode cX7_screwAll 14 = .ok (.iload_n 3, 1) := by decide +kernel
theorem dX7_screwAll_15 : decode cX7_screwAll 15 = .ok (.aaload, 1) := by decide +kernel
theorem dX7_screwAll_16 : decode cX7_screwAll 16 = .ok (.dup, 1) := by decide +kernel
theorem dX7_screwAll_17 : decode cX7_screwAll 17 = .ok (.getfield 97, 3) := by decide +kernel
theorem dX7_screwAll_20 : decode cX7_screwAll 20 = .ok (.iload_n 2, 1) := by decide +kernel
theorem dX7_screwAll_21 : decode cX7_screwAll 21 = .ok (.iload_n 1, 1) := by decide +kernel
theorem dX7_screwAll_22 : decode cX7_screwAll 22 = .ok (.iload_n 3, 1) := by decide +kernel
theorem dX7_screwAll_23 : decode cX7_screwAll 23 = .ok (.invokestatic 290, 3) := by decide +kernel
theorem dX7_screwAll_26 : decode cX7_screwAll 26 = .ok (.imul, 1) := by decide +kernel
theorem dX7_screwAll_27 : decode cX7_screwAll 27 = .ok (.iadd, 1) := by decide +kernel
theorem dX7_screwAll_28 : decode cX7_screwAll 28 = .ok (.putfield 97, 3) := by decide +kernel
theorem dX7_screwAll_31 : decode cX7_screwAll 31 = .ok (.iinc 3 1, 3) := by decide +kernel
theorem dX7_screwAll_34 : decode cX7_screwAll 34 = .ok (.goto (-32), 3) := by decide +kernel
theorem dX7_screwAll_37 : decode cX7_screwAll 37 = .ok (.return_, 1) := by decide +kernel
theorem dX7_firstOtherwise_0 : decode cX7_firstOtherwise 0 = .ok (.iconst 0, 1) := by decide +kernel
theorem dX7_firstOtherwise_1 : decode cX7_firstOtherwise 1 = .ok (.istore_n 3, 1) := by decide +kernel
theorem dX7_firstOtherwise_2 : decode cX7_firstOtherwise 2 = .ok (.iload_n 3, 1) := by decide +kernel
theorem dX7_firstOtherwise_3 : decode cX7_firstOtherwise 3 = .ok (.aload_n 1, 1) := by decide +kernel
theorem dX7_firstOtherwise_4 : decode cX7_firstOtherwise 4 = .ok (.getfield 299, 3) := by decide +kernel
theorem dX7_firstOtherwise_7 : decode cX7_firstOtherwise 7 = .ok (.if_icmp .ge 44, 3) := by decide +kernel
theorem dX7_firstOtherwise_10 : decode cX7_firstOtherwise 10 = .ok (.aload_n 0, 1) := by decide +kernel
theorem dX7_firstOtherwise_11 : decode cX7_firstOtherwise 11 = .ok (.iload_n 2, 1) := by decide +kernel
theorem dX7_firstOtherwise_12 : decode cX7_firstOtherwise 12 = .ok (.aload_n 0, 1) := by decide +kernel
theorem dX7_firstOtherwise_13 : decode cX7_firstOtherwise 13 = .ok (.getfield 10, 3) := by decide +kernel
theorem dX7_firstOtherwise_16 : decode cX7_firstOtherwise 16 = .ok (.getfield 120, 3) := by decide +kernel
theorem dX7_firstOtherwise_19 : decode cX7_firstOtherwise 19 = .ok (.iload_n 3, 1) := by decide +kernel
theorem dX7_firstOtherwise_20 : decode cX7_firstOtherwise 20 = .ok (.iadd, 1) := by decide +kernel
theorem dX7_firstOtherwise_21 : decode cX7_firstOtherwise 21 = .ok (.invokestatic 153, 3) := by decide +kernel
theorem dX7_firstOtherwise_24 : decode cX7_firstOtherwise 24 = .ok (.invokevirtual 156, 3) := by decide +kernel
theorem dX7_firstOtherwise_27 : decode cX7_firstOtherwise 27 = .ok (.aload_n 1, 1) := by decide +kernel
theorem dX7_firstOtherwise_28 : decode cX7_firstOtherwise 28 = .ok (.getfield 245, 3) := by decide +kernel
theorem dX7_firstOtherwise_31 : decode cX7_firstOtherwise 31 = .ok (.iload_n 3, 1) := by decide +kernel
theorem dX7_firstOtherwise_32 : decode cX7_firstOtherwise 32 = .ok (.iaload, 1) := by decide +kernel
theorem dX7_firstOtherwise_33 : decode cX7_firstOtherwise 33 = .ok (.aload_n 0, 1) := by decide +kernel
theorem dX7_firstOtherwise_34 : decode cX7_firstOtherwise 34 = .ok (.getfield 43, 3) := by decide +kernel
theorem dX7_firstOtherwise_37 : decode cX7_firstOtherwise 37 = .ok (.invokevirtual 300, 3) := by decide +kernel
theorem dX7_firstOtherwise_40 : decode cX7_firstOtherwise 40 = .ok (.if_icmp .eq 5, 3) := by decide +kernel
theorem dX7_firstOtherwise_43 : decode cX7_firstOtherwise 43 = .ok (.iload_n 3, 1) := by decide +kernel
theorem dX7_firstOtherwise_44 : decode cX7_firstOtherwise 44 = .ok (.ireturn, 1) := by decide +kernel
theorem dX7_firstOtherwise_45 : decode cX7_firstOtherwise 45 = .ok (.iinc 3 1, 3) := by decide +kernel
theorem dX7_firstOtherwise_48 : decode cX7_firstOtherwise 48 = .ok (.goto (-46), 3) := by decide +kernel
theorem dX7_firstOtherwise_51 : decode cX7_firstOtherwise 51 = .ok (.iconst (-1), 1) := by decide +kernel
theorem dX7_firstOtherwise_52 : decode cX7_firstOtherwise 52 = .ok (.ireturn, 1) := by decide +kernel
end
section
theorem dX8_init_0 : decode cX8_init 0 = .ok (.aload_n 0, 1) := by decide +kernel
theorem dX8_init_1 : decode cX8_init 1 = .ok (.invokespecial 1, 3) := by decide +kernel
theorem dX8_init_4 : decode cX8_init 4 = .ok (.aload_n 0, 1) := by decide +kernel
theorem dX8_init_5 : decode cX8_init 5 = .ok (.bipush 64, 2) := by decide +kernel
theorem dX8_init_7 : decode cX8_init 7 = .ok (.newarray .int, 2) := by decide +kernel
theorem dX8_init_9 : decode cX8_init 9 = .ok (.putfield 7, 3) := by decide +kernel
theorem dX8_init_12 : decode cX8_init 12 = .ok (.aload_n 0, 1) := by decide +kernel
theorem dX8_init_13 : decode cX8_init 13 = .ok (.iconst 4, 1) := by decide +kernel
theorem dX8_init_14 : decode cX8_init 14 = .ok (.newarray .int, 2) := by decide +kernel
theorem dX8_init_16 : decode cX8_init 16 = .ok (.putfield 13, 3) := by decide +kernel
theorem dX8_init_19 : decode cX8_init 19 = .ok (.aload_n 0, 1) := by decide +kernel
theorem dX8_init_20 : decode cX8_init 20 = .ok (.iconst 4, 1) := by decide +kernel
theorem dX8_init_21 : decode cX8_init 21 = .ok (.newarray .int, 2) := by decide +kernel
theorem dX8_init_23 : decode cX8_init 23 = .ok (.dup, 1) := by decide +kernel
theorem dX8_init_24 : decode cX8_init 24 = .ok (.iconst 0, 1) := by decide +kernel
theorem dX8_init_25 : decode cX8_init 25 = .ok (.bipush 50, 2) := by decide +kernel
theorem dX8_init_27 : decode cX8_init 27 = .ok (.iastore, 1) := by decide +kernel
theorem dX8_init_28 : decode cX8_init 28 = .ok (.dup, 1) := by decide +kernel
theorem dX8_init_29 : decode cX8_init 29 = .ok (.iconst 1, 1) := by decide +kernel
theorem dX8_init_30 : decode cX8_init 30 = .ok (.bipush 50, 2) := by decide +kernel
theorem dX8_init_32 : decode cX8_init 32 = .ok (.iastore, 1) := by decide +kernel
theorem dX8_init_33 : decode cX8_init 33 = .ok (.dup, 1) := by decide +kernel
theorem dX8_init_34 : decode cX8_init 34 = .ok (.iconst 2, 1) := by decide +kernel
theorem dX8_init_35 : decode cX8_init 35 = .ok (.bipush 50, 2) := by decide +kernel
theorem dX8_init_37 : decode cX8_init 37 = .ok (.iastore, 1) := by decide +kernel
theorem dX8_init_38 : decode cX8_init 38 = .ok (.dup, 1) := by decide +kernel
theorem dX8_init_39 : decode cX8_init 39 = .ok (.iconst 3, 1) := by decide +kernel
theorem dX8_init_40 : decode cX8_init 40 = .ok (.bipush 50, 2) := by decide +kernel
theorem dX8_init_42 : decode cX8_init 42 = .ok (.iastore, 1) := by decide +kernel
theorem dX8_init_43 : decode cX8_init 43 = .ok (.putfield 16, 3) := by decide +kernel
theorem dX8_init_46 : decode cX8_init 46 = .ok (.aload_n 0, 1) := by decide +kernel
theorem dX8_init_47 : decode cX8_init 47 = .ok (.iconst 4, 1) := by decide +kernel
theorem dX8_init_48 : decode cX8_init 48 = .ok (.newarray .int, 2) := by decide +kernel
theorem dX8_init_50 : decode cX8_init 50 = .ok (.putfield 19, 3) := by decide +kernel
theorem dX8_init_53 : decode cX8_init 53 = .ok (.aload_n 0, 1) := by decide +kernel
theorem dX8_init_54 : decode cX8_init 54 = .ok (.bipush 27, 2) := by decide +kernel
theorem dX8_init_56 : decode cX8_init 56 = .ok (.putfield 22, 3) := by decide +kernel
theorem dX8_init_59 : decode cX8_init 59 = .ok (.aload_n 0, 1) := by decide +kernel
theorem dX8_init_60 : decode cX8_init 60 = .ok (.iconst 1, 1) := by decide +kernel
theorem dX8_init_61 : decode cX8_init 61 = .ok (.putfield 26, 3) := by decide +kernel
theorem dX8_init_64 : decode cX8_init 64 = .ok (.aload_n 0, 1) := by decide +kernel
theorem dX8_init_65 : decode cX8_init 65 = .ok (.bipush 56, 2) := by decide +kernel
theorem dX8_init_67 : decode cX8_init 67 = .ok (.newarray .int, 2) := by decide +kernel
theorem dX8_init_69 : decode cX8_init 69 = .ok (.dup, 1) := by decide +kernel
theorem dX8_init_70 : decode cX8_init 70 = .ok (.iconst 0, 1) := by decide +kernel
theorem dX8_init_71 : decode cX8_init 71 = .ok (.bipush 115, 2) := by decide +kernel
theorem dX8_init_73 : decode cX8_init 73 = .ok (.iastore, 1) := by decide +kernel
theorem dX8_init_74 : decode cX8_init 74 = .ok (.dup, 1) := by decide +kernel
theorem dX8_init_75 : decode cX8_init 75 = .ok (.iconst 1, 1) := by decide +kernel
theorem dX8_init_76 : decode cX8_init 76 = .ok (.bipush 108, 2) := by decide +kernel
theorem dX8_init_78 : decode cX8_init 78 = .ok (.iastore, 1) := by decide +kernel
theorem dX8_init_79 : decode cX8_init 79 = .ok (.dup, 1) := by decide +kernel
theorem dX8_init_80 : decode cX8_init 80 = .ok (.iconst 2, 1) := by decide +kernel
theorem dX8_init_81 : decode cX8_init 81 = .ok (.bipush 97, 2) := by decide +kernel
theorem dX8_init_83 : decode cX8_init 83 = .ok (.iastore, 1) := by decide +kernel
theorem dX8_init_84 : decode cX8_init 84 = .ok (.dup, 1) := by decide +kernel
theorem dX8_init_85 : decode cX8_init 85 = .ok (.iconst 3, 1) := by decide +kernel
theorem dX8_init_86 : decode cX8_init 86 = .ok (.bipush 99, 2) := by decide +kernel
theorem dX8_init_88 : decode cX8_init 88 = .ok (.iastore, 1) := by decide +kernel
theorem dX8_init_89 : decode cX8_init 89 = .ok (.dup, 1) := by decide +kernel
theorem dX8_init_90 : decode cX8_init 90 = .ok (.iconst 4, 1) := by decide +kernel
theorem dX8_init_91 : decode cX8_init 91 = .ok (.bipush 107, 2) := by decide +kernel
theorem dX8_init_93 : decode cX8_init 93 = .ok (.iastore, 1) := by decide +kernel
theorem dX8_init_94 : decode cX8_init 94 = .ok (.dup, 1) := by decide +kernel
theorem dX8_init_95 : decode cX8_init 95 = .ok (.iconst 5, 1) := by decide +kernel
theorem dX8_init_96 : decode cX8_init 96 = .ok (.bipush 32, 2) := by decide +kernel
theorem dX8_init_98 : decode cX8_init 98 = .ok (.iastore, 1) := by decide +kernel
theorem dX8_init_99 : decode cX8_init 99 = .ok (.dup, 1) := by decide +kernel
theorem dX8_init_100 : decode cX8_init 100 = .ok (.bipush 6, 2) := by decide +kernel
theorem dX8_init_102 : decode cX8_init 102 = .ok (.bipush 48, 2) := by decide +kernel
theorem dX8_init_104 : decode cX8_init 104 = .ok (.iastore, 1) := by decide +kernel
theorem dX8_init_105 : decode cX8_init 105 = .ok (.dup, 1) := by decide +kernel
theorem dX8_init_106 : decode cX8_init 106 = .ok (.bipush 7, 2) := by decide +kernel
theorem dX8_init_108 : decode cX8_init 108 = .ok (.bipush 59, 2) := by decide +kernel
theorem dX8_init_110 : decode cX8_init 110 = .ok (.iastore, 1) := by decide +kernel
theorem dX8_init_111 : decode cX8_init 111 = .ok (.dup, 1) := by decide +kernel
theorem dX8_init_112 : decode cX8_init 112 = .ok (.bipush 8, 2) := by decide +kernel
theorem dX8_init_114 : decode cX8_init 114 = .ok (.bipush 119, 2) := by decide +kernel
theorem dX8_init_116 : decode cX8_init 116 = .ok (.iastore, 1) := by decide +kernel
theorem dX8_init_117 : decode cX8_init 117 = .ok (.dup, 1) := by decide +kernel
theorem dX8_init_118 : decode cX8_init 118 = .ok (.bipush 9, 2) := by decide +kernel
theorem dX8_init_120 : decode cX8_init 120 = .ok (.bipush 111, 2) := by decide +kernel
theorem dX8_init_122 : decode cX8_init 122 = .ok (.iastore, 1) := by decide +kernel
theorem dX8_init_123 : decode cX8_init 123 = .ok (.dup, 1) := by decide +kernel
theorem dX8_init_124 : decode cX8_init 124 = .ok (.bipush 10, 2) := by decide +kernel
theorem dX8_init_126 : decode cX8_init 126 = .ok (.bipush 114, 2) := by decide +kernel
theorem dX8_init_128 : decode cX8_init 128 = .ok (.iastore, 1) := by decide +kernel
theorem dX8_init_129 : decode cX8_init 129 = .ok (.dup, 1) := by decide +kernel
theorem dX8_init_130 : decode cX8_init 130 = .ok (.bipush 11, 2) := by decide +kernel
theorem dX8_init_132 : decode cX8_init 132 = .ok (.bipush 116, 2) := by decide +kernel
theorem dX8_init_134 : decode cX8_init 134 = .ok (.iastore, 1) := by decide +kernel
theorem dX8_init_135 : decode cX8_init 135 = .ok (.dup, 1) := by decide +kernel
theorem dX8_init_136 : decode cX8_init 136 = .ok (.bipush 12, 2) := by decide +kernel
theorem dX8_init_138 : decode cX8_init 138 = .ok (.bipush 104, 2) := by decide +kernel
theorem dX8_init_140 : decode cX8_init 140 = .ok (.iastore, 1) := by decide +kernel
theorem dX8_init_141 : decode cX8_init 141 = .ok (.dup, 1) := by decide +kernel
theorem dX8_init_142 : decode cX8_init 142 = .ok (.bipush 13, 2) := by decide +kernel
theorem dX8_init_144 : decode cX8_init 144 = .ok (.bipush 32, 2) := by decide +kernel
theorem dX8_init_146 : decode cX8_init 146 = .ok (.iastore, 1) := by decide +kernel
theorem dX8_init_147 : decode cX8_init 147 = .ok (.dup, 1) := by decide +kernel
theorem dX8_init_148 : decode cX8_init 148 = .ok (.bipush 14, 2) := by decide +kernel
theorem dX8_init_150 : decode cX8_init 150 = .ok (.bipush 48, 2) := by decide +kernel
theorem dX8_init_152 : decode cX8_init 152 = .ok (.iastore, 1) := by decide +kernel
theorem dX8_init_153 : decode cX8_init 153 = .ok (.dup, 1) := by decide +kernel
theorem dX8_init_154 : decode cX8_init 154 = .ok (.bipush 15, 2) := by decide +kernel
theorem dX8_init_156 : decode cX8_init 156 = .ok (.bipush 45, 2) := by decide +kernel
theorem dX8_init_158 : decode cX8_init 158 = .ok (.iastore, 1) := by decide +kernel
theorem dX8_init_159 : decode cX8_init 159 = .ok (.dup, 1) := by decide +kernel
theorem dX8_init_160 : decode cX8_init 160 = .ok (.bipush 16, 2) := by decide +kernel
theorem dX8_init_162 : decode cX8_init 162 = .ok (.bipush 114, 2) := by decide +kernel
theorem dX8_init_164 : decode cX8_init 164 = .ok (.iastore, 1) := by decide +kernel
theorem dX8_init_165 : decode cX8_init 165 = .ok (.dup, 1) := by decide +kernel
theorem dX8_init_166 : decode cX8_init 166 = .ok (.bipush 17, 2) := by decide +kernel
theorem dX8_init_168 : decode cX8_init 168 = .ok (.bipush 111, 2) := by decide +kernel
theorem dX8_init_170 : decode cX8_init 170 = .ok (.iastore, 1) := by decide +kernel
theorem dX8_init_171 : decode cX8_init 171 = .ok (.dup, 1) := by decide +kernel
theorem dX8_init_172 : decode cX8_init 172 = .ok (.bipush 18, 2) := by decide +kernel
theorem dX8_init_174 : decode cX8_init 174 = .ok (.bipush 99, 2) := by decide +kernel
theorem dX8_init_176 : decode cX8_init 176 = .ok (.iastore, 1) := by decide +kernel
theorem dX8_init_177 : decode cX8_init 177 = .ok (.dup, 1) := by decide +kernel
theorem dX8_init_178 : decode cX8_init 178 = .ok (.bipush 19, 2) := by decide +kernel
theorem dX8_init_180 : decode cX8_init 180 = .ok (.bipush 107, 2) := by decide +kernel
theorem dX8_init_182 : decode cX8_init 182 = .ok (.iastore, 1) := by decide +kernel
theorem dX8_init_183 : decode cX8_init 183 = .ok (.dup, 1) := by decide +kernel
theorem dX8_init_184 : decode cX8_init 184 = .ok (.bipush 20, 2) := by decide +kernel
theorem dX8_init_186 : decode cX8_init 186 = .ok (.bipush 42, 2) := by decide +kernel
theorem dX8_init_188 : decode cX8_init 188 = .ok (.iastore, 1) := by decide +kernel
theorem dX8_init_189 : decode cX8_init 189 = .ok (.dup, 1) := by decide +kernel
theorem dX8_init_190 : decode cX8_init 190 = .ok (.bipush 21, 2) := by decide +kernel
theorem dX8_init_192 : decode cX8_init 192 = .ok (.bipush 57, 2) := by decide +kernel
theorem dX8_init_194 : decode cX8_init 194 = .ok (.iastore, 1) := by decide +kernel
theorem dX8_init_195 : decode cX8_init 195 = .ok (.dup, 1) := by decide +kernel
theorem dX8_init_196 : decode cX8_init 196 = .ok (.bipush 22, 2) := by decide +kernel
theorem dX8_init_198 : decode cX8_init 198 = .ok (.bipush 45, 2) := by decide +kernel
theorem dX8_init_200 : decode cX8_init 200 = .ok (.iastore, 1) := by decide +kernel
theorem dX8_init_201 : decode cX8_init 201 = .ok (.dup, 1) := by decide +kernel
theorem dX8_init_202 : decode cX8_init 202 = .ok (.bipush 23, 2) := by decide +kernel
theorem dX8_init_204 : decode cX8_init 204 = .ok (.bipush 108, 2) := by decide +kernel
theorem dX8_init_206 : decode cX8_init 206 = .ok (.iastore, 1) := by decide +kernel
theorem dX8_init_207 : decode cX8_init 207 = .ok (.dup, 1) := by decide +kernel
theorem dX8_init_208 : decode cX8_init 208 = .ok (.bipush 24, 2) := by decide +kernel
theorem dX8_init_210 : decode cX8_init 210 = .ok (.bipush 101, 2) := by decide +kernel
theorem dX8_init_212 : decode cX8_init 212 = .ok (.iastore, 1) := by decide +kernel
theorem dX8_init_213 : decode cX8_init 213 = .ok (.dup, 1) := by decide +kernel
theorem dX8_init_214 : decode cX8_init 214 = .ok (.bipush 25, 2) := by decide +kernel
theorem dX8_init_216 : decode cX8_init 216 = .ok (.bipush 97, 2) := by decide +kernel
theorem dX8_init_218 : decode cX8_init 218 = .ok (.iastore, 1) := by decide +kernel
theorem dX8_init_219 : decode cX8_init 219 = .ok (.dup, 1) := by decide +kernel
theorem dX8_init_220 : decode cX8_init 220 = .ok (.bipush 26, 2) := by decide +kernel
theorem dX8_init_222 : decode cX8_init 222 = .ok (.bipush 110, 2) := by decide +kernel
theorem dX8_init_224 : decode cX8_init 224 = .ok (.iastore, 1) := by decide +kernel
theorem dX8_init_225 : decode cX8_init 225 = .ok (.dup, 1) := by decide +kernel
theorem dX8_init_226 : decode cX8_init 226 = .ok (.bipush 27, 2) := by decide +kernel
theorem dX8_init_228 : decode cX8_init 228 = .ok (.bipush 59, 2) := by decide +kernel
theorem dX8_init_230 : decode cX8_init 230 = .ok (.iastore, 1) := by decide +kernel
theorem dX8_init_231 : decode cX8_init 231 = .ok (.dup, 1) := by decide +kernel
theorem dX8_init_232 : decode cX8_init 232 = .ok (.bipush 28, 2) := by decide +kernel
theorem dX8_init_234 : decode cX8_init 234 = .ok (.bipush 115, 2) := by decide +kernel
theorem dX8_init_236 : decode cX8_init 236 = .ok (.iastore, 1) := by decide +kernel
theorem dX8_init_237 : decode cX8_init 237 = .ok (.dup, 1) := by decide +kernel
theorem dX8_init_238 : decode cX8_init 238 = .ok (.bipush 29, 2) := by decide +kernel
theorem dX8_init_240 : decode cX8_init 240 = .ok (.bipush 112, 2) := by decide +kernel
theorem dX8_init_242 : decode cX8_init 242 = .ok (.iastore, 1) := by decide +kernel
theorem dX8_init_243 : decode cX8_init 243 = .ok (.dup, 1) := by decide +kernel
theorem dX8_init_244 : decode cX8_init 244 = .ok (.bipush 30, 2) := by decide +kernel
theorem dX8_init_246 : decode cX8_init 246 = .ok (.bipush 105, 2) := by decide +kernel
theorem dX8_init_248 : decode cX8_init 248 = .ok (.iastore, 1) := by decide +kernel
theorem dX8_init_249 : decode cX8_init 249 = .ok (.dup, 1) := by decide +kernel
theorem dX8_init_250 : decode cX8_init 250 = .ok (.bipush 31, 2) := by decide +kernel
theorem dX8_init_252 : decode cX8_init 252 = .ok (.bipush 108, 2) := by decide +kernel
theorem dX8_init_254 : decode cX8_init 254 = .ok (.iastore, 1) := by decide +kernel
theorem dX8_init_255 : decode cX8_init 255 = .ok (.dup, 1) := by decide +kernel
theorem dX8_init_256 : decode cX8_init 256 = .ok (.bipush 32, 2) := by decide +kernel
theorem dX8_init_258 : decode cX8_init 258 = .ok (.bipush 108, 2) := by decide +kernel
theorem dX8_init_260 : decode cX8_init 260 = .ok (.iastore, 1) := by decide +kernel
theorem dX8_init_261 : decode cX8_init 261 = .ok (.dup, 1) := by decide +kernel
theorem dX8_init_262 : decode cX8_init 262 = .ok (.bipush 33, 2) := by decide +kernel
theorem dX8_init_264 : decode cX8_init 264 = .ok (.bipush 115, 2) := by decide +kernel
theorem dX8_init_266 : decode cX8_init 266 = .ok (.iastore, 1) := by decide +kernel
theorem dX8_init_267 : decode cX8_init 267 = .ok (.dup, 1) := by decide +kernel
theorem dX8_init_268 : decode cX8_init 268 = .ok (.bipush 34, 2) := by decide +kernel
theorem dX8_init_270 : decode cX8_init 270 = .ok (.bipush 32, 2) := by decide +kernel
theorem dX8_init_272 : decode cX8_init 272 = .ok (.iastore, 1) := by decide +kernel
theorem dX8_init_273 : decode cX8_init 273 = .ok (.dup, 1) := by decide +kernel
theorem dX8_init_274 : decode cX8_init 274 = .ok (.bipush 35, 2) := by decide +kernel
theorem dX8_init_276 : decode cX8_init 276 = .ok (.bipush 108, 2) := by decide +kernel
theorem dX8_init_278 : decode cX8_init 278 = .ok (.iastore, 1) := by decide +kernel
theorem dX8_init_279 : decode cX8_init 279 = .ok (.dup, 1) := by decide +kernel
theorem dX8_init_280 : decode cX8_init 280 = .ok (.bipush 36, 2) := by decide +kernel
theorem dX8_init_282 : decode cX8_init 282 = .ok (.bipush 101, 2) := by decide +kernel
theorem dX8_init_284 : decode cX8_init 284 = .ok (.iastore, 1) := by decide +kernel
theorem dX8_init_285 : decode cX8_init 285 = .ok (.dup, 1) := by decide +kernel
theorem dX8_init_286 : decode cX8_init 286 = .ok (.bipush 37, 2) := by decide +kernel
theorem dX8_init_288 : decode cX8_init 288 = .ok (.bipush 97, 2) := by decide +kernel
theorem dX8_init_290 : decode cX8_init 290 = .ok (.iastore, 1) := by decide +kernel
theorem dX8_init_291 : decode cX8_init 291 = .ok (.dup, 1) := by decide +kernel
theorem dX8_init_292 : decode cX8_init 292 = .ok (.bipush 38, 2) := by decide +kernel
theorem dX8_init_294 : decode cX8_init 294 = .ok (.bipush 110, 2) := by decide +kernel
theorem dX8_init_296 : decode cX8_init 296 = .ok (.iastore, 1) := by decide +kernel
theorem dX8_init_297 : decode cX8_init 297 = .ok (.dup, 1) := by decide +kernel
theorem dX8_init_298 : decode cX8_init 298 = .ok (.bipush 39, 2) := by decide +kernel
theorem dX8_init_300 : decode cX8_init 300 = .ok (.bipush 43, 2) := by decide +kernel
theorem dX8_init_302 : decode cX8_init 302 = .ok (.iastore, 1) := by decide +kernel
theorem dX8_init_303 : decode cX8_init 303 = .ok (.dup, 1) := by decide +kernel
theorem dX8_init_304 : decode cX8_init 304 = .ok (.bipush 40, 2) := by decide +kernel
theorem dX8_init_306 : decode cX8_init 306 = .ok (.bipush 114, 2) := by decide +kernel
theorem dX8_init_308 : decode cX8_init 308 = .ok (.iastore, 1) := by decide +kernel
theorem dX8_init_309 : decode cX8_init 309 = .ok (.dup, 1) := by decide +kernel
theorem dX8_init_310 : decode cX8_init 310 = .ok (.bipush 41, 2) := by decide +kernel
theorem dX8_init_312 : decode cX8_init 312 = .ok (.bipush 111, 2) := by decide +kernel
theorem dX8_init_314 : decode cX8_init 314 = .ok (.iastore, 1) := by decide +kernel
theorem dX8_init_315 : decode cX8_init 315 = .ok (.dup, 1) := by decide +kernel
theorem dX8_init_316 : decode cX8_init 316 = .ok (.bipush 42, 2) := by decide +kernel
theorem dX8_init_318 : decode cX8_init 318 = .ok (.bipush 99, 2) := by decide +kernel
theorem dX8_init_320 : decode cX8_init 320 = .ok (.iastore, 1) := by decide +kernel
theorem dX8_init_321 : decode cX8_init 321 = .ok (.dup, 1) := by decide +kernel
theorem dX8_init_322 : decode cX8_init 322 = .ok (.bipush 43, 2) := by decide +kernel
theorem dX8_init_324 : decode cX8_init 324 = .ok (.bipush 107, 2) := by decide +kernel
theorem dX8_init_326 : decode cX8_init 326 = .ok (.iastore, 1) := by decide +kernel
theorem dX8_init_327 : decode cX8_init 327 = .ok (.dup, 1) := by decide +kernel
theorem dX8_init_328 : decode cX8_init 328 = .ok (.bipush 44, 2) := by decide +kernel
theorem dX8_init_330 : decode cX8_init 330 = .ok (.bipush 42, 2) := by decide +kernel
theorem dX8_init_332 : decode cX8_init 332 = .ok (.iastore, 1) := by decide +kernel
theorem dX8_init_333 : decode cX8_init 333 = .ok (.dup, 1) := by decide +kernel
theorem dX8_init_334 : decode cX8_init 334 = .ok (.bipush 45, 2) := by decide +kernel
theorem dX8_init_336 : decode cX8_init 336 = .ok (.bipush 50, 2) := by decide +kernel
theorem dX8_init_338 : decode cX8_init 338 = .ok (.iastore, 1) := by decide +kernel
theorem dX8_init_339 : decode cX8_init 339 = .ok (.dup, 1) := by decide +kernel
theorem dX8_init_340 : decode cX8_init 340 = .ok (.bipush 46, 2) := by decide +kernel
theorem dX8_init_342 : decode cX8_init 342 = .ok (.bipush 59, 2) := by decide +kernel
theorem dX8_init_344 : decode cX8_init 344 = .ok (.iastore, 1) := by decide +kernel
theorem dX8_init_345 : decode cX8_init 345 = .ok (.dup, 1) := by decide +kernel
theorem dX8_init_346 : decode cX8_init 346 = .ok (.bipush 47, 2) := by decide +kernel
theorem dX8_init_348 : decode cX8_init 348 = .ok (.bipush 32, 2) := by decide +kernel
theorem dX8_init_350 : decode cX8_init 350 = .ok (.iastore, 1) := by decide +kernel
theorem dX8_init_351 : decode cX8_init 351 = .ok (.dup, 1) := by decide +kernel
theorem dX8_init_352 : decode cX8_init 352 = .ok (.bipush 48, 2) := by decide +kernel
theorem dX8_init_354 : decode cX8_init 354 = .ok (.bipush 32, 2) := by decide +kernel
theorem dX8_init_356 : decode cX8_init 356 = .ok (.iastore, 1) := by decide +kernel
theorem dX8_init_357 : decode cX8_init 357 = .ok (.dup, 1) := by decide +kernel
theorem dX8_init_358 : decode cX8_init 358 = .ok (.bipush 49, 2) := by decide +kernel
theorem dX8_init_360 : decode cX8_init 360 = .ok (.bipush 32, 2) := by decide +kernel
theorem dX8_init_362 : decode cX8_init 362 = .ok (.iastore, 1) := by decide +kernel
theorem dX8_init_363 : decode cX8_init 363 = .ok (.dup, 1) := by decide +kernel
theorem dX8_init_364 : decode cX8_init 364 = .ok (.bipush 50, 2) := by decide +kernel
theorem dX8_init_366 : decode cX8_init 366 = .ok (.bipush 32, 2) := by decide +kernel
theorem dX8_init_368 : decode cX8_init 368 = .ok (.iastore, 1) := by decide +kernel
theorem dX8_init_369 : decode cX8_init 369 = .ok (.dup, 1) := by decide +kernel
theorem dX8_init_370 : decode cX8_init 370 = .ok (.bipush 51, 2) := by decide +kernel
theorem dX8_init_372 : decode cX8_init 372 = .ok (.bipush 32, 2) := by decide +kernel
theorem dX8_init_374 : decode cX8_init 374 = .ok (.iastore, 1) := by decide +kernel
theorem dX8_init_375 : decode cX8_init 375 = .ok (.dup, 1) := by decide +kernel
theorem dX8_init_376 : decode cX8_init 376 = .ok (.bipush 52, 2) := by decide +kernel
theorem dX8_init_378 : decode cX8_init 378 = .ok (.bipush 32, 2) := by decide +kernel
theorem dX8_init_380 : decode cX8_init 380 = .ok (.iastore, 1) := by decide +kernel
theorem dX8_init_381 : decode cX8_init 381 = .ok (.dup, 1) := by decide +kernel
theorem dX8_init_382 : decode cX8_init 382 = .ok (.bipush 53, 2) := by decide +kernel
theorem dX8_init_384 : decode cX8_init 384 = .ok (.bipush 32, 2) := by decide +kernel
theorem dX8_init_386 : decode cX8_init 386 = .ok (.iastore, 1) := by decide +kernel
theorem dX8_init_387 : decode cX8_init 387 = .ok (.dup, 1) := by decide +kernel
theorem dX8_init_388 : decode cX8_init 388 = .ok (.bipush 54, 2) := by decide +kernel
theorem dX8_init_390 : decode cX8_init 390 = .ok (.bipush 32, 2) := by decide +kernel
theorem dX8_init_392 : decode cX8_init 392 = .ok (.iastore, 1) := by decide +kernel
theorem dX8_init_393 : decode cX8_init 393 = .ok (.dup, 1) := by decide +kernel
theorem dX8_init_394 : decode cX8_init 394 = .ok (.bipush 55, 2) := by decide +kernel
theorem dX8_init_396 : decode cX8_init 396 = .ok (.bipush 32, 2) := by decide +kernel
theorem dX8_init_398 : decode cX8_init 398 = .ok (.iastore, 1) := by decide +kernel
theorem dX8_init_399 : decode cX8_init 399 = .ok (.putfield 29, 3) := by decide +kernel
theorem dX8_init_402 : decode cX8_init 402 = .ok (.aload_n 0, 1) := by decide +kernel
theorem dX8_init_403 : decode cX8_init 403 = .ok (.bipush 42, 2) := by decide +kernel
theorem dX8_init_405 : decode cX8_init 405 = .ok (.newarray .int, 2) := by decide +kernel
theorem dX8_init_407 : decode cX8_init 407 = .ok (.dup, 1) := by decide +kernel
theorem dX8_init_408 : decode cX8_init 408 = .ok (.iconst 0, 1) := by decide +kernel
theorem dX8_init_409 : decode cX8_init 409 = .ok (.bipush 114, 2) := by decide +kernel
theorem dX8_init_411 : decode cX8_init 411 = .ok (.iastore, 1) := by decide +kernel
theorem dX8_init_412 : decode cX8_init 412 = .ok (.dup, 1) := by decide +kernel
theorem dX8_init_413 : decode cX8_init 413 = .ok (.iconst 1, 1) := by decide +kernel
theorem dX8_init_414 : decode cX8_init 414 = .ok (.bipush 111, 2) := by decide +kernel
theorem dX8_init_416 : decode cX8_init 416 = .ok (.iastore, 1) := by decide +kernel
theorem dX8_init_417 : decode cX8_init 417 = .ok (.dup, 1) := by decide +kernel
theorem dX8_init_418 : decode cX8_init 418 = .ok (.iconst 2, 1) := by decide +kernel
theorem dX8_init_419 : decode cX8_init 419 = .ok (.bipush 99, 2) := by decide +kernel
theorem dX8_init_421 : decode cX8_init 421 = .ok (.iastore, 1) := by decide +kernel
theorem dX8_init_422 : decode cX8_init 422 = .ok (.dup, 1) := by decide +kernel
theorem dX8_init_423 : decode cX8_init 423 = .ok (.iconst 3, 1) := by decide +kernel
theorem dX8_init_424 : decode cX8_init 424 = .ok (.bipush 107, 2) := by decide +kernel
theorem dX8_init_426 : decode cX8_init 426 = .ok (.iastore, 1) := by decide +kernel
theorem dX8_init_427 : decode cX8_init 427 = .ok (.dup, 1) := by decide +kernel
theorem dX8_init_428 : decode cX8_init 428 = .ok (.iconst 4, 1) := by decide +kernel
theorem dX8_init_429 : decode cX8_init 429 = .ok (.bipush 108, 2) := by decide +kernel
theorem dX8_init_431 : decode cX8_init 431 = .ok (.iastore, 1) := by decide +kernel
theorem dX8_init_432 : decode cX8_init 432 = .ok (.dup, 1) := by decide +kernel
theorem dX8_init_433 : decode cX8_init 433 = .ok (.iconst 5, 1) := by decide +kernel
theorem dX8_init_434 : decode cX8_init 434 = .ok (.bipush 101, 2) := by decide +kernel
theorem dX8_init_436 : decode cX8_init 436 = .ok (.iastore, 1) := by decide +kernel
theorem dX8_init_437 : decode cX8_init 437 = .ok (.dup, 1) := by decide +kernel
theorem dX8_init_438 : decode cX8_init 438 = .ok (.bipush 6, 2) := by decide +kernel
theorem dX8_init_440 : decode cX8_init 440 = .ok (.bipush 97, 2) := by decide +kernel
theorem dX8_init_442 : decode cX8_init 442 = .ok (.iastore, 1) := by decide +kernel
theorem dX8_init_443 : decode cX8_init 443 = .ok (.dup, 1) := by decide +kernel
theorem dX8_init_444 : decode cX8_init 444 = .ok (.bipush 7, 2) := by decide +kernel
theorem dX8_init_446 : decode cX8_init 446 = .ok (.bipush 110, 2) := by decide +kernel
theorem dX8_init_448 : decode cX8_init 448 = .ok (.iastore, 1) := by decide +kernel
theorem dX8_init_449 : decode cX8_init 449 = .ok (.dup, 1) := by decide +kernel
theorem dX8_init_450 : decode cX8_init 450 = .ok (.bipush 8, 2) := by decide +kernel
theorem dX8_init_452 : decode cX8_init 452 = .ok (.bipush 116, 2) := by decide +kernel
theorem dX8_init_454 : decode cX8_init 454 = .ok (.iastore, 1) := by decide +kernel
theorem dX8_init_455 : decode cX8_init 455 = .ok (.dup, 1) := by decide +kernel
theorem dX8_init_456 : decode cX8_init 456 = .ok (.bipush 9, 2) := by decide +kernel
theorem dX8_init_458 : decode cX8_init 458 = .ok (.bipush 117, 2) := by decide +kernel
theorem dX8_init_460 : decode cX8_init 460 = .ok (.iastore, 1) := by decide +kernel
theorem dX8_init_461 : decode cX8_init 461 = .ok (.dup, 1) := by decide +kernel
theorem dX8_init_462 : decode cX8_init 462 = .ok (.bipush 10, 2) := by decide +kernel
theorem dX8_init_464 : decode cX8_init 464 = .ok (.bipush 114, 2) := by decide +kernel
theorem dX8_init_466 : decode cX8_init 466 = .ok (.iastore, 1) := by decide +kernel
theorem dX8_init_467 : decode cX8_init 467 = .ok (.dup, 1) := by decide +kernel
theorem dX8_init_468 : decode cX8_init 468 = .ok (.bipush 11, 2) := by decide +kernel
theorem dX8_init_470 : decode cX8_init 470 = .ok (.bipush 110, 2) := by decide +kernel
theorem dX8_init_472 : decode cX8_init 472 = .ok (.iastore, 1) := by decide +kernel
theorem dX8_init_473 : decode cX8_init 473 = .ok (.dup, 1) := by decide +kernel
theorem dX8_init_474 : decode cX8_init 474 = .ok (.bipush 12, 2) := by decide +kernel
theorem dX8_init_476 : decode cX8_init 476 = .ok (.bipush 121, 2) := by decide +kernel
theorem dX8_init_478 : decode cX8_init 478 = .ok (.iastore, 1) := by decide +kernel
theorem dX8_init_479 : decode cX8_init 479 = .ok (.dup, 1) := by decide +kernel
theorem dX8_init_480 : decode cX8_init 480 = .ok (.bipush 13, 2) := by decide +kernel
theorem dX8_init_482 : decode cX8_init 482 = .ok (.bipush 120, 2) := by decide +kernel
theorem dX8_init_484 : decode cX8_init 484 = .ok (.iastore, 1) := by decide +kernel
theorem dX8_init_485 : decode cX8_init 485 = .ok (.dup, 1) := by decide +kernel
theorem dX8_init_486 : decode cX8_init 486 = .ok (.bipush 14, 2) := by decide +kernel
theorem dX8_init_488 : decode cX8_init 488 = .ok (.bipush 103, 2) := by decide +kernel
theorem dX8_init_490 : decode cX8_init 490 = .ok (.iastore, 1) := by decide +kernel
theorem dX8_init_491 : decode cX8_init 491 = .ok (.dup, 1) := by decide +kernel
theorem dX8_init_492 : decode cX8_init 492 = .ok (.bipush 15, 2) := by decide +kernel
theorem dX8_init_494 : decode cX8_init 494 = .ok (.bipush 105, 2) := by decide +kernel
theorem dX8_init_496 : decode cX8_init 496 = .ok (.iastore, 1) := by decide +kernel
theorem dX8_init_497 : decode cX8_init 497 = .ok (.dup, 1) := by decide +kernel
theorem dX8_init_498 : decode cX8_init 498 = .ok (.bipush 16, 2) := by decide +kernel
theorem dX8_init_500 : decode cX8_init 500 = .ok (.bipush 118, 2) := by decide +kernel
theorem dX8_init_502 : decode cX8_init 502 = .ok (.iastore, 1) := by decide +kernel
theorem dX8_init_503 : decode cX8_init 503 = .ok (.dup, 1) := by decide +kernel
theorem dX8_init_504 : decode cX8_init 504 = .ok (.bipush 17, 2) := by decide +kernel
theorem dX8_init_506 : decode cX8_init 506 = .ok (.bipush 101, 2) := by decide +kernel
theorem dX8_init_508 : decode cX8_init 508 = .ok (.iastore, 1) := by decide +kernel
theorem dX8_init_509 : decode cX8_init 509 = .ok (.dup, 1) := by decide +kernel
theorem dX8_init_510 : decode cX8_init 510 = .ok (.bipush 18, 2) := by decide +kernel
theorem dX8_init_512 : decode cX8_init 512 = .ok (.bipush 115, 2) := by decide +kernel
theorem dX8_init_514 : decode cX8_init 514 = .ok (.iastore, 1) := by decide +kernel
theorem dX8_init_515 : decode cX8_init 515 = .ok (.dup, 1) := by decide +kernel
theorem dX8_init_516 : decode cX8_init 516 = .ok (.bipush 19, 2) := by decide +kernel
theorem dX8_init_518 : decode cX8_init 518 = .ok (.bipush 108, 2) := by decide +kernel
theorem dX8_init_520 : decode cX8_init 520 = .ok (.iastore, 1) := by decide +kernel
theorem dX8_init_521 : decode cX8_init 521 = .ok (.dup, 1) := by decide +kernel
theorem dX8_init_522 : decode cX8_init 522 = .ok (.bipush 20, 2) := by decide +kernel
theorem dX8_init_524 : decode cX8_init 524 = .ok (.bipush 97, 2) := by decide +kernel
theorem dX8_init_526 : decode cX8_init 526 = .ok (.iastore, 1) := by decide +kernel
theorem dX8_init_527 : decode cX8_init 527 = .ok (.dup, 1) := by decide +kernel
theorem dX8_init_528 : decode cX8_init 528 = .ok (.bipush 21, 2) := by decide +kernel
theorem dX8_init_530 : decode cX8_init 530 = .ok (.bipush 99, 2) := by decide +kernel
theorem dX8_init_532 : decode cX8_init 532 = .ok (.iastore, 1) := by decide +kernel
theorem dX8_init_533 : decode cX8_init 533 = .ok (.dup, 1) := by decide +kernel
theorem dX8_init_534 : decode cX8_init 534 = .ok (.bipush 22, 2) := by decide +kernel
theorem dX8_init_536 : decode cX8_init 536 = .ok (.bipush 107, 2) := by decide +kernel
theorem dX8_init_538 : decode cX8_init 538 = .ok (.iastore, 1) := by decide +kernel
theorem dX8_init_539 : decode cX8_init 539 = .ok (.dup, 1) := by decide +kernel
theorem dX8_init_540 : decode cX8_init 540 = .ok (.bipush 23, 2) := by decide +kernel
theorem dX8_init_542 : decode cX8_init 542 = .ok (.bipush 119, 2) := by decide +kernel
theorem dX8_init_544 : decode cX8_init 544 = .ok (.iastore, 1) := by decide +kernel
theorem dX8_init_545 : decode cX8_init 545 = .ok (.dup, 1) := by decide +kernel
theorem dX8_init_546 : decode cX8_init 546 = .ok (.bipush 24, 2) := by decide +kernel
theorem dX8_init_548 : decode cX8_init 548 = .ok (.bipush 111, 2) := by decide +kernel
theorem dX8_init_550 : decode cX8_init 550 = .ok (.iastore, 1) := by decide +kernel
theorem dX8_init_551 : decode cX8_init 551 = .ok (.dup, 1) := by decide +kernel
theorem dX8_init_552 : decode cX8_init 552 = .ok (.bipush 25, 2) := by decide +kernel
theorem dX8_init_554 : decode cX8_init 554 = .ok (.bipush 114, 2) := by decide +kernel
theorem dX8_init_556 : decode cX8_init 556 = .ok (.iastore, 1) := by decide +kernel
theorem dX8_init_557 : decode cX8_init 557 = .ok (.dup, 1) := by decide +kernel
theorem dX8_init_558 : decode cX8_init 558 = .ok (.bipush 26, 2) := by decide +kernel
theorem dX8_init_560 : decode cX8_init 560 = .ok (.bipush 116, 2) := by decide +kernel
theorem dX8_init_562 : decode cX8_init 562 = .ok (.iastore, 1) := by decide +kernel
theorem dX8_init_563 : decode cX8_init 563 = .ok (.dup, 1) := by decide +kernel
theorem dX8_init_564 : decode cX8_init 564 = .ok (.bipush 27, 2) := by decide +kernel
theorem dX8_init_566 : decode cX8_init 566 = .ok (.bipush 104, 2) := by decide +kernel
theorem dX8_init_568 : decode cX8_init 568 = .ok (.iastore, 1) := by decide +kernel
theorem dX8_init_569 : decode cX8_init 569 = .ok (.dup, 1) := by decide +kernel
theorem dX8_init_570 : decode cX8_init 570 = .ok (.bipush 28, 2) := by decide +kernel
theorem dX8_init_572 : decode cX8_init 572 = .ok (.bipush 115, 2) := by decide +kernel
theorem dX8_init_574 : decode cX8_init 574 = .ok (.iastore, 1) := by decide +kernel
theorem dX8_init_575 : decode cX8_init 575 = .ok (.dup, 1) := by decide +kernel
theorem dX8_init_576 : decode cX8_init 576 = .ok (.bipush 29, 2) := by decide +kernel
theorem dX8_init_578 : decode cX8_init 578 = .ok (.bipush 112, 2) := by decide +kernel
theorem dX8_init_580 : decode cX8_init 580 = .ok (.iastore, 1) := by decide +kernel
theorem dX8_init_581 : decode cX8_init 581 = .ok (.dup, 1) := by decide +kernel
theorem dX8_init_582 : decode cX8_init 582 = .ok (.bipush 30, 2) := by decide +kernel
theorem dX8_init_584 : decode cX8_init 584 = .ok (.bipush 105, 2) := by decide +kernel
theorem dX8_init_586 : decode cX8_init 586 = .ok (.iastore, 1) := by decide +kernel
theorem dX8_init_587 : decode cX8_init 587 = .ok (.dup, 1) := by decide +kernel
theorem dX8_init_588 : decode cX8_init 588 = .ok (.bipush 31, 2) := by decide +kernel
theorem dX8_init_590 : decode cX8_init 590 = .ok (.bipush 108, 2) := by decide +kernel
theorem dX8_init_592 : decode cX8_init 592 = .ok (.iastore, 1) := by decide +kernel
theorem dX8_init_593 : decode cX8_init 593 = .ok (.dup, 1) := by decide +kernel
theorem dX8_init_594 : decode cX8_init 594 = .ok (.bipush 32, 2) := by decide +kernel
theorem dX8_init_596 : decode cX8_init 596 = .ok (.bipush 108, 2) := by decide +kernel
theorem dX8_init_598 : decode cX8_init 598 = .ok (.iastore, 1) := by decide +kernel
theorem dX8_init_599 : decode cX8_init 599 = .ok (.dup, 1) := by decide +kernel
theorem dX8_init_600 : decode cX8_init 600 = .ok (.bipush 33, 2) := by decide +kernel
theorem dX8_init_602 : decode cX8_init 602 = .ok (.bipush 115, 2) := by decide +kernel
theorem dX8_init_604 : decode cX8_init 604 = .ok (.iastore, 1) := by decide +kernel
theorem dX8_init_605 : decode cX8_init 605 = .ok (.dup, 1) := by decide +kernel
theorem dX8_init_606 : decode cX8_init 606 = .ok (.bipush 34, 2) := by decide +kernel
theorem dX8_init_608 : decode cX8_init 608 = .ok (.bipush 111, 2) := by decide +kernel
theorem dX8_init_610 : decode cX8_init 610 = .ok (.iastore, 1) := by decide +kernel
theorem dX8_init_611 : decode cX8_init 611 = .ok (.dup, 1) := by decide +kernel
theorem dX8_init_612 : decode cX8_init 612 = .ok (.bipush 35, 2) := by decide +kernel
theorem dX8_init_614 : decode cX8_init 614 = .ok (.bipush 114, 2) := by decide +kernel
theorem dX8_init_616 : decode cX8_init 616 = .ok (.iastore, 1) := by decide +kernel
theorem dX8_init_617 : decode cX8_init 617 = .ok (.dup, 1) := by decide +kernel
theorem dX8_init_618 : decode cX8_init 618 = .ok (.bipush 36, 2) := by decide +kernel
theorem dX8_init_620 : decode cX8_init 620 = .ok (.bipush 97, 2) := by decide +kernel
theorem dX8_init_622 : decode cX8_init 622 = .ok (.iastore, 1) := by decide +kernel
theorem dX8_init_623 : decode cX8_init 623 = .ok (.dup, 1) := by decide +kernel
theorem dX8_init_624 : decode cX8_init 624 = .ok (.bipush 37, 2) := by decide +kernel
theorem dX8_init_626 : decode cX8_init 626 = .ok (.bipush 110, 2) := by decide +kernel
theorem dX8_init_628 : decode cX8_init 628 = .ok (.iastore, 1) := by decide +kernel
theorem dX8_init_629 : decode cX8_init 629 = .ok (.dup, 1) := by decide +kernel
theorem dX8_init_630 : decode cX8_init 630 = .ok (.bipush 38, 2) := by decide +kernel
theorem dX8_init_632 : decode cX8_init 632 = .ok (.bipush 100, 2) := by decide +kernel
theorem dX8_init_634 : decode cX8_init 634 = .ok (.iastore, 1) := by decide +kernel
theorem dX8_init_635 : decode cX8_init 635 = .ok (.dup, 1) := by decide +kernel
theorem dX8_init_636 : decode cX8_init 636 = .ok (.bipush 39, 2) := by decide +kernel
theorem dX8_init_638 : decode cX8_init 638 = .ok (.bipush 110, 2) := by decide +kernel
theorem dX8_init_640 : decode cX8_init 640 = .ok (.iastore, 1) := by decide +kernel
theorem dX8_init_641 : decode cX8_init 641 = .ok (.dup, 1) := by decide +kernel
theorem dX8_init_642 : decode cX8_init 642 = .ok (.bipush 40, 2) := by decide +kernel
theorem dX8_init_644 : decode cX8_init 644 = .ok (.bipush 111, 2) := by decide +kernel
theorem dX8_init_646 : decode cX8_init 646 = .ok (.iastore, 1) := by decide +kernel
theorem dX8_init_647 : decode cX8_init 647 = .ok (.dup, 1) := by decide +kernel
theorem dX8_init_648 : decode cX8_init 648 = .ok (.bipush 41, 2) := by decide +kernel
theorem dX8_init_650 : decode cX8_init 650 = .ok (.bipush 116, 2) := by decide +kernel
theorem dX8_init_652 : decode cX8_init 652 = .ok (.iastore, 1) := by decide +kernel
theorem dX8_init_653 : decode cX8_init 653 = .ok (.putfield 32, 3) := by decide +kernel
theorem dX8_init_656 : decode cX8_init 656 = .ok (.aload_n 0, 1) := by decide +kernel
theorem dX8_init_657 : decode cX8_init 657 = .ok (.bipush 13, 2) := by decide +kernel
theorem dX8_init_659 : decode cX8_init 659 = .ok (.newarray .int, 2) := by decide +kernel
theorem dX8_init_661 : decode cX8_init 661 = .ok (.dup, 1) := by decide +kernel
theorem dX8_init_662 : decode cX8_init 662 = .ok (.iconst 0, 1) := by decide +kernel
theorem dX8_init_663 : decode cX8_init 663 = .ok (.iconst 0, 1) := by decide +kernel
theorem dX8_init_664 : decode cX8_init 664 = .ok (.iastore, 1) := by decide +kernel
theorem dX8_init_665 : decode cX8_init 665 = .ok (.dup, 1) := by decide +kernel
theorem dX8_init_666 : decode cX8_init 666 = .ok (.iconst 1, 1) := by decide +kernel
theorem dX8_init_667 : decode cX8_init 667 = .ok (.iconst 4, 1) := by decide +kernel
theorem dX8_init_668 : decode cX8_init 668 = .ok (.iastore, 1) := by decide +kernel
theorem dX8_init_669 : decode cX8_init 669 = .ok (.dup, 1) := by decide +kernel
theorem dX8_init_670 : decode cX8_init 670 = .ok (.iconst 2, 1) := by decide +kernel
theorem dX8_init_671 : decode cX8_init 671 = .ok (.bipush 8, 2) := by decide +kernel
theorem dX8_init_673 : decode cX8_init 673 = .ok (.iastore, 1) := by decide +kernel
theorem dX8_init_674 : decode cX8_init 674 = .ok (.dup, 1) := by decide +kernel
theorem dX8_init_675 : decode cX8_init 675 = .ok (.iconst 3, 1) := by decide +kernel
theorem dX8_init_676 : decode cX8_init 676 = .ok (.bipush 12, 2) := by decide +kernel
theorem dX8_init_678 : decode cX8_init 678 = .ok (.iastore, 1) := by decide +kernel
theorem dX8_init_679 : decode cX8_init 679 = .ok (.dup, 1) := by decide +kernel
theorem dX8_init_680 : decode cX8_init 680 = .ok (.iconst 4, 1) := by decide +kernel
theorem dX8_init_681 : decode cX8_init 681 = .ok (.bipush 13, 2) := by decide +kernel
theorem dX8_init_683 : decode cX8_init 683 = .ok (.iastore, 1) := by decide +kernel
theorem dX8_init_684 : decode cX8_init 684 = .ok (.dup, 1) := by decide +kernel
theorem dX8_init_685 : decode cX8_init 685 = .ok (.iconst 5, 1) := by decide +kernel
theorem dX8_init_686 : decode cX8_init 686 = .ok (.bipush 14, 2) := by decide +kernel
theorem dX8_init_688 : decode cX8_init 688 = .ok (.iastore, 1) := by decide +kernel
theorem dX8_init_689 : decode cX8_init 689 = .ok (.dup, 1) := by decide +kernel
theorem dX8_init_690 : decode cX8_init 690 = .ok (.bipush 6, 2) := by decide +kernel
theorem dX8_init_692 : decode cX8_init 692 = .ok (.bipush 18, 2) := by decide +kernel
theorem dX8_init_694 : decode cX8_init 694 = .ok (.iastore, 1) := by decide +kernel
theorem dX8_init_695 : decode cX8_init 695 = .ok (.dup, 1) := by decide +kernel
theorem dX8_init_696 : decode cX8_init 696 = .ok (.bipush 7, 2) := by decide +kernel
theorem dX8_init_698 : decode cX8_init 698 = .ok (.bipush 23, 2) := by decide +kernel
theorem dX8_init_700 : decode cX8_init 700 = .ok (.iastore, 1) := by decide +kernel
theorem dX8_init_701 : decode cX8_init 701 = .ok (.dup, 1) := by decide +kernel
theorem dX8_init_702 : decode cX8_init 702 = .ok (.bipush 8, 2) := by decide +kernel
theorem dX8_init_704 : decode cX8_init 704 = .ok (.bipush 28, 2) := by decide +kernel
theorem dX8_init_706 : decode cX8_init 706 = .ok (.iastore, 1) := by decide +kernel
theorem dX8_init_707 : decode cX8_init 707 = .ok (.dup, 1) := by decide +kernel
theorem dX8_init_708 : decode cX8_init 708 = .ok (.bipush 9, 2) := by decide +kernel
theorem dX8_init_710 : decode cX8_init 710 = .ok (.bipush 34, 2) := by decide +kernel
theorem dX8_init_712 : decode cX8_init 712 = .ok (.iastore, 1) := by decide +kernel
theorem dX8_init_713 : decode cX8_init 713 = .ok (.dup, 1) := by decide +kernel
theorem dX8_init_714 : decode cX8_init 714 = .ok (.bipush 10, 2) := by decide +kernel
theorem dX8_init_716 : decode cX8_init 716 = .ok (.bipush 36, 2) := by decide +kernel
theorem dX8_init_718 : decode cX8_init 718 = .ok (.iastore, 1) := by decide +kernel
theorem dX8_init_719 : decode cX8_init 719 = .ok (.dup, 1) := by decide +kernel
theorem dX8_init_720 : decode cX8_init 720 = .ok (.bipush 11, 2) := by decide +kernel
theorem dX8_init_722 : decode cX8_init 722 = .ok (.bipush 39, 2) := by decide +kernel
theorem dX8_init_724 : decode cX8_init 724 = .ok (.iastore, 1) := by decide +kernel
theorem dX8_init_725 : decode cX8_init 725 = .ok (.dup, 1) := by decide +kernel
theorem dX8_init_726 : decode cX8_init 726 = .ok (.bipush 12, 2) := by decide +kernel
theorem dX8_init_728 : decode cX8_init 728 = .ok (.bipush 42, 2) := by decide +kernel
theorem dX8_init_730 : decode cX8_init 730 = .ok (.iastore, 1) := by decide +kernel
theorem dX8_init_731 : decode cX8_init 731 = .ok (.putfield 35, 3) := by decide +kernel
theorem dX8_init_734 : decode cX8_init 734 = .ok (.aload_n 0, 1) := by decide +kernel
theorem dX8_init_735 : decode cX8_init 735 = .ok (.sipush 160, 3) := by decide +kernel
theorem dX8_init_738 : decode cX8_init 738 = .ok (.newarray .int, 2) := by decide +kernel
theorem dX8_init_740 : decode cX8_init 740 = .ok (.putfield 38, 3) := by decide +kernel
theorem dX8_init_743 : decode cX8_init 743 = .ok (.aload_n 0, 1) := by decide +kernel
theorem dX8_init_744 : decode cX8_init 744 = .ok (.sipush 960, 3) := by decide +kernel
theorem dX8_init_747 : decode cX8_init 747 = .ok (.newarray .int, 2) := by decide +kernel
theorem dX8_init_749 : decode cX8_init 749 = .ok (.putfield 41, 3) := by decide +kernel
theorem dX8_init_752 : decode cX8_init 752 = .ok (.aload_n 0, 1) := by decide +kernel
theorem dX8_init_753 : decode cX8_init 753 = .ok (.bipush 24, 2) := by decide +kernel
theorem dX8_init_755 : decode cX8_init 755 = .ok (.newarray .int, 2) := by decide +kernel
theorem dX8_init_757 : decode cX8_init 757 = .ok (.putfield 44, 3) := by decide +kernel
theorem dX8_init_760 : decode cX8_init 760 = .ok (.aload_n 0, 1) := by decide +kernel
theorem dX8_init_761 : decode cX8_init 761 = .ok (.sipush 170, 3) := by decide +kernel
theorem dX8_init_764 : decode cX8_init 764 = .ok (.newarray .int, 2) := by decide +kernel
theorem dX8_init_766 : decode cX8_init 766 = .ok (.putfield 47, 3) := by decide +kernel
theorem dX8_init_769 : decode cX8_init 769 = .ok (.aload_n 0, 1) := by decide +kernel
theorem dX8_init_770 : decode cX8_init 770 = .ok (.bipush 6, 2) := by decide +kernel
theorem dX8_init_772 : decode cX8_init 772 = .ok (.newarray .int, 2) := by decide +kernel
theorem dX8_init_774 : decode cX8_init 774 = .ok (.putfield 50, 3) := by decide +kernel
theorem dX8_init_777 : decode cX8_init 777 = .ok (.aload_n 0, 1) := by decide +kernel
theorem dX8_init_778 : decode cX8_init 778 = .ok (.sipush 170, 3) := by decide +kernel
theorem dX8_init_781 : decode cX8_init 781 = .ok (.newarray .int, 2) := by decide +kernel
theorem dX8_init_783 : decode cX8_init 783 = .ok (.putfield 53, 3) := by decide +kernel
theorem dX8_init_786 : decode cX8_init 786 = .ok (.aload_n 0, 1) := by decide +kernel
theorem dX8_init_787 : decode cX8_init 787 = .ok (.iconst 4, 1) := by decide +kernel
theorem dX8_init_788 : decode cX8_init 788 = .ok (.newarray .int, 2) := by decide +kernel
theorem dX8_init_790 : decode cX8_init 790 = .ok (.putfield 56, 3) := by decide +kernel
theorem dX8_init_793 : decode cX8_init 793 = .ok (.aload_n 0, 1) := by decide +kernel
theorem dX8_init_794 : decode cX8_init 794 = .ok (.iconst 4, 1) := by decide +kernel
theorem dX8_init_795 : decode cX8_init 795 = .ok (.newarray .int, 2) := by decide +kernel
theorem dX8_init_797 : decode cX8_init 797 = .ok (.putfield 59, 3) := by decide +kernel
theorem dX8_init_800 : decode cX8_init 800 = .ok (.aload_n 0, 1) := by decide +kernel
theorem dX8_init_801 : decode cX8_init 801 = .ok (.bipush 77, 2) := by decide +kernel
theorem dX8_init_803 : decode cX8_init 803 = .ok (.newarray .int, 2) := by decide +kernel
theorem dX8_init_805 : decode cX8_init 805 = .ok (.putfield 62, 3) := by decide +kernel
theorem dX8_init_808 : decode cX8_init 808 = .ok (.aload_n 0, 1) := by decide +kernel
theorem dX8_init_809 : decode cX8_init 809 = .ok (.iconst 4, 1) := by decide +kernel
theorem dX8_init_810 : decode cX8_init 810 = .ok (.newarray .int, 2) := by decide +kernel
theorem dX8_init_812 : decode cX8_init 812 = .ok (.dup, 1) := by decide +kernel
theorem dX8_init_813 : decode cX8_init 813 = .ok (.iconst 0, 1) := by decide +kernel
theorem dX8_init_814 : decode cX8_init 814 = .ok (.iconst (-1), 1) := by decide +kernel
theorem dX8_init_815 : decode cX8_init 815 = .ok (.iastore, 1) := by decide +kernel
theorem dX8_init_816 : decode cX8_init 816 = .ok (.dup, 1) := by decide +kernel
theorem dX8_init_817 : decode cX8_init 817 = .ok (.iconst 1, 1) := by decide +kernel
theorem dX8_init_818 : decode cX8_init 818 = .ok (.iconst (-1), 1) := by decide +kernel
theorem dX8_init_819 : decode cX8_init 819 = .ok (.iastore, 1) := by decide +kernel
theorem dX8_init_820 : decode cX8_init 820 = .ok (.dup, 1) := by decide +kernel
theorem dX8_init_821 : decode cX8_init 821 = .ok (.iconst 2, 1) := by decide +kernel
theorem dX8_init_822 : decode cX8_init 822 = .ok (.iconst (-1), 1) := by decide +kernel
theorem dX8_init_823 : decode cX8_init 823 = .ok (.iastore, 1) := by decide +kernel
theorem dX8_init_824 : decode cX8_init 824 = .ok (.dup, 1) := by decide +kernel
theorem dX8_init_825 : decode cX8_init 825 = .ok (.iconst 3, 1) := by decide +kernel
theorem dX8_init_826 : decode cX8_init 826 = .ok (.iconst (-1), 1) := by decide +kernel
theorem dX8_init_827 : decode cX8_init 827 = .ok (.iastore, 1) := by decide +kernel
theorem dX8_init_828 : decode cX8_init 828 = .ok (.putfield 65, 3) := by decide +kernel
theorem dX8_init_831 : decode cX8_init 831 = .ok (.aload_n 0, 1) := by decide +kernel
theorem dX8_init_832 : decode cX8_init 832 = .ok (.iconst 4, 1) := by decide +kernel
theorem dX8_init_833 : decode cX8_init 833 = .ok (.newarray .int, 2) := by decide +kernel
theorem dX8_init_835 : decode cX8_init 835 = .ok (.putfield 68, 3) := by decide +kernel
theorem dX8_init_838 : decode cX8_init 838 = .ok (.aload_n 0, 1) := by decide +kernel
theorem dX8_init_839 : decode cX8_init 839 = .ok (.sipush 160, 3) := by decide +kernel
theorem dX8_init_842 : decode cX8_init 842 = .ok (.newarray .int, 2) := by decide +kernel
theorem dX8_init_844 : decode cX8_init 844 = .ok (.putfield 71, 3) := by decide +kernel
theorem dX8_init_847 : decode cX8_init 847 = .ok (.aload_n 0, 1) := by decide +kernel
theorem dX8_init_848 : decode cX8_init 848 = .ok (.bipush 40, 2) := by decide +kernel
theorem dX8_init_850 : decode cX8_init 850 = .ok (.newarray .int, 2) := by decide +kernel
theorem dX8_init_852 : decode cX8_init 852 = .ok (.putfield 74, 3) := by decide +kernel
theorem dX8_init_855 : decode cX8_init 855 = .ok (.aload_n 0, 1) := by decide +kernel
theorem dX8_init_856 : decode cX8_init 856 = .ok (.iconst 0, 1) := by decide +kernel
theorem dX8_init_857 : decode cX8_init 857 = .ok (.putfield 77, 3) := by decide +kernel
theorem dX8_init_860 : decode cX8_init 860 = .ok (.aload_n 0, 1) := by decide +kernel
theorem dX8_init_861 : decode cX8_init 861 = .ok (.iconst 0, 1) := by decide +kernel
theorem dX8_init_862 : decode cX8_init 862 = .ok (.putfield 80, 3) := by decide +kernel
theorem dX8_init_865 : decode cX8_init 865 = .ok (.iconst 0, 1) := by decide +kernel
theorem dX8_init_866 : decode cX8_init 866 = .ok (.istore_n 1, 1) := by decide +kernel
theorem dX8_init_867 : decode cX8_init 867 = .ok (.iload_n 1, 1) := by decide +kernel
theorem dX8_init_868 : decode cX8_init 868 = .ok (.bipush 56, 2) := by decide +kernel
theorem dX8_init_870 : decode cX8_init 870 = .ok (.if_icmp .ge 21, 3) := by decide +kernel
theorem dX8_init_873 : decode cX8_init 873 = .ok (.aload_n 0, 1) := by decide +kernel
theorem dX8_init_874 : decode cX8_init 874 = .ok (.getfield 38, 3) := by decide +kernel
theorem dX8_init_877 : decode cX8_init 877 = .ok (.iload_n 1, 1) := by decide +kernel
theorem dX8_init_878 : decode cX8_init 878 = .ok (.aload_n 0, 1) := by decide +kernel
theorem dX8_init_879 : decode cX8_init 879 = .ok (.getfield 29, 3) := by decide +kernel
theorem dX8_init_882 : decode cX8_init 882 = .ok (.iload_n 1, 1) := by decide +kernel
theorem dX8_init_883 : decode cX8_init 883 = .ok (.iaload, 1) := by decide +kernel
theorem dX8_init_884 : decode cX8_init 884 = .ok (.iastore, 1) := by decide +kernel
theorem dX8_init_885 : decode cX8_init 885 = .ok (.iinc 1 1, 3) := by decide +kernel
theorem dX8_init_888 : decode cX8_init 888 = .ok (.goto (-21), 3) := by decide +kernel
theorem dX8_init_891 : decode cX8_init 891 = .ok (.aload_n 0, 1) := by decide +kernel
theorem dX8_init_892 : decode cX8_init 892 = .ok (.bipush 56, 2) := by decide +kernel
theorem dX8_init_894 : decode cX8_init 894 = .ok (.putfield 80, 3) := by decide +kernel
theorem dX8_init_897 : decode cX8_init 897 = .ok (.aload_n 0, 1) := by decide +kernel
theorem dX8_init_898 : decode cX8_init 898 = .ok (.invokevirtual 83, 3) := by decide +kernel
theorem dX8_init_901 : decode cX8_init 901 = .ok (.pop, 1) := by decide +kernel
theorem dX8_init_902 : decode cX8_init 902 = .ok (.aload_n 0, 1) := by decide +kernel
theorem dX8_init_903 : decode cX8_init 903 = .ok (.iconst 1, 1) := by decide +kernel
theorem dX8_init_904 : decode cX8_init 904 = .ok (.putfield 87, 3) := by decide +kernel
theorem dX8_init_907 : decode cX8_init 907 = .ok (.aload_n 0, 1) := by decide +kernel
theorem dX8_init_908 : decode cX8_init 908 = .ok (.iconst 0, 1) := by decide +kernel
theorem dX8_init_909 : decode cX8_init 909 = .ok (.putfield 80, 3) := by decide +kernel
theorem dX8_init_912 : decode cX8_init 912 = .ok (.return_, 1) := by decide +kernel
theorem dX8_in_0 : decode cX8_in 0 = .ok (.lload_n 0, 1) := by decide +kernel
theorem dX8_in_1 : decode cX8_in 1 = .ok (.lload_n 2, 1) := by decide +kernel
theorem dX8_in_2 : decode cX8_in 2 = .ok (.lcmp, 1) := by decide +kernel
theorem dX8_in_3 : decode cX8_in 3 = .ok (.ifCond .lt 14, 3) := by decide +kernel
theorem dX8_in_6 : decode cX8_in 6 = .ok (.lload_n 0, 1) := by decide +kernel
theorem dX8_in_7 : decode cX8_in 7 = .ok (.lload 4, 2) := by decide +kernel
theorem dX8_in_9 : decode cX8_in 9 = .ok (.lcmp, 1) := by decide +kernel
theorem dX8_in_10 : decode cX8_in 10 = .ok (.ifCond .gt 7, 3) := by decide +kernel
theorem dX8_in_13 : decode cX8_in 13 = .ok (.iconst 1, 1) := by decide +kernel
theorem dX8_in_14 : decode cX8_in 14 = .ok (.goto 4, 3) := by decide +kernel
theorem dX8_in_17 : decode cX8_in 17 = .ok (.iconst 0, 1) := by decide +kernel
theorem dX8_in_18 : decode cX8_in 18 = .ok (.ireturn, 1) := by decide +kernel
theorem dX8_held_0 : decode cX8_held 0 = .ok (.iload_n 0, 1) := by decide +kernel
theorem dX8_held_1 : decode cX8_held 1 = .ok (.iload_n 1, 1) := by decide +kernel
theorem dX8_held_2 : decode cX8_held 2 = .ok (.if_icmp .ge 7, 3) := by decide +kernel
theorem dX8_held_5 : decode cX8_held 5 = .ok (.iload_n 1, 1) := by decide +kernel
theorem dX8_held_6 : decode cX8_held 6 = .ok (.goto 13, 3) := by decide +kernel
theorem dX8_held_9 : decode cX8_held 9 = .ok (.iload_n 0, 1) := by decide +kernel
theorem dX8_held_10 : decode cX8_held 10 = .ok (.iload_n 2, 1) := by decide +kernel
theorem dX8_held_11 : decode cX8_held 11 = .ok (.if_icmp .le 7, 3) := by decide +kernel
theorem dX8_held_14 : decode cX8_held 14 = .ok (.iload_n 2, 1) := by decide +kernel
theorem dX8_held_15 : decode cX8_held 15 = .ok (.goto 4, 3) := by decide +kernel
theorem dX8_held_18 : decode cX8_held 18 = .ok (.iload_n 0, 1) := by decide +kernel
theorem dX8_held_19 : decode cX8_held 19 = .ok (.ireturn, 1) := by decide +kernel
theorem dX8_isBlank_0 : decode cX8_isBlank 0 = .ok (.aload_n 0, 1) := by decide +kernel
theorem dX8_isBlank_1 : decode cX8_isBlank 1 = .ok (.getfield 38, 3) := by decide +kernel
theorem dX8_isBlank_4 : decode cX8_isBlank 4 = .ok (.iload_n 1, 1) := by decide +kernel
theorem dX8_isBlank_5 : decode cX8_isBlank 5 = .ok (.iaload, 1) := by decide +kernel
theorem dX8_isBlank_6 : decode cX8_isBlank 6 = .ok (.bipush 32, 2) := by decide +kernel
theorem dX8_isBlank_8 : decode cX8_isBlank 8 = .ok (.if_icmp .eq 14, 3) := by decide +kernel
theorem dX8_isBlank_11 : decode cX8_isBlank 11 = .ok (.aload_n 0, 1) := by decide +kernel
theorem dX8_isBlank_12 : decode cX8_isBlank 12 = .ok (.getfield 38, 3) := by decide +kernel
theorem dX8_isBlank_15 : decode cX8_isBlank 15 = .ok (.iload_n 1, 1) := by decide +kernel
theorem dX8_isBlank_16 : decode cX8_isBlank 16 = .ok (.iaload, 1) := by decide +kernel
theorem dX8_isBlank_17 : decode cX8_isBlank 17 = .ok (.bipush 10, 2) := by decide +kernel
theorem dX8_isBlank_19 : decode cX8_isBlank 19 = .ok (.if_icmp .ne 7, 3) := by decide +kernel
theorem dX8_isBlank_22 : decode cX8_isBlank 22 = .ok (.iconst 1, 1) := by decide +kernel
theorem dX8_isBlank_23 : decode cX8_isBlank 23 = .ok (.goto 4, 3) := by decide +kernel
theorem dX8_isBlank_26 : decode cX8_isBlank 26 = .ok (.iconst 0, 1) := by decide +kernel
theorem dX8_isBlank_27 : decode cX8_isBlank 27 = .ok (.ireturn, 1) := by decide +kernel
theorem dX8_isWord_0 : decode cX8_isWord 0 = .ok (.aload_n 0, 1) := by decide +kernel
theorem dX8_isWord_1 : decode cX8_isWord 1 = .ok (.getfield 35, 3) := by decide +kernel
theorem dX8_isWord_4 : decode cX8_isWord 4 = .ok (.iload_n 1, 1) := by decide +kernel
theorem dX8_isWord_5 : decode cX8_isWord 5 = .ok (.iconst 1, 1) := by decide +kernel
theorem dX8_isWord_6 : decode cX8_isWord 6 = .ok (.iadd, 1) := by decide +kernel
theorem dX8_isWord_7 : decode cX8_isWord 7 = .ok (.iaload, 1) := by decide +kernel
theorem dX8_isWord_8 : decode cX8_isWord 8 = .ok (.aload_n 0, 1) := by decide +kernel
theorem dX8_isWord_9 : decode cX8_isWord 9 = .ok (.getfield 35, 3) := by decide +kernel
theorem dX8_isWord_12 : decode cX8_isWord 12 = .ok (.iload_n 1, 1) := by decide +kernel
theorem dX8_isWord_13 : decode cX8_isWord 13 = .ok (.iaload, 1) := by decide +kernel
theorem dX8_isWord_14 : decode cX8_isWord 14 = .ok (.isub, 1) := by decide +kernel
theorem dX8_isWord_15 : decode cX8_isWord 15 = .ok (.istore 4, 2) := by decide +kernel
theorem dX8_isWord_17 : decode cX8_isWord 17 = .ok (.iload_n 3, 1) := by decide +kernel
theorem dX8_isWord_18 : decode cX8_isWord 18 = .ok (.iload_n 2, 1) := by decide +kernel
theorem dX8_isWord_19 : decode cX8_isWord 19 = .ok (.isub, 1) := by decide +kernel
theorem dX8_isWord_20 : decode cX8_isWord 20 = .ok (.iload 4, 2) := by decide +kernel
theorem dX8_isWord_22 : decode cX8_isWord 22 = .ok (.if_icmp .ne 7, 3) := by decide +kernel
theorem dX8_isWord_25 : decode cX8_isWord 25 = .ok (.iconst 1, 1) := by decide +kernel
theorem dX8_isWord_26 : decode cX8_isWord 26 = .ok (.goto 4, 3) := by decide +kernel
theorem dX8_isWord_29 : decode cX8_isWord 29 = .ok (.iconst 0, 1) := by decide +kernel
theorem dX8_isWord_30 : decode cX8_isWord 30 = .ok (.istore 5, 2) := by decide +kernel
theorem dX8_isWord_32 : decode cX8_isWord 32 = .ok (.iconst 0, 1) := by decide +kernel
theorem dX8_isWord_33 : decode cX8_isWord 33 = .ok (.istore 6, 2) := by decide +kernel
theorem dX8_isWord_35 : decode cX8_isWord 35 = .ok (.iload 6, 2) := by decide +kernel
theorem dX8_isWord_37 : decode cX8_isWord 37 = .ok (.iload 4, 2) := by decide +kernel
theorem dX8_isWord_39 : decode cX8_isWord 39 = .ok (.if_icmp .ge 47, 3) := by decide +kernel
theorem dX8_isWord_42 : decode cX8_isWord 42 = .ok (.iload 5, 2) := by decide +kernel
theorem dX8_isWord_44 : decode cX8_isWord 44 = .ok (.ifCond .eq 42, 3) := by decide +kernel
theorem dX8_isWord_47 : decode cX8_isWord 47 = .ok (.aload_n 0, 1) := by decide +kernel
theorem dX8_isWord_48 : decode cX8_isWord 48 = .ok (.getfield 38, 3) := by decide +kernel
theorem dX8_isWord_51 : decode cX8_isWord 51 = .ok (.iload_n 2, 1) := by decide +kernel
theorem dX8_isWord_52 : decode cX8_isWord 52 = .ok (.iload 6, 2) := by decide +kernel
theorem dX8_isWord_54 : decode cX8_isWord 54 = .ok (.iadd, 1) := by decide +kernel
theorem dX8_isWord_55 : decode cX8_isWord 55 = .ok (.iaload, 1) := by decide +kernel
theorem dX8_isWord_56 : decode cX8_isWord 56 = .ok (.aload_n 0, 1) := by decide +kernel
theorem dX8_isWord_57 : decode cX8_isWord 57 = .ok (.getfield 32, 3) := by decide +kernel
theorem dX8_isWord_60 : decode cX8_isWord 60 = .ok (.aload_n 0, 1) := by decide +kernel
theorem dX8_isWord_61 : decode cX8_isWord 61 = .ok (.getfield 35, 3) := by decide +kernel
theorem dX8_isWord_64 : decode cX8_isWord 64 = .ok (.iload_n 1, 1) := by decide +kernel
theorem dX8_isWord_65 : decode cX8_isWord 65 = .ok (.iaload, 1) := by decide +kernel
theorem dX8_isWord_66 : decode cX8_isWord 66 = .ok (.iload 6, 2) := by decide +kernel
theorem dX8_isWord_68 : decode cX8_isWord 68 = .ok (.iadd, 1) := by decide +kernel
theorem dX8_isWord_69 : decode cX8_isWord 69 = .ok (.iaload, 1) := by decide +kernel
theorem dX8_isWord_70 : decode cX8_isWord 70 = .ok (.if_icmp .ne 7, 3) := by decide +kernel
theorem dX8_isWord_73 : decode cX8_isWord 73 = .ok (.iconst 1, 1) := by decide +kernel
theorem dX8_isWord_74 : decode cX8_isWord 74 = .ok (.goto 4, 3) := by decide +kernel
theorem dX8_isWord_77 : decode cX8_isWord 77 = .ok (.iconst 0, 1) := by decide +kernel
theorem dX8_isWord_78 : decode cX8_isWord 78 = .ok (.istore 5, 2) := by decide +kernel
theorem dX8_isWord_80 : decode cX8_isWord 80 = .ok (.iinc 6 1, 3) := by decide +kernel
theorem dX8_isWord_83 : decode cX8_isWord 83 = .ok (.goto (-48), 3) := by decide +kernel
theorem dX8_isWord_86 : decode cX8_isWord 86 = .ok (.iload 5, 2) := by decide +kernel
theorem dX8_isWord_88 : decode cX8_isWord 88 = .ok (.ireturn, 1) := by decide +kernel
theorem dX8_readWord_0 : decode cX8_readWord 0 = .ok (.aload_n 0, 1) := by decide +kernel
theorem dX8_readWord_1 : decode cX8_readWord 1 = .ok (.getfield 90, 3) := by decide +kernel
theorem dX8_readWord_4 : decode cX8_readWord 4 = .ok (.aload_n 0, 1) := by decide +kernel
theorem dX8_readWord_5 : decode cX8_readWord 5 = .ok (.getfield 80, 3) := by decide +kernel
theorem dX8_readWord_8 : decode cX8_readWord 8 = .ok (.if_icmp .ge 38, 3) := by decide +kernel
theorem dX8_readWord_11 : decode cX8_readWord 11 = .ok (.aload_n 0, 1) := by decide +kernel
theorem dX8_readWord_12 : decode cX8_readWord 12 = .ok (.getfield 38, 3) := by decide +kernel
theorem dX8_readWord_15 : decode cX8_readWord 15 = .ok (.aload_n 0, 1) := by decide +kernel
theorem dX8_readWord_16 : decode cX8_readWord 16 = .ok (.getfield 90, 3) := by decide +kernel
theorem dX8_readWord_19 : decode cX8_readWord 19 = .ok (.iaload, 1) := by decide +kernel
theorem dX8_readWord_20 : decode cX8_readWord 20 = .ok (.i2l, 1) := by decide +kernel
theorem dX8_readWord_21 : decode cX8_readWord 21 = .ok (.ldc2_w 93, 3) := by decide +kernel
theorem dX8_readWord_24 : decode cX8_readWord 24 = .ok (.ldc2_w 95, 3) := by decide +kernel
theorem dX8_readWord_27 : decode cX8_readWord 27 = .ok (.invokestatic 97, 3) := by decide +kernel
theorem dX8_readWord_30 : decode cX8_readWord 30 = .ok (.ifCond .eq 16, 3) := by decide +kernel
theorem dX8_readWord_33 : decode cX8_readWord 33 = .ok (.aload_n 0, 1) := by decide +kernel
theorem dX8_readWord_34 : decode cX8_readWord 34 = .ok (.dup, 1) := by decide +kernel
theorem dX8_readWord_35 : decode cX8_readWord 35 = .ok (.getfield 90, 3) := by decide +kernel
theorem dX8_readWord_38 : decode cX8_readWord 38 = .ok (.iconst 1, 1) := by decide +kernel
theorem dX8_readWord_39 : decode cX8_readWord 39 = .ok (.iadd, 1) := by decide +kernel
theorem dX8_readWord_40 : decode cX8_readWord 40 = .ok (.putfield 90, 3) := by decide +kernel
theorem dX8_readWord_43 : decode cX8_readWord 43 = .ok (.goto (-43), 3) := by decide +kernel
theorem dX8_readWord_46 : decode cX8_readWord 46 = .ok (.aload_n 0, 1) := by decide +kernel
theorem dX8_readWord_47 : decode cX8_readWord 47 = .ok (.iconst 5, 1) := by decide +kernel
theorem dX8_readWord_48 : decode cX8_readWord 48 = .ok (.putfield 101, 3) := by decide +kernel
theorem dX8_readWord_51 : decode cX8_readWord 51 = .ok (.iconst 0, 1) := by decide +kernel
theorem dX8_readWord_52 : decode cX8_readWord 52 = .ok (.istore_n 1, 1) := by decide +kernel
theorem dX8_readWord_53 : decode cX8_readWord 53 = .ok (.iload_n 1, 1) := by decide +kernel
theorem dX8_readWord_54 : decode cX8_readWord 54 = .ok (.bipush 12, 2) := by decide +kernel
theorem dX8_readWord_56 : decode cX8_readWord 56 = .ok (.if_icmp .ge 45, 3) := by decide +kernel
theorem dX8_readWord_59 : decode cX8_readWord 59 = .ok (.aload_n 0, 1) := by decide +kernel
theorem dX8_readWord_60 : decode cX8_readWord 60 = .ok (.iload_n 1, 1) := by decide +kernel
theorem dX8_readWord_61 : decode cX8_readWord 61 = .ok (.aload_n 0, 1) := by decide +kernel
theorem dX8_readWord_62 : decode cX8_readWord 62 = .ok (.getfield 104, 3) := by decide +kernel
theorem dX8_readWord_65 : decode cX8_readWord 65 = .ok (.aload_n 0, 1) := by decide +kernel
theorem dX8_readWord_66 : decode cX8_readWord 66 = .ok (.getfield 90, 3) := by decide +kernel
theorem dX8_readWord_69 : decode cX8_readWord 69 = .ok (.invokevirtual 107, 3) := by decide +kernel
theorem dX8_readWord_72 : decode cX8_readWord 72 = .ok (.ifCond .eq 23, 3) := by decide +kernel
theorem dX8_readWord_75 : decode cX8_readWord 75 = .ok (.aload_n 0, 1) := by decide +kernel
theorem dX8_readWord_76 : decode cX8_readWord 76 = .ok (.iload_n 1, 1) := by decide +kernel
theorem dX8_readWord_77 : decode cX8_readWord 77 = .ok (.bipush 6, 2) := by decide +kernel
theorem dX8_readWord_79 : decode cX8_readWord 79 = .ok (.if_icmp .ge 7, 3) := by decide +kernel
theorem dX8_readWord_82 : decode cX8_readWord 82 = .ok (.iconst 2, 1) := by decide +kernel
theorem dX8_readWord_83 : decode cX8_readWord 83 = .ok (.goto 4, 3) := by decide +kernel
theorem dX8_readWord_86 : decode cX8_readWord 86 = .ok (.iconst 4, 1) := by decide +kernel
theorem dX8_readWord_87 : decode cX8_readWord 87 = .ok (.putfield 101, 3) := by decide +kernel
theorem dX8_readWord_90 : decode cX8_readWord 90 = .ok (.aload_n 0, 1) := by decide +kernel
theorem dX8_readWord_91 : decode cX8_readWord 91 = .ok (.iload_n 1, 1) := by decide +kernel
theorem dX8_readWord_92 : decode cX8_readWord 92 = .ok (.putfield 111, 3) := by decide +kernel
theorem dX8_readWord_95 : decode cX8_readWord 95 = .ok (.iinc 1 1, 3) := by decide +kernel
theorem dX8_readWord_98 : decode cX8_readWord 98 = .ok (.goto (-45), 3) := by decide +kernel
theorem dX8_readWord_101 : decode cX8_readWord 101 = .ok (.return_, 1) := by decide +kernel
theorem dX8_readNumber_0 : decode cX8_readNumber 0 = .ok (.aload_n 0, 1) := by decide +kernel
theorem dX8_readNumber_1 : decode cX8_readNumber 1 = .ok (.iconst 0, 1) := by decide +kernel
theorem dX8_readNumber_2 : decode cX8_readNumber 2 = .ok (.putfield 111, 3) := by decide +kernel
theorem dX8_readNumber_5 : decode cX8_readNumber 5 = .ok (.aload_n 0, 1) := by decide +kernel
theorem dX8_readNumber_6 : decode cX8_readNumber 6 = .ok (.getfield 90, 3) := by decide +kernel
theorem dX8_readNumber_9 : decode cX8_readNumber 9 = .ok (.aload_n 0, 1) := by decide +kernel
theorem dX8_readNumber_10 : decode cX8_readNumber 10 = .ok (.getfield 80, 3) := by decide +kernel
theorem dX8_readNumber_13 : decode cX8_readNumber 13 = .ok (.if_icmp .ge 79, 3) := by decide +kernel
theorem dX8_readNumber_16 : decode cX8_readNumber 16 = .ok (.aload_n 0, 1) := by decide +kernel
theorem dX8_readNumber_17 : decode cX8_readNumber 17 = .ok (.getfield 38, 3) := by decide +kernel
theorem dX8_readNumber_20 : decode cX8_readNumber 20 = .ok (.aload_n 0, 1) := by decide +kernel
theorem dX8_readNumber_21 : decode cX8_readNumber 21 = .ok (.getfield 90, 3) := by decide +kernel
theorem dX8_readNumber_24 : decode cX8_readNumber 24 = .ok (.iaload, 1) := by decide +kernel
theorem dX8_readNumber_25 : decode cX8_readNumber 25 = .ok (.i2l, 1) := by decide +kernel
theorem dX8_readNumber_26 : decode cX8_readNumber 26 = .ok (.ldc2_w 114, 3) := by decide +kernel
theorem dX8_readNumber_29 : decode cX8_readNumber 29 = .ok (.ldc2_w 116, 3) := by decide +kernel
theorem dX8_readNumber_32 : decode cX8_readNumber 32 = .ok (.invokestatic 97, 3) := by decide +kernel
theorem dX8_readNumber_35 : decode cX8_readNumber 35 = .ok (.ifCond .eq 57, 3) := by decide +kernel
theorem dX8_readNumber_38 : decode cX8_readNumber 38 = .ok (.aload_n 0, 1) := by decide +kernel
theorem dX8_readNumber_39 : decode cX8_readNumber 39 = .ok (.aload_n 0, 1) := by decide +kernel
theorem dX8_readNumber_40 : decode cX8_readNumber 40 = .ok (.getfield 111, 3) := by decide +kernel
theorem dX8_readNumber_43 : decode cX8_readNumber 43 = .ok (.sipush 9999, 3) := by decide +kernel
theorem dX8_readNumber_46 : decode cX8_readNumber 46 = .ok (.if_icmp .le 10, 3) := by decide +kernel
theorem dX8_readNumber_49 : decode cX8_readNumber 49 = .ok (.aload_n 0, 1) := by decide +kernel
theorem dX8_readNumber_50 : decode cX8_readNumber 50 = .ok (.getfield 111, 3) := by decide +kernel
theorem dX8_readNumber_53 : decode cX8_readNumber 53 = .ok (.goto 23, 3) := by decide +kernel
theorem dX8_readNumber_56 : decode cX8_readNumber 56 = .ok (.bipush 10, 2) := by decide +kernel
theorem dX8_readNumber_58 : decode cX8_readNumber 58 = .ok (.aload_n 0, 1) := by decide +kernel
theorem dX8_readNumber_59 : decode cX8_readNumber 59 = .ok (.getfield 111, 3) := by decide +kernel
theorem dX8_readNumber_62 : decode cX8_readNumber 62 = .ok (.imul, 1) := by decide +kernel
theorem dX8_readNumber_63 : decode cX8_readNumber 63 = .ok (.aload_n 0, 1) := by decide +kernel
theorem dX8_readNumber_64 : decode cX8_readNumber 64 = .ok (.getfield 38, 3) := by decide +kernel
theorem dX8_readNumber_67 : decode cX8_readNumber 67 = .ok (.aload_n 0, 1) := by decide +kernel
theorem dX8_readNumber_68 : decode cX8_readNumber 68 = .ok (.getfield 90, 3) := by decide +kernel
theorem dX8_readNumber_71 : decode cX8_readNumber 71 = .ok (.iaload, 1) := by decide +kernel
theorem dX8_readNumber_72 : decode cX8_readNumber 72 = .ok (.iadd, 1) := by decide +kernel
theorem dX8_readNumber_73 : decode cX8_readNumber 73 = .ok (.bipush 48, 2) := by decide +kernel
theorem dX8_readNumber_75 : decode cX8_readNumber 75 = .ok (.isub, 1) := by decide +kernel
theorem dX8_readNumber_76 : decode cX8_readNumber 76 = .ok (.putfield 111, 3) := by decide +kernel
theorem dX8_readNumber_79 : decode cX8_readNumber 79 = .ok (.aload_n 0, 1) := by decide +kernel
theorem dX8_readNumber_80 : decode cX8_readNumber 80 = .ok (.dup, 1) := by decide +kernel
theorem dX8_readNumber_81 : decode cX8_readNumber 81 = .ok (.getfield 90, 3) := by decide +kernel
theorem dX8_readNumber_84 : decode cX8_readNumber 84 = .ok (.iconst 1, 1) := by decide +kernel
theorem dX8_readNumber_85 : decode cX8_readNumber 85 = .ok (.iadd, 1) := by decide +kernel
theorem dX8_readNumber_86 : decode cX8_readNumber 86 = .ok (.putfield 90, 3) := by decide +kernel
theorem dX8_readNumber_89 : decode cX8_readNumber 89 = .ok (.goto (-84), 3) := by decide +kernel
theorem dX8_readNumber_92 : decode cX8_readNumber 92 = .ok (.aload_n 0, 1) := by decide +kernel
theorem dX8_readNumber_93 : decode cX8_readNumber 93 = .ok (.aload_n 0, 1) := by decide +kernel
theorem dX8_readNumber_94 : decode cX8_readNumber 94 = .ok (.getfield 90, 3) := by decide +kernel
theorem dX8_readNumber_97 : decode cX8_readNumber 97 = .ok (.aload_n 0, 1) := by decide +kernel
theorem dX8_readNumber_98 : decode cX8_readNumber 98 = .ok (.getfield 104, 3) := by decide +kernel
theorem dX8_readNumber_101 : decode cX8_readNumber 101 = .ok (.isub, 1) := by decide +kernel
theorem dX8_readNumber_102 : decode cX8_readNumber 102 = .ok (.iconst 4, 1) := by decide +kernel
theorem dX8_readNumber_103 : decode cX8_readNumber 103 = .ok (.if_icmp .le 7, 3) := by decide +kernel
theorem dX8_readNumber_106 : decode cX8_readNumber 106 = .ok (.iconst 5, 1) := by decide +kernel
theorem dX8_readNumber_107 : decode cX8_readNumber 107 = .ok (.goto 4, 3) := by decide +kernel
theorem dX8_readNumber_110 : decode cX8_readNumber 110 = .ok (.iconst 1, 1) := by decide +kernel
theorem dX8_readNumber_111 : decode cX8_readNumber 111 = .ok (.putfield 101, 3) := by decide +kernel
theorem dX8_readNumber_114 : decode cX8_readNumber 114 = .ok (.return_, 1) := by decide +kernel
theorem dX8_readToken_0 : decode cX8_readToken 0 = .ok (.aload_n 0, 1) := by decide +kernel
theorem dX8_readToken_1 : decode cX8_readToken 1 = .ok (.getfield 90, 3) := by decide +kernel
theorem dX8_readToken_4 : decode cX8_readToken 4 = .ok (.aload_n 0, 1) := by decide +kernel
theorem dX8_readToken_5 : decode cX8_readToken 5 = .ok (.getfield 80, 3) := by decide +kernel
theorem dX8_readToken_8 : decode cX8_readToken 8 = .ok (.if_icmp .ge 27, 3) := by decide +kernel
theorem dX8_readToken_11 : decode cX8_readToken 11 = .ok (.aload_n 0, 1) := by decide +kernel
theorem dX8_readToken_12 : decode cX8_readToken 12 = .ok (.aload_n 0, 1) := by decide +kernel
theorem dX8_readToken_13 : decode cX8_readToken 13 = .ok (.getfield 90, 3) := by decide +kernel
theorem dX8_readToken_16 : decode cX8_readToken 16 = .ok (.invokevirtual 118, 3) := by decide +kernel
theorem dX8_readToken_19 : decode cX8_readToken 19 = .ok (.ifCond .eq 16, 3) := by decide +kernel
theorem dX8_readToken_22 : decode cX8_readToken 22 = .ok (.aload_n 0, 1) := by decide +kernel
theorem dX8_readToken_23 : decode cX8_readToken 23 = .ok (.dup, 1) := by decide +kernel
theorem dX8_readToken_24 : decode cX8_readToken 24 = .ok (.getfield 90, 3) := by decide +kernel
theorem dX8_readToken_27 : decode cX8_readToken 27 = .ok (.iconst 1, 1) := by decide +kernel
theorem dX8_readToken_28 : decode cX8_readToken 28 = .ok (.iadd, 1) := by decide +kernel
theorem dX8_readToken_29 : decode cX8_readToken 29 = .ok (.putfield 90, 3) := by decide +kernel
theorem dX8_readToken_32 : decode cX8_readToken 32 = .ok (.goto (-32), 3) := by decide +kernel
theorem dX8_readToken_35 : decode cX8_readToken 35 = .ok (.aload_n 0, 1) := by decide +kernel
theorem dX8_readToken_36 : decode cX8_readToken 36 = .ok (.aload_n 0, 1) := by decide +kernel
theorem dX8_readToken_37 : decode cX8_readToken 37 = .ok (.getfield 90, 3) := by decide +kernel
theorem dX8_readToken_40 : decode cX8_readToken 40 = .ok (.putfield 104, 3) := by decide +kernel
theorem dX8_readToken_43 : decode cX8_readToken 43 = .ok (.aload_n 0, 1) := by decide +kernel
theorem dX8_readToken_44 : decode cX8_readToken 44 = .ok (.getfield 90, 3) := by decide +kernel
theorem dX8_readToken_47 : decode cX8_readToken 47 = .ok (.aload_n 0, 1) := by decide +kernel
theorem dX8_readToken_48 : decode cX8_readToken 48 = .ok (.getfield 80, 3) := by decide +kernel
theorem dX8_readToken_51 : decode cX8_readToken 51 = .ok (.if_icmp .ne 9, 3) := by decide +kernel
theorem dX8_readToken_54 : decode cX8_readToken 54 = .ok (.aload_n 0, 1) := by decide +kernel
theorem dX8_readToken_55 : decode cX8_readToken 55 = .ok (.iconst 0, 1) := by decide +kernel
theorem dX8_readToken_56 : decode cX8_readToken 56 = .ok (.putfield 101, 3) := by decide +kernel
theorem dX8_readToken_59 : decode cX8_readToken 59 = .ok (.return_, 1) := by decide +kernel
theorem dX8_readToken_60 : decode cX8_readToken 60 = .ok (.aload_n 0, 1) := by decide +kernel
theorem dX8_readToken_61 : decode cX8_readToken 61 = .ok (.getfield 38, 3) := by decide +kernel
theorem dX8_readToken_64 : decode cX8_readToken 64 = .ok (.aload_n 0, 1) := by decide +kernel
theorem dX8_readToken_65 : decode cX8_readToken 65 = .ok (.getfield 90, 3) := by decide +kernel
theorem dX8_readToken_68 : decode cX8_readToken 68 = .ok (.iaload, 1) := by decide +kernel
theorem dX8_readToken_69 : decode cX8_readToken 69 = .ok (.istore_n 1, 1) := by decide +kernel
theorem dX8_readToken_70 : decode cX8_readToken 70 = .ok (.iload_n 1, 1) := by decide +kernel
theorem dX8_readToken_71 : decode cX8_readToken 71 = .ok (.i2l, 1) := by decide +kernel
theorem dX8_readToken_72 : decode cX8_readToken 72 = .ok (.ldc2_w 93, 3) := by decide +kernel
theorem dX8_readToken_75 : decode cX8_readToken 75 = .ok (.ldc2_w 95, 3) := by decide +kernel
theorem dX8_readToken_78 : decode cX8_readToken 78 = .ok (.invokestatic 97, 3) := by decide +kernel
theorem dX8_readToken_81 : decode cX8_readToken 81 = .ok (.ifCond .eq 8, 3) := by decide +kernel
theorem dX8_readToken_84 : decode cX8_readToken 84 = .ok (.aload_n 0, 1) := by decide +kernel
theorem dX8_readToken_85 : decode cX8_readToken 85 = .ok (.invokevirtual 122, 3) := by decide +kernel
theorem dX8_readToken_88 : decode cX8_readToken 88 = .ok (.return_, 1) := by decide +kernel
theorem dX8_readToken_89 : decode cX8_readToken 89 = .ok (.iload_n 1, 1) := by decide +kernel
theorem dX8_readToken_90 : decode cX8_readToken 90 = .ok (.i2l, 1) := by decide +kernel
theorem dX8_readToken_91 : decode cX8_readToken 91 = .ok (.ldc2_w 114, 3) := by decide +kernel
theorem dX8_readToken_94 : decode cX8_readToken 94 = .ok (.ldc2_w 116, 3) := by decide +kernel
theorem dX8_readToken_97 : decode cX8_readToken 97 = .ok (.invokestatic 97, 3) := by decide +kernel
theorem dX8_readToken_100 : decode cX8_readToken 100 = .ok (.ifCond .eq 8, 3) := by decide +kernel
theorem dX8_readToken_103 : decode cX8_readToken 103 = .ok (.aload_n 0, 1) := by decide +kernel
theorem dX8_readToken_104 : decode cX8_readToken 104 = .ok (.invokevirtual 125, 3) := by decide +kernel
theorem dX8_readToken_107 : decode cX8_readToken 107 = .ok (.return_, 1) := by decide +kernel
theorem dX8_readToken_108 : decode cX8_readToken 108 = .ok (.aload_n 0, 1) := by decide +kernel
theorem dX8_readToken_109 : decode cX8_readToken 109 = .ok (.dup, 1) := by decide +kernel
theorem dX8_readToken_110 : decode cX8_readToken 110 = .ok (.getfield 90, 3) := by decide +kernel
theorem dX8_readToken_113 : decode cX8_readToken 113 = .ok (.iconst 1, 1) := by decide +kernel
theorem dX8_readToken_114 : decode cX8_readToken 114 = .ok (.iadd, 1) := by decide +kernel
theorem dX8_readToken_115 : decode cX8_readToken 115 = .ok (.putfield 90, 3) := by decide +kernel
theorem dX8_readToken_118 : decode cX8_readToken 118 = .ok (.iload_n 1, 1) := by decide +kernel
theorem dX8_readToken_119 : decode cX8_readToken 119 = .ok (.bipush 40, 2) := by decide +kernel
theorem dX8_readToken_121 : decode cX8_readToken 121 = .ok (.if_icmp .eq 45, 3) := by decide +kernel
theorem dX8_readToken_124 : decode cX8_readToken 124 = .ok (.iload_n 1, 1) := by decide +kernel
theorem dX8_readToken_125 : decode cX8_readToken 125 = .ok (.bipush 41, 2) := by decide +kernel
theorem dX8_readToken_127 : decode cX8_readToken 127 = .ok (.if_icmp .eq 39, 3) := by decide +kernel
theorem dX8_readToken_130 : decode cX8_readToken 130 = .ok (.iload_n 1, 1) := by decide +kernel
theorem dX8_readToken_131 : decode cX8_readToken 131 = .ok (.bipush 59, 2) := by decide +kernel
theorem dX8_readToken_133 : decode cX8_readToken 133 = .ok (.if_icmp .eq 33, 3) := by decide +kernel
theorem dX8_readToken_136 : decode cX8_readToken 136 = .ok (.iload_n 1, 1) := by decide +kernel
theorem dX8_readToken_137 : decode cX8_readToken 137 = .ok (.bipush 43, 2) := by decide +kernel
theorem dX8_readToken_139 : decode cX8_readToken 139 = .ok (.if_icmp .eq 27, 3) := by decide +kernel
theorem dX8_readToken_142 : decode cX8_readToken 142 = .ok (.iload_n 1, 1) := by decide +kernel
theorem dX8_readToken_143 : decode cX8_readToken 143 = .ok (.bipush 45, 2) := by decide +kernel
theorem dX8_readToken_145 : decode cX8_readToken 145 = .ok (.if_icmp .eq 21, 3) := by decide +kernel
theorem dX8_readToken_148 : decode cX8_readToken 148 = .ok (.iload_n 1, 1) := by decide +kernel
theorem dX8_readToken_149 : decode cX8_readToken 149 = .ok (.bipush 42, 2) := by decide +kernel
theorem dX8_readToken_151 : decode cX8_readToken 151 = .ok (.if_icmp .eq 15, 3) := by decide +kernel
theorem dX8_readToken_154 : decode cX8_readToken 154 = .ok (.iload_n 1, 1) := by decide +kernel
theorem dX8_readToken_155 : decode cX8_readToken 155 = .ok (.bipush 60, 2) := by decide +kernel
theorem dX8_readToken_157 : decode cX8_readToken 157 = .ok (.if_icmp .eq 9, 3) := by decide +kernel
theorem dX8_readToken_160 : decode cX8_readToken 160 = .ok (.iload_n 1, 1) := by decide +kernel
theorem dX8_readToken_161 : decode cX8_readToken 161 = .ok (.bipush 61, 2) := by decide +kernel
theorem dX8_readToken_163 : decode cX8_readToken 163 = .ok (.if_icmp .ne 7, 3) := by decide +kernel
theorem dX8_readToken_166 : decode cX8_readToken 166 = .ok (.iconst 1, 1) := by decide +kernel
theorem dX8_readToken_167 : decode cX8_readToken 167 = .ok (.goto 4, 3) := by decide +kernel
theorem dX8_readToken_170 : decode cX8_readToken 170 = .ok (.iconst 0, 1) := by decide +kernel
theorem dX8_readToken_171 : decode cX8_readToken 171 = .ok (.istore_n 2, 1) := by decide +kernel
theorem dX8_readToken_172 : decode cX8_readToken 172 = .ok (.aload_n 0, 1) := by decide +kernel
theorem dX8_readToken_173 : decode cX8_readToken 173 = .ok (.iload_n 2, 1) := by decide +kernel
theorem dX8_readToken_174 : decode cX8_readToken 174 = .ok (.ifCond .eq 7, 3) := by decide +kernel
theorem dX8_readToken_177 : decode cX8_readToken 177 = .ok (.iconst 3, 1) := by decide +kernel
theorem dX8_readToken_178 : decode cX8_readToken 178 = .ok (.goto 4, 3) := by decide +kernel
theorem dX8_readToken_181 : decode cX8_readToken 181 = .ok (.iconst 5, 1) := by decide +kernel
theorem dX8_readToken_182 : decode cX8_readToken 182 = .ok (.putfield 101, 3) := by decide +kernel
theorem dX8_readToken_185 : decode cX8_readToken 185 = .ok (.aload_n 0, 1) := by decide +kernel
theorem dX8_readToken_186 : decode cX8_readToken 186 = .ok (.iload_n 1, 1) := by decide +kernel
theorem dX8_readToken_187 : decode cX8_readToken 187 = .ok (.putfield 111, 3) := by decide +kernel
theorem dX8_readToken_190 : decode cX8_readToken 190 = .ok (.return_, 1) := by decide +kernel
theorem dX8_isSign_0 : decode cX8_isSign 0 = .ok (.aload_n 0, 1) := by decide +kernel
theorem dX8_isSign_1 : decode cX8_isSign 1 = .ok (.getfield 101, 3) := by decide +kernel
theorem dX8_isSign_4 : decode cX8_isSign 4 = .ok (.iconst 3, 1) := by decide +kernel
theorem dX8_isSign_5 : decode cX8_isSign 5 = .ok (.if_icmp .ne 15, 3) := by decide +kernel
theorem dX8_isSign_8 : decode cX8_isSign 8 = .ok (.aload_n 0, 1) := by decide +kernel
theorem dX8_isSign_9 : decode cX8_isSign 9 = .ok (.getfield 111, 3) := by decide +kernel
theorem dX8_isSign_12 : decode cX8_isSign 12 = .ok (.iload_n 1, 1) := by decide +kernel
theorem dX8_isSign_13 : decode cX8_isSign 13 = .ok (.if_icmp .ne 7, 3) := by decide +kernel
theorem dX8_isSign_16 : decode cX8_isSign 16 = .ok (.iconst 1, 1) := by decide +kernel
theorem dX8_isSign_17 : decode cX8_isSign 17 = .ok (.goto 4, 3) := by decide +kernel
theorem dX8_isSign_20 : decode cX8_isSign 20 = .ok (.iconst 0, 1) := by decide +kernel
theorem dX8_isSign_21 : decode cX8_isSign 21 = .ok (.ireturn, 1) := by decide +kernel
theorem dX8_isKey_0 : decode cX8_isKey 0 = .ok (.aload_n 0, 1) := by decide +kernel
theorem dX8_isKey_1 : decode cX8_isKey 1 = .ok (.getfield 101, 3) := by decide +kernel
theorem dX8_isKey_4 : decode cX8_isKey 4 = .ok (.iconst 4, 1) := by decide +kernel
theorem dX8_isKey_5 : decode cX8_isKey 5 = .ok (.if_icmp .ne 15, 3) := by decide +kernel
theorem dX8_isKey_8 : decode cX8_isKey 8 = .ok (.aload_n 0, 1) := by decide +kernel
theorem dX8_isKey_9 : decode cX8_isKey 9 = .ok (.getfield 111, 3) := by decide +kernel
theorem dX8_isKey_12 : decode cX8_isKey 12 = .ok (.iload_n 1, 1) := by decide +kernel
theorem dX8_isKey_13 : decode cX8_isKey 13 = .ok (.if_icmp .ne 7, 3) := by decide +kernel
theorem dX8_isKey_16 : decode cX8_isKey 16 = .ok (.iconst 1, 1) := by decide +kernel
theorem dX8_isKey_17 : decode cX8_isKey 17 = .ok (.goto 4, 3) := by decide +kernel
theorem dX8_isKey_20 : decode cX8_isKey 20 = .ok (.iconst 0, 1) := by decide +kernel
theorem dX8_isKey_21 : decode cX8_isKey 21 = .ok (.ireturn, 1) := by decide +kernel
theorem dX8_step_0 : decode cX8_step 0 = .ok (.aload_n 0, 1) := by decide +kernel
theorem dX8_step_1 : decode cX8_step 1 = .ok (.getfield 41, 3) := by decide +kernel
theorem dX8_step_4 : decode cX8_step 4 = .ok (.sipush 160, 3) := by decide +kernel
theorem dX8_step_7 : decode cX8_step 7 = .ok (.aload_n 0, 1) := by decide +kernel
theorem dX8_step_8 : decode cX8_step 8 = .ok (.getfield 87, 3) := by decide +kernel
theorem dX8_step_11 : decode cX8_step 11 = .ok (.imul, 1) := by decide +kernel
theorem dX8_step_12 : decode cX8_step 12 = .ok (.aload_n 0, 1) := by decide +kernel
theorem dX8_step_13 : decode cX8_step 13 = .ok (.getfield 128, 3) := by decide +kernel
theorem dX8_step_16 : decode cX8_step 16 = .ok (.iadd, 1) := by decide +kernel
theorem dX8_step_17 : decode cX8_step 17 = .ok (.iload_n 1, 1) := by decide +kernel
theorem dX8_step_18 : decode cX8_step 18 = .ok (.iastore, 1) := by decide +kernel
theorem dX8_step_19 : decode cX8_step 19 = .ok (.aload_n 0, 1) := by decide +kernel
theorem dX8_step_20 : decode cX8_step 20 = .ok (.dup, 1) := by decide +kernel
theorem dX8_step_21 : decode cX8_step 21 = .ok (.getfield 128, 3) := by decide +kernel
theorem dX8_step_24 : decode cX8_step 24 = .ok (.iconst 1, 1) := by decide +kernel
theorem dX8_step_25 : decode cX8_step 25 = .ok (.iadd, 1) := by decide +kernel
theorem dX8_step_26 : decode cX8_step 26 = .ok (.putfield 128, 3) := by decide +kernel
theorem dX8_step_29 : decode cX8_step 29 = .ok (.return_, 1) := by decide +kernel
theorem dX8_rank_0 : decode cX8_rank 0 = .ok (.iload_n 0, 1) := by decide +kernel
theorem dX8_rank_1 : decode cX8_rank 1 = .ok (.bipush 10, 2) := by decide +kernel
theorem dX8_rank_3 : decode cX8_rank 3 = .ok (.if_icmp .ne 7, 3) := by decide +kernel
theorem dX8_rank_6 : decode cX8_rank 6 = .ok (.iconst 1, 1) := by decide +kernel
theorem dX8_rank_7 : decode cX8_rank 7 = .ok (.goto 66, 3) := by decide +kernel
theorem dX8_rank_10 : decode cX8_rank 10 = .ok (.iload_n 0, 1) := by decide +kernel
theorem dX8_rank_11 : decode cX8_rank 11 = .ok (.bipush 11, 2) := by decide +kernel
theorem dX8_rank_13 : decode cX8_rank 13 = .ok (.if_icmp .ne 7, 3) := by decide +kernel
theorem dX8_rank_16 : decode cX8_rank 16 = .ok (.iconst 2, 1) := by decide +kernel
theorem dX8_rank_17 : decode cX8_rank 17 = .ok (.goto 56, 3) := by decide +kernel
theorem dX8_rank_20 : decode cX8_rank 20 = .ok (.iload_n 0, 1) := by decide +kernel
theorem dX8_rank_21 : decode cX8_rank 21 = .ok (.bipush 12, 2) := by decide +kernel
theorem dX8_rank_23 : decode cX8_rank 23 = .ok (.if_icmp .ne 7, 3) := by decide +kernel
theorem dX8_rank_26 : decode cX8_rank 26 = .ok (.iconst 3, 1) := by decide +kernel
theorem dX8_rank_27 : decode cX8_rank 27 = .ok (.goto 46, 3) := by decide +kernel
theorem dX8_rank_30 : decode cX8_rank 30 = .ok (.iload_n 0, 1) := by decide +kernel
theorem dX8_rank_31 : decode cX8_rank 31 = .ok (.bipush 15, 2) := by decide +kernel
theorem dX8_rank_33 : decode cX8_rank 33 = .ok (.if_icmp .ge 7, 3) := by decide +kernel
theorem dX8_rank_36 : decode cX8_rank 36 = .ok (.iconst 4, 1) := by decide +kernel
theorem dX8_rank_37 : decode cX8_rank 37 = .ok (.goto 36, 3) := by decide +kernel
theorem dX8_rank_40 : decode cX8_rank 40 = .ok (.iload_n 0, 1) := by decide +kernel
theorem dX8_rank_41 : decode cX8_rank 41 = .ok (.bipush 17, 2) := by decide +kernel
theorem dX8_rank_43 : decode cX8_rank 43 = .ok (.if_icmp .ge 7, 3) := by decide +kernel
theorem dX8_rank_46 : decode cX8_rank 46 = .ok (.iconst 5, 1) := by decide +kernel
theorem dX8_rank_47 : decode cX8_rank 47 = .ok (.goto 26, 3) := by decide +kernel
theorem dX8_rank_50 : decode cX8_rank 50 = .ok (.iload_n 0, 1) := by decide +kernel
theorem dX8_rank_51 : decode cX8_rank 51 = .ok (.bipush 17, 2) := by decide +kernel
theorem dX8_rank_53 : decode cX8_rank 53 = .ok (.if_icmp .ne 8, 3) := by decide +kernel
theorem dX8_rank_56 : decode cX8_rank 56 = .ok (.bipush 6, 2) := by decide +kernel
theorem dX8_rank_58 : decode cX8_rank 58 = .ok (.goto 15, 3) := by decide +kernel
theorem dX8_rank_61 : decode cX8_rank 61 = .ok (.iload_n 0, 1) := by decide +kernel
theorem dX8_rank_62 : decode cX8_rank 62 = .ok (.bipush 18, 2) := by decide +kernel
theorem dX8_rank_64 : decode cX8_rank 64 = .ok (.if_icmp .ne 8, 3) := by decide +kernel
theorem dX8_rank_67 : decode cX8_rank 67 = .ok (.bipush 7, 2) := by decide +kernel
theorem dX8_rank_69 : decode cX8_rank 69 = .ok (.goto 4, 3) := by decide +kernel
theorem dX8_rank_72 : decode cX8_rank 72 = .ok (.iconst 0, 1) := by decide +kernel
theorem dX8_rank_73 : decode cX8_rank 73 = .ok (.ireturn, 1) := by decide +kernel
theorem dX8_letGo_0 : decode cX8_letGo 0 = .ok (.aload_n 0, 1) := by decide +kernel
theorem dX8_letGo_1 : decode cX8_letGo 1 = .ok (.getfield 131, 3) := by decide +kernel
theorem dX8_letGo_4 : decode cX8_letGo 4 = .ok (.ifCond .le 47, 3) := by decide +kernel
theorem dX8_letGo_7 : decode cX8_letGo 7 = .ok (.aload_n 0, 1) := by decide +kernel
theorem dX8_letGo_8 : decode cX8_letGo 8 = .ok (.getfield 47, 3) := by decide +kernel
theorem dX8_letGo_11 : decode cX8_letGo 11 = .ok (.aload_n 0, 1) := by decide +kernel
theorem dX8_letGo_12 : decode cX8_letGo 12 = .ok (.getfield 131, 3) := by decide +kernel
theorem dX8_letGo_15 : decode cX8_letGo 15 = .ok (.iconst 1, 1) := by decide +kernel
theorem dX8_letGo_16 : decode cX8_letGo 16 = .ok (.isub, 1) := by decide +kernel
theorem dX8_letGo_17 : decode cX8_letGo 17 = .ok (.iaload, 1) := by decide +kernel
theorem dX8_letGo_18 : decode cX8_letGo 18 = .ok (.invokestatic 134, 3) := by decide +kernel
theorem dX8_letGo_21 : decode cX8_letGo 21 = .ok (.iload_n 1, 1) := by decide +kernel
theorem dX8_letGo_22 : decode cX8_letGo 22 = .ok (.if_icmp .lt 29, 3) := by decide +kernel
theorem dX8_letGo_25 : decode cX8_letGo 25 = .ok (.aload_n 0, 1) := by decide +kernel
theorem dX8_letGo_26 : decode cX8_letGo 26 = .ok (.dup, 1) := by decide +kernel
theorem dX8_letGo_27 : decode cX8_letGo 27 = .ok (.getfield 131, 3) := by decide +kernel
theorem dX8_letGo_30 : decode cX8_letGo 30 = .ok (.iconst 1, 1) := by decide +kernel
theorem dX8_letGo_31 : decode cX8_letGo 31 = .ok (.isub, 1) := by decide +kernel
theorem dX8_letGo_32 : decode cX8_letGo 32 = .ok (.putfield 131, 3) := by decide +kernel
theorem dX8_letGo_35 : decode cX8_letGo 35 = .ok (.aload_n 0, 1) := by decide +kernel
theorem dX8_letGo_36 : decode cX8_letGo 36 = .ok (.aload_n 0, 1) := by decide +kernel
theorem dX8_letGo_37 : decode cX8_letGo 37 = .ok (.getfield 47, 3) := by decide +kernel
theorem dX8_letGo_40 : decode cX8_letGo 40 = .ok (.aload_n 0, 1) := by decide +kernel
theorem dX8_letGo_41 : decode cX8_letGo 41 = .ok (.getfield 131, 3) := by decide +kernel
theorem dX8_letGo_44 : decode cX8_letGo 44 = .ok (.iaload, 1) := by decide +kernel
theorem dX8_letGo_45 : decode cX8_letGo 45 = .ok (.invokevirtual 138, 3) := by decide +kernel
theorem dX8_letGo_48 : decode cX8_letGo 48 = .ok (.goto (-48), 3) := by decide +kernel
theorem dX8_letGo_51 : decode cX8_letGo 51 = .ok (.return_, 1) := by decide +kernel
theorem dX8_opened_0 : decode cX8_opened 0 = .ok (.iconst 0, 1) := by decide +kernel
theorem dX8_opened_1 : decode cX8_opened 1 = .ok (.istore_n 1, 1) := by decide +kernel
theorem dX8_opened_2 : decode cX8_opened 2 = .ok (.iconst 0, 1) := by decide +kernel
theorem dX8_opened_3 : decode cX8_opened 3 = .ok (.istore_n 2, 1) := by decide +kernel
theorem dX8_opened_4 : decode cX8_opened 4 = .ok (.iload_n 2, 1) := by decide +kernel
theorem dX8_opened_5 : decode cX8_opened 5 = .ok (.aload_n 0, 1) := by decide +kernel
theorem dX8_opened_6 : decode cX8_opened 6 = .ok (.getfield 131, 3) := by decide +kernel
theorem dX8_opened_9 : decode cX8_opened 9 = .ok (.if_icmp .ge 50, 3) := by decide +kernel
theorem dX8_opened_12 : decode cX8_opened 12 = .ok (.iload_n 1, 1) := by decide +kernel
theorem dX8_opened_13 : decode cX8_opened 13 = .ok (.aload_n 0, 1) := by decide +kernel
theorem dX8_opened_14 : decode cX8_opened 14 = .ok (.getfield 47, 3) := by decide +kernel
theorem dX8_opened_17 : decode cX8_opened 17 = .ok (.iload_n 2, 1) := by decide +kernel
theorem dX8_opened_18 : decode cX8_opened 18 = .ok (.iaload, 1) := by decide +kernel
theorem dX8_opened_19 : decode cX8_opened 19 = .ok (.bipush 12, 2) := by decide +kernel
theorem dX8_opened_21 : decode cX8_opened 21 = .ok (.if_icmp .eq 25, 3) := by decide +kernel
theorem dX8_opened_24 : decode cX8_opened 24 = .ok (.aload_n 0, 1) := by decide +kernel
theorem dX8_opened_25 : decode cX8_opened 25 = .ok (.getfield 47, 3) := by decide +kernel
theorem dX8_opened_28 : decode cX8_opened 28 = .ok (.iload_n 2, 1) := by decide +kernel
theorem dX8_opened_29 : decode cX8_opened 29 = .ok (.iaload, 1) := by decide +kernel
theorem dX8_opened_30 : decode cX8_opened 30 = .ok (.bipush 18, 2) := by decide +kernel
theorem dX8_opened_32 : decode cX8_opened 32 = .ok (.if_icmp .eq 14, 3) := by decide +kernel
theorem dX8_opened_35 : decode cX8_opened 35 = .ok (.aload_n 0, 1) := by decide +kernel
theorem dX8_opened_36 : decode cX8_opened 36 = .ok (.getfield 47, 3) := by decide +kernel
theorem dX8_opened_39 : decode cX8_opened 39 = .ok (.iload_n 2, 1) := by decide +kernel
theorem dX8_opened_40 : decode cX8_opened 40 = .ok (.iaload, 1) := by decide +kernel
theorem dX8_opened_41 : decode cX8_opened 41 = .ok (.bipush 19, 2) := by decide +kernel
theorem dX8_opened_43 : decode cX8_opened 43 = .ok (.if_icmp .ne 7, 3) := by decide +kernel
theorem dX8_opened_46 : decode cX8_opened 46 = .ok (.iconst 1, 1) := by decide +kernel
theorem dX8_opened_47 : decode cX8_opened 47 = .ok (.goto 4, 3) := by decide +kernel
theorem dX8_opened_50 : decode cX8_opened 50 = .ok (.iconst 0, 1) := by decide +kernel
theorem dX8_opened_51 : decode cX8_opened 51 = .ok (.iadd, 1) := by decide +kernel
theorem dX8_opened_52 : decode cX8_opened 52 = .ok (.istore_n 1, 1) := by decide +kernel
theorem dX8_opened_53 : decode cX8_opened 53 = .ok (.iinc 2 1, 3) := by decide +kernel
theorem dX8_opened_56 : decode cX8_opened 56 = .ok (.goto (-52), 3) := by decide +kernel
theorem dX8_opened_59 : decode cX8_opened 59 = .ok (.iload_n 1, 1) := by decide +kernel
theorem dX8_opened_60 : decode cX8_opened 60 = .ok (.ireturn, 1) := by decide +kernel
theorem dX8_isBracketed_0 : decode cX8_isBracketed 0 = .ok (.iconst 0, 1) := by decide +kernel
theorem dX8_isBracketed_1 : decode cX8_isBracketed 1 = .ok (.istore_n 1, 1) := by decide +kernel
theorem dX8_isBracketed_2 : decode cX8_isBracketed 2 = .ok (.iconst 0, 1) := by decide +kernel
theorem dX8_isBracketed_3 : decode cX8_isBracketed 3 = .ok (.istore_n 2, 1) := by decide +kernel
theorem dX8_isBracketed_4 : decode cX8_isBracketed 4 = .ok (.iload_n 2, 1) := by decide +kernel
theorem dX8_isBracketed_5 : decode cX8_isBracketed 5 = .ok (.aload_n 0, 1) := by decide +kernel
theorem dX8_isBracketed_6 : decode cX8_isBracketed 6 = .ok (.getfield 131, 3) := by decide +kernel
theorem dX8_isBracketed_9 : decode cX8_isBracketed 9 = .ok (.if_icmp .ge 30, 3) := by decide +kernel
theorem dX8_isBracketed_12 : decode cX8_isBracketed 12 = .ok (.iload_n 1, 1) := by decide +kernel
theorem dX8_isBracketed_13 : decode cX8_isBracketed 13 = .ok (.ifCond .ne 14, 3) := by decide +kernel
theorem dX8_isBracketed_16 : decode cX8_isBracketed 16 = .ok (.aload_n 0, 1) := by decide +kernel
theorem dX8_isBracketed_17 : decode cX8_isBracketed 17 = .ok (.getfield 47, 3) := by decide +kernel
theorem dX8_isBracketed_20 : decode cX8_isBracketed 20 = .ok (.iload_n 2, 1) := by decide +kernel
theorem dX8_isBracketed_21 : decode cX8_isBracketed 21 = .ok (.iaload, 1) := by decide +kernel
theorem dX8_isBracketed_22 : decode cX8_isBracketed 22 = .ok (.bipush 19, 2) := by decide +kernel
theorem dX8_isBracketed_24 : decode cX8_isBracketed 24 = .ok (.if_icmp .ne 7, 3) := by decide +kernel
theorem dX8_isBracketed_27 : decode cX8_isBracketed 27 = .ok (.iconst 1, 1) := by decide +kernel
theorem dX8_isBracketed_28 : decode cX8_isBracketed 28 = .ok (.goto 4, 3) := by decide +kernel
theorem dX8_isBracketed_31 : decode cX8_isBracketed 31 = .ok (.iconst 0, 1) := by decide +kernel
theorem dX8_isBracketed_32 : decode cX8_isBracketed 32 = .ok (.istore_n 1, 1) := by decide +kernel
theorem dX8_isBracketed_33 : decode cX8_isBracketed 33 = .ok (.iinc 2 1, 3) := by decide +kernel
theorem dX8_isBracketed_36 : decode cX8_isBracketed 36 = .ok (.goto (-32), 3) := by decide +kernel
theorem dX8_isBracketed_39 : decode cX8_isBracketed 39 = .ok (.iload_n 1, 1) := by decide +kernel
theorem dX8_isBracketed_40 : decode cX8_isBracketed 40 = .ok (.ireturn, 1) := by decide +kernel
theorem dX8_hasCompared_0 : decode cX8_hasCompared 0 = .ok (.iconst 0, 1) := by decide +kernel
theorem dX8_hasCompared_1 : decode cX8_hasCompared 1 = .ok (.istore_n 1, 1) := by decide +kernel
theorem dX8_hasCompared_2 : decode cX8_hasCompared 2 = .ok (.iconst 1, 1) := by decide +kernel
theorem dX8_hasCompared_3 : decode cX8_hasCompared 3 = .ok (.istore_n 2, 1) := by decide +kernel
theorem dX8_hasCompared_4 : decode cX8_hasCompared 4 = .ok (.aload_n 0, 1) := by decide +kernel
theorem dX8_hasCompared_5 : decode cX8_hasCompared 5 = .ok (.getfield 131, 3) := by decide +kernel
theorem dX8_hasCompared_8 : decode cX8_hasCompared 8 = .ok (.iconst 1, 1) := by decide +kernel
theorem dX8_hasCompared_9 : decode cX8_hasCompared 9 = .ok (.isub, 1) := by decide +kernel
theorem dX8_hasCompared_10 : decode cX8_hasCompared 10 = .ok (.istore_n 3, 1) := by decide +kernel
theorem dX8_hasCompared_11 : decode cX8_hasCompared 11 = .ok (.iload_n 3, 1) := by decide +kernel
theorem dX8_hasCompared_12 : decode cX8_hasCompared 12 = .ok (.ifCond .lt 79, 3) := by decide +kernel
theorem dX8_hasCompared_15 : decode cX8_hasCompared 15 = .ok (.iload_n 2, 1) := by decide +kernel
theorem dX8_hasCompared_16 : decode cX8_hasCompared 16 = .ok (.ifCond .eq 75, 3) := by decide +kernel
theorem dX8_hasCompared_19 : decode cX8_hasCompared 19 = .ok (.aload_n 0, 1) := by decide +kernel
theorem dX8_hasCompared_20 : decode cX8_hasCompared 20 = .ok (.getfield 47, 3) := by decide +kernel
theorem dX8_hasCompared_23 : decode cX8_hasCompared 23 = .ok (.iload_n 3, 1) := by decide +kernel
theorem dX8_hasCompared_24 : decode cX8_hasCompared 24 = .ok (.iaload, 1) := by decide +kernel
theorem dX8_hasCompared_25 : decode cX8_hasCompared 25 = .ok (.istore 4, 2) := by decide +kernel
theorem dX8_hasCompared_27 : decode cX8_hasCompared 27 = .ok (.iload_n 1, 1) := by decide +kernel
theorem dX8_hasCompared_28 : decode cX8_hasCompared 28 = .ok (.ifCond .ne 17, 3) := by decide +kernel
theorem dX8_hasCompared_31 : decode cX8_hasCompared 31 = .ok (.iload 4, 2) := by decide +kernel
theorem dX8_hasCompared_33 : decode cX8_hasCompared 33 = .ok (.bipush 13, 2) := by decide +kernel
theorem dX8_hasCompared_35 : decode cX8_hasCompared 35 = .ok (.if_icmp .eq 10, 3) := by decide +kernel
theorem dX8_hasCompared_38 : decode cX8_hasCompared 38 = .ok (.iload 4, 2) := by decide +kernel
theorem dX8_hasCompared_40 : decode cX8_hasCompared 40 = .ok (.bipush 14, 2) := by decide +kernel
theorem dX8_hasCompared_42 : decode cX8_hasCompared 42 = .ok (.if_icmp .ne 7, 3) := by decide +kernel
theorem dX8_hasCompared_45 : decode cX8_hasCompared 45 = .ok (.iconst 1, 1) := by decide +kernel
theorem dX8_hasCompared_46 : decode cX8_hasCompared 46 = .ok (.goto 4, 3) := by decide +kernel
theorem dX8_hasCompared_49 : decode cX8_hasCompared 49 = .ok (.iconst 0, 1) := by decide +kernel
theorem dX8_hasCompared_50 : decode cX8_hasCompared 50 = .ok (.istore_n 1, 1) := by decide +kernel
theorem dX8_hasCompared_51 : decode cX8_hasCompared 51 = .ok (.iload 4, 2) := by decide +kernel
theorem dX8_hasCompared_53 : decode cX8_hasCompared 53 = .ok (.bipush 19, 2) := by decide +kernel
theorem dX8_hasCompared_55 : decode cX8_hasCompared 55 = .ok (.if_icmp .eq 28, 3) := by decide +kernel
theorem dX8_hasCompared_58 : decode cX8_hasCompared 58 = .ok (.iload 4, 2) := by decide +kernel
theorem dX8_hasCompared_60 : decode cX8_hasCompared 60 = .ok (.bipush 10, 2) := by decide +kernel
theorem dX8_hasCompared_62 : decode cX8_hasCompared 62 = .ok (.if_icmp .eq 21, 3) := by decide +kernel
theorem dX8_hasCompared_65 : decode cX8_hasCompared 65 = .ok (.iload 4, 2) := by decide +kernel
theorem dX8_hasCompared_67 : decode cX8_hasCompared 67 = .ok (.bipush 11, 2) := by decide +kernel
theorem dX8_hasCompared_69 : decode cX8_hasCompared 69 = .ok (.if_icmp .eq 14, 3) := by decide +kernel
theorem dX8_hasCompared_72 : decode cX8_hasCompared 72 = .ok (.iload 4, 2) := by decide +kernel
theorem dX8_hasCompared_74 : decode cX8_hasCompared 74 = .ok (.bipush 12, 2) := by decide +kernel
theorem dX8_hasCompared_76 : decode cX8_hasCompared 76 = .ok (.if_icmp .eq 7, 3) := by decide +kernel
theorem dX8_hasCompared_79 : decode cX8_hasCompared 79 = .ok (.iconst 1, 1) := by decide +kernel
theorem dX8_hasCompared_80 : decode cX8_hasCompared 80 = .ok (.goto 4, 3) := by decide +kernel
theorem dX8_hasCompared_83 : decode cX8_hasCompared 83 = .ok (.iconst 0, 1) := by decide +kernel
theorem dX8_hasCompared_84 : decode cX8_hasCompared 84 = .ok (.istore_n 2, 1) := by decide +kernel
theorem dX8_hasCompared_85 : decode cX8_hasCompared 85 = .ok (.iinc 3 (-1), 3) := by decide +kernel
theorem dX8_hasCompared_88 : decode cX8_hasCompared 88 = .ok (.goto (-77), 3) := by decide +kernel
theorem dX8_hasCompared_91 : decode cX8_hasCompared 91 = .ok (.iload_n 1, 1) := by decide +kernel
theorem dX8_hasCompared_92 : decode cX8_hasCompared 92 = .ok (.ireturn, 1) := by decide +kernel
theorem dX8_await_0 : decode cX8_await 0 = .ok (.aload_n 0, 1) := by decide +kernel
theorem dX8_await_1 : decode cX8_await 1 = .ok (.getfield 47, 3) := by decide +kernel
theorem dX8_await_4 : decode cX8_await 4 = .ok (.aload_n 0, 1) := by decide +kernel
theorem dX8_await_5 : decode cX8_await 5 = .ok (.getfield 131, 3) := by decide +kernel
theorem dX8_await_8 : decode cX8_await 8 = .ok (.iload_n 1, 1) := by decide +kernel
theorem dX8_await_9 : decode cX8_await 9 = .ok (.iastore, 1) := by decide +kernel
theorem dX8_await_10 : decode cX8_await 10 = .ok (.aload_n 0, 1) := by decide +kernel
theorem dX8_await_11 : decode cX8_await 11 = .ok (.dup, 1) := by decide +kernel
theorem dX8_await_12 : decode cX8_await 12 = .ok (.getfield 131, 3) := by decide +kernel
theorem dX8_await_15 : decode cX8_await 15 = .ok (.iconst 1, 1) := by decide +kernel
theorem dX8_await_16 : decode cX8_await 16 = .ok (.iadd, 1) := by decide +kernel
theorem dX8_await_17 : decode cX8_await 17 = .ok (.putfield 131, 3) := by decide +kernel
theorem dX8_await_20 : decode cX8_await 20 = .ok (.return_, 1) := by decide +kernel
theorem dX8_begins_0 : decode cX8_begins 0 = .ok (.aload_n 0, 1) := by decide +kernel
theorem dX8_begins_1 : decode cX8_begins 1 = .ok (.getfield 101, 3) := by decide +kernel
theorem dX8_begins_4 : decode cX8_begins 4 = .ok (.iconst 1, 1) := by decide +kernel
theorem dX8_begins_5 : decode cX8_begins 5 = .ok (.if_icmp .eq 11, 3) := by decide +kernel
theorem dX8_begins_8 : decode cX8_begins 8 = .ok (.aload_n 0, 1) := by decide +kernel
theorem dX8_begins_9 : decode cX8_begins 9 = .ok (.getfield 101, 3) := by decide +kernel
theorem dX8_begins_12 : decode cX8_begins 12 = .ok (.iconst 2, 1) := by decide +kernel
theorem dX8_begins_13 : decode cX8_begins 13 = .ok (.if_icmp .ne 41, 3) := by decide +kernel
theorem dX8_begins_16 : decode cX8_begins 16 = .ok (.aload_n 0, 1) := by decide +kernel
theorem dX8_begins_17 : decode cX8_begins 17 = .ok (.aload_n 0, 1) := by decide +kernel
theorem dX8_begins_18 : decode cX8_begins 18 = .ok (.getfield 101, 3) := by decide +kernel
theorem dX8_begins_21 : decode cX8_begins 21 = .ok (.iconst 1, 1) := by decide +kernel
theorem dX8_begins_22 : decode cX8_begins 22 = .ok (.if_icmp .ne 12, 3) := by decide +kernel
theorem dX8_begins_25 : decode cX8_begins 25 = .ok (.iconst (-1), 1) := by decide +kernel
theorem dX8_begins_26 : decode cX8_begins 26 = .ok (.aload_n 0, 1) := by decide +kernel
theorem dX8_begins_27 : decode cX8_begins 27 = .ok (.getfield 111, 3) := by decide +kernel
theorem dX8_begins_30 : decode cX8_begins 30 = .ok (.isub, 1) := by decide +kernel
theorem dX8_begins_31 : decode cX8_begins 31 = .ok (.goto 7, 3) := by decide +kernel
theorem dX8_begins_34 : decode cX8_begins 34 = .ok (.aload_n 0, 1) := by decide +kernel
theorem dX8_begins_35 : decode cX8_begins 35 = .ok (.getfield 111, 3) := by decide +kernel
theorem dX8_begins_38 : decode cX8_begins 38 = .ok (.invokevirtual 138, 3) := by decide +kernel
theorem dX8_begins_41 : decode cX8_begins 41 = .ok (.aload_n 0, 1) := by decide +kernel
theorem dX8_begins_42 : decode cX8_begins 42 = .ok (.bipush 7, 2) := by decide +kernel
theorem dX8_begins_44 : decode cX8_begins 44 = .ok (.invokevirtual 142, 3) := by decide +kernel
theorem dX8_begins_47 : decode cX8_begins 47 = .ok (.aload_n 0, 1) := by decide +kernel
theorem dX8_begins_48 : decode cX8_begins 48 = .ok (.iconst 0, 1) := by decide +kernel
theorem dX8_begins_49 : decode cX8_begins 49 = .ok (.putfield 145, 3) := by decide +kernel
theorem dX8_begins_52 : decode cX8_begins 52 = .ok (.iconst 1, 1) := by decide +kernel
theorem dX8_begins_53 : decode cX8_begins 53 = .ok (.ireturn, 1) := by decide +kernel
theorem dX8_begins_54 : decode cX8_begins 54 = .ok (.aload_n 0, 1) := by decide +kernel
theorem dX8_begins_55 : decode cX8_begins 55 = .ok (.bipush 11, 2) := by decide +kernel
theorem dX8_begins_57 : decode cX8_begins 57 = .ok (.invokevirtual 149, 3) := by decide +kernel
theorem dX8_begins_60 : decode cX8_begins 60 = .ok (.ifCond .eq 14, 3) := by decide +kernel
theorem dX8_begins_63 : decode cX8_begins 63 = .ok (.aload_n 0, 1) := by decide +kernel
theorem dX8_begins_64 : decode cX8_begins 64 = .ok (.getfield 152, 3) := by decide +kernel
theorem dX8_begins_67 : decode cX8_begins 67 = .ok (.ifCond .eq 7, 3) := by decide +kernel
theorem dX8_begins_70 : decode cX8_begins 70 = .ok (.iconst 1, 1) := by decide +kernel
theorem dX8_begins_71 : decode cX8_begins 71 = .ok (.goto 4, 3) := by decide +kernel
theorem dX8_begins_74 : decode cX8_begins 74 = .ok (.iconst 0, 1) := by decide +kernel
theorem dX8_begins_75 : decode cX8_begins 75 = .ok (.istore_n 1, 1) := by decide +kernel
theorem dX8_begins_76 : decode cX8_begins 76 = .ok (.iload_n 1, 1) := by decide +kernel
theorem dX8_begins_77 : decode cX8_begins 77 = .ok (.ifCond .ne 21, 3) := by decide +kernel
theorem dX8_begins_80 : decode cX8_begins 80 = .ok (.aload_n 0, 1) := by decide +kernel
theorem dX8_begins_81 : decode cX8_begins 81 = .ok (.bipush 40, 2) := by decide +kernel
theorem dX8_begins_83 : decode cX8_begins 83 = .ok (.invokevirtual 155, 3) := by decide +kernel
theorem dX8_begins_86 : decode cX8_begins 86 = .ok (.ifCond .ne 12, 3) := by decide +kernel
theorem dX8_begins_89 : decode cX8_begins 89 = .ok (.aload_n 0, 1) := by decide +kernel
theorem dX8_begins_90 : decode cX8_begins 90 = .ok (.bipush 45, 2) := by decide +kernel
theorem dX8_begins_92 : decode cX8_begins 92 = .ok (.invokevirtual 155, 3) := by decide +kernel
theorem dX8_begins_95 : decode cX8_begins 95 = .ok (.ifCond .eq 11, 3) := by decide +kernel
theorem dX8_begins_98 : decode cX8_begins 98 = .ok (.aload_n 0, 1) := by decide +kernel
theorem dX8_begins_99 : decode cX8_begins 99 = .ok (.invokevirtual 158, 3) := by decide +kernel
theorem dX8_begins_102 : decode cX8_begins 102 = .ok (.iconst 5, 1) := by decide +kernel
theorem dX8_begins_103 : decode cX8_begins 103 = .ok (.if_icmp .ne 5, 3) := by decide +kernel
theorem dX8_begins_106 : decode cX8_begins 106 = .ok (.iconst 0, 1) := by decide +kernel
theorem dX8_begins_107 : decode cX8_begins 107 = .ok (.ireturn, 1) := by decide +kernel
theorem dX8_begins_108 : decode cX8_begins 108 = .ok (.aload_n 0, 1) := by decide +kernel
theorem dX8_begins_109 : decode cX8_begins 109 = .ok (.iload_n 1, 1) := by decide +kernel
theorem dX8_begins_110 : decode cX8_begins 110 = .ok (.ifCond .eq 8, 3) := by decide +kernel
theorem dX8_begins_113 : decode cX8_begins 113 = .ok (.bipush 12, 2) := by decide +kernel
theorem dX8_begins_115 : decode cX8_begins 115 = .ok (.goto 19, 3) := by decide +kernel
theorem dX8_begins_118 : decode cX8_begins 118 = .ok (.aload_n 0, 1) := by decide +kernel
theorem dX8_begins_119 : decode cX8_begins 119 = .ok (.bipush 40, 2) := by decide +kernel
theorem dX8_begins_121 : decode cX8_begins 121 = .ok (.invokevirtual 155, 3) := by decide +kernel
theorem dX8_begins_124 : decode cX8_begins 124 = .ok (.ifCond .eq 8, 3) := by decide +kernel
theorem dX8_begins_127 : decode cX8_begins 127 = .ok (.bipush 19, 2) := by decide +kernel
theorem dX8_begins_129 : decode cX8_begins 129 = .ok (.goto 5, 3) := by decide +kernel
theorem dX8_begins_132 : decode cX8_begins 132 = .ok (.bipush 18, 2) := by decide +kernel
theorem dX8_begins_134 : decode cX8_begins 134 = .ok (.invokevirtual 161, 3) := by decide +kernel
theorem dX8_begins_137 : decode cX8_begins 137 = .ok (.aload_n 0, 1) := by decide +kernel
theorem dX8_begins_138 : decode cX8_begins 138 = .ok (.iload_n 1, 1) := by decide +kernel
theorem dX8_begins_139 : decode cX8_begins 139 = .ok (.ifCond .ne 12, 3) := by decide +kernel
theorem dX8_begins_142 : decode cX8_begins 142 = .ok (.aload_n 0, 1) := by decide +kernel
theorem dX8_begins_143 : decode cX8_begins 143 = .ok (.bipush 40, 2) := by decide +kernel
theorem dX8_begins_145 : decode cX8_begins 145 = .ok (.invokevirtual 155, 3) := by decide +kernel
theorem dX8_begins_148 : decode cX8_begins 148 = .ok (.ifCond .eq 7, 3) := by decide +kernel
theorem dX8_begins_151 : decode cX8_begins 151 = .ok (.iconst 1, 1) := by decide +kernel
theorem dX8_begins_152 : decode cX8_begins 152 = .ok (.goto 4, 3) := by decide +kernel
theorem dX8_begins_155 : decode cX8_begins 155 = .ok (.iconst 0, 1) := by decide +kernel
theorem dX8_begins_156 : decode cX8_begins 156 = .ok (.putfield 152, 3) := by decide +kernel
theorem dX8_begins_159 : decode cX8_begins 159 = .ok (.iconst 1, 1) := by decide +kernel
theorem dX8_begins_160 : decode cX8_begins 160 = .ok (.ireturn, 1) := by decide +kernel
theorem dX8_goOn_0 : decode cX8_goOn 0 = .ok (.aload_n 0, 1) := by decide +kernel
theorem dX8_goOn_1 : decode cX8_goOn 1 = .ok (.iload_n 1, 1) := by decide +kernel
theorem dX8_goOn_2 : decode cX8_goOn 2 = .ok (.invokestatic 134, 3) := by decide +kernel
theorem dX8_goOn_5 : decode cX8_goOn 5 = .ok (.invokevirtual 142, 3) := by decide +kernel
theorem dX8_goOn_8 : decode cX8_goOn 8 = .ok (.aload_n 0, 1) := by decide +kernel
theorem dX8_goOn_9 : decode cX8_goOn 9 = .ok (.iload_n 1, 1) := by decide +kernel
theorem dX8_goOn_10 : decode cX8_goOn 10 = .ok (.invokevirtual 161, 3) := by decide +kernel
theorem dX8_goOn_13 : decode cX8_goOn 13 = .ok (.aload_n 0, 1) := by decide +kernel
theorem dX8_goOn_14 : decode cX8_goOn 14 = .ok (.iconst 1, 1) := by decide +kernel
theorem dX8_goOn_15 : decode cX8_goOn 15 = .ok (.putfield 145, 3) := by decide +kernel
theorem dX8_goOn_18 : decode cX8_goOn 18 = .ok (.aload_n 0, 1) := by decide +kernel
theorem dX8_goOn_19 : decode cX8_goOn 19 = .ok (.iload_n 1, 1) := by decide +kernel
theorem dX8_goOn_20 : decode cX8_goOn 20 = .ok (.bipush 12, 2) := by decide +kernel
theorem dX8_goOn_22 : decode cX8_goOn 22 = .ok (.if_icmp .ge 7, 3) := by decide +kernel
theorem dX8_goOn_25 : decode cX8_goOn 25 = .ok (.iconst 1, 1) := by decide +kernel
theorem dX8_goOn_26 : decode cX8_goOn 26 = .ok (.goto 4, 3) := by decide +kernel
theorem dX8_goOn_29 : decode cX8_goOn 29 = .ok (.iconst 0, 1) := by decide +kernel
theorem dX8_goOn_30 : decode cX8_goOn 30 = .ok (.putfield 152, 3) := by decide +kernel
theorem dX8_goOn_33 : decode cX8_goOn 33 = .ok (.return_, 1) := by decide +kernel
theorem dX8_follows_0 : decode cX8_follows 0 = .ok (.aload_n 0, 1) := by decide +kernel
theorem dX8_follows_1 : decode cX8_follows 1 = .ok (.bipush 9, 2) := by decide +kernel
theorem dX8_follows_3 : decode cX8_follows 3 = .ok (.invokevirtual 149, 3) := by decide +kernel
theorem dX8_follows_6 : decode cX8_follows 6 = .ok (.ifCond .ne 12, 3) := by decide +kernel
theorem dX8_follows_9 : decode cX8_follows 9 = .ok (.aload_n 0, 1) := by decide +kernel
theorem dX8_follows_10 : decode cX8_follows 10 = .ok (.bipush 10, 2) := by decide +kernel
theorem dX8_follows_12 : decode cX8_follows 12 = .ok (.invokevirtual 149, 3) := by decide +kernel
theorem dX8_follows_15 : decode cX8_follows 15 = .ok (.ifCond .eq 25, 3) := by decide +kernel
theorem dX8_follows_18 : decode cX8_follows 18 = .ok (.aload_n 0, 1) := by decide +kernel
theorem dX8_follows_19 : decode cX8_follows 19 = .ok (.aload_n 0, 1) := by decide +kernel
theorem dX8_follows_20 : decode cX8_follows 20 = .ok (.bipush 9, 2) := by decide +kernel
theorem dX8_follows_22 : decode cX8_follows 22 = .ok (.invokevirtual 149, 3) := by decide +kernel
theorem dX8_follows_25 : decode cX8_follows 25 = .ok (.ifCond .eq 8, 3) := by decide +kernel
theorem dX8_follows_28 : decode cX8_follows 28 = .ok (.bipush 10, 2) := by decide +kernel
theorem dX8_follows_30 : decode cX8_follows 30 = .ok (.goto 5, 3) := by decide +kernel
theorem dX8_follows_33 : decode cX8_follows 33 = .ok (.bipush 11, 2) := by decide +kernel
theorem dX8_follows_35 : decode cX8_follows 35 = .ok (.invokevirtual 164, 3) := by decide +kernel
theorem dX8_follows_38 : decode cX8_follows 38 = .ok (.iconst 1, 1) := by decide +kernel
theorem dX8_follows_39 : decode cX8_follows 39 = .ok (.ireturn, 1) := by decide +kernel
theorem dX8_follows_40 : decode cX8_follows 40 = .ok (.aload_n 0, 1) := by decide +kernel
theorem dX8_follows_41 : decode cX8_follows 41 = .ok (.bipush 43, 2) := by decide +kernel
theorem dX8_follows_43 : decode cX8_follows 43 = .ok (.invokevirtual 155, 3) := by decide +kernel
theorem dX8_follows_46 : decode cX8_follows 46 = .ok (.ifCond .ne 21, 3) := by decide +kernel
theorem dX8_follows_49 : decode cX8_follows 49 = .ok (.aload_n 0, 1) := by decide +kernel
theorem dX8_follows_50 : decode cX8_follows 50 = .ok (.bipush 45, 2) := by decide +kernel
theorem dX8_follows_52 : decode cX8_follows 52 = .ok (.invokevirtual 155, 3) := by decide +kernel
theorem dX8_follows_55 : decode cX8_follows 55 = .ok (.ifCond .ne 12, 3) := by decide +kernel
theorem dX8_follows_58 : decode cX8_follows 58 = .ok (.aload_n 0, 1) := by decide +kernel
theorem dX8_follows_59 : decode cX8_follows 59 = .ok (.bipush 42, 2) := by decide +kernel
theorem dX8_follows_61 : decode cX8_follows 61 = .ok (.invokevirtual 155, 3) := by decide +kernel
theorem dX8_follows_64 : decode cX8_follows 64 = .ok (.ifCond .eq 39, 3) := by decide +kernel
theorem dX8_follows_67 : decode cX8_follows 67 = .ok (.aload_n 0, 1) := by decide +kernel
theorem dX8_follows_68 : decode cX8_follows 68 = .ok (.aload_n 0, 1) := by decide +kernel
theorem dX8_follows_69 : decode cX8_follows 69 = .ok (.bipush 43, 2) := by decide +kernel
theorem dX8_follows_71 : decode cX8_follows 71 = .ok (.invokevirtual 155, 3) := by decide +kernel
theorem dX8_follows_74 : decode cX8_follows 74 = .ok (.ifCond .eq 8, 3) := by decide +kernel
theorem dX8_follows_77 : decode cX8_follows 77 = .ok (.bipush 15, 2) := by decide +kernel
theorem dX8_follows_79 : decode cX8_follows 79 = .ok (.goto 19, 3) := by decide +kernel
theorem dX8_follows_82 : decode cX8_follows 82 = .ok (.aload_n 0, 1) := by decide +kernel
theorem dX8_follows_83 : decode cX8_follows 83 = .ok (.bipush 45, 2) := by decide +kernel
theorem dX8_follows_85 : decode cX8_follows 85 = .ok (.invokevirtual 155, 3) := by decide +kernel
theorem dX8_follows_88 : decode cX8_follows 88 = .ok (.ifCond .eq 8, 3) := by decide +kernel
theorem dX8_follows_91 : decode cX8_follows 91 = .ok (.bipush 16, 2) := by decide +kernel
theorem dX8_follows_93 : decode cX8_follows 93 = .ok (.goto 5, 3) := by decide +kernel
theorem dX8_follows_96 : decode cX8_follows 96 = .ok (.bipush 17, 2) := by decide +kernel
theorem dX8_follows_98 : decode cX8_follows 98 = .ok (.invokevirtual 164, 3) := by decide +kernel
theorem dX8_follows_101 : decode cX8_follows 101 = .ok (.iconst 1, 1) := by decide +kernel
theorem dX8_follows_102 : decode cX8_follows 102 = .ok (.ireturn, 1) := by decide +kernel
theorem dX8_follows_103 : decode cX8_follows 103 = .ok (.aload_n 0, 1) := by decide +kernel
theorem dX8_follows_104 : decode cX8_follows 104 = .ok (.bipush 60, 2) := by decide +kernel
theorem dX8_follows_106 : decode cX8_follows 106 = .ok (.invokevirtual 155, 3) := by decide +kernel
theorem dX8_follows_109 : decode cX8_follows 109 = .ok (.ifCond .ne 12, 3) := by decide +kernel
theorem dX8_follows_112 : decode cX8_follows 112 = .ok (.aload_n 0, 1) := by decide +kernel
theorem dX8_follows_113 : decode cX8_follows 113 = .ok (.bipush 61, 2) := by decide +kernel
theorem dX8_follows_115 : decode cX8_follows 115 = .ok (.invokevirtual 155, 3) := by decide +kernel
theorem dX8_follows_118 : decode cX8_follows 118 = .ok (.ifCond .eq 42, 3) := by decide +kernel
theorem dX8_follows_121 : decode cX8_follows 121 = .ok (.aload_n 0, 1) := by decide +kernel
theorem dX8_follows_122 : decode cX8_follows 122 = .ok (.invokevirtual 167, 3) := by decide +kernel
theorem dX8_follows_125 : decode cX8_follows 125 = .ok (.ifCond .ne 7, 3) := by decide +kernel
theorem dX8_follows_128 : decode cX8_follows 128 = .ok (.iconst 1, 1) := by decide +kernel
theorem dX8_follows_129 : decode cX8_follows 129 = .ok (.goto 4, 3) := by decide +kernel
theorem dX8_follows_132 : decode cX8_follows 132 = .ok (.iconst 0, 1) := by decide +kernel
theorem dX8_follows_133 : decode cX8_follows 133 = .ok (.istore_n 1, 1) := by decide +kernel
theorem dX8_follows_134 : decode cX8_follows 134 = .ok (.iload_n 1, 1) := by decide +kernel
theorem dX8_follows_135 : decode cX8_follows 135 = .ok (.ifCond .eq 23, 3) := by decide +kernel
theorem dX8_follows_138 : decode cX8_follows 138 = .ok (.aload_n 0, 1) := by decide +kernel
theorem dX8_follows_139 : decode cX8_follows 139 = .ok (.aload_n 0, 1) := by decide +kernel
theorem dX8_follows_140 : decode cX8_follows 140 = .ok (.bipush 60, 2) := by decide +kernel
theorem dX8_follows_142 : decode cX8_follows 142 = .ok (.invokevirtual 155, 3) := by decide +kernel
theorem dX8_follows_145 : decode cX8_follows 145 = .ok (.ifCond .eq 8, 3) := by decide +kernel
theorem dX8_follows_148 : decode cX8_follows 148 = .ok (.bipush 13, 2) := by decide +kernel
theorem dX8_follows_150 : decode cX8_follows 150 = .ok (.goto 5, 3) := by decide +kernel
theorem dX8_follows_153 : decode cX8_follows 153 = .ok (.bipush 14, 2) := by decide +kernel
theorem dX8_follows_155 : decode cX8_follows 155 = .ok (.invokevirtual 164, 3) := by decide +kernel
theorem dX8_follows_158 : decode cX8_follows 158 = .ok (.iload_n 1, 1) := by decide +kernel
theorem dX8_follows_159 : decode cX8_follows 159 = .ok (.ireturn, 1) := by decide +kernel
theorem dX8_follows_160 : decode cX8_follows 160 = .ok (.aload_n 0, 1) := by decide +kernel
theorem dX8_follows_161 : decode cX8_follows 161 = .ok (.bipush 41, 2) := by decide +kernel
theorem dX8_follows_163 : decode cX8_follows 163 = .ok (.invokevirtual 155, 3) := by decide +kernel
theorem dX8_follows_166 : decode cX8_follows 166 = .ok (.ifCond .eq 33, 3) := by decide +kernel
theorem dX8_follows_169 : decode cX8_follows 169 = .ok (.aload_n 0, 1) := by decide +kernel
theorem dX8_follows_170 : decode cX8_follows 170 = .ok (.invokevirtual 171, 3) := by decide +kernel
theorem dX8_follows_173 : decode cX8_follows 173 = .ok (.ifCond .eq 26, 3) := by decide +kernel
theorem dX8_follows_176 : decode cX8_follows 176 = .ok (.aload_n 0, 1) := by decide +kernel
theorem dX8_follows_177 : decode cX8_follows 177 = .ok (.iconst 1, 1) := by decide +kernel
theorem dX8_follows_178 : decode cX8_follows 178 = .ok (.invokevirtual 142, 3) := by decide +kernel
theorem dX8_follows_181 : decode cX8_follows 181 = .ok (.aload_n 0, 1) := by decide +kernel
theorem dX8_follows_182 : decode cX8_follows 182 = .ok (.dup, 1) := by decide +kernel
theorem dX8_follows_183 : decode cX8_follows 183 = .ok (.getfield 131, 3) := by decide +kernel
theorem dX8_follows_186 : decode cX8_follows 186 = .ok (.iconst 1, 1) := by decide +kernel
theorem dX8_follows_187 : decode cX8_follows 187 = .ok (.isub, 1) := by decide +kernel
theorem dX8_follows_188 : decode cX8_follows 188 = .ok (.putfield 131, 3) := by decide +kernel
theorem dX8_follows_191 : decode cX8_follows 191 = .ok (.aload_n 0, 1) := by decide +kernel
theorem dX8_follows_192 : decode cX8_follows 192 = .ok (.bipush 7, 2) := by decide +kernel
theorem dX8_follows_194 : decode cX8_follows 194 = .ok (.invokevirtual 142, 3) := by decide +kernel
theorem dX8_follows_197 : decode cX8_follows 197 = .ok (.iconst 1, 1) := by decide +kernel
theorem dX8_follows_198 : decode cX8_follows 198 = .ok (.ireturn, 1) := by decide +kernel
theorem dX8_follows_199 : decode cX8_follows 199 = .ok (.aload_n 0, 1) := by decide +kernel
theorem dX8_follows_200 : decode cX8_follows 200 = .ok (.aload_n 0, 1) := by decide +kernel
theorem dX8_follows_201 : decode cX8_follows 201 = .ok (.bipush 59, 2) := by decide +kernel
theorem dX8_follows_203 : decode cX8_follows 203 = .ok (.invokevirtual 155, 3) := by decide +kernel
theorem dX8_follows_206 : decode cX8_follows 206 = .ok (.ifCond .eq 14, 3) := by decide +kernel
theorem dX8_follows_209 : decode cX8_follows 209 = .ok (.aload_n 0, 1) := by decide +kernel
theorem dX8_follows_210 : decode cX8_follows 210 = .ok (.invokevirtual 171, 3) := by decide +kernel
theorem dX8_follows_213 : decode cX8_follows 213 = .ok (.ifCond .ne 7, 3) := by decide +kernel
theorem dX8_follows_216 : decode cX8_follows 216 = .ok (.iconst 1, 1) := by decide +kernel
theorem dX8_follows_217 : decode cX8_follows 217 = .ok (.goto 4, 3) := by decide +kernel
theorem dX8_follows_220 : decode cX8_follows 220 = .ok (.iconst 0, 1) := by decide +kernel
theorem dX8_follows_221 : decode cX8_follows 221 = .ok (.putfield 174, 3) := by decide +kernel
theorem dX8_follows_224 : decode cX8_follows 224 = .ok (.aload_n 0, 1) := by decide +kernel
theorem dX8_follows_225 : decode cX8_follows 225 = .ok (.getfield 174, 3) := by decide +kernel
theorem dX8_follows_228 : decode cX8_follows 228 = .ok (.ifCond .eq 8, 3) := by decide +kernel
theorem dX8_follows_231 : decode cX8_follows 231 = .ok (.aload_n 0, 1) := by decide +kernel
theorem dX8_follows_232 : decode cX8_follows 232 = .ok (.iconst 1, 1) := by decide +kernel
theorem dX8_follows_233 : decode cX8_follows 233 = .ok (.invokevirtual 142, 3) := by decide +kernel
theorem dX8_follows_236 : decode cX8_follows 236 = .ok (.aload_n 0, 1) := by decide +kernel
theorem dX8_follows_237 : decode cX8_follows 237 = .ok (.getfield 174, 3) := by decide +kernel
theorem dX8_follows_240 : decode cX8_follows 240 = .ok (.ireturn, 1) := by decide +kernel
theorem dX8_readOne_0 : decode cX8_readOne 0 = .ok (.aload_n 0, 1) := by decide +kernel
theorem dX8_readOne_1 : decode cX8_readOne 1 = .ok (.iconst 0, 1) := by decide +kernel
theorem dX8_readOne_2 : decode cX8_readOne 2 = .ok (.putfield 131, 3) := by decide +kernel
theorem dX8_readOne_5 : decode cX8_readOne 5 = .ok (.aload_n 0, 1) := by decide +kernel
theorem dX8_readOne_6 : decode cX8_readOne 6 = .ok (.iconst 0, 1) := by decide +kernel
theorem dX8_readOne_7 : decode cX8_readOne 7 = .ok (.putfield 174, 3) := by decide +kernel
theorem dX8_readOne_10 : decode cX8_readOne 10 = .ok (.aload_n 0, 1) := by decide +kernel
theorem dX8_readOne_11 : decode cX8_readOne 11 = .ok (.iconst 1, 1) := by decide +kernel
theorem dX8_readOne_12 : decode cX8_readOne 12 = .ok (.putfield 145, 3) := by decide +kernel
theorem dX8_readOne_15 : decode cX8_readOne 15 = .ok (.aload_n 0, 1) := by decide +kernel
theorem dX8_readOne_16 : decode cX8_readOne 16 = .ok (.iconst 1, 1) := by decide +kernel
theorem dX8_readOne_17 : decode cX8_readOne 17 = .ok (.putfield 152, 3) := by decide +kernel
theorem dX8_readOne_20 : decode cX8_readOne 20 = .ok (.iconst 1, 1) := by decide +kernel
theorem dX8_readOne_21 : decode cX8_readOne 21 = .ok (.istore_n 1, 1) := by decide +kernel
theorem dX8_readOne_22 : decode cX8_readOne 22 = .ok (.iload_n 1, 1) := by decide +kernel
theorem dX8_readOne_23 : decode cX8_readOne 23 = .ok (.ifCond .eq 36, 3) := by decide +kernel
theorem dX8_readOne_26 : decode cX8_readOne 26 = .ok (.aload_n 0, 1) := by decide +kernel
theorem dX8_readOne_27 : decode cX8_readOne 27 = .ok (.getfield 174, 3) := by decide +kernel
theorem dX8_readOne_30 : decode cX8_readOne 30 = .ok (.ifCond .ne 29, 3) := by decide +kernel
theorem dX8_readOne_33 : decode cX8_readOne 33 = .ok (.aload_n 0, 1) := by decide +kernel
theorem dX8_readOne_34 : decode cX8_readOne 34 = .ok (.invokevirtual 177, 3) := by decide +kernel
theorem dX8_readOne_37 : decode cX8_readOne 37 = .ok (.aload_n 0, 1) := by decide +kernel
theorem dX8_readOne_38 : decode cX8_readOne 38 = .ok (.getfield 145, 3) := by decide +kernel
theorem dX8_readOne_41 : decode cX8_readOne 41 = .ok (.ifCond .eq 10, 3) := by decide +kernel
theorem dX8_readOne_44 : decode cX8_readOne 44 = .ok (.aload_n 0, 1) := by decide +kernel
theorem dX8_readOne_45 : decode cX8_readOne 45 = .ok (.invokevirtual 180, 3) := by decide +kernel
theorem dX8_readOne_48 : decode cX8_readOne 48 = .ok (.goto 7, 3) := by decide +kernel
theorem dX8_readOne_51 : decode cX8_readOne 51 = .ok (.aload_n 0, 1) := by decide +kernel
theorem dX8_readOne_52 : decode cX8_readOne 52 = .ok (.invokevirtual 183, 3) := by decide +kernel
theorem dX8_readOne_55 : decode cX8_readOne 55 = .ok (.istore_n 1, 1) := by decide +kernel
theorem dX8_readOne_56 : decode cX8_readOne 56 = .ok (.goto (-34), 3) := by decide +kernel
theorem dX8_readOne_59 : decode cX8_readOne 59 = .ok (.iload_n 1, 1) := by decide +kernel
theorem dX8_readOne_60 : decode cX8_readOne 60 = .ok (.ireturn, 1) := by decide +kernel
theorem dX8_readText_0 : decode cX8_readText 0 = .ok (.aload_n 0, 1) := by decide +kernel
theorem dX8_readText_1 : decode cX8_readText 1 = .ok (.iconst 0, 1) := by decide +kernel
theorem dX8_readText_2 : decode cX8_readText 2 = .ok (.putfield 90, 3) := by decide +kernel
theorem dX8_readText_5 : decode cX8_readText 5 = .ok (.aload_n 0, 1) := by decide +kernel
theorem dX8_readText_6 : decode cX8_readText 6 = .ok (.iconst 0, 1) := by decide +kernel
theorem dX8_readText_7 : decode cX8_readText 7 = .ok (.putfield 128, 3) := by decide +kernel
theorem dX8_readText_10 : decode cX8_readText 10 = .ok (.iconst 0, 1) := by decide +kernel
theorem dX8_readText_11 : decode cX8_readText 11 = .ok (.istore_n 1, 1) := by decide +kernel
theorem dX8_readText_12 : decode cX8_readText 12 = .ok (.iload_n 1, 1) := by decide +kernel
theorem dX8_readText_13 : decode cX8_readText 13 = .ok (.iconst 3, 1) := by decide +kernel
theorem dX8_readText_14 : decode cX8_readText 14 = .ok (.if_icmp .ge 58, 3) := by decide +kernel
theorem dX8_readText_17 : decode cX8_readText 17 = .ok (.aload_n 0, 1) := by decide +kernel
theorem dX8_readText_18 : decode cX8_readText 18 = .ok (.invokevirtual 177, 3) := by decide +kernel
theorem dX8_readText_21 : decode cX8_readText 21 = .ok (.aload_n 0, 1) := by decide +kernel
theorem dX8_readText_22 : decode cX8_readText 22 = .ok (.bipush 6, 2) := by decide +kernel
theorem dX8_readText_24 : decode cX8_readText 24 = .ok (.iload_n 1, 1) := by decide +kernel
theorem dX8_readText_25 : decode cX8_readText 25 = .ok (.iadd, 1) := by decide +kernel
theorem dX8_readText_26 : decode cX8_readText 26 = .ok (.invokevirtual 149, 3) := by decide +kernel
theorem dX8_readText_29 : decode cX8_readText 29 = .ok (.ifCond .ne 8, 3) := by decide +kernel
theorem dX8_readText_32 : decode cX8_readText 32 = .ok (.aload_n 0, 1) := by decide +kernel
theorem dX8_readText_33 : decode cX8_readText 33 = .ok (.getfield 104, 3) := by decide +kernel
theorem dX8_readText_36 : decode cX8_readText 36 = .ok (.ireturn, 1) := by decide +kernel
theorem dX8_readText_37 : decode cX8_readText 37 = .ok (.aload_n 0, 1) := by decide +kernel
theorem dX8_readText_38 : decode cX8_readText 38 = .ok (.getfield 44, 3) := by decide +kernel
theorem dX8_readText_41 : decode cX8_readText 41 = .ok (.iconst 4, 1) := by decide +kernel
theorem dX8_readText_42 : decode cX8_readText 42 = .ok (.aload_n 0, 1) := by decide +kernel
theorem dX8_readText_43 : decode cX8_readText 43 = .ok (.getfield 87, 3) := by decide +kernel
theorem dX8_readText_46 : decode cX8_readText 46 = .ok (.imul, 1) := by decide +kernel
theorem dX8_readText_47 : decode cX8_readText 47 = .ok (.iload_n 1, 1) := by decide +kernel
theorem dX8_readText_48 : decode cX8_readText 48 = .ok (.iadd, 1) := by decide +kernel
theorem dX8_readText_49 : decode cX8_readText 49 = .ok (.aload_n 0, 1) := by decide +kernel
theorem dX8_readText_50 : decode cX8_readText 50 = .ok (.getfield 128, 3) := by decide +kernel
theorem dX8_readText_53 : decode cX8_readText 53 = .ok (.iastore, 1) := by decide +kernel
theorem dX8_readText_54 : decode cX8_readText 54 = .ok (.aload_n 0, 1) := by decide +kernel
theorem dX8_readText_55 : decode cX8_readText 55 = .ok (.invokevirtual 186, 3) := by decide +kernel
theorem dX8_readText_58 : decode cX8_readText 58 = .ok (.ifCond .ne 8, 3) := by decide +kernel
theorem dX8_readText_61 : decode cX8_readText 61 = .ok (.aload_n 0, 1) := by decide +kernel
theorem dX8_readText_62 : decode cX8_readText 62 = .ok (.getfield 104, 3) := by decide +kernel
theorem dX8_readText_65 : decode cX8_readText 65 = .ok (.ireturn, 1) := by decide +kernel
theorem dX8_readText_66 : decode cX8_readText 66 = .ok (.iinc 1 1, 3) := by decide +kernel
theorem dX8_readText_69 : decode cX8_readText 69 = .ok (.goto (-57), 3) := by decide +kernel
theorem dX8_readText_72 : decode cX8_readText 72 = .ok (.aload_n 0, 1) := by decide +kernel
theorem dX8_readText_73 : decode cX8_readText 73 = .ok (.getfield 44, 3) := by decide +kernel
theorem dX8_readText_76 : decode cX8_readText 76 = .ok (.iconst 4, 1) := by decide +kernel
theorem dX8_readText_77 : decode cX8_readText 77 = .ok (.aload_n 0, 1) := by decide +kernel
theorem dX8_readText_78 : decode cX8_readText 78 = .ok (.getfield 87, 3) := by decide +kernel
theorem dX8_readText_81 : decode cX8_readText 81 = .ok (.imul, 1) := by decide +kernel
theorem dX8_readText_82 : decode cX8_readText 82 = .ok (.iconst 3, 1) := by decide +kernel
theorem dX8_readText_83 : decode cX8_readText 83 = .ok (.iadd, 1) := by decide +kernel
theorem dX8_readText_84 : decode cX8_readText 84 = .ok (.aload_n 0, 1) := by decide +kernel
theorem dX8_readText_85 : decode cX8_readText 85 = .ok (.getfield 128, 3) := by decide +kernel
theorem dX8_readText_88 : decode cX8_readText 88 = .ok (.iastore, 1) := by decide +kernel
theorem dX8_readText_89 : decode cX8_readText 89 = .ok (.aload_n 0, 1) := by decide +kernel
theorem dX8_readText_90 : decode cX8_readText 90 = .ok (.invokevirtual 177, 3) := by decide +kernel
theorem dX8_readText_93 : decode cX8_readText 93 = .ok (.aload_n 0, 1) := by decide +kernel
theorem dX8_readText_94 : decode cX8_readText 94 = .ok (.getfield 101, 3) := by decide +kernel
theorem dX8_readText_97 : decode cX8_readText 97 = .ok (.ifCond .ne 7, 3) := by decide +kernel
theorem dX8_readText_100 : decode cX8_readText 100 = .ok (.iconst (-1), 1) := by decide +kernel
theorem dX8_readText_101 : decode cX8_readText 101 = .ok (.goto 7, 3) := by decide +kernel
theorem dX8_readText_104 : decode cX8_readText 104 = .ok (.aload_n 0, 1) := by decide +kernel
theorem dX8_readText_105 : decode cX8_readText 105 = .ok (.getfield 104, 3) := by decide +kernel
theorem dX8_readText_108 : decode cX8_readText 108 = .ok (.ireturn, 1) := by decide +kernel
theorem dX8_done_0 : decode cX8_done 0 = .ok (.iload_n 0, 1) := by decide +kernel
theorem dX8_done_1 : decode cX8_done 1 = .ok (.tableswitch 101 10 16 #[43, 57, 101, 71, 82, 93, 97], 43) := by decide +kernel
theorem dX8_done_44 : decode cX8_done 44 = .ok (.iload_n 1, 1) := by decide +kernel
theorem dX8_done_45 : decode cX8_done 45 = .ok (.ifCond .ne 7, 3) := by decide +kernel
theorem dX8_done_48 : decode cX8_done 48 = .ok (.iload_n 2, 1) := by decide +kernel
theorem dX8_done_49 : decode cX8_done 49 = .ok (.ifCond .eq 7, 3) := by decide +kernel
theorem dX8_done_52 : decode cX8_done 52 = .ok (.iconst 1, 1) := by decide +kernel
theorem dX8_done_53 : decode cX8_done 53 = .ok (.goto 4, 3) := by decide +kernel
theorem dX8_done_56 : decode cX8_done 56 = .ok (.iconst 0, 1) := by decide +kernel
theorem dX8_done_57 : decode cX8_done 57 = .ok (.ireturn, 1) := by decide +kernel
theorem dX8_done_58 : decode cX8_done 58 = .ok (.iload_n 1, 1) := by decide +kernel
theorem dX8_done_59 : decode cX8_done 59 = .ok (.ifCond .eq 11, 3) := by decide +kernel
theorem dX8_done_62 : decode cX8_done 62 = .ok (.iload_n 2, 1) := by decide +kernel
theorem dX8_done_63 : decode cX8_done 63 = .ok (.ifCond .eq 7, 3) := by decide +kernel
theorem dX8_done_66 : decode cX8_done 66 = .ok (.iconst 1, 1) := by decide +kernel
theorem dX8_done_67 : decode cX8_done 67 = .ok (.goto 4, 3) := by decide +kernel
theorem dX8_done_70 : decode cX8_done 70 = .ok (.iconst 0, 1) := by decide +kernel
theorem dX8_done_71 : decode cX8_done 71 = .ok (.ireturn, 1) := by decide +kernel
theorem dX8_done_72 : decode cX8_done 72 = .ok (.iload_n 1, 1) := by decide +kernel
theorem dX8_done_73 : decode cX8_done 73 = .ok (.iload_n 2, 1) := by decide +kernel
theorem dX8_done_74 : decode cX8_done 74 = .ok (.if_icmp .ge 7, 3) := by decide +kernel
theorem dX8_done_77 : decode cX8_done 77 = .ok (.iconst 1, 1) := by decide +kernel
theorem dX8_done_78 : decode cX8_done 78 = .ok (.goto 4, 3) := by decide +kernel
theorem dX8_done_81 : decode cX8_done 81 = .ok (.iconst 0, 1) := by decide +kernel
theorem dX8_done_82 : decode cX8_done 82 = .ok (.ireturn, 1) := by decide +kernel
theorem dX8_done_83 : decode cX8_done 83 = .ok (.iload_n 1, 1) := by decide +kernel
theorem dX8_done_84 : decode cX8_done 84 = .ok (.iload_n 2, 1) := by decide +kernel
theorem dX8_done_85 : decode cX8_done 85 = .ok (.if_icmp .ne 7, 3) := by decide +kernel
theorem dX8_done_88 : decode cX8_done 88 = .ok (.iconst 1, 1) := by decide +kernel
theorem dX8_done_89 : decode cX8_done 89 = .ok (.goto 4, 3) := by decide +kernel
theorem dX8_done_92 : decode cX8_done 92 = .ok (.iconst 0, 1) := by decide +kernel
theorem dX8_done_93 : decode cX8_done 93 = .ok (.ireturn, 1) := by decide +kernel
theorem dX8_done_94 : decode cX8_done 94 = .ok (.iload_n 1, 1) := by decide +kernel
theorem dX8_done_95 : decode cX8_done 95 = .ok (.iload_n 2, 1) := by decide +kernel
theorem dX8_done_96 : decode cX8_done 96 = .ok (.iadd, 1) := by decide +kernel
theorem dX8_done_97 : decode cX8_done 97 = .ok (.ireturn, 1) := by decide +kernel
theorem dX8_done_98 : decode cX8_done 98 = .ok (.iload_n 1, 1) := by decide +kernel
theorem dX8_done_99 : decode cX8_done 99 = .ok (.iload_n 2, 1) := by decide +kernel
theorem dX8_done_100 : decode cX8_done 100 = .ok (.isub, 1) := by decide +kernel
theorem dX8_done_101 : decode cX8_done 101 = .ok (.ireturn, 1) := by decide +kernel
theorem dX8_done_102 : decode cX8_done 102 = .ok (.iload_n 1, 1) := by decide +kernel
theorem dX8_done_103 : decode cX8_done 103 = .ok (.iload_n 2, 1) := by decide +kernel
theorem dX8_done_104 : decode cX8_done 104 = .ok (.imul, 1) := by decide +kernel
theorem dX8_done_105 : decode cX8_done 105 = .ok (.ireturn, 1) := by decide +kernel
theorem dX8_says_0 : decode cX8_says 0 = .ok (.iconst 0, 1) := by decide +kernel
theorem dX8_says_1 : decode cX8_says 1 = .ok (.istore_n 2, 1) := by decide +kernel
theorem dX8_says_2 : decode cX8_says 2 = .ok (.aload_n 0, 1) := by decide +kernel
theorem dX8_says_3 : decode cX8_says 3 = .ok (.getfield 44, 3) := by decide +kernel
theorem dX8_says_6 : decode cX8_says 6 = .ok (.iconst 4, 1) := by decide +kernel
theorem dX8_says_7 : decode cX8_says 7 = .ok (.aload_n 0, 1) := by decide +kernel
theorem dX8_says_8 : decode cX8_says 8 = .ok (.getfield 189, 3) := by decide +kernel
theorem dX8_says_11 : decode cX8_says 11 = .ok (.imul, 1) := by decide +kernel
theorem dX8_says_12 : decode cX8_says 12 = .ok (.iload_n 1, 1) := by decide +kernel
theorem dX8_says_13 : decode cX8_says 13 = .ok (.iadd, 1) := by decide +kernel
theorem dX8_says_14 : decode cX8_says 14 = .ok (.iaload, 1) := by decide +kernel
theorem dX8_says_15 : decode cX8_says 15 = .ok (.istore_n 3, 1) := by decide +kernel
theorem dX8_says_16 : decode cX8_says 16 = .ok (.iload_n 3, 1) := by decide +kernel
theorem dX8_says_17 : decode cX8_says 17 = .ok (.aload_n 0, 1) := by decide +kernel
theorem dX8_says_18 : decode cX8_says 18 = .ok (.getfield 44, 3) := by decide +kernel
theorem dX8_says_21 : decode cX8_says 21 = .ok (.iconst 4, 1) := by decide +kernel
theorem dX8_says_22 : decode cX8_says 22 = .ok (.aload_n 0, 1) := by decide +kernel
theorem dX8_says_23 : decode cX8_says 23 = .ok (.getfield 189, 3) := by decide +kernel
theorem dX8_says_26 : decode cX8_says 26 = .ok (.imul, 1) := by decide +kernel
theorem dX8_says_27 : decode cX8_says 27 = .ok (.iload_n 1, 1) := by decide +kernel
theorem dX8_says_28 : decode cX8_says 28 = .ok (.iadd, 1) := by decide +kernel
theorem dX8_says_29 : decode cX8_says 29 = .ok (.iconst 1, 1) := by decide +kernel
theorem dX8_says_30 : decode cX8_says 30 = .ok (.iadd, 1) := by decide +kernel
theorem dX8_says_31 : decode cX8_says 31 = .ok (.iaload, 1) := by decide +kernel
theorem dX8_says_32 : decode cX8_says 32 = .ok (.if_icmp .ge 155, 3) := by decide +kernel
theorem dX8_says_35 : decode cX8_says 35 = .ok (.aload_n 0, 1) := by decide +kernel
theorem dX8_says_36 : decode cX8_says 36 = .ok (.getfield 41, 3) := by decide +kernel
theorem dX8_says_39 : decode cX8_says 39 = .ok (.sipush 160, 3) := by decide +kernel
theorem dX8_says_42 : decode cX8_says 42 = .ok (.aload_n 0, 1) := by decide +kernel
theorem dX8_says_43 : decode cX8_says 43 = .ok (.getfield 189, 3) := by decide +kernel
theorem dX8_says_46 : decode cX8_says 46 = .ok (.imul, 1) := by decide +kernel
theorem dX8_says_47 : decode cX8_says 47 = .ok (.iload_n 3, 1) := by decide +kernel
theorem dX8_says_48 : decode cX8_says 48 = .ok (.iadd, 1) := by decide +kernel
theorem dX8_says_49 : decode cX8_says 49 = .ok (.iaload, 1) := by decide +kernel
theorem dX8_says_50 : decode cX8_says 50 = .ok (.istore 4, 2) := by decide +kernel
theorem dX8_says_52 : decode cX8_says 52 = .ok (.iload 4, 2) := by decide +kernel
theorem dX8_says_54 : decode cX8_says 54 = .ok (.bipush 10, 2) := by decide +kernel
theorem dX8_says_56 : decode cX8_says 56 = .ok (.if_icmp .ge 34, 3) := by decide +kernel
theorem dX8_says_59 : decode cX8_says 59 = .ok (.aload_n 0, 1) := by decide +kernel
theorem dX8_says_60 : decode cX8_says 60 = .ok (.getfield 53, 3) := by decide +kernel
theorem dX8_says_63 : decode cX8_says 63 = .ok (.iload_n 2, 1) := by decide +kernel
theorem dX8_says_64 : decode cX8_says 64 = .ok (.iload 4, 2) := by decide +kernel
theorem dX8_says_66 : decode cX8_says 66 = .ok (.ifCond .ge 10, 3) := by decide +kernel
theorem dX8_says_69 : decode cX8_says 69 = .ok (.iconst (-1), 1) := by decide +kernel
theorem dX8_says_70 : decode cX8_says 70 = .ok (.iload 4, 2) := by decide +kernel
theorem dX8_says_72 : decode cX8_says 72 = .ok (.isub, 1) := by decide +kernel
theorem dX8_says_73 : decode cX8_says 73 = .ok (.goto 10, 3) := by decide +kernel
theorem dX8_says_76 : decode cX8_says 76 = .ok (.aload_n 0, 1) := by decide +kernel
theorem dX8_says_77 : decode cX8_says 77 = .ok (.getfield 50, 3) := by decide +kernel
theorem dX8_says_80 : decode cX8_says 80 = .ok (.iload 4, 2) := by decide +kernel
theorem dX8_says_82 : decode cX8_says 82 = .ok (.iaload, 1) := by decide +kernel
theorem dX8_says_83 : decode cX8_says 83 = .ok (.iastore, 1) := by decide +kernel
theorem dX8_says_84 : decode cX8_says 84 = .ok (.iinc 2 1, 3) := by decide +kernel
theorem dX8_says_87 : decode cX8_says 87 = .ok (.goto 94, 3) := by decide +kernel
theorem dX8_says_90 : decode cX8_says 90 = .ok (.iload 4, 2) := by decide +kernel
theorem dX8_says_92 : decode cX8_says 92 = .ok (.bipush 12, 2) := by decide +kernel
theorem dX8_says_94 : decode cX8_says 94 = .ok (.if_icmp .ne 30, 3) := by decide +kernel
theorem dX8_says_97 : decode cX8_says 97 = .ok (.aload_n 0, 1) := by decide +kernel
theorem dX8_says_98 : decode cX8_says 98 = .ok (.getfield 53, 3) := by decide +kernel
theorem dX8_says_101 : decode cX8_says 101 = .ok (.iload_n 2, 1) := by decide +kernel
theorem dX8_says_102 : decode cX8_says 102 = .ok (.iconst 1, 1) := by decide +kernel
theorem dX8_says_103 : decode cX8_says 103 = .ok (.isub, 1) := by decide +kernel
theorem dX8_says_104 : decode cX8_says 104 = .ok (.aload_n 0, 1) := by decide +kernel
theorem dX8_says_105 : decode cX8_says 105 = .ok (.getfield 53, 3) := by decide +kernel
theorem dX8_says_108 : decode cX8_says 108 = .ok (.iload_n 2, 1) := by decide +kernel
theorem dX8_says_109 : decode cX8_says 109 = .ok (.iconst 1, 1) := by decide +kernel
theorem dX8_says_110 : decode cX8_says 110 = .ok (.isub, 1) := by decide +kernel
theorem dX8_says_111 : decode cX8_says 111 = .ok (.iaload, 1) := by decide +kernel
theorem dX8_says_112 : decode cX8_says 112 = .ok (.ifCond .ne 7, 3) := by decide +kernel
theorem dX8_says_115 : decode cX8_says 115 = .ok (.iconst 1, 1) := by decide +kernel
theorem dX8_says_116 : decode cX8_says 116 = .ok (.goto 4, 3) := by decide +kernel
theorem dX8_says_119 : decode cX8_says 119 = .ok (.iconst 0, 1) := by decide +kernel
theorem dX8_says_120 : decode cX8_says 120 = .ok (.iastore, 1) := by decide +kernel
theorem dX8_says_121 : decode cX8_says 121 = .ok (.goto 60, 3) := by decide +kernel
theorem dX8_says_124 : decode cX8_says 124 = .ok (.iload 4, 2) := by decide +kernel
theorem dX8_says_126 : decode cX8_says 126 = .ok (.bipush 18, 2) := by decide +kernel
theorem dX8_says_128 : decode cX8_says 128 = .ok (.if_icmp .ne 23, 3) := by decide +kernel
theorem dX8_says_131 : decode cX8_says 131 = .ok (.aload_n 0, 1) := by decide +kernel
theorem dX8_says_132 : decode cX8_says 132 = .ok (.getfield 53, 3) := by decide +kernel
theorem dX8_says_135 : decode cX8_says 135 = .ok (.iload_n 2, 1) := by decide +kernel
theorem dX8_says_136 : decode cX8_says 136 = .ok (.iconst 1, 1) := by decide +kernel
theorem dX8_says_137 : decode cX8_says 137 = .ok (.isub, 1) := by decide +kernel
theorem dX8_says_138 : decode cX8_says 138 = .ok (.aload_n 0, 1) := by decide +kernel
theorem dX8_says_139 : decode cX8_says 139 = .ok (.getfield 53, 3) := by decide +kernel
theorem dX8_says_142 : decode cX8_says 142 = .ok (.iload_n 2, 1) := by decide +kernel
theorem dX8_says_143 : decode cX8_says 143 = .ok (.iconst 1, 1) := by decide +kernel
theorem dX8_says_144 : decode cX8_says 144 = .ok (.isub, 1) := by decide +kernel
theorem dX8_says_145 : decode cX8_says 145 = .ok (.iaload, 1) := by decide +kernel
theorem dX8_says_146 : decode cX8_says 146 = .ok (.ineg, 1) := by decide +kernel
theorem dX8_says_147 : decode cX8_says 147 = .ok (.iastore, 1) := by decide +kernel
theorem dX8_says_148 : decode cX8_says 148 = .ok (.goto 33, 3) := by decide +kernel
theorem dX8_says_151 : decode cX8_says 151 = .ok (.iinc 2 (-1), 3) := by decide +kernel
theorem dX8_says_154 : decode cX8_says 154 = .ok (.aload_n 0, 1) := by decide +kernel
theorem dX8_says_155 : decode cX8_says 155 = .ok (.getfield 53, 3) := by decide +kernel
theorem dX8_says_158 : decode cX8_says 158 = .ok (.iload_n 2, 1) := by decide +kernel
theorem dX8_says_159 : decode cX8_says 159 = .ok (.iconst 1, 1) := by decide +kernel
theorem dX8_says_160 : decode cX8_says 160 = .ok (.isub, 1) := by decide +kernel
theorem dX8_says_161 : decode cX8_says 161 = .ok (.iload 4, 2) := by decide +kernel
theorem dX8_says_163 : decode cX8_says 163 = .ok (.aload_n 0, 1) := by decide +kernel
theorem dX8_says_164 : decode cX8_says 164 = .ok (.getfield 53, 3) := by decide +kernel
theorem dX8_says_167 : decode cX8_says 167 = .ok (.iload_n 2, 1) := by decide +kernel
theorem dX8_says_168 : decode cX8_says 168 = .ok (.iconst 1, 1) := by decide +kernel
theorem dX8_says_169 : decode cX8_says 169 = .ok (.isub, 1) := by decide +kernel
theorem dX8_says_170 : decode cX8_says 170 = .ok (.iaload, 1) := by decide +kernel
theorem dX8_says_171 : decode cX8_says 171 = .ok (.aload_n 0, 1) := by decide +kernel
theorem dX8_says_172 : decode cX8_says 172 = .ok (.getfield 53, 3) := by decide +kernel
theorem dX8_says_175 : decode cX8_says 175 = .ok (.iload_n 2, 1) := by decide +kernel
theorem dX8_says_176 : decode cX8_says 176 = .ok (.iaload, 1) := by decide +kernel
theorem dX8_says_177 : decode cX8_says 177 = .ok (.invokestatic 192, 3) := by decide +kernel
theorem dX8_says_180 : decode cX8_says 180 = .ok (.iastore, 1) := by decide +kernel
theorem dX8_says_181 : decode cX8_says 181 = .ok (.iinc 3 1, 3) := by decide +kernel
theorem dX8_says_184 : decode cX8_says 184 = .ok (.goto (-168), 3) := by decide +kernel
theorem dX8_says_187 : decode cX8_says 187 = .ok (.aload_n 0, 1) := by decide +kernel
theorem dX8_says_188 : decode cX8_says 188 = .ok (.getfield 53, 3) := by decide +kernel
theorem dX8_says_191 : decode cX8_says 191 = .ok (.iconst 0, 1) := by decide +kernel
theorem dX8_says_192 : decode cX8_says 192 = .ok (.iaload, 1) := by decide +kernel
theorem dX8_says_193 : decode cX8_says 193 = .ok (.ireturn, 1) := by decide +kernel
theorem dX8_feed_0 : decode cX8_feed 0 = .ok (.aload_n 0, 1) := by decide +kernel
theorem dX8_feed_1 : decode cX8_feed 1 = .ok (.iconst 0, 1) := by decide +kernel
theorem dX8_feed_2 : decode cX8_feed 2 = .ok (.putfield 77, 3) := by decide +kernel
theorem dX8_feed_5 : decode cX8_feed 5 = .ok (.iload_n 1, 1) := by decide +kernel
theorem dX8_feed_6 : decode cX8_feed 6 = .ok (.i2l, 1) := by decide +kernel
theorem dX8_feed_7 : decode cX8_feed 7 = .ok (.lconst 0, 1) := by decide +kernel
theorem dX8_feed_8 : decode cX8_feed 8 = .ok (.ldc2_w 196, 3) := by decide +kernel
theorem dX8_feed_11 : decode cX8_feed 11 = .ok (.invokestatic 97, 3) := by decide +kernel
theorem dX8_feed_14 : decode cX8_feed 14 = .ok (.ifCond .ne 6, 3) := by decide +kernel
theorem dX8_feed_17 : decode cX8_feed 17 = .ok (.bipush (-2), 2) := by decide +kernel
theorem dX8_feed_19 : decode cX8_feed 19 = .ok (.ireturn, 1) := by decide +kernel
theorem dX8_feed_20 : decode cX8_feed 20 = .ok (.aload_n 0, 1) := by decide +kernel
theorem dX8_feed_21 : decode cX8_feed 21 = .ok (.getfield 80, 3) := by decide +kernel
theorem dX8_feed_24 : decode cX8_feed 24 = .ok (.sipush 160, 3) := by decide +kernel
theorem dX8_feed_27 : decode cX8_feed 27 = .ok (.if_icmp .ne 6, 3) := by decide +kernel
theorem dX8_feed_30 : decode cX8_feed 30 = .ok (.bipush (-4), 2) := by decide +kernel
theorem dX8_feed_32 : decode cX8_feed 32 = .ok (.ireturn, 1) := by decide +kernel
theorem dX8_feed_33 : decode cX8_feed 33 = .ok (.aload_n 0, 1) := by decide +kernel
theorem dX8_feed_34 : decode cX8_feed 34 = .ok (.getfield 38, 3) := by decide +kernel
theorem dX8_feed_37 : decode cX8_feed 37 = .ok (.aload_n 0, 1) := by decide +kernel
theorem dX8_feed_38 : decode cX8_feed 38 = .ok (.getfield 80, 3) := by decide +kernel
theorem dX8_feed_41 : decode cX8_feed 41 = .ok (.iload_n 1, 1) := by decide +kernel
theorem dX8_feed_42 : decode cX8_feed 42 = .ok (.iastore, 1) := by decide +kernel
theorem dX8_feed_43 : decode cX8_feed 43 = .ok (.aload_n 0, 1) := by decide +kernel
theorem dX8_feed_44 : decode cX8_feed 44 = .ok (.dup, 1) := by decide +kernel
theorem dX8_feed_45 : decode cX8_feed 45 = .ok (.getfield 80, 3) := by decide +kernel
theorem dX8_feed_48 : decode cX8_feed 48 = .ok (.iconst 1, 1) := by decide +kernel
theorem dX8_feed_49 : decode cX8_feed 49 = .ok (.iadd, 1) := by decide +kernel
theorem dX8_feed_50 : decode cX8_feed 50 = .ok (.putfield 80, 3) := by decide +kernel
theorem dX8_feed_53 : decode cX8_feed 53 = .ok (.aload_n 0, 1) := by decide +kernel
theorem dX8_feed_54 : decode cX8_feed 54 = .ok (.getfield 80, 3) := by decide +kernel
theorem dX8_feed_57 : decode cX8_feed 57 = .ok (.ireturn, 1) := by decide +kernel
theorem dX8_text_0 : decode cX8_text 0 = .ok (.aload_n 0, 1) := by decide +kernel
theorem dX8_text_1 : decode cX8_text 1 = .ok (.iconst 0, 1) := by decide +kernel
theorem dX8_text_2 : decode cX8_text 2 = .ok (.putfield 77, 3) := by decide +kernel
theorem dX8_text_5 : decode cX8_text 5 = .ok (.aload_n 0, 1) := by decide +kernel
theorem dX8_text_6 : decode cX8_text 6 = .ok (.getfield 87, 3) := by decide +kernel
theorem dX8_text_9 : decode cX8_text 9 = .ok (.bipush 6, 2) := by decide +kernel
theorem dX8_text_11 : decode cX8_text 11 = .ok (.if_icmp .ne 6, 3) := by decide +kernel
theorem dX8_text_14 : decode cX8_text 14 = .ok (.bipush (-4), 2) := by decide +kernel
theorem dX8_text_16 : decode cX8_text 16 = .ok (.ireturn, 1) := by decide +kernel
theorem dX8_text_17 : decode cX8_text 17 = .ok (.aload_n 0, 1) := by decide +kernel
theorem dX8_text_18 : decode cX8_text 18 = .ok (.invokevirtual 83, 3) := by decide +kernel
theorem dX8_text_21 : decode cX8_text 21 = .ok (.istore_n 1, 1) := by decide +kernel
theorem dX8_text_22 : decode cX8_text 22 = .ok (.aload_n 0, 1) := by decide +kernel
theorem dX8_text_23 : decode cX8_text 23 = .ok (.iconst 0, 1) := by decide +kernel
theorem dX8_text_24 : decode cX8_text 24 = .ok (.putfield 80, 3) := by decide +kernel
theorem dX8_text_27 : decode cX8_text 27 = .ok (.iload_n 1, 1) := by decide +kernel
theorem dX8_text_28 : decode cX8_text 28 = .ok (.ifCond .lt 8, 3) := by decide +kernel
theorem dX8_text_31 : decode cX8_text 31 = .ok (.bipush (-100), 2) := by decide +kernel
theorem dX8_text_33 : decode cX8_text 33 = .ok (.iload_n 1, 1) := by decide +kernel
theorem dX8_text_34 : decode cX8_text 34 = .ok (.isub, 1) := by decide +kernel
theorem dX8_text_35 : decode cX8_text 35 = .ok (.ireturn, 1) := by decide +kernel
theorem dX8_text_36 : decode cX8_text 36 = .ok (.aload_n 0, 1) := by decide +kernel
theorem dX8_text_37 : decode cX8_text 37 = .ok (.dup, 1) := by decide +kernel
theorem dX8_text_38 : decode cX8_text 38 = .ok (.getfield 87, 3) := by decide +kernel
theorem dX8_text_41 : decode cX8_text 41 = .ok (.iconst 1, 1) := by decide +kernel
theorem dX8_text_42 : decode cX8_text 42 = .ok (.iadd, 1) := by decide +kernel
theorem dX8_text_43 : decode cX8_text 43 = .ok (.putfield 87, 3) := by decide +kernel
theorem dX8_text_46 : decode cX8_text 46 = .ok (.aload_n 0, 1) := by decide +kernel
theorem dX8_text_47 : decode cX8_text 47 = .ok (.getfield 87, 3) := by decide +kernel
theorem dX8_text_50 : decode cX8_text 50 = .ok (.iconst 1, 1) := by decide +kernel
theorem dX8_text_51 : decode cX8_text 51 = .ok (.isub, 1) := by decide +kernel
theorem dX8_text_52 : decode cX8_text 52 = .ok (.ireturn, 1) := by decide +kernel
theorem dX8_force_0 : decode cX8_force 0 = .ok (.aload_n 0, 1) := by decide +kernel
theorem dX8_force_1 : decode cX8_force 1 = .ok (.iconst 0, 1) := by decide +kernel
theorem dX8_force_2 : decode cX8_force 2 = .ok (.putfield 77, 3) := by decide +kernel
theorem dX8_force_5 : decode cX8_force 5 = .ok (.iload_n 1, 1) := by decide +kernel
theorem dX8_force_6 : decode cX8_force 6 = .ok (.i2l, 1) := by decide +kernel
theorem dX8_force_7 : decode cX8_force 7 = .ok (.lconst 0, 1) := by decide +kernel
theorem dX8_force_8 : decode cX8_force 8 = .ok (.aload_n 0, 1) := by decide +kernel
theorem dX8_force_9 : decode cX8_force 9 = .ok (.getfield 87, 3) := by decide +kernel
theorem dX8_force_12 : decode cX8_force 12 = .ok (.iconst 1, 1) := by decide +kernel
theorem dX8_force_13 : decode cX8_force 13 = .ok (.isub, 1) := by decide +kernel
theorem dX8_force_14 : decode cX8_force 14 = .ok (.i2l, 1) := by decide +kernel
theorem dX8_force_15 : decode cX8_force 15 = .ok (.invokestatic 97, 3) := by decide +kernel
theorem dX8_force_18 : decode cX8_force 18 = .ok (.ifCond .ne 6, 3) := by decide +kernel
theorem dX8_force_21 : decode cX8_force 21 = .ok (.bipush (-2), 2) := by decide +kernel
theorem dX8_force_23 : decode cX8_force 23 = .ok (.ireturn, 1) := by decide +kernel
theorem dX8_force_24 : decode cX8_force 24 = .ok (.aload_n 0, 1) := by decide +kernel
theorem dX8_force_25 : decode cX8_force 25 = .ok (.getfield 189, 3) := by decide +kernel
theorem dX8_force_28 : decode cX8_force 28 = .ok (.istore_n 2, 1) := by decide +kernel
theorem dX8_force_29 : decode cX8_force 29 = .ok (.aload_n 0, 1) := by decide +kernel
theorem dX8_force_30 : decode cX8_force 30 = .ok (.iload_n 1, 1) := by decide +kernel
theorem dX8_force_31 : decode cX8_force 31 = .ok (.putfield 189, 3) := by decide +kernel
theorem dX8_force_34 : decode cX8_force 34 = .ok (.iload_n 2, 1) := by decide +kernel
theorem dX8_force_35 : decode cX8_force 35 = .ok (.ireturn, 1) := by decide +kernel
theorem dX8_tallOf_0 : decode cX8_tallOf 0 = .ok (.aload_n 0, 1) := by decide +kernel
theorem dX8_tallOf_1 : decode cX8_tallOf 1 = .ok (.getfield 16, 3) := by decide +kernel
theorem dX8_tallOf_4 : decode cX8_tallOf 4 = .ok (.iload_n 1, 1) := by decide +kernel
theorem dX8_tallOf_5 : decode cX8_tallOf 5 = .ok (.iaload, 1) := by decide +kernel
theorem dX8_tallOf_6 : decode cX8_tallOf 6 = .ok (.istore_n 3, 1) := by decide +kernel
theorem dX8_tallOf_7 : decode cX8_tallOf 7 = .ok (.aload_n 0, 1) := by decide +kernel
theorem dX8_tallOf_8 : decode cX8_tallOf 8 = .ok (.getfield 19, 3) := by decide +kernel
theorem dX8_tallOf_11 : decode cX8_tallOf 11 = .ok (.iload_n 1, 1) := by decide +kernel
theorem dX8_tallOf_12 : decode cX8_tallOf 12 = .ok (.iaload, 1) := by decide +kernel
theorem dX8_tallOf_13 : decode cX8_tallOf 13 = .ok (.istore 4, 2) := by decide +kernel
theorem dX8_tallOf_15 : decode cX8_tallOf 15 = .ok (.iload_n 3, 1) := by decide +kernel
theorem dX8_tallOf_16 : decode cX8_tallOf 16 = .ok (.iload 4, 2) := by decide +kernel
theorem dX8_tallOf_18 : decode cX8_tallOf 18 = .ok (.iadd, 1) := by decide +kernel
theorem dX8_tallOf_19 : decode cX8_tallOf 19 = .ok (.iload_n 2, 1) := by decide +kernel
theorem dX8_tallOf_20 : decode cX8_tallOf 20 = .ok (.iconst 2, 1) := by decide +kernel
theorem dX8_tallOf_21 : decode cX8_tallOf 21 = .ok (.idiv, 1) := by decide +kernel
theorem dX8_tallOf_22 : decode cX8_tallOf 22 = .ok (.isub, 1) := by decide +kernel
theorem dX8_tallOf_23 : decode cX8_tallOf 23 = .ok (.istore 5, 2) := by decide +kernel
theorem dX8_tallOf_25 : decode cX8_tallOf 25 = .ok (.aload_n 0, 1) := by decide +kernel
theorem dX8_tallOf_26 : decode cX8_tallOf 26 = .ok (.getfield 13, 3) := by decide +kernel
theorem dX8_tallOf_29 : decode cX8_tallOf 29 = .ok (.iload_n 1, 1) := by decide +kernel
theorem dX8_tallOf_30 : decode cX8_tallOf 30 = .ok (.iaload, 1) := by decide +kernel
theorem dX8_tallOf_31 : decode cX8_tallOf 31 = .ok (.tableswitch 79 1 5 #[33, 39, 49, 57, 69], 33) := by decide +kernel
theorem dX8_tallOf_64 : decode cX8_tallOf 64 = .ok (.iload 5, 2) := by decide +kernel
theorem dX8_tallOf_66 : decode cX8_tallOf 66 = .ok (.istore_n 3, 1) := by decide +kernel
theorem dX8_tallOf_67 : decode cX8_tallOf 67 = .ok (.goto 43, 3) := by decide +kernel
theorem dX8_tallOf_70 : decode cX8_tallOf 70 = .ok (.iload_n 3, 1) := by decide +kernel
theorem dX8_tallOf_71 : decode cX8_tallOf 71 = .ok (.iconst 3, 1) := by decide +kernel
theorem dX8_tallOf_72 : decode cX8_tallOf 72 = .ok (.iload 4, 2) := by decide +kernel
theorem dX8_tallOf_74 : decode cX8_tallOf 74 = .ok (.imul, 1) := by decide +kernel
theorem dX8_tallOf_75 : decode cX8_tallOf 75 = .ok (.iadd, 1) := by decide +kernel
theorem dX8_tallOf_76 : decode cX8_tallOf 76 = .ok (.istore_n 3, 1) := by decide +kernel
theorem dX8_tallOf_77 : decode cX8_tallOf 77 = .ok (.goto 33, 3) := by decide +kernel
theorem dX8_tallOf_80 : decode cX8_tallOf 80 = .ok (.iload 5, 2) := by decide +kernel
theorem dX8_tallOf_82 : decode cX8_tallOf 82 = .ok (.iconst 2, 1) := by decide +kernel
theorem dX8_tallOf_83 : decode cX8_tallOf 83 = .ok (.idiv, 1) := by decide +kernel
theorem dX8_tallOf_84 : decode cX8_tallOf 84 = .ok (.istore_n 3, 1) := by decide +kernel
theorem dX8_tallOf_85 : decode cX8_tallOf 85 = .ok (.goto 25, 3) := by decide +kernel
theorem dX8_tallOf_88 : decode cX8_tallOf 88 = .ok (.iload_n 3, 1) := by decide +kernel
theorem dX8_tallOf_89 : decode cX8_tallOf 89 = .ok (.iconst 3, 1) := by decide +kernel
theorem dX8_tallOf_90 : decode cX8_tallOf 90 = .ok (.iload 4, 2) := by decide +kernel
theorem dX8_tallOf_92 : decode cX8_tallOf 92 = .ok (.imul, 1) := by decide +kernel
theorem dX8_tallOf_93 : decode cX8_tallOf 93 = .ok (.iconst 2, 1) := by decide +kernel
theorem dX8_tallOf_94 : decode cX8_tallOf 94 = .ok (.iadd, 1) := by decide +kernel
theorem dX8_tallOf_95 : decode cX8_tallOf 95 = .ok (.iadd, 1) := by decide +kernel
theorem dX8_tallOf_96 : decode cX8_tallOf 96 = .ok (.istore_n 3, 1) := by decide +kernel
theorem dX8_tallOf_97 : decode cX8_tallOf 97 = .ok (.goto 13, 3) := by decide +kernel
theorem dX8_tallOf_100 : decode cX8_tallOf 100 = .ok (.iload_n 3, 1) := by decide +kernel
theorem dX8_tallOf_101 : decode cX8_tallOf 101 = .ok (.iload_n 2, 1) := by decide +kernel
theorem dX8_tallOf_102 : decode cX8_tallOf 102 = .ok (.iload 4, 2) := by decide +kernel
theorem dX8_tallOf_104 : decode cX8_tallOf 104 = .ok (.imul, 1) := by decide +kernel
theorem dX8_tallOf_105 : decode cX8_tallOf 105 = .ok (.isub, 1) := by decide +kernel
theorem dX8_tallOf_106 : decode cX8_tallOf 106 = .ok (.istore_n 3, 1) := by decide +kernel
theorem dX8_tallOf_107 : decode cX8_tallOf 107 = .ok (.goto 3, 3) := by decide +kernel
theorem dX8_tallOf_110 : decode cX8_tallOf 110 = .ok (.iload_n 3, 1) := by decide +kernel
theorem dX8_tallOf_111 : decode cX8_tallOf 111 = .ok (.ifCond .ge 7, 3) := by decide +kernel
theorem dX8_tallOf_114 : decode cX8_tallOf 114 = .ok (.iconst 0, 1) := by decide +kernel
theorem dX8_tallOf_115 : decode cX8_tallOf 115 = .ok (.goto 4, 3) := by decide +kernel
theorem dX8_tallOf_118 : decode cX8_tallOf 118 = .ok (.iload_n 3, 1) := by decide +kernel
theorem dX8_tallOf_119 : decode cX8_tallOf 119 = .ok (.ireturn, 1) := by decide +kernel
theorem dX8_givesOf_0 : decode cX8_givesOf 0 = .ok (.aload_n 0, 1) := by decide +kernel
theorem dX8_givesOf_1 : decode cX8_givesOf 1 = .ok (.getfield 19, 3) := by decide +kernel
theorem dX8_givesOf_4 : decode cX8_givesOf 4 = .ok (.iload_n 1, 1) := by decide +kernel
theorem dX8_givesOf_5 : decode cX8_givesOf 5 = .ok (.iaload, 1) := by decide +kernel
theorem dX8_givesOf_6 : decode cX8_givesOf 6 = .ok (.istore_n 3, 1) := by decide +kernel
theorem dX8_givesOf_7 : decode cX8_givesOf 7 = .ok (.iload_n 2, 1) := by decide +kernel
theorem dX8_givesOf_8 : decode cX8_givesOf 8 = .ok (.iconst 2, 1) := by decide +kernel
theorem dX8_givesOf_9 : decode cX8_givesOf 9 = .ok (.idiv, 1) := by decide +kernel
theorem dX8_givesOf_10 : decode cX8_givesOf 10 = .ok (.iload_n 3, 1) := by decide +kernel
theorem dX8_givesOf_11 : decode cX8_givesOf 11 = .ok (.if_icmp .ge 9, 3) := by decide +kernel
theorem dX8_givesOf_14 : decode cX8_givesOf 14 = .ok (.iload_n 2, 1) := by decide +kernel
theorem dX8_givesOf_15 : decode cX8_givesOf 15 = .ok (.iconst 2, 1) := by decide +kernel
theorem dX8_givesOf_16 : decode cX8_givesOf 16 = .ok (.idiv, 1) := by decide +kernel
theorem dX8_givesOf_17 : decode cX8_givesOf 17 = .ok (.goto 4, 3) := by decide +kernel
theorem dX8_givesOf_20 : decode cX8_givesOf 20 = .ok (.iload_n 3, 1) := by decide +kernel
theorem dX8_givesOf_21 : decode cX8_givesOf 21 = .ok (.istore 4, 2) := by decide +kernel
theorem dX8_givesOf_23 : decode cX8_givesOf 23 = .ok (.aload_n 0, 1) := by decide +kernel
theorem dX8_givesOf_24 : decode cX8_givesOf 24 = .ok (.getfield 13, 3) := by decide +kernel
theorem dX8_givesOf_27 : decode cX8_givesOf 27 = .ok (.iload_n 1, 1) := by decide +kernel
theorem dX8_givesOf_28 : decode cX8_givesOf 28 = .ok (.iaload, 1) := by decide +kernel
theorem dX8_givesOf_29 : decode cX8_givesOf 29 = .ok (.istore 5, 2) := by decide +kernel
theorem dX8_givesOf_31 : decode cX8_givesOf 31 = .ok (.iload 5, 2) := by decide +kernel
theorem dX8_givesOf_33 : decode cX8_givesOf 33 = .ok (.iconst 1, 1) := by decide +kernel
theorem dX8_givesOf_34 : decode cX8_givesOf 34 = .ok (.if_icmp .ne 8, 3) := by decide +kernel
theorem dX8_givesOf_37 : decode cX8_givesOf 37 = .ok (.iload 4, 2) := by decide +kernel
theorem dX8_givesOf_39 : decode cX8_givesOf 39 = .ok (.goto 36, 3) := by decide +kernel
theorem dX8_givesOf_42 : decode cX8_givesOf 42 = .ok (.iload 5, 2) := by decide +kernel
theorem dX8_givesOf_44 : decode cX8_givesOf 44 = .ok (.iconst 3, 1) := by decide +kernel
theorem dX8_givesOf_45 : decode cX8_givesOf 45 = .ok (.if_icmp .ne 10, 3) := by decide +kernel
theorem dX8_givesOf_48 : decode cX8_givesOf 48 = .ok (.iload 4, 2) := by decide +kernel
theorem dX8_givesOf_50 : decode cX8_givesOf 50 = .ok (.iconst 1, 1) := by decide +kernel
theorem dX8_givesOf_51 : decode cX8_givesOf 51 = .ok (.iadd, 1) := by decide +kernel
theorem dX8_givesOf_52 : decode cX8_givesOf 52 = .ok (.goto 23, 3) := by decide +kernel
theorem dX8_givesOf_55 : decode cX8_givesOf 55 = .ok (.iload 5, 2) := by decide +kernel
theorem dX8_givesOf_57 : decode cX8_givesOf 57 = .ok (.iconst 5, 1) := by decide +kernel
theorem dX8_givesOf_58 : decode cX8_givesOf 58 = .ok (.if_icmp .ne 16, 3) := by decide +kernel
theorem dX8_givesOf_61 : decode cX8_givesOf 61 = .ok (.iload_n 2, 1) := by decide +kernel
theorem dX8_givesOf_62 : decode cX8_givesOf 62 = .ok (.iload_n 3, 1) := by decide +kernel
theorem dX8_givesOf_63 : decode cX8_givesOf 63 = .ok (.if_icmp .ge 7, 3) := by decide +kernel
theorem dX8_givesOf_66 : decode cX8_givesOf 66 = .ok (.iload_n 2, 1) := by decide +kernel
theorem dX8_givesOf_67 : decode cX8_givesOf 67 = .ok (.goto 8, 3) := by decide +kernel
theorem dX8_givesOf_70 : decode cX8_givesOf 70 = .ok (.iload_n 3, 1) := by decide +kernel
theorem dX8_givesOf_71 : decode cX8_givesOf 71 = .ok (.goto 4, 3) := by decide +kernel
theorem dX8_givesOf_74 : decode cX8_givesOf 74 = .ok (.iconst 0, 1) := by decide +kernel
theorem dX8_givesOf_75 : decode cX8_givesOf 75 = .ok (.ireturn, 1) := by decide +kernel
theorem dX8_cellOf_0 : decode cX8_cellOf 0 = .ok (.iload_n 3, 1) := by decide +kernel
theorem dX8_cellOf_1 : decode cX8_cellOf 1 = .ok (.iconst 2, 1) := by decide +kernel
theorem dX8_cellOf_2 : decode cX8_cellOf 2 = .ok (.iload_n 1, 1) := by decide +kernel
theorem dX8_cellOf_3 : decode cX8_cellOf 3 = .ok (.imul, 1) := by decide +kernel
theorem dX8_cellOf_4 : decode cX8_cellOf 4 = .ok (.iadd, 1) := by decide +kernel
theorem dX8_cellOf_5 : decode cX8_cellOf 5 = .ok (.bipush 8, 2) := by decide +kernel
theorem dX8_cellOf_7 : decode cX8_cellOf 7 = .ok (.irem, 1) := by decide +kernel
theorem dX8_cellOf_8 : decode cX8_cellOf 8 = .ok (.istore 4, 2) := by decide +kernel
theorem dX8_cellOf_10 : decode cX8_cellOf 10 = .ok (.iload 4, 2) := by decide +kernel
theorem dX8_cellOf_12 : decode cX8_cellOf 12 = .ok (.iconst 2, 1) := by decide +kernel
theorem dX8_cellOf_13 : decode cX8_cellOf 13 = .ok (.if_icmp .lt 10, 3) := by decide +kernel
theorem dX8_cellOf_16 : decode cX8_cellOf 16 = .ok (.iload 4, 2) := by decide +kernel
theorem dX8_cellOf_18 : decode cX8_cellOf 18 = .ok (.bipush 7, 2) := by decide +kernel
theorem dX8_cellOf_20 : decode cX8_cellOf 20 = .ok (.if_icmp .ne 7, 3) := by decide +kernel
theorem dX8_cellOf_23 : decode cX8_cellOf 23 = .ok (.iconst 1, 1) := by decide +kernel
theorem dX8_cellOf_24 : decode cX8_cellOf 24 = .ok (.goto 21, 3) := by decide +kernel
theorem dX8_cellOf_27 : decode cX8_cellOf 27 = .ok (.iload 4, 2) := by decide +kernel
theorem dX8_cellOf_29 : decode cX8_cellOf 29 = .ok (.iconst 2, 1) := by decide +kernel
theorem dX8_cellOf_30 : decode cX8_cellOf 30 = .ok (.if_icmp .le 14, 3) := by decide +kernel
theorem dX8_cellOf_33 : decode cX8_cellOf 33 = .ok (.iload 4, 2) := by decide +kernel
theorem dX8_cellOf_35 : decode cX8_cellOf 35 = .ok (.bipush 6, 2) := by decide +kernel
theorem dX8_cellOf_37 : decode cX8_cellOf 37 = .ok (.if_icmp .ge 7, 3) := by decide +kernel
theorem dX8_cellOf_40 : decode cX8_cellOf 40 = .ok (.iconst (-1), 1) := by decide +kernel
theorem dX8_cellOf_41 : decode cX8_cellOf 41 = .ok (.goto 4, 3) := by decide +kernel
theorem dX8_cellOf_44 : decode cX8_cellOf 44 = .ok (.iconst 0, 1) := by decide +kernel
theorem dX8_cellOf_45 : decode cX8_cellOf 45 = .ok (.istore 5, 2) := by decide +kernel
theorem dX8_cellOf_47 : decode cX8_cellOf 47 = .ok (.iload 4, 2) := by decide +kernel
theorem dX8_cellOf_49 : decode cX8_cellOf 49 = .ok (.ifCond .le 13, 3) := by decide +kernel
theorem dX8_cellOf_52 : decode cX8_cellOf 52 = .ok (.iload 4, 2) := by decide +kernel
theorem dX8_cellOf_54 : decode cX8_cellOf 54 = .ok (.iconst 4, 1) := by decide +kernel
theorem dX8_cellOf_55 : decode cX8_cellOf 55 = .ok (.if_icmp .ge 7, 3) := by decide +kernel
theorem dX8_cellOf_58 : decode cX8_cellOf 58 = .ok (.iconst 1, 1) := by decide +kernel
theorem dX8_cellOf_59 : decode cX8_cellOf 59 = .ok (.goto 14, 3) := by decide +kernel
theorem dX8_cellOf_62 : decode cX8_cellOf 62 = .ok (.iload 4, 2) := by decide +kernel
theorem dX8_cellOf_64 : decode cX8_cellOf 64 = .ok (.iconst 4, 1) := by decide +kernel
theorem dX8_cellOf_65 : decode cX8_cellOf 65 = .ok (.if_icmp .le 7, 3) := by decide +kernel
theorem dX8_cellOf_68 : decode cX8_cellOf 68 = .ok (.iconst (-1), 1) := by decide +kernel
theorem dX8_cellOf_69 : decode cX8_cellOf 69 = .ok (.goto 4, 3) := by decide +kernel
theorem dX8_cellOf_72 : decode cX8_cellOf 72 = .ok (.iconst 0, 1) := by decide +kernel
theorem dX8_cellOf_73 : decode cX8_cellOf 73 = .ok (.istore 6, 2) := by decide +kernel
theorem dX8_cellOf_75 : decode cX8_cellOf 75 = .ok (.bipush 8, 2) := by decide +kernel
theorem dX8_cellOf_77 : decode cX8_cellOf 77 = .ok (.iload_n 2, 1) := by decide +kernel
theorem dX8_cellOf_78 : decode cX8_cellOf 78 = .ok (.bipush 8, 2) := by decide +kernel
theorem dX8_cellOf_80 : decode cX8_cellOf 80 = .ok (.idiv, 1) := by decide +kernel
theorem dX8_cellOf_81 : decode cX8_cellOf 81 = .ok (.aload_n 0, 1) := by decide +kernel
theorem dX8_cellOf_82 : decode cX8_cellOf 82 = .ok (.getfield 26, 3) := by decide +kernel
theorem dX8_cellOf_85 : decode cX8_cellOf 85 = .ok (.iload 6, 2) := by decide +kernel
theorem dX8_cellOf_87 : decode cX8_cellOf 87 = .ok (.imul, 1) := by decide +kernel
theorem dX8_cellOf_88 : decode cX8_cellOf 88 = .ok (.iadd, 1) := by decide +kernel
theorem dX8_cellOf_89 : decode cX8_cellOf 89 = .ok (.iconst 0, 1) := by decide +kernel
theorem dX8_cellOf_90 : decode cX8_cellOf 90 = .ok (.bipush 7, 2) := by decide +kernel
theorem dX8_cellOf_92 : decode cX8_cellOf 92 = .ok (.invokestatic 198, 3) := by decide +kernel
theorem dX8_cellOf_95 : decode cX8_cellOf 95 = .ok (.imul, 1) := by decide +kernel
theorem dX8_cellOf_96 : decode cX8_cellOf 96 = .ok (.iload_n 2, 1) := by decide +kernel
theorem dX8_cellOf_97 : decode cX8_cellOf 97 = .ok (.bipush 8, 2) := by decide +kernel
theorem dX8_cellOf_99 : decode cX8_cellOf 99 = .ok (.irem, 1) := by decide +kernel
theorem dX8_cellOf_100 : decode cX8_cellOf 100 = .ok (.aload_n 0, 1) := by decide +kernel
theorem dX8_cellOf_101 : decode cX8_cellOf 101 = .ok (.getfield 26, 3) := by decide +kernel
theorem dX8_cellOf_104 : decode cX8_cellOf 104 = .ok (.iload 5, 2) := by decide +kernel
theorem dX8_cellOf_106 : decode cX8_cellOf 106 = .ok (.imul, 1) := by decide +kernel
theorem dX8_cellOf_107 : decode cX8_cellOf 107 = .ok (.iadd, 1) := by decide +kernel
theorem dX8_cellOf_108 : decode cX8_cellOf 108 = .ok (.iconst 0, 1) := by decide +kernel
theorem dX8_cellOf_109 : decode cX8_cellOf 109 = .ok (.bipush 7, 2) := by decide +kernel
theorem dX8_cellOf_111 : decode cX8_cellOf 111 = .ok (.invokestatic 198, 3) := by decide +kernel
theorem dX8_cellOf_114 : decode cX8_cellOf 114 = .ok (.iadd, 1) := by decide +kernel
theorem dX8_cellOf_115 : decode cX8_cellOf 115 = .ok (.ireturn, 1) := by decide +kernel
theorem dX8_find_0 : decode cX8_find 0 = .ok (.iconst 0, 1) := by decide +kernel
theorem dX8_find_1 : decode cX8_find 1 = .ok (.istore_n 3, 1) := by decide +kernel
theorem dX8_find_2 : decode cX8_find 2 = .ok (.iload_n 3, 1) := by decide +kernel
theorem dX8_find_3 : decode cX8_find 3 = .ok (.iconst 4, 1) := by decide +kernel
theorem dX8_find_4 : decode cX8_find 4 = .ok (.if_icmp .ge 37, 3) := by decide +kernel
theorem dX8_find_7 : decode cX8_find 7 = .ok (.aload_n 0, 1) := by decide +kernel
theorem dX8_find_8 : decode cX8_find 8 = .ok (.getfield 56, 3) := by decide +kernel
theorem dX8_find_11 : decode cX8_find 11 = .ok (.iload_n 3, 1) := by decide +kernel
theorem dX8_find_12 : decode cX8_find 12 = .ok (.aload_n 0, 1) := by decide +kernel
theorem dX8_find_13 : decode cX8_find 13 = .ok (.getfield 7, 3) := by decide +kernel
theorem dX8_find_16 : decode cX8_find 16 = .ok (.aload_n 0, 1) := by decide +kernel
theorem dX8_find_17 : decode cX8_find 17 = .ok (.iload_n 3, 1) := by decide +kernel
theorem dX8_find_18 : decode cX8_find 18 = .ok (.iload_n 1, 1) := by decide +kernel
theorem dX8_find_19 : decode cX8_find 19 = .ok (.iload_n 2, 1) := by decide +kernel
theorem dX8_find_20 : decode cX8_find 20 = .ok (.invokevirtual 201, 3) := by decide +kernel
theorem dX8_find_23 : decode cX8_find 23 = .ok (.iaload, 1) := by decide +kernel
theorem dX8_find_24 : decode cX8_find 24 = .ok (.aload_n 0, 1) := by decide +kernel
theorem dX8_find_25 : decode cX8_find 25 = .ok (.iload_n 3, 1) := by decide +kernel
theorem dX8_find_26 : decode cX8_find 26 = .ok (.aload_n 0, 1) := by decide +kernel
theorem dX8_find_27 : decode cX8_find 27 = .ok (.getfield 204, 3) := by decide +kernel
theorem dX8_find_30 : decode cX8_find 30 = .ok (.invokevirtual 207, 3) := by decide +kernel
theorem dX8_find_33 : decode cX8_find 33 = .ok (.iadd, 1) := by decide +kernel
theorem dX8_find_34 : decode cX8_find 34 = .ok (.iastore, 1) := by decide +kernel
theorem dX8_find_35 : decode cX8_find 35 = .ok (.iinc 3 1, 3) := by decide +kernel
theorem dX8_find_38 : decode cX8_find 38 = .ok (.goto (-36), 3) := by decide +kernel
theorem dX8_find_41 : decode cX8_find 41 = .ok (.aload_n 0, 1) := by decide +kernel
theorem dX8_find_42 : decode cX8_find 42 = .ok (.aload_n 0, 1) := by decide +kernel
theorem dX8_find_43 : decode cX8_find 43 = .ok (.getfield 56, 3) := by decide +kernel
theorem dX8_find_46 : decode cX8_find 46 = .ok (.iconst 0, 1) := by decide +kernel
theorem dX8_find_47 : decode cX8_find 47 = .ok (.iaload, 1) := by decide +kernel
theorem dX8_find_48 : decode cX8_find 48 = .ok (.aload_n 0, 1) := by decide +kernel
theorem dX8_find_49 : decode cX8_find 49 = .ok (.getfield 56, 3) := by decide +kernel
theorem dX8_find_52 : decode cX8_find 52 = .ok (.iconst 2, 1) := by decide +kernel
theorem dX8_find_53 : decode cX8_find 53 = .ok (.iaload, 1) := by decide +kernel
theorem dX8_find_54 : decode cX8_find 54 = .ok (.iadd, 1) := by decide +kernel
theorem dX8_find_55 : decode cX8_find 55 = .ok (.aload_n 0, 1) := by decide +kernel
theorem dX8_find_56 : decode cX8_find 56 = .ok (.getfield 56, 3) := by decide +kernel
theorem dX8_find_59 : decode cX8_find 59 = .ok (.iconst 1, 1) := by decide +kernel
theorem dX8_find_60 : decode cX8_find 60 = .ok (.iaload, 1) := by decide +kernel
theorem dX8_find_61 : decode cX8_find 61 = .ok (.isub, 1) := by decide +kernel
theorem dX8_find_62 : decode cX8_find 62 = .ok (.aload_n 0, 1) := by decide +kernel
theorem dX8_find_63 : decode cX8_find 63 = .ok (.getfield 56, 3) := by decide +kernel
theorem dX8_find_66 : decode cX8_find 66 = .ok (.iconst 3, 1) := by decide +kernel
theorem dX8_find_67 : decode cX8_find 67 = .ok (.iaload, 1) := by decide +kernel
theorem dX8_find_68 : decode cX8_find 68 = .ok (.isub, 1) := by decide +kernel
theorem dX8_find_69 : decode cX8_find 69 = .ok (.putfield 211, 3) := by decide +kernel
theorem dX8_find_72 : decode cX8_find 72 = .ok (.aload_n 0, 1) := by decide +kernel
theorem dX8_find_73 : decode cX8_find 73 = .ok (.aload_n 0, 1) := by decide +kernel
theorem dX8_find_74 : decode cX8_find 74 = .ok (.getfield 211, 3) := by decide +kernel
theorem dX8_find_77 : decode cX8_find 77 = .ok (.ifCond .ge 11, 3) := by decide +kernel
theorem dX8_find_80 : decode cX8_find 80 = .ok (.aload_n 0, 1) := by decide +kernel
theorem dX8_find_81 : decode cX8_find 81 = .ok (.getfield 211, 3) := by decide +kernel
theorem dX8_find_84 : decode cX8_find 84 = .ok (.ineg, 1) := by decide +kernel
theorem dX8_find_85 : decode cX8_find 85 = .ok (.goto 7, 3) := by decide +kernel
theorem dX8_find_88 : decode cX8_find 88 = .ok (.aload_n 0, 1) := by decide +kernel
theorem dX8_find_89 : decode cX8_find 89 = .ok (.getfield 211, 3) := by decide +kernel
theorem dX8_find_92 : decode cX8_find 92 = .ok (.putfield 214, 3) := by decide +kernel
theorem dX8_find_95 : decode cX8_find 95 = .ok (.aload_n 0, 1) := by decide +kernel
theorem dX8_find_96 : decode cX8_find 96 = .ok (.aload_n 0, 1) := by decide +kernel
theorem dX8_find_97 : decode cX8_find 97 = .ok (.getfield 211, 3) := by decide +kernel
theorem dX8_find_100 : decode cX8_find 100 = .ok (.ifCond .ge 7, 3) := by decide +kernel
theorem dX8_find_103 : decode cX8_find 103 = .ok (.iconst 1, 1) := by decide +kernel
theorem dX8_find_104 : decode cX8_find 104 = .ok (.goto 4, 3) := by decide +kernel
theorem dX8_find_107 : decode cX8_find 107 = .ok (.iconst 0, 1) := by decide +kernel
theorem dX8_find_108 : decode cX8_find 108 = .ok (.putfield 217, 3) := by decide +kernel
theorem dX8_find_111 : decode cX8_find 111 = .ok (.aload_n 0, 1) := by decide +kernel
theorem dX8_find_112 : decode cX8_find 112 = .ok (.iconst 1, 1) := by decide +kernel
theorem dX8_find_113 : decode cX8_find 113 = .ok (.aload_n 0, 1) := by decide +kernel
theorem dX8_find_114 : decode cX8_find 114 = .ok (.getfield 217, 3) := by decide +kernel
theorem dX8_find_117 : decode cX8_find 117 = .ok (.isub, 1) := by decide +kernel
theorem dX8_find_118 : decode cX8_find 118 = .ok (.putfield 220, 3) := by decide +kernel
theorem dX8_find_121 : decode cX8_find 121 = .ok (.aload_n 0, 1) := by decide +kernel
theorem dX8_find_122 : decode cX8_find 122 = .ok (.getfield 211, 3) := by decide +kernel
theorem dX8_find_125 : decode cX8_find 125 = .ok (.ifCond .ne 7, 3) := by decide +kernel
theorem dX8_find_128 : decode cX8_find 128 = .ok (.iconst 0, 1) := by decide +kernel
theorem dX8_find_129 : decode cX8_find 129 = .ok (.goto 30, 3) := by decide +kernel
theorem dX8_find_132 : decode cX8_find 132 = .ok (.aload_n 0, 1) := by decide +kernel
theorem dX8_find_133 : decode cX8_find 133 = .ok (.aload_n 0, 1) := by decide +kernel
theorem dX8_find_134 : decode cX8_find 134 = .ok (.getfield 220, 3) := by decide +kernel
theorem dX8_find_137 : decode cX8_find 137 = .ok (.aload_n 0, 1) := by decide +kernel
theorem dX8_find_138 : decode cX8_find 138 = .ok (.getfield 214, 3) := by decide +kernel
theorem dX8_find_141 : decode cX8_find 141 = .ok (.invokevirtual 223, 3) := by decide +kernel
theorem dX8_find_144 : decode cX8_find 144 = .ok (.aload_n 0, 1) := by decide +kernel
theorem dX8_find_145 : decode cX8_find 145 = .ok (.aload_n 0, 1) := by decide +kernel
theorem dX8_find_146 : decode cX8_find 146 = .ok (.getfield 220, 3) := by decide +kernel
theorem dX8_find_149 : decode cX8_find 149 = .ok (.iconst 2, 1) := by decide +kernel
theorem dX8_find_150 : decode cX8_find 150 = .ok (.iadd, 1) := by decide +kernel
theorem dX8_find_151 : decode cX8_find 151 = .ok (.aload_n 0, 1) := by decide +kernel
theorem dX8_find_152 : decode cX8_find 152 = .ok (.getfield 214, 3) := by decide +kernel
theorem dX8_find_155 : decode cX8_find 155 = .ok (.invokevirtual 223, 3) := by decide +kernel
theorem dX8_find_158 : decode cX8_find 158 = .ok (.iadd, 1) := by decide +kernel
theorem dX8_find_159 : decode cX8_find 159 = .ok (.istore_n 3, 1) := by decide +kernel
theorem dX8_find_160 : decode cX8_find 160 = .ok (.aload_n 0, 1) := by decide +kernel
theorem dX8_find_161 : decode cX8_find 161 = .ok (.getfield 50, 3) := by decide +kernel
theorem dX8_find_164 : decode cX8_find 164 = .ok (.iconst 0, 1) := by decide +kernel
theorem dX8_find_165 : decode cX8_find 165 = .ok (.aload_n 0, 1) := by decide +kernel
theorem dX8_find_166 : decode cX8_find 166 = .ok (.getfield 214, 3) := by decide +kernel
theorem dX8_find_169 : decode cX8_find 169 = .ok (.iastore, 1) := by decide +kernel
theorem dX8_find_170 : decode cX8_find 170 = .ok (.aload_n 0, 1) := by decide +kernel
theorem dX8_find_171 : decode cX8_find 171 = .ok (.getfield 50, 3) := by decide +kernel
theorem dX8_find_174 : decode cX8_find 174 = .ok (.iconst 1, 1) := by decide +kernel
theorem dX8_find_175 : decode cX8_find 175 = .ok (.iconst 0, 1) := by decide +kernel
theorem dX8_find_176 : decode cX8_find 176 = .ok (.iastore, 1) := by decide +kernel
theorem dX8_find_177 : decode cX8_find 177 = .ok (.aload_n 0, 1) := by decide +kernel
theorem dX8_find_178 : decode cX8_find 178 = .ok (.getfield 50, 3) := by decide +kernel
theorem dX8_find_181 : decode cX8_find 181 = .ok (.iconst 2, 1) := by decide +kernel
theorem dX8_find_182 : decode cX8_find 182 = .ok (.iload_n 2, 1) := by decide +kernel
theorem dX8_find_183 : decode cX8_find 183 = .ok (.iastore, 1) := by decide +kernel
theorem dX8_find_184 : decode cX8_find 184 = .ok (.aload_n 0, 1) := by decide +kernel
theorem dX8_find_185 : decode cX8_find 185 = .ok (.getfield 50, 3) := by decide +kernel
theorem dX8_find_188 : decode cX8_find 188 = .ok (.iconst 3, 1) := by decide +kernel
theorem dX8_find_189 : decode cX8_find 189 = .ok (.iload_n 1, 1) := by decide +kernel
theorem dX8_find_190 : decode cX8_find 190 = .ok (.bipush 8, 2) := by decide +kernel
theorem dX8_find_192 : decode cX8_find 192 = .ok (.idiv, 1) := by decide +kernel
theorem dX8_find_193 : decode cX8_find 193 = .ok (.iastore, 1) := by decide +kernel
theorem dX8_find_194 : decode cX8_find 194 = .ok (.aload_n 0, 1) := by decide +kernel
theorem dX8_find_195 : decode cX8_find 195 = .ok (.getfield 50, 3) := by decide +kernel
theorem dX8_find_198 : decode cX8_find 198 = .ok (.iconst 4, 1) := by decide +kernel
theorem dX8_find_199 : decode cX8_find 199 = .ok (.iload_n 1, 1) := by decide +kernel
theorem dX8_find_200 : decode cX8_find 200 = .ok (.bipush 8, 2) := by decide +kernel
theorem dX8_find_202 : decode cX8_find 202 = .ok (.irem, 1) := by decide +kernel
theorem dX8_find_203 : decode cX8_find 203 = .ok (.iastore, 1) := by decide +kernel
theorem dX8_find_204 : decode cX8_find 204 = .ok (.aload_n 0, 1) := by decide +kernel
theorem dX8_find_205 : decode cX8_find 205 = .ok (.getfield 50, 3) := by decide +kernel
theorem dX8_find_208 : decode cX8_find 208 = .ok (.iconst 5, 1) := by decide +kernel
theorem dX8_find_209 : decode cX8_find 209 = .ok (.iload_n 3, 1) := by decide +kernel
theorem dX8_find_210 : decode cX8_find 210 = .ok (.iastore, 1) := by decide +kernel
theorem dX8_find_211 : decode cX8_find 211 = .ok (.aload_n 0, 1) := by decide +kernel
theorem dX8_find_212 : decode cX8_find 212 = .ok (.iconst 0, 1) := by decide +kernel
theorem dX8_find_213 : decode cX8_find 213 = .ok (.invokevirtual 226, 3) := by decide +kernel
theorem dX8_find_216 : decode cX8_find 216 = .ok (.iconst 0, 1) := by decide +kernel
theorem dX8_find_217 : decode cX8_find 217 = .ok (.bipush 9, 2) := by decide +kernel
theorem dX8_find_219 : decode cX8_find 219 = .ok (.invokestatic 198, 3) := by decide +kernel
theorem dX8_find_222 : decode cX8_find 222 = .ok (.istore 4, 2) := by decide +kernel
theorem dX8_find_224 : decode cX8_find 224 = .ok (.aload_n 0, 1) := by decide +kernel
theorem dX8_find_225 : decode cX8_find 225 = .ok (.aload_n 0, 1) := by decide +kernel
theorem dX8_find_226 : decode cX8_find 226 = .ok (.getfield 214, 3) := by decide +kernel
theorem dX8_find_229 : decode cX8_find 229 = .ok (.iload 4, 2) := by decide +kernel
theorem dX8_find_231 : decode cX8_find 231 = .ok (.if_icmp .le 11, 3) := by decide +kernel
theorem dX8_find_234 : decode cX8_find 234 = .ok (.aload_n 0, 1) := by decide +kernel
theorem dX8_find_235 : decode cX8_find 235 = .ok (.getfield 214, 3) := by decide +kernel
theorem dX8_find_238 : decode cX8_find 238 = .ok (.iload_n 3, 1) := by decide +kernel
theorem dX8_find_239 : decode cX8_find 239 = .ok (.if_icmp .ge 7, 3) := by decide +kernel
theorem dX8_find_242 : decode cX8_find 242 = .ok (.iconst 0, 1) := by decide +kernel
theorem dX8_find_243 : decode cX8_find 243 = .ok (.goto 9, 3) := by decide +kernel
theorem dX8_find_246 : decode cX8_find 246 = .ok (.aload_n 0, 1) := by decide +kernel
theorem dX8_find_247 : decode cX8_find 247 = .ok (.getfield 214, 3) := by decide +kernel
theorem dX8_find_250 : decode cX8_find 250 = .ok (.iload_n 3, 1) := by decide +kernel
theorem dX8_find_251 : decode cX8_find 251 = .ok (.isub, 1) := by decide +kernel
theorem dX8_find_252 : decode cX8_find 252 = .ok (.putfield 229, 3) := by decide +kernel
theorem dX8_find_255 : decode cX8_find 255 = .ok (.aload_n 0, 1) := by decide +kernel
theorem dX8_find_256 : decode cX8_find 256 = .ok (.invokevirtual 232, 3) := by decide +kernel
theorem dX8_find_259 : decode cX8_find 259 = .ok (.aload_n 0, 1) := by decide +kernel
theorem dX8_find_260 : decode cX8_find 260 = .ok (.getfield 50, 3) := by decide +kernel
theorem dX8_find_263 : decode cX8_find 263 = .ok (.iconst 0, 1) := by decide +kernel
theorem dX8_find_264 : decode cX8_find 264 = .ok (.aload_n 0, 1) := by decide +kernel
theorem dX8_find_265 : decode cX8_find 265 = .ok (.getfield 229, 3) := by decide +kernel
theorem dX8_find_268 : decode cX8_find 268 = .ok (.iastore, 1) := by decide +kernel
theorem dX8_find_269 : decode cX8_find 269 = .ok (.aload_n 0, 1) := by decide +kernel
theorem dX8_find_270 : decode cX8_find 270 = .ok (.getfield 50, 3) := by decide +kernel
theorem dX8_find_273 : decode cX8_find 273 = .ok (.iconst 1, 1) := by decide +kernel
theorem dX8_find_274 : decode cX8_find 274 = .ok (.aload_n 0, 1) := by decide +kernel
theorem dX8_find_275 : decode cX8_find 275 = .ok (.getfield 235, 3) := by decide +kernel
theorem dX8_find_278 : decode cX8_find 278 = .ok (.iastore, 1) := by decide +kernel
theorem dX8_find_279 : decode cX8_find 279 = .ok (.return_, 1) := by decide +kernel
theorem dX8_findLean_0 : decode cX8_findLean 0 = .ok (.aload_n 0, 1) := by decide +kernel
theorem dX8_findLean_1 : decode cX8_findLean 1 = .ok (.getfield 56, 3) := by decide +kernel
theorem dX8_findLean_4 : decode cX8_findLean 4 = .ok (.aload_n 0, 1) := by decide +kernel
theorem dX8_findLean_5 : decode cX8_findLean 5 = .ok (.getfield 217, 3) := by decide +kernel
theorem dX8_findLean_8 : decode cX8_findLean 8 = .ok (.iaload, 1) := by decide +kernel
theorem dX8_findLean_9 : decode cX8_findLean 9 = .ok (.aload_n 0, 1) := by decide +kernel
theorem dX8_findLean_10 : decode cX8_findLean 10 = .ok (.getfield 56, 3) := by decide +kernel
theorem dX8_findLean_13 : decode cX8_findLean 13 = .ok (.aload_n 0, 1) := by decide +kernel
theorem dX8_findLean_14 : decode cX8_findLean 14 = .ok (.getfield 217, 3) := by decide +kernel
theorem dX8_findLean_17 : decode cX8_findLean 17 = .ok (.iconst 2, 1) := by decide +kernel
theorem dX8_findLean_18 : decode cX8_findLean 18 = .ok (.iadd, 1) := by decide +kernel
theorem dX8_findLean_19 : decode cX8_findLean 19 = .ok (.iaload, 1) := by decide +kernel
theorem dX8_findLean_20 : decode cX8_findLean 20 = .ok (.iadd, 1) := by decide +kernel
theorem dX8_findLean_21 : decode cX8_findLean 21 = .ok (.istore_n 1, 1) := by decide +kernel
theorem dX8_findLean_22 : decode cX8_findLean 22 = .ok (.aload_n 0, 1) := by decide +kernel
theorem dX8_findLean_23 : decode cX8_findLean 23 = .ok (.getfield 211, 3) := by decide +kernel
theorem dX8_findLean_26 : decode cX8_findLean 26 = .ok (.ifCond .ne 17, 3) := by decide +kernel
theorem dX8_findLean_29 : decode cX8_findLean 29 = .ok (.aload_n 0, 1) := by decide +kernel
theorem dX8_findLean_30 : decode cX8_findLean 30 = .ok (.getfield 56, 3) := by decide +kernel
theorem dX8_findLean_33 : decode cX8_findLean 33 = .ok (.aload_n 0, 1) := by decide +kernel
theorem dX8_findLean_34 : decode cX8_findLean 34 = .ok (.getfield 220, 3) := by decide +kernel
theorem dX8_findLean_37 : decode cX8_findLean 37 = .ok (.iconst 2, 1) := by decide +kernel
theorem dX8_findLean_38 : decode cX8_findLean 38 = .ok (.iadd, 1) := by decide +kernel
theorem dX8_findLean_39 : decode cX8_findLean 39 = .ok (.iaload, 1) := by decide +kernel
theorem dX8_findLean_40 : decode cX8_findLean 40 = .ok (.goto 14, 3) := by decide +kernel
theorem dX8_findLean_43 : decode cX8_findLean 43 = .ok (.iload_n 1, 1) := by decide +kernel
theorem dX8_findLean_44 : decode cX8_findLean 44 = .ok (.aload_n 0, 1) := by decide +kernel
theorem dX8_findLean_45 : decode cX8_findLean 45 = .ok (.getfield 56, 3) := by decide +kernel
theorem dX8_findLean_48 : decode cX8_findLean 48 = .ok (.aload_n 0, 1) := by decide +kernel
theorem dX8_findLean_49 : decode cX8_findLean 49 = .ok (.getfield 220, 3) := by decide +kernel
theorem dX8_findLean_52 : decode cX8_findLean 52 = .ok (.iaload, 1) := by decide +kernel
theorem dX8_findLean_53 : decode cX8_findLean 53 = .ok (.isub, 1) := by decide +kernel
theorem dX8_findLean_54 : decode cX8_findLean 54 = .ok (.istore_n 2, 1) := by decide +kernel
theorem dX8_findLean_55 : decode cX8_findLean 55 = .ok (.aload_n 0, 1) := by decide +kernel
theorem dX8_findLean_56 : decode cX8_findLean 56 = .ok (.getfield 56, 3) := by decide +kernel
theorem dX8_findLean_59 : decode cX8_findLean 59 = .ok (.aload_n 0, 1) := by decide +kernel
theorem dX8_findLean_60 : decode cX8_findLean 60 = .ok (.getfield 217, 3) := by decide +kernel
theorem dX8_findLean_63 : decode cX8_findLean 63 = .ok (.iaload, 1) := by decide +kernel
theorem dX8_findLean_64 : decode cX8_findLean 64 = .ok (.istore_n 3, 1) := by decide +kernel
theorem dX8_findLean_65 : decode cX8_findLean 65 = .ok (.iload_n 3, 1) := by decide +kernel
theorem dX8_findLean_66 : decode cX8_findLean 66 = .ok (.istore 4, 2) := by decide +kernel
theorem dX8_findLean_68 : decode cX8_findLean 68 = .ok (.iconst 0, 1) := by decide +kernel
theorem dX8_findLean_69 : decode cX8_findLean 69 = .ok (.istore 5, 2) := by decide +kernel
theorem dX8_findLean_71 : decode cX8_findLean 71 = .ok (.iload 5, 2) := by decide +kernel
theorem dX8_findLean_73 : decode cX8_findLean 73 = .ok (.iconst 3, 1) := by decide +kernel
theorem dX8_findLean_74 : decode cX8_findLean 74 = .ok (.if_icmp .ge 78, 3) := by decide +kernel
theorem dX8_findLean_77 : decode cX8_findLean 77 = .ok (.iload 5, 2) := by decide +kernel
theorem dX8_findLean_79 : decode cX8_findLean 79 = .ok (.ifCond .ne 17, 3) := by decide +kernel
theorem dX8_findLean_82 : decode cX8_findLean 82 = .ok (.aload_n 0, 1) := by decide +kernel
theorem dX8_findLean_83 : decode cX8_findLean 83 = .ok (.getfield 56, 3) := by decide +kernel
theorem dX8_findLean_86 : decode cX8_findLean 86 = .ok (.aload_n 0, 1) := by decide +kernel
theorem dX8_findLean_87 : decode cX8_findLean 87 = .ok (.getfield 217, 3) := by decide +kernel
theorem dX8_findLean_90 : decode cX8_findLean 90 = .ok (.iconst 2, 1) := by decide +kernel
theorem dX8_findLean_91 : decode cX8_findLean 91 = .ok (.iadd, 1) := by decide +kernel
theorem dX8_findLean_92 : decode cX8_findLean 92 = .ok (.iaload, 1) := by decide +kernel
theorem dX8_findLean_93 : decode cX8_findLean 93 = .ok (.goto 22, 3) := by decide +kernel
theorem dX8_findLean_96 : decode cX8_findLean 96 = .ok (.iload 5, 2) := by decide +kernel
theorem dX8_findLean_98 : decode cX8_findLean 98 = .ok (.iconst 1, 1) := by decide +kernel
theorem dX8_findLean_99 : decode cX8_findLean 99 = .ok (.if_icmp .ne 15, 3) := by decide +kernel
theorem dX8_findLean_102 : decode cX8_findLean 102 = .ok (.aload_n 0, 1) := by decide +kernel
theorem dX8_findLean_103 : decode cX8_findLean 103 = .ok (.getfield 56, 3) := by decide +kernel
theorem dX8_findLean_106 : decode cX8_findLean 106 = .ok (.aload_n 0, 1) := by decide +kernel
theorem dX8_findLean_107 : decode cX8_findLean 107 = .ok (.getfield 220, 3) := by decide +kernel
theorem dX8_findLean_110 : decode cX8_findLean 110 = .ok (.iaload, 1) := by decide +kernel
theorem dX8_findLean_111 : decode cX8_findLean 111 = .ok (.goto 4, 3) := by decide +kernel
theorem dX8_findLean_114 : decode cX8_findLean 114 = .ok (.iload_n 2, 1) := by decide +kernel
theorem dX8_findLean_115 : decode cX8_findLean 115 = .ok (.istore 6, 2) := by decide +kernel
theorem dX8_findLean_117 : decode cX8_findLean 117 = .ok (.iload 6, 2) := by decide +kernel
theorem dX8_findLean_119 : decode cX8_findLean 119 = .ok (.iload_n 3, 1) := by decide +kernel
theorem dX8_findLean_120 : decode cX8_findLean 120 = .ok (.if_icmp .le 8, 3) := by decide +kernel
theorem dX8_findLean_123 : decode cX8_findLean 123 = .ok (.iload 6, 2) := by decide +kernel
theorem dX8_findLean_125 : decode cX8_findLean 125 = .ok (.goto 4, 3) := by decide +kernel
theorem dX8_findLean_128 : decode cX8_findLean 128 = .ok (.iload_n 3, 1) := by decide +kernel
theorem dX8_findLean_129 : decode cX8_findLean 129 = .ok (.istore_n 3, 1) := by decide +kernel
theorem dX8_findLean_130 : decode cX8_findLean 130 = .ok (.iload 6, 2) := by decide +kernel
theorem dX8_findLean_132 : decode cX8_findLean 132 = .ok (.iload 4, 2) := by decide +kernel
theorem dX8_findLean_134 : decode cX8_findLean 134 = .ok (.if_icmp .ge 8, 3) := by decide +kernel
theorem dX8_findLean_137 : decode cX8_findLean 137 = .ok (.iload 6, 2) := by decide +kernel
theorem dX8_findLean_139 : decode cX8_findLean 139 = .ok (.goto 5, 3) := by decide +kernel
theorem dX8_findLean_142 : decode cX8_findLean 142 = .ok (.iload 4, 2) := by decide +kernel
theorem dX8_findLean_144 : decode cX8_findLean 144 = .ok (.istore 4, 2) := by decide +kernel
theorem dX8_findLean_146 : decode cX8_findLean 146 = .ok (.iinc 5 1, 3) := by decide +kernel
theorem dX8_findLean_149 : decode cX8_findLean 149 = .ok (.goto (-78), 3) := by decide +kernel
theorem dX8_findLean_152 : decode cX8_findLean 152 = .ok (.aload_n 0, 1) := by decide +kernel
theorem dX8_findLean_153 : decode cX8_findLean 153 = .ok (.iload_n 3, 1) := by decide +kernel
theorem dX8_findLean_154 : decode cX8_findLean 154 = .ok (.iload 4, 2) := by decide +kernel
theorem dX8_findLean_156 : decode cX8_findLean 156 = .ok (.isub, 1) := by decide +kernel
theorem dX8_findLean_157 : decode cX8_findLean 157 = .ok (.putfield 235, 3) := by decide +kernel
theorem dX8_findLean_160 : decode cX8_findLean 160 = .ok (.return_, 1) := by decide +kernel
theorem dX8_findNow_0 : decode cX8_findNow 0 = .ok (.aload_n 0, 1) := by decide +kernel
theorem dX8_findNow_1 : decode cX8_findNow 1 = .ok (.aload_n 0, 1) := by decide +kernel
theorem dX8_findNow_2 : decode cX8_findNow 2 = .ok (.getfield 22, 3) := by decide +kernel
theorem dX8_findNow_5 : decode cX8_findNow 5 = .ok (.aload_n 0, 1) := by decide +kernel
theorem dX8_findNow_6 : decode cX8_findNow 6 = .ok (.getfield 238, 3) := by decide +kernel
theorem dX8_findNow_9 : decode cX8_findNow 9 = .ok (.invokevirtual 241, 3) := by decide +kernel
theorem dX8_findNow_12 : decode cX8_findNow 12 = .ok (.return_, 1) := by decide +kernel
theorem dX8_foundOf_0 : decode cX8_foundOf 0 = .ok (.iload_n 1, 1) := by decide +kernel
theorem dX8_foundOf_1 : decode cX8_foundOf 1 = .ok (.tableswitch 91 0 4 #[35, 40, 45, 50, 76], 35) := by decide +kernel
theorem dX8_foundOf_36 : decode cX8_foundOf 36 = .ok (.aload_n 0, 1) := by decide +kernel
theorem dX8_foundOf_37 : decode cX8_foundOf 37 = .ok (.getfield 211, 3) := by decide +kernel
theorem dX8_foundOf_40 : decode cX8_foundOf 40 = .ok (.ireturn, 1) := by decide +kernel
theorem dX8_foundOf_41 : decode cX8_foundOf 41 = .ok (.aload_n 0, 1) := by decide +kernel
theorem dX8_foundOf_42 : decode cX8_foundOf 42 = .ok (.getfield 229, 3) := by decide +kernel
theorem dX8_foundOf_45 : decode cX8_foundOf 45 = .ok (.ireturn, 1) := by decide +kernel
theorem dX8_foundOf_46 : decode cX8_foundOf 46 = .ok (.aload_n 0, 1) := by decide +kernel
theorem dX8_foundOf_47 : decode cX8_foundOf 47 = .ok (.getfield 235, 3) := by decide +kernel
theorem dX8_foundOf_50 : decode cX8_foundOf 50 = .ok (.ireturn, 1) := by decide +kernel
theorem dX8_foundOf_51 : decode cX8_foundOf 51 = .ok (.aload_n 0, 1) := by decide +kernel
theorem dX8_foundOf_52 : decode cX8_foundOf 52 = .ok (.getfield 211, 3) := by decide +kernel
theorem dX8_foundOf_55 : decode cX8_foundOf 55 = .ok (.ifCond .ne 7, 3) := by decide +kernel
theorem dX8_foundOf_58 : decode cX8_foundOf 58 = .ok (.iconst 0, 1) := by decide +kernel
theorem dX8_foundOf_59 : decode cX8_foundOf 59 = .ok (.goto 17, 3) := by decide +kernel
theorem dX8_foundOf_62 : decode cX8_foundOf 62 = .ok (.aload_n 0, 1) := by decide +kernel
theorem dX8_foundOf_63 : decode cX8_foundOf 63 = .ok (.getfield 220, 3) := by decide +kernel
theorem dX8_foundOf_66 : decode cX8_foundOf 66 = .ok (.iconst 1, 1) := by decide +kernel
theorem dX8_foundOf_67 : decode cX8_foundOf 67 = .ok (.if_icmp .ne 8, 3) := by decide +kernel
theorem dX8_foundOf_70 : decode cX8_foundOf 70 = .ok (.bipush 10, 2) := by decide +kernel
theorem dX8_foundOf_72 : decode cX8_foundOf 72 = .ok (.goto 4, 3) := by decide +kernel
theorem dX8_foundOf_75 : decode cX8_foundOf 75 = .ok (.iconst 5, 1) := by decide +kernel
theorem dX8_foundOf_76 : decode cX8_foundOf 76 = .ok (.ireturn, 1) := by decide +kernel
theorem dX8_foundOf_77 : decode cX8_foundOf 77 = .ok (.aload_n 0, 1) := by decide +kernel
theorem dX8_foundOf_78 : decode cX8_foundOf 78 = .ok (.iconst 1, 1) := by decide +kernel
theorem dX8_foundOf_79 : decode cX8_foundOf 79 = .ok (.invokevirtual 226, 3) := by decide +kernel
theorem dX8_foundOf_82 : decode cX8_foundOf 82 = .ok (.sipush (-999), 3) := by decide +kernel
theorem dX8_foundOf_85 : decode cX8_foundOf 85 = .ok (.sipush 999, 3) := by decide +kernel
theorem dX8_foundOf_88 : decode cX8_foundOf 88 = .ok (.invokestatic 198, 3) := by decide +kernel
theorem dX8_foundOf_91 : decode cX8_foundOf 91 = .ok (.ireturn, 1) := by decide +kernel
theorem dX8_foundOf_92 : decode cX8_foundOf 92 = .ok (.aload_n 0, 1) := by decide +kernel
theorem dX8_foundOf_93 : decode cX8_foundOf 93 = .ok (.iconst 2, 1) := by decide +kernel
theorem dX8_foundOf_94 : decode cX8_foundOf 94 = .ok (.invokevirtual 226, 3) := by decide +kernel
theorem dX8_foundOf_97 : decode cX8_foundOf 97 = .ok (.iconst 0, 1) := by decide +kernel
theorem dX8_foundOf_98 : decode cX8_foundOf 98 = .ok (.bipush 99, 2) := by decide +kernel
theorem dX8_foundOf_100 : decode cX8_foundOf 100 = .ok (.invokestatic 198, 3) := by decide +kernel
theorem dX8_foundOf_103 : decode cX8_foundOf 103 = .ok (.ireturn, 1) := by decide +kernel
theorem dX8_stands_0 : decode cX8_stands 0 = .ok (.aload_n 0, 1) := by decide +kernel
theorem dX8_stands_1 : decode cX8_stands 1 = .ok (.iconst 0, 1) := by decide +kernel
theorem dX8_stands_2 : decode cX8_stands 2 = .ok (.putfield 77, 3) := by decide +kernel
theorem dX8_stands_5 : decode cX8_stands 5 = .ok (.iload_n 1, 1) := by decide +kernel
theorem dX8_stands_6 : decode cX8_stands 6 = .ok (.i2l, 1) := by decide +kernel
theorem dX8_stands_7 : decode cX8_stands 7 = .ok (.lconst 0, 1) := by decide +kernel
theorem dX8_stands_8 : decode cX8_stands 8 = .ok (.ldc2_w 245, 3) := by decide +kernel
theorem dX8_stands_11 : decode cX8_stands 11 = .ok (.invokestatic 97, 3) := by decide +kernel
theorem dX8_stands_14 : decode cX8_stands 14 = .ok (.ifCond .ne 6, 3) := by decide +kernel
theorem dX8_stands_17 : decode cX8_stands 17 = .ok (.ldc 247, 2) := by decide +kernel
theorem dX8_stands_19 : decode cX8_stands 19 = .ok (.ireturn, 1) := by decide +kernel
theorem dX8_stands_20 : decode cX8_stands 20 = .ok (.aload_n 0, 1) := by decide +kernel
theorem dX8_stands_21 : decode cX8_stands 21 = .ok (.invokevirtual 248, 3) := by decide +kernel
theorem dX8_stands_24 : decode cX8_stands 24 = .ok (.aload_n 0, 1) := by decide +kernel
theorem dX8_stands_25 : decode cX8_stands 25 = .ok (.iload_n 1, 1) := by decide +kernel
theorem dX8_stands_26 : decode cX8_stands 26 = .ok (.invokevirtual 251, 3) := by decide +kernel
theorem dX8_stands_29 : decode cX8_stands 29 = .ok (.ireturn, 1) := by decide +kernel
theorem dX8_standsAt_0 : decode cX8_standsAt 0 = .ok (.aload_n 0, 1) := by decide +kernel
theorem dX8_standsAt_1 : decode cX8_standsAt 1 = .ok (.iconst 0, 1) := by decide +kernel
theorem dX8_standsAt_2 : decode cX8_standsAt 2 = .ok (.putfield 77, 3) := by decide +kernel
theorem dX8_standsAt_5 : decode cX8_standsAt 5 = .ok (.iload_n 1, 1) := by decide +kernel
theorem dX8_standsAt_6 : decode cX8_standsAt 6 = .ok (.i2l, 1) := by decide +kernel
theorem dX8_standsAt_7 : decode cX8_standsAt 7 = .ok (.lconst 0, 1) := by decide +kernel
theorem dX8_standsAt_8 : decode cX8_standsAt 8 = .ok (.ldc2_w 254, 3) := by decide +kernel
theorem dX8_standsAt_11 : decode cX8_standsAt 11 = .ok (.invokestatic 97, 3) := by decide +kernel
theorem dX8_standsAt_14 : decode cX8_standsAt 14 = .ok (.ifCond .eq 27, 3) := by decide +kernel
theorem dX8_standsAt_17 : decode cX8_standsAt 17 = .ok (.iload_n 2, 1) := by decide +kernel
theorem dX8_standsAt_18 : decode cX8_standsAt 18 = .ok (.i2l, 1) := by decide +kernel
theorem dX8_standsAt_19 : decode cX8_standsAt 19 = .ok (.lconst 0, 1) := by decide +kernel
theorem dX8_standsAt_20 : decode cX8_standsAt 20 = .ok (.ldc2_w 256, 3) := by decide +kernel
theorem dX8_standsAt_23 : decode cX8_standsAt 23 = .ok (.invokestatic 97, 3) := by decide +kernel
theorem dX8_standsAt_26 : decode cX8_standsAt 26 = .ok (.ifCond .eq 15, 3) := by decide +kernel
theorem dX8_standsAt_29 : decode cX8_standsAt 29 = .ok (.iload_n 3, 1) := by decide +kernel
theorem dX8_standsAt_30 : decode cX8_standsAt 30 = .ok (.i2l, 1) := by decide +kernel
theorem dX8_standsAt_31 : decode cX8_standsAt 31 = .ok (.lconst 0, 1) := by decide +kernel
theorem dX8_standsAt_32 : decode cX8_standsAt 32 = .ok (.ldc2_w 245, 3) := by decide +kernel
theorem dX8_standsAt_35 : decode cX8_standsAt 35 = .ok (.invokestatic 97, 3) := by decide +kernel
theorem dX8_standsAt_38 : decode cX8_standsAt 38 = .ok (.ifCond .ne 6, 3) := by decide +kernel
theorem dX8_standsAt_41 : decode cX8_standsAt 41 = .ok (.ldc 247, 2) := by decide +kernel
theorem dX8_standsAt_43 : decode cX8_standsAt 43 = .ok (.ireturn, 1) := by decide +kernel
theorem dX8_standsAt_44 : decode cX8_standsAt 44 = .ok (.aload_n 0, 1) := by decide +kernel
theorem dX8_standsAt_45 : decode cX8_standsAt 45 = .ok (.iload_n 1, 1) := by decide +kernel
theorem dX8_standsAt_46 : decode cX8_standsAt 46 = .ok (.iload_n 2, 1) := by decide +kernel
theorem dX8_standsAt_47 : decode cX8_standsAt 47 = .ok (.invokevirtual 241, 3) := by decide +kernel
theorem dX8_standsAt_50 : decode cX8_standsAt 50 = .ok (.aload_n 0, 1) := by decide +kernel
theorem dX8_standsAt_51 : decode cX8_standsAt 51 = .ok (.iload_n 3, 1) := by decide +kernel
theorem dX8_standsAt_52 : decode cX8_standsAt 52 = .ok (.invokevirtual 251, 3) := by decide +kernel
theorem dX8_standsAt_55 : decode cX8_standsAt 55 = .ok (.ireturn, 1) := by decide +kernel
theorem dX8_isFirmAt_0 : decode cX8_isFirmAt 0 = .ok (.aload_n 0, 1) := by decide +kernel
theorem dX8_isFirmAt_1 : decode cX8_isFirmAt 1 = .ok (.iload_n 1, 1) := by decide +kernel
theorem dX8_isFirmAt_2 : decode cX8_isFirmAt 2 = .ok (.iload_n 2, 1) := by decide +kernel
theorem dX8_isFirmAt_3 : decode cX8_isFirmAt 3 = .ok (.bipush 8, 2) := by decide +kernel
theorem dX8_isFirmAt_5 : decode cX8_isFirmAt 5 = .ok (.irem, 1) := by decide +kernel
theorem dX8_isFirmAt_6 : decode cX8_isFirmAt 6 = .ok (.invokevirtual 241, 3) := by decide +kernel
theorem dX8_isFirmAt_9 : decode cX8_isFirmAt 9 = .ok (.aload_n 0, 1) := by decide +kernel
theorem dX8_isFirmAt_10 : decode cX8_isFirmAt 10 = .ok (.getfield 229, 3) := by decide +kernel
theorem dX8_isFirmAt_13 : decode cX8_isFirmAt 13 = .ok (.ifCond .ne 7, 3) := by decide +kernel
theorem dX8_isFirmAt_16 : decode cX8_isFirmAt 16 = .ok (.iconst 1, 1) := by decide +kernel
theorem dX8_isFirmAt_17 : decode cX8_isFirmAt 17 = .ok (.goto 4, 3) := by decide +kernel
theorem dX8_isFirmAt_20 : decode cX8_isFirmAt 20 = .ok (.iconst 0, 1) := by decide +kernel
theorem dX8_isFirmAt_21 : decode cX8_isFirmAt 21 = .ok (.ireturn, 1) := by decide +kernel
theorem dX8_firmAt_0 : decode cX8_firmAt 0 = .ok (.iconst 0, 1) := by decide +kernel
theorem dX8_firmAt_1 : decode cX8_firmAt 1 = .ok (.istore_n 2, 1) := by decide +kernel
theorem dX8_firmAt_2 : decode cX8_firmAt 2 = .ok (.iconst 0, 1) := by decide +kernel
theorem dX8_firmAt_3 : decode cX8_firmAt 3 = .ok (.istore_n 3, 1) := by decide +kernel
theorem dX8_firmAt_4 : decode cX8_firmAt 4 = .ok (.iload_n 3, 1) := by decide +kernel
theorem dX8_firmAt_5 : decode cX8_firmAt 5 = .ok (.bipush 8, 2) := by decide +kernel
theorem dX8_firmAt_7 : decode cX8_firmAt 7 = .ok (.if_icmp .ge 28, 3) := by decide +kernel
theorem dX8_firmAt_10 : decode cX8_firmAt 10 = .ok (.aload_n 0, 1) := by decide +kernel
theorem dX8_firmAt_11 : decode cX8_firmAt 11 = .ok (.iload_n 1, 1) := by decide +kernel
theorem dX8_firmAt_12 : decode cX8_firmAt 12 = .ok (.iload_n 3, 1) := by decide +kernel
theorem dX8_firmAt_13 : decode cX8_firmAt 13 = .ok (.invokevirtual 258, 3) := by decide +kernel
theorem dX8_firmAt_16 : decode cX8_firmAt 16 = .ok (.ifCond .eq 11, 3) := by decide +kernel
theorem dX8_firmAt_19 : decode cX8_firmAt 19 = .ok (.iload_n 2, 1) := by decide +kernel
theorem dX8_firmAt_20 : decode cX8_firmAt 20 = .ok (.iconst 1, 1) := by decide +kernel
theorem dX8_firmAt_21 : decode cX8_firmAt 21 = .ok (.iload_n 3, 1) := by decide +kernel
theorem dX8_firmAt_22 : decode cX8_firmAt 22 = .ok (.ishl, 1) := by decide +kernel
theorem dX8_firmAt_23 : decode cX8_firmAt 23 = .ok (.ior, 1) := by decide +kernel
theorem dX8_firmAt_24 : decode cX8_firmAt 24 = .ok (.goto 4, 3) := by decide +kernel
theorem dX8_firmAt_27 : decode cX8_firmAt 27 = .ok (.iload_n 2, 1) := by decide +kernel
theorem dX8_firmAt_28 : decode cX8_firmAt 28 = .ok (.istore_n 2, 1) := by decide +kernel
theorem dX8_firmAt_29 : decode cX8_firmAt 29 = .ok (.iinc 3 1, 3) := by decide +kernel
theorem dX8_firmAt_32 : decode cX8_firmAt 32 = .ok (.goto (-28), 3) := by decide +kernel
theorem dX8_firmAt_35 : decode cX8_firmAt 35 = .ok (.iload_n 2, 1) := by decide +kernel
theorem dX8_firmAt_36 : decode cX8_firmAt 36 = .ok (.ireturn, 1) := by decide +kernel
theorem dX8_firm_0 : decode cX8_firm 0 = .ok (.aload_n 0, 1) := by decide +kernel
theorem dX8_firm_1 : decode cX8_firm 1 = .ok (.iconst 0, 1) := by decide +kernel
theorem dX8_firm_2 : decode cX8_firm 2 = .ok (.putfield 77, 3) := by decide +kernel
theorem dX8_firm_5 : decode cX8_firm 5 = .ok (.aload_n 0, 1) := by decide +kernel
theorem dX8_firm_6 : decode cX8_firm 6 = .ok (.aload_n 0, 1) := by decide +kernel
theorem dX8_firm_7 : decode cX8_firm 7 = .ok (.getfield 22, 3) := by decide +kernel
theorem dX8_firm_10 : decode cX8_firm 10 = .ok (.invokevirtual 262, 3) := by decide +kernel
theorem dX8_firm_13 : decode cX8_firm 13 = .ok (.ireturn, 1) := by decide +kernel
theorem dX8_fewest_0 : decode cX8_fewest 0 = .ok (.aload_n 0, 1) := by decide +kernel
theorem dX8_fewest_1 : decode cX8_fewest 1 = .ok (.iconst 0, 1) := by decide +kernel
theorem dX8_fewest_2 : decode cX8_fewest 2 = .ok (.putfield 77, 3) := by decide +kernel
theorem dX8_fewest_5 : decode cX8_fewest 5 = .ok (.iload_n 1, 1) := by decide +kernel
theorem dX8_fewest_6 : decode cX8_fewest 6 = .ok (.i2l, 1) := by decide +kernel
theorem dX8_fewest_7 : decode cX8_fewest 7 = .ok (.lconst 0, 1) := by decide +kernel
theorem dX8_fewest_8 : decode cX8_fewest 8 = .ok (.lconst 1, 1) := by decide +kernel
theorem dX8_fewest_9 : decode cX8_fewest 9 = .ok (.invokestatic 97, 3) := by decide +kernel
theorem dX8_fewest_12 : decode cX8_fewest 12 = .ok (.ifCond .ne 6, 3) := by decide +kernel
theorem dX8_fewest_15 : decode cX8_fewest 15 = .ok (.bipush (-2), 2) := by decide +kernel
theorem dX8_fewest_17 : decode cX8_fewest 17 = .ok (.ireturn, 1) := by decide +kernel
theorem dX8_fewest_18 : decode cX8_fewest 18 = .ok (.aload_n 0, 1) := by decide +kernel
theorem dX8_fewest_19 : decode cX8_fewest 19 = .ok (.aload_n 0, 1) := by decide +kernel
theorem dX8_fewest_20 : decode cX8_fewest 20 = .ok (.getfield 22, 3) := by decide +kernel
theorem dX8_fewest_23 : decode cX8_fewest 23 = .ok (.invokevirtual 262, 3) := by decide +kernel
theorem dX8_fewest_26 : decode cX8_fewest 26 = .ok (.istore_n 2, 1) := by decide +kernel
theorem dX8_fewest_27 : decode cX8_fewest 27 = .ok (.iconst 0, 1) := by decide +kernel
theorem dX8_fewest_28 : decode cX8_fewest 28 = .ok (.istore_n 3, 1) := by decide +kernel
theorem dX8_fewest_29 : decode cX8_fewest 29 = .ok (.iload_n 3, 1) := by decide +kernel
theorem dX8_fewest_30 : decode cX8_fewest 30 = .ok (.iconst 5, 1) := by decide +kernel
theorem dX8_fewest_31 : decode cX8_fewest 31 = .ok (.if_icmp .ge 76, 3) := by decide +kernel
theorem dX8_fewest_34 : decode cX8_fewest 34 = .ok (.aload_n 0, 1) := by decide +kernel
theorem dX8_fewest_35 : decode cX8_fewest 35 = .ok (.getfield 238, 3) := by decide +kernel
theorem dX8_fewest_38 : decode cX8_fewest 38 = .ok (.iload_n 3, 1) := by decide +kernel
theorem dX8_fewest_39 : decode cX8_fewest 39 = .ok (.iadd, 1) := by decide +kernel
theorem dX8_fewest_40 : decode cX8_fewest 40 = .ok (.bipush 8, 2) := by decide +kernel
theorem dX8_fewest_42 : decode cX8_fewest 42 = .ok (.irem, 1) := by decide +kernel
theorem dX8_fewest_43 : decode cX8_fewest 43 = .ok (.istore 4, 2) := by decide +kernel
theorem dX8_fewest_45 : decode cX8_fewest 45 = .ok (.aload_n 0, 1) := by decide +kernel
theorem dX8_fewest_46 : decode cX8_fewest 46 = .ok (.getfield 238, 3) := by decide +kernel
theorem dX8_fewest_49 : decode cX8_fewest 49 = .ok (.bipush 8, 2) := by decide +kernel
theorem dX8_fewest_51 : decode cX8_fewest 51 = .ok (.iadd, 1) := by decide +kernel
theorem dX8_fewest_52 : decode cX8_fewest 52 = .ok (.iload_n 3, 1) := by decide +kernel
theorem dX8_fewest_53 : decode cX8_fewest 53 = .ok (.isub, 1) := by decide +kernel
theorem dX8_fewest_54 : decode cX8_fewest 54 = .ok (.bipush 8, 2) := by decide +kernel
theorem dX8_fewest_56 : decode cX8_fewest 56 = .ok (.irem, 1) := by decide +kernel
theorem dX8_fewest_57 : decode cX8_fewest 57 = .ok (.istore 5, 2) := by decide +kernel
theorem dX8_fewest_59 : decode cX8_fewest 59 = .ok (.iload_n 2, 1) := by decide +kernel
theorem dX8_fewest_60 : decode cX8_fewest 60 = .ok (.iload 4, 2) := by decide +kernel
theorem dX8_fewest_62 : decode cX8_fewest 62 = .ok (.ishr, 1) := by decide +kernel
theorem dX8_fewest_63 : decode cX8_fewest 63 = .ok (.iconst 1, 1) := by decide +kernel
theorem dX8_fewest_64 : decode cX8_fewest 64 = .ok (.iand, 1) := by decide +kernel
theorem dX8_fewest_65 : decode cX8_fewest 65 = .ok (.iconst 1, 1) := by decide +kernel
theorem dX8_fewest_66 : decode cX8_fewest 66 = .ok (.if_icmp .ne 14, 3) := by decide +kernel
theorem dX8_fewest_69 : decode cX8_fewest 69 = .ok (.iload_n 1, 1) := by decide +kernel
theorem dX8_fewest_70 : decode cX8_fewest 70 = .ok (.ifCond .ne 7, 3) := by decide +kernel
theorem dX8_fewest_73 : decode cX8_fewest 73 = .ok (.iload_n 3, 1) := by decide +kernel
theorem dX8_fewest_74 : decode cX8_fewest 74 = .ok (.goto 5, 3) := by decide +kernel
theorem dX8_fewest_77 : decode cX8_fewest 77 = .ok (.iload 4, 2) := by decide +kernel
theorem dX8_fewest_79 : decode cX8_fewest 79 = .ok (.ireturn, 1) := by decide +kernel
theorem dX8_fewest_80 : decode cX8_fewest 80 = .ok (.iload_n 2, 1) := by decide +kernel
theorem dX8_fewest_81 : decode cX8_fewest 81 = .ok (.iload 5, 2) := by decide +kernel
theorem dX8_fewest_83 : decode cX8_fewest 83 = .ok (.ishr, 1) := by decide +kernel
theorem dX8_fewest_84 : decode cX8_fewest 84 = .ok (.iconst 1, 1) := by decide +kernel
theorem dX8_fewest_85 : decode cX8_fewest 85 = .ok (.iand, 1) := by decide +kernel
theorem dX8_fewest_86 : decode cX8_fewest 86 = .ok (.iconst 1, 1) := by decide +kernel
theorem dX8_fewest_87 : decode cX8_fewest 87 = .ok (.if_icmp .ne 14, 3) := by decide +kernel
theorem dX8_fewest_90 : decode cX8_fewest 90 = .ok (.iload_n 1, 1) := by decide +kernel
theorem dX8_fewest_91 : decode cX8_fewest 91 = .ok (.ifCond .ne 7, 3) := by decide +kernel
theorem dX8_fewest_94 : decode cX8_fewest 94 = .ok (.iload_n 3, 1) := by decide +kernel
theorem dX8_fewest_95 : decode cX8_fewest 95 = .ok (.goto 5, 3) := by decide +kernel
theorem dX8_fewest_98 : decode cX8_fewest 98 = .ok (.iload 5, 2) := by decide +kernel
theorem dX8_fewest_100 : decode cX8_fewest 100 = .ok (.ireturn, 1) := by decide +kernel
theorem dX8_fewest_101 : decode cX8_fewest 101 = .ok (.iinc 3 1, 3) := by decide +kernel
theorem dX8_fewest_104 : decode cX8_fewest 104 = .ok (.goto (-75), 3) := by decide +kernel
theorem dX8_fewest_107 : decode cX8_fewest 107 = .ok (.iconst (-1), 1) := by decide +kernel
theorem dX8_fewest_108 : decode cX8_fewest 108 = .ok (.ireturn, 1) := by decide +kernel
theorem dX8_knock_0 : decode cX8_knock 0 = .ok (.aload_n 0, 1) := by decide +kernel
theorem dX8_knock_1 : decode cX8_knock 1 = .ok (.iload_n 1, 1) := by decide +kernel
theorem dX8_knock_2 : decode cX8_knock 2 = .ok (.iload_n 2, 1) := by decide +kernel
theorem dX8_knock_3 : decode cX8_knock 3 = .ok (.bipush 8, 2) := by decide +kernel
theorem dX8_knock_5 : decode cX8_knock 5 = .ok (.irem, 1) := by decide +kernel
theorem dX8_knock_6 : decode cX8_knock 6 = .ok (.invokevirtual 241, 3) := by decide +kernel
theorem dX8_knock_9 : decode cX8_knock 9 = .ok (.aload_n 0, 1) := by decide +kernel
theorem dX8_knock_10 : decode cX8_knock 10 = .ok (.getfield 229, 3) := by decide +kernel
theorem dX8_knock_13 : decode cX8_knock 13 = .ok (.ifCond .ne 7, 3) := by decide +kernel
theorem dX8_knock_16 : decode cX8_knock 16 = .ok (.iconst 0, 1) := by decide +kernel
theorem dX8_knock_17 : decode cX8_knock 17 = .ok (.goto 15, 3) := by decide +kernel
theorem dX8_knock_20 : decode cX8_knock 20 = .ok (.aload_n 0, 1) := by decide +kernel
theorem dX8_knock_21 : decode cX8_knock 21 = .ok (.getfield 211, 3) := by decide +kernel
theorem dX8_knock_24 : decode cX8_knock 24 = .ok (.ifCond .le 7, 3) := by decide +kernel
theorem dX8_knock_27 : decode cX8_knock 27 = .ok (.iconst 1, 1) := by decide +kernel
theorem dX8_knock_28 : decode cX8_knock 28 = .ok (.goto 4, 3) := by decide +kernel
theorem dX8_knock_31 : decode cX8_knock 31 = .ok (.iconst 2, 1) := by decide +kernel
theorem dX8_knock_32 : decode cX8_knock 32 = .ok (.ireturn, 1) := by decide +kernel
theorem dX8_feels_0 : decode cX8_feels 0 = .ok (.aload_n 0, 1) := by decide +kernel
theorem dX8_feels_1 : decode cX8_feels 1 = .ok (.iconst 0, 1) := by decide +kernel
theorem dX8_feels_2 : decode cX8_feels 2 = .ok (.putfield 77, 3) := by decide +kernel
theorem dX8_feels_5 : decode cX8_feels 5 = .ok (.iload_n 1, 1) := by decide +kernel
theorem dX8_feels_6 : decode cX8_feels 6 = .ok (.i2l, 1) := by decide +kernel
theorem dX8_feels_7 : decode cX8_feels 7 = .ok (.lconst 0, 1) := by decide +kernel
theorem dX8_feels_8 : decode cX8_feels 8 = .ok (.lconst 1, 1) := by decide +kernel
theorem dX8_feels_9 : decode cX8_feels 9 = .ok (.invokestatic 97, 3) := by decide +kernel
theorem dX8_feels_12 : decode cX8_feels 12 = .ok (.ifCond .ne 6, 3) := by decide +kernel
theorem dX8_feels_15 : decode cX8_feels 15 = .ok (.bipush (-2), 2) := by decide +kernel
theorem dX8_feels_17 : decode cX8_feels 17 = .ok (.ireturn, 1) := by decide +kernel
theorem dX8_feels_18 : decode cX8_feels 18 = .ok (.aload_n 0, 1) := by decide +kernel
theorem dX8_feels_19 : decode cX8_feels 19 = .ok (.aload_n 0, 1) := by decide +kernel
theorem dX8_feels_20 : decode cX8_feels 20 = .ok (.getfield 22, 3) := by decide +kernel
theorem dX8_feels_23 : decode cX8_feels 23 = .ok (.aload_n 0, 1) := by decide +kernel
theorem dX8_feels_24 : decode cX8_feels 24 = .ok (.getfield 238, 3) := by decide +kernel
theorem dX8_feels_27 : decode cX8_feels 27 = .ok (.invokevirtual 265, 3) := by decide +kernel
theorem dX8_feels_30 : decode cX8_feels 30 = .ok (.istore_n 2, 1) := by decide +kernel
theorem dX8_feels_31 : decode cX8_feels 31 = .ok (.iconst 0, 1) := by decide +kernel
theorem dX8_feels_32 : decode cX8_feels 32 = .ok (.istore_n 3, 1) := by decide +kernel
theorem dX8_feels_33 : decode cX8_feels 33 = .ok (.iload_n 2, 1) := by decide +kernel
theorem dX8_feels_34 : decode cX8_feels 34 = .ok (.istore 4, 2) := by decide +kernel
theorem dX8_feels_36 : decode cX8_feels 36 = .ok (.iload 4, 2) := by decide +kernel
theorem dX8_feels_38 : decode cX8_feels 38 = .ok (.ifCond .eq 37, 3) := by decide +kernel
theorem dX8_feels_41 : decode cX8_feels 41 = .ok (.iload 4, 2) := by decide +kernel
theorem dX8_feels_43 : decode cX8_feels 43 = .ok (.iload_n 2, 1) := by decide +kernel
theorem dX8_feels_44 : decode cX8_feels 44 = .ok (.if_icmp .ne 31, 3) := by decide +kernel
theorem dX8_feels_47 : decode cX8_feels 47 = .ok (.iload_n 3, 1) := by decide +kernel
theorem dX8_feels_48 : decode cX8_feels 48 = .ok (.bipush 8, 2) := by decide +kernel
theorem dX8_feels_50 : decode cX8_feels 50 = .ok (.if_icmp .ge 25, 3) := by decide +kernel
theorem dX8_feels_53 : decode cX8_feels 53 = .ok (.iinc 3 1, 3) := by decide +kernel
theorem dX8_feels_56 : decode cX8_feels 56 = .ok (.aload_n 0, 1) := by decide +kernel
theorem dX8_feels_57 : decode cX8_feels 57 = .ok (.aload_n 0, 1) := by decide +kernel
theorem dX8_feels_58 : decode cX8_feels 58 = .ok (.getfield 22, 3) := by decide +kernel
theorem dX8_feels_61 : decode cX8_feels 61 = .ok (.aload_n 0, 1) := by decide +kernel
theorem dX8_feels_62 : decode cX8_feels 62 = .ok (.getfield 238, 3) := by decide +kernel
theorem dX8_feels_65 : decode cX8_feels 65 = .ok (.iload_n 3, 1) := by decide +kernel
theorem dX8_feels_66 : decode cX8_feels 66 = .ok (.iadd, 1) := by decide +kernel
theorem dX8_feels_67 : decode cX8_feels 67 = .ok (.invokevirtual 265, 3) := by decide +kernel
theorem dX8_feels_70 : decode cX8_feels 70 = .ok (.istore 4, 2) := by decide +kernel
theorem dX8_feels_72 : decode cX8_feels 72 = .ok (.goto (-36), 3) := by decide +kernel
theorem dX8_feels_75 : decode cX8_feels 75 = .ok (.iload_n 1, 1) := by decide +kernel
theorem dX8_feels_76 : decode cX8_feels 76 = .ok (.ifCond .ne 7, 3) := by decide +kernel
theorem dX8_feels_79 : decode cX8_feels 79 = .ok (.iload_n 3, 1) := by decide +kernel
theorem dX8_feels_80 : decode cX8_feels 80 = .ok (.goto 13, 3) := by decide +kernel
theorem dX8_feels_83 : decode cX8_feels 83 = .ok (.iload 4, 2) := by decide +kernel
theorem dX8_feels_85 : decode cX8_feels 85 = .ok (.ifCond .ne 7, 3) := by decide +kernel
theorem dX8_feels_88 : decode cX8_feels 88 = .ok (.iconst 1, 1) := by decide +kernel
theorem dX8_feels_89 : decode cX8_feels 89 = .ok (.goto 4, 3) := by decide +kernel
theorem dX8_feels_92 : decode cX8_feels 92 = .ok (.iconst 0, 1) := by decide +kernel
theorem dX8_feels_93 : decode cX8_feels 93 = .ok (.ireturn, 1) := by decide +kernel
theorem dX8_best_0 : decode cX8_best 0 = .ok (.aload_n 0, 1) := by decide +kernel
theorem dX8_best_1 : decode cX8_best 1 = .ok (.iconst 0, 1) := by decide +kernel
theorem dX8_best_2 : decode cX8_best 2 = .ok (.putfield 77, 3) := by decide +kernel
theorem dX8_best_5 : decode cX8_best 5 = .ok (.iload_n 1, 1) := by decide +kernel
theorem dX8_best_6 : decode cX8_best 6 = .ok (.i2l, 1) := by decide +kernel
theorem dX8_best_7 : decode cX8_best 7 = .ok (.lconst 0, 1) := by decide +kernel
theorem dX8_best_8 : decode cX8_best 8 = .ok (.ldc2_w 268, 3) := by decide +kernel
theorem dX8_best_11 : decode cX8_best 11 = .ok (.invokestatic 97, 3) := by decide +kernel
theorem dX8_best_14 : decode cX8_best 14 = .ok (.ifCond .ne 6, 3) := by decide +kernel
theorem dX8_best_17 : decode cX8_best 17 = .ok (.ldc 247, 2) := by decide +kernel
theorem dX8_best_19 : decode cX8_best 19 = .ok (.ireturn, 1) := by decide +kernel
theorem dX8_best_20 : decode cX8_best 20 = .ok (.iconst 0, 1) := by decide +kernel
theorem dX8_best_21 : decode cX8_best 21 = .ok (.istore_n 2, 1) := by decide +kernel
theorem dX8_best_22 : decode cX8_best 22 = .ok (.sipush (-1000), 3) := by decide +kernel
theorem dX8_best_25 : decode cX8_best 25 = .ok (.istore_n 3, 1) := by decide +kernel
theorem dX8_best_26 : decode cX8_best 26 = .ok (.iconst 0, 1) := by decide +kernel
theorem dX8_best_27 : decode cX8_best 27 = .ok (.istore 4, 2) := by decide +kernel
theorem dX8_best_29 : decode cX8_best 29 = .ok (.iload 4, 2) := by decide +kernel
theorem dX8_best_31 : decode cX8_best 31 = .ok (.sipush 512, 3) := by decide +kernel
theorem dX8_best_34 : decode cX8_best 34 = .ok (.if_icmp .ge 56, 3) := by decide +kernel
theorem dX8_best_37 : decode cX8_best 37 = .ok (.aload_n 0, 1) := by decide +kernel
theorem dX8_best_38 : decode cX8_best 38 = .ok (.iload 4, 2) := by decide +kernel
theorem dX8_best_40 : decode cX8_best 40 = .ok (.bipush 8, 2) := by decide +kernel
theorem dX8_best_42 : decode cX8_best 42 = .ok (.idiv, 1) := by decide +kernel
theorem dX8_best_43 : decode cX8_best 43 = .ok (.iload 4, 2) := by decide +kernel
theorem dX8_best_45 : decode cX8_best 45 = .ok (.bipush 8, 2) := by decide +kernel
theorem dX8_best_47 : decode cX8_best 47 = .ok (.irem, 1) := by decide +kernel
theorem dX8_best_48 : decode cX8_best 48 = .ok (.invokevirtual 241, 3) := by decide +kernel
theorem dX8_best_51 : decode cX8_best 51 = .ok (.aload_n 0, 1) := by decide +kernel
theorem dX8_best_52 : decode cX8_best 52 = .ok (.iconst 4, 1) := by decide +kernel
theorem dX8_best_53 : decode cX8_best 53 = .ok (.invokevirtual 251, 3) := by decide +kernel
theorem dX8_best_56 : decode cX8_best 56 = .ok (.istore 5, 2) := by decide +kernel
theorem dX8_best_58 : decode cX8_best 58 = .ok (.iload 5, 2) := by decide +kernel
theorem dX8_best_60 : decode cX8_best 60 = .ok (.iload_n 3, 1) := by decide +kernel
theorem dX8_best_61 : decode cX8_best 61 = .ok (.if_icmp .le 8, 3) := by decide +kernel
theorem dX8_best_64 : decode cX8_best 64 = .ok (.iload 4, 2) := by decide +kernel
theorem dX8_best_66 : decode cX8_best 66 = .ok (.goto 4, 3) := by decide +kernel
theorem dX8_best_69 : decode cX8_best 69 = .ok (.iload_n 2, 1) := by decide +kernel
theorem dX8_best_70 : decode cX8_best 70 = .ok (.istore_n 2, 1) := by decide +kernel
theorem dX8_best_71 : decode cX8_best 71 = .ok (.iload 5, 2) := by decide +kernel
theorem dX8_best_73 : decode cX8_best 73 = .ok (.iload_n 3, 1) := by decide +kernel
theorem dX8_best_74 : decode cX8_best 74 = .ok (.if_icmp .le 8, 3) := by decide +kernel
theorem dX8_best_77 : decode cX8_best 77 = .ok (.iload 5, 2) := by decide +kernel
theorem dX8_best_79 : decode cX8_best 79 = .ok (.goto 4, 3) := by decide +kernel
theorem dX8_best_82 : decode cX8_best 82 = .ok (.iload_n 3, 1) := by decide +kernel
theorem dX8_best_83 : decode cX8_best 83 = .ok (.istore_n 3, 1) := by decide +kernel
theorem dX8_best_84 : decode cX8_best 84 = .ok (.iinc 4 1, 3) := by decide +kernel
theorem dX8_best_87 : decode cX8_best 87 = .ok (.goto (-58), 3) := by decide +kernel
theorem dX8_best_90 : decode cX8_best 90 = .ok (.iload_n 1, 1) := by decide +kernel
theorem dX8_best_91 : decode cX8_best 91 = .ok (.ifCond .ne 10, 3) := by decide +kernel
theorem dX8_best_94 : decode cX8_best 94 = .ok (.iload_n 2, 1) := by decide +kernel
theorem dX8_best_95 : decode cX8_best 95 = .ok (.bipush 8, 2) := by decide +kernel
theorem dX8_best_97 : decode cX8_best 97 = .ok (.idiv, 1) := by decide +kernel
theorem dX8_best_98 : decode cX8_best 98 = .ok (.goto 16, 3) := by decide +kernel
theorem dX8_best_101 : decode cX8_best 101 = .ok (.iload_n 1, 1) := by decide +kernel
theorem dX8_best_102 : decode cX8_best 102 = .ok (.iconst 1, 1) := by decide +kernel
theorem dX8_best_103 : decode cX8_best 103 = .ok (.if_icmp .ne 10, 3) := by decide +kernel
theorem dX8_best_106 : decode cX8_best 106 = .ok (.iload_n 2, 1) := by decide +kernel
theorem dX8_best_107 : decode cX8_best 107 = .ok (.bipush 8, 2) := by decide +kernel
theorem dX8_best_109 : decode cX8_best 109 = .ok (.irem, 1) := by decide +kernel
theorem dX8_best_110 : decode cX8_best 110 = .ok (.goto 4, 3) := by decide +kernel
theorem dX8_best_113 : decode cX8_best 113 = .ok (.iload_n 3, 1) := by decide +kernel
theorem dX8_best_114 : decode cX8_best 114 = .ok (.ireturn, 1) := by decide +kernel
theorem dX8_turn_0 : decode cX8_turn 0 = .ok (.aload_n 0, 1) := by decide +kernel
theorem dX8_turn_1 : decode cX8_turn 1 = .ok (.iconst 0, 1) := by decide +kernel
theorem dX8_turn_2 : decode cX8_turn 2 = .ok (.putfield 77, 3) := by decide +kernel
theorem dX8_turn_5 : decode cX8_turn 5 = .ok (.iload_n 1, 1) := by decide +kernel
theorem dX8_turn_6 : decode cX8_turn 6 = .ok (.i2l, 1) := by decide +kernel
theorem dX8_turn_7 : decode cX8_turn 7 = .ok (.ldc2_w 270, 3) := by decide +kernel
theorem dX8_turn_10 : decode cX8_turn 10 = .ok (.ldc2_w 256, 3) := by decide +kernel
theorem dX8_turn_13 : decode cX8_turn 13 = .ok (.invokestatic 97, 3) := by decide +kernel
theorem dX8_turn_16 : decode cX8_turn 16 = .ok (.ifCond .ne 6, 3) := by decide +kernel
theorem dX8_turn_19 : decode cX8_turn 19 = .ok (.bipush (-2), 2) := by decide +kernel
theorem dX8_turn_21 : decode cX8_turn 21 = .ok (.ireturn, 1) := by decide +kernel
theorem dX8_turn_22 : decode cX8_turn 22 = .ok (.aload_n 0, 1) := by decide +kernel
theorem dX8_turn_23 : decode cX8_turn 23 = .ok (.aload_n 0, 1) := by decide +kernel
theorem dX8_turn_24 : decode cX8_turn 24 = .ok (.getfield 238, 3) := by decide +kernel
theorem dX8_turn_27 : decode cX8_turn 27 = .ok (.iload_n 1, 1) := by decide +kernel
theorem dX8_turn_28 : decode cX8_turn 28 = .ok (.iadd, 1) := by decide +kernel
theorem dX8_turn_29 : decode cX8_turn 29 = .ok (.bipush 8, 2) := by decide +kernel
theorem dX8_turn_31 : decode cX8_turn 31 = .ok (.iadd, 1) := by decide +kernel
theorem dX8_turn_32 : decode cX8_turn 32 = .ok (.bipush 8, 2) := by decide +kernel
theorem dX8_turn_34 : decode cX8_turn 34 = .ok (.irem, 1) := by decide +kernel
theorem dX8_turn_35 : decode cX8_turn 35 = .ok (.putfield 238, 3) := by decide +kernel
theorem dX8_turn_38 : decode cX8_turn 38 = .ok (.aload_n 0, 1) := by decide +kernel
theorem dX8_turn_39 : decode cX8_turn 39 = .ok (.invokevirtual 248, 3) := by decide +kernel
theorem dX8_turn_42 : decode cX8_turn 42 = .ok (.aload_n 0, 1) := by decide +kernel
theorem dX8_turn_43 : decode cX8_turn 43 = .ok (.getfield 229, 3) := by decide +kernel
theorem dX8_turn_46 : decode cX8_turn 46 = .ok (.ireturn, 1) := by decide +kernel
theorem dX8_wedge_0 : decode cX8_wedge 0 = .ok (.aload_n 0, 1) := by decide +kernel
theorem dX8_wedge_1 : decode cX8_wedge 1 = .ok (.iconst 0, 1) := by decide +kernel
theorem dX8_wedge_2 : decode cX8_wedge 2 = .ok (.putfield 77, 3) := by decide +kernel
theorem dX8_wedge_5 : decode cX8_wedge 5 = .ok (.aload_n 0, 1) := by decide +kernel
theorem dX8_wedge_6 : decode cX8_wedge 6 = .ok (.invokevirtual 248, 3) := by decide +kernel
theorem dX8_wedge_9 : decode cX8_wedge 9 = .ok (.aload_n 0, 1) := by decide +kernel
theorem dX8_wedge_10 : decode cX8_wedge 10 = .ok (.getfield 229, 3) := by decide +kernel
theorem dX8_wedge_13 : decode cX8_wedge 13 = .ok (.ifCond .ne 6, 3) := by decide +kernel
theorem dX8_wedge_16 : decode cX8_wedge 16 = .ok (.bipush (-3), 2) := by decide +kernel
theorem dX8_wedge_18 : decode cX8_wedge 18 = .ok (.ireturn, 1) := by decide +kernel
theorem dX8_wedge_19 : decode cX8_wedge 19 = .ok (.aload_n 0, 1) := by decide +kernel
theorem dX8_wedge_20 : decode cX8_wedge 20 = .ok (.aload_n 0, 1) := by decide +kernel
theorem dX8_wedge_21 : decode cX8_wedge 21 = .ok (.getfield 220, 3) := by decide +kernel
theorem dX8_wedge_24 : decode cX8_wedge 24 = .ok (.aload_n 0, 1) := by decide +kernel
theorem dX8_wedge_25 : decode cX8_wedge 25 = .ok (.getfield 22, 3) := by decide +kernel
theorem dX8_wedge_28 : decode cX8_wedge 28 = .ok (.aload_n 0, 1) := by decide +kernel
theorem dX8_wedge_29 : decode cX8_wedge 29 = .ok (.getfield 238, 3) := by decide +kernel
theorem dX8_wedge_32 : decode cX8_wedge 32 = .ok (.invokevirtual 201, 3) := by decide +kernel
theorem dX8_wedge_35 : decode cX8_wedge 35 = .ok (.istore_n 1, 1) := by decide +kernel
theorem dX8_wedge_36 : decode cX8_wedge 36 = .ok (.aload_n 0, 1) := by decide +kernel
theorem dX8_wedge_37 : decode cX8_wedge 37 = .ok (.getfield 7, 3) := by decide +kernel
theorem dX8_wedge_40 : decode cX8_wedge 40 = .ok (.iload_n 1, 1) := by decide +kernel
theorem dX8_wedge_41 : decode cX8_wedge 41 = .ok (.aload_n 0, 1) := by decide +kernel
theorem dX8_wedge_42 : decode cX8_wedge 42 = .ok (.getfield 7, 3) := by decide +kernel
theorem dX8_wedge_45 : decode cX8_wedge 45 = .ok (.iload_n 1, 1) := by decide +kernel
theorem dX8_wedge_46 : decode cX8_wedge 46 = .ok (.iaload, 1) := by decide +kernel
theorem dX8_wedge_47 : decode cX8_wedge 47 = .ok (.aload_n 0, 1) := by decide +kernel
theorem dX8_wedge_48 : decode cX8_wedge 48 = .ok (.getfield 229, 3) := by decide +kernel
theorem dX8_wedge_51 : decode cX8_wedge 51 = .ok (.iadd, 1) := by decide +kernel
theorem dX8_wedge_52 : decode cX8_wedge 52 = .ok (.iconst 0, 1) := by decide +kernel
theorem dX8_wedge_53 : decode cX8_wedge 53 = .ok (.bipush 99, 2) := by decide +kernel
theorem dX8_wedge_55 : decode cX8_wedge 55 = .ok (.invokestatic 198, 3) := by decide +kernel
theorem dX8_wedge_58 : decode cX8_wedge 58 = .ok (.iastore, 1) := by decide +kernel
theorem dX8_wedge_59 : decode cX8_wedge 59 = .ok (.aload_n 0, 1) := by decide +kernel
theorem dX8_wedge_60 : decode cX8_wedge 60 = .ok (.getfield 229, 3) := by decide +kernel
theorem dX8_wedge_63 : decode cX8_wedge 63 = .ok (.ireturn, 1) := by decide +kernel
theorem dX8_saw_0 : decode cX8_saw 0 = .ok (.aload_n 0, 1) := by decide +kernel
theorem dX8_saw_1 : decode cX8_saw 1 = .ok (.iconst 0, 1) := by decide +kernel
theorem dX8_saw_2 : decode cX8_saw 2 = .ok (.putfield 77, 3) := by decide +kernel
theorem dX8_saw_5 : decode cX8_saw 5 = .ok (.aload_n 0, 1) := by decide +kernel
theorem dX8_saw_6 : decode cX8_saw 6 = .ok (.invokevirtual 248, 3) := by decide +kernel
theorem dX8_saw_9 : decode cX8_saw 9 = .ok (.aload_n 0, 1) := by decide +kernel
theorem dX8_saw_10 : decode cX8_saw 10 = .ok (.getfield 229, 3) := by decide +kernel
theorem dX8_saw_13 : decode cX8_saw 13 = .ok (.ifCond .ne 6, 3) := by decide +kernel
theorem dX8_saw_16 : decode cX8_saw 16 = .ok (.bipush (-3), 2) := by decide +kernel
theorem dX8_saw_18 : decode cX8_saw 18 = .ok (.ireturn, 1) := by decide +kernel
theorem dX8_saw_19 : decode cX8_saw 19 = .ok (.aload_n 0, 1) := by decide +kernel
theorem dX8_saw_20 : decode cX8_saw 20 = .ok (.getfield 229, 3) := by decide +kernel
theorem dX8_saw_23 : decode cX8_saw 23 = .ok (.iconst 2, 1) := by decide +kernel
theorem dX8_saw_24 : decode cX8_saw 24 = .ok (.idiv, 1) := by decide +kernel
theorem dX8_saw_25 : decode cX8_saw 25 = .ok (.istore_n 1, 1) := by decide +kernel
theorem dX8_saw_26 : decode cX8_saw 26 = .ok (.aload_n 0, 1) := by decide +kernel
theorem dX8_saw_27 : decode cX8_saw 27 = .ok (.getfield 16, 3) := by decide +kernel
theorem dX8_saw_30 : decode cX8_saw 30 = .ok (.aload_n 0, 1) := by decide +kernel
theorem dX8_saw_31 : decode cX8_saw 31 = .ok (.getfield 217, 3) := by decide +kernel
theorem dX8_saw_34 : decode cX8_saw 34 = .ok (.aload_n 0, 1) := by decide +kernel
theorem dX8_saw_35 : decode cX8_saw 35 = .ok (.getfield 16, 3) := by decide +kernel
theorem dX8_saw_38 : decode cX8_saw 38 = .ok (.aload_n 0, 1) := by decide +kernel
theorem dX8_saw_39 : decode cX8_saw 39 = .ok (.getfield 217, 3) := by decide +kernel
theorem dX8_saw_42 : decode cX8_saw 42 = .ok (.iaload, 1) := by decide +kernel
theorem dX8_saw_43 : decode cX8_saw 43 = .ok (.iload_n 1, 1) := by decide +kernel
theorem dX8_saw_44 : decode cX8_saw 44 = .ok (.isub, 1) := by decide +kernel
theorem dX8_saw_45 : decode cX8_saw 45 = .ok (.iconst 0, 1) := by decide +kernel
theorem dX8_saw_46 : decode cX8_saw 46 = .ok (.bipush 99, 2) := by decide +kernel
theorem dX8_saw_48 : decode cX8_saw 48 = .ok (.invokestatic 198, 3) := by decide +kernel
theorem dX8_saw_51 : decode cX8_saw 51 = .ok (.iastore, 1) := by decide +kernel
theorem dX8_saw_52 : decode cX8_saw 52 = .ok (.aload_n 0, 1) := by decide +kernel
theorem dX8_saw_53 : decode cX8_saw 53 = .ok (.getfield 16, 3) := by decide +kernel
theorem dX8_saw_56 : decode cX8_saw 56 = .ok (.aload_n 0, 1) := by decide +kernel
theorem dX8_saw_57 : decode cX8_saw 57 = .ok (.getfield 217, 3) := by decide +kernel
theorem dX8_saw_60 : decode cX8_saw 60 = .ok (.iconst 2, 1) := by decide +kernel
theorem dX8_saw_61 : decode cX8_saw 61 = .ok (.iadd, 1) := by decide +kernel
theorem dX8_saw_62 : decode cX8_saw 62 = .ok (.aload_n 0, 1) := by decide +kernel
theorem dX8_saw_63 : decode cX8_saw 63 = .ok (.getfield 16, 3) := by decide +kernel
theorem dX8_saw_66 : decode cX8_saw 66 = .ok (.aload_n 0, 1) := by decide +kernel
theorem dX8_saw_67 : decode cX8_saw 67 = .ok (.getfield 217, 3) := by decide +kernel
theorem dX8_saw_70 : decode cX8_saw 70 = .ok (.iconst 2, 1) := by decide +kernel
theorem dX8_saw_71 : decode cX8_saw 71 = .ok (.iadd, 1) := by decide +kernel
theorem dX8_saw_72 : decode cX8_saw 72 = .ok (.iaload, 1) := by decide +kernel
theorem dX8_saw_73 : decode cX8_saw 73 = .ok (.aload_n 0, 1) := by decide +kernel
theorem dX8_saw_74 : decode cX8_saw 74 = .ok (.getfield 229, 3) := by decide +kernel
theorem dX8_saw_77 : decode cX8_saw 77 = .ok (.isub, 1) := by decide +kernel
theorem dX8_saw_78 : decode cX8_saw 78 = .ok (.iload_n 1, 1) := by decide +kernel
theorem dX8_saw_79 : decode cX8_saw 79 = .ok (.iadd, 1) := by decide +kernel
theorem dX8_saw_80 : decode cX8_saw 80 = .ok (.iconst 0, 1) := by decide +kernel
theorem dX8_saw_81 : decode cX8_saw 81 = .ok (.bipush 99, 2) := by decide +kernel
theorem dX8_saw_83 : decode cX8_saw 83 = .ok (.invokestatic 198, 3) := by decide +kernel
theorem dX8_saw_86 : decode cX8_saw 86 = .ok (.iastore, 1) := by decide +kernel
theorem dX8_saw_87 : decode cX8_saw 87 = .ok (.aload_n 0, 1) := by decide +kernel
theorem dX8_saw_88 : decode cX8_saw 88 = .ok (.invokevirtual 248, 3) := by decide +kernel
theorem dX8_saw_91 : decode cX8_saw 91 = .ok (.aload_n 0, 1) := by decide +kernel
theorem dX8_saw_92 : decode cX8_saw 92 = .ok (.getfield 229, 3) := by decide +kernel
theorem dX8_saw_95 : decode cX8_saw 95 = .ok (.ireturn, 1) := by decide +kernel
theorem dX8_screwBy_0 : decode cX8_screwBy 0 = .ok (.iconst 0, 1) := by decide +kernel
theorem dX8_screwBy_1 : decode cX8_screwBy 1 = .ok (.istore_n 2, 1) := by decide +kernel
theorem dX8_screwBy_2 : decode cX8_screwBy 2 = .ok (.iload_n 1, 1) := by decide +kernel
theorem dX8_screwBy_3 : decode cX8_screwBy 3 = .ok (.istore_n 3, 1) := by decide +kernel
theorem dX8_screwBy_4 : decode cX8_screwBy 4 = .ok (.iconst 0, 1) := by decide +kernel
theorem dX8_screwBy_5 : decode cX8_screwBy 5 = .ok (.istore 4, 2) := by decide +kernel
theorem dX8_screwBy_7 : decode cX8_screwBy 7 = .ok (.iload 4, 2) := by decide +kernel
theorem dX8_screwBy_9 : decode cX8_screwBy 9 = .ok (.iconst 4, 1) := by decide +kernel
theorem dX8_screwBy_10 : decode cX8_screwBy 10 = .ok (.if_icmp .ge 147, 3) := by decide +kernel
theorem dX8_screwBy_13 : decode cX8_screwBy 13 = .ok (.iload_n 3, 1) := by decide +kernel
theorem dX8_screwBy_14 : decode cX8_screwBy 14 = .ok (.bipush 7, 2) := by decide +kernel
theorem dX8_screwBy_16 : decode cX8_screwBy 16 = .ok (.irem, 1) := by decide +kernel
theorem dX8_screwBy_17 : decode cX8_screwBy 17 = .ok (.iconst 3, 1) := by decide +kernel
theorem dX8_screwBy_18 : decode cX8_screwBy 18 = .ok (.isub, 1) := by decide +kernel
theorem dX8_screwBy_19 : decode cX8_screwBy 19 = .ok (.istore 5, 2) := by decide +kernel
theorem dX8_screwBy_21 : decode cX8_screwBy 21 = .ok (.iload_n 3, 1) := by decide +kernel
theorem dX8_screwBy_22 : decode cX8_screwBy 22 = .ok (.bipush 7, 2) := by decide +kernel
theorem dX8_screwBy_24 : decode cX8_screwBy 24 = .ok (.idiv, 1) := by decide +kernel
theorem dX8_screwBy_25 : decode cX8_screwBy 25 = .ok (.istore_n 3, 1) := by decide +kernel
theorem dX8_screwBy_26 : decode cX8_screwBy 26 = .ok (.aload_n 0, 1) := by decide +kernel
theorem dX8_screwBy_27 : decode cX8_screwBy 27 = .ok (.getfield 13, 3) := by decide +kernel
theorem dX8_screwBy_30 : decode cX8_screwBy 30 = .ok (.iload 4, 2) := by decide +kernel
theorem dX8_screwBy_32 : decode cX8_screwBy 32 = .ok (.iaload, 1) := by decide +kernel
theorem dX8_screwBy_33 : decode cX8_screwBy 33 = .ok (.iconst 2, 1) := by decide +kernel
theorem dX8_screwBy_34 : decode cX8_screwBy 34 = .ok (.if_icmp .eq 14, 3) := by decide +kernel
theorem dX8_screwBy_37 : decode cX8_screwBy 37 = .ok (.aload_n 0, 1) := by decide +kernel
theorem dX8_screwBy_38 : decode cX8_screwBy 38 = .ok (.getfield 13, 3) := by decide +kernel
theorem dX8_screwBy_41 : decode cX8_screwBy 41 = .ok (.iload 4, 2) := by decide +kernel
theorem dX8_screwBy_43 : decode cX8_screwBy 43 = .ok (.iaload, 1) := by decide +kernel
theorem dX8_screwBy_44 : decode cX8_screwBy 44 = .ok (.iconst 4, 1) := by decide +kernel
theorem dX8_screwBy_45 : decode cX8_screwBy 45 = .ok (.if_icmp .ne 7, 3) := by decide +kernel
theorem dX8_screwBy_48 : decode cX8_screwBy 48 = .ok (.iconst 1, 1) := by decide +kernel
theorem dX8_screwBy_49 : decode cX8_screwBy 49 = .ok (.goto 4, 3) := by decide +kernel
theorem dX8_screwBy_52 : decode cX8_screwBy 52 = .ok (.iconst 0, 1) := by decide +kernel
theorem dX8_screwBy_53 : decode cX8_screwBy 53 = .ok (.istore 6, 2) := by decide +kernel
theorem dX8_screwBy_55 : decode cX8_screwBy 55 = .ok (.iload 5, 2) := by decide +kernel
theorem dX8_screwBy_57 : decode cX8_screwBy 57 = .ok (.ifCond .eq 29, 3) := by decide +kernel
theorem dX8_screwBy_60 : decode cX8_screwBy 60 = .ok (.iload 6, 2) := by decide +kernel
theorem dX8_screwBy_62 : decode cX8_screwBy 62 = .ok (.ifCond .eq 28, 3) := by decide +kernel
theorem dX8_screwBy_65 : decode cX8_screwBy 65 = .ok (.aload_n 0, 1) := by decide +kernel
theorem dX8_screwBy_66 : decode cX8_screwBy 66 = .ok (.getfield 59, 3) := by decide +kernel
theorem dX8_screwBy_69 : decode cX8_screwBy 69 = .ok (.iload 4, 2) := by decide +kernel
theorem dX8_screwBy_71 : decode cX8_screwBy 71 = .ok (.iaload, 1) := by decide +kernel
theorem dX8_screwBy_72 : decode cX8_screwBy 72 = .ok (.iload 5, 2) := by decide +kernel
theorem dX8_screwBy_74 : decode cX8_screwBy 74 = .ok (.iadd, 1) := by decide +kernel
theorem dX8_screwBy_75 : decode cX8_screwBy 75 = .ok (.i2l, 1) := by decide +kernel
theorem dX8_screwBy_76 : decode cX8_screwBy 76 = .ok (.lconst 0, 1) := by decide +kernel
theorem dX8_screwBy_77 : decode cX8_screwBy 77 = .ok (.ldc2_w 272, 3) := by decide +kernel
theorem dX8_screwBy_80 : decode cX8_screwBy 80 = .ok (.invokestatic 97, 3) := by decide +kernel
theorem dX8_screwBy_83 : decode cX8_screwBy 83 = .ok (.ifCond .eq 7, 3) := by decide +kernel
theorem dX8_screwBy_86 : decode cX8_screwBy 86 = .ok (.iconst 1, 1) := by decide +kernel
theorem dX8_screwBy_87 : decode cX8_screwBy 87 = .ok (.goto 4, 3) := by decide +kernel
theorem dX8_screwBy_90 : decode cX8_screwBy 90 = .ok (.iconst 0, 1) := by decide +kernel
theorem dX8_screwBy_91 : decode cX8_screwBy 91 = .ok (.istore 7, 2) := by decide +kernel
theorem dX8_screwBy_93 : decode cX8_screwBy 93 = .ok (.iload_n 2, 1) := by decide +kernel
theorem dX8_screwBy_94 : decode cX8_screwBy 94 = .ok (.iload 7, 2) := by decide +kernel
theorem dX8_screwBy_96 : decode cX8_screwBy 96 = .ok (.ifCond .ne 8, 3) := by decide +kernel
theorem dX8_screwBy_99 : decode cX8_screwBy 99 = .ok (.bipush 9, 2) := by decide +kernel
theorem dX8_screwBy_101 : decode cX8_screwBy 101 = .ok (.goto 16, 3) := by decide +kernel
theorem dX8_screwBy_104 : decode cX8_screwBy 104 = .ok (.iload 5, 2) := by decide +kernel
theorem dX8_screwBy_106 : decode cX8_screwBy 106 = .ok (.ifCond .ge 9, 3) := by decide +kernel
theorem dX8_screwBy_109 : decode cX8_screwBy 109 = .ok (.iload 5, 2) := by decide +kernel
theorem dX8_screwBy_111 : decode cX8_screwBy 111 = .ok (.ineg, 1) := by decide +kernel
theorem dX8_screwBy_112 : decode cX8_screwBy 112 = .ok (.goto 5, 3) := by decide +kernel
theorem dX8_screwBy_115 : decode cX8_screwBy 115 = .ok (.iload 5, 2) := by decide +kernel
theorem dX8_screwBy_117 : decode cX8_screwBy 117 = .ok (.iadd, 1) := by decide +kernel
theorem dX8_screwBy_118 : decode cX8_screwBy 118 = .ok (.istore_n 2, 1) := by decide +kernel
theorem dX8_screwBy_119 : decode cX8_screwBy 119 = .ok (.aload_n 0, 1) := by decide +kernel
theorem dX8_screwBy_120 : decode cX8_screwBy 120 = .ok (.getfield 19, 3) := by decide +kernel
theorem dX8_screwBy_123 : decode cX8_screwBy 123 = .ok (.iload 4, 2) := by decide +kernel
theorem dX8_screwBy_125 : decode cX8_screwBy 125 = .ok (.iload 7, 2) := by decide +kernel
theorem dX8_screwBy_127 : decode cX8_screwBy 127 = .ok (.ifCond .eq 16, 3) := by decide +kernel
theorem dX8_screwBy_130 : decode cX8_screwBy 130 = .ok (.aload_n 0, 1) := by decide +kernel
theorem dX8_screwBy_131 : decode cX8_screwBy 131 = .ok (.getfield 59, 3) := by decide +kernel
theorem dX8_screwBy_134 : decode cX8_screwBy 134 = .ok (.iload 4, 2) := by decide +kernel
theorem dX8_screwBy_136 : decode cX8_screwBy 136 = .ok (.iaload, 1) := by decide +kernel
theorem dX8_screwBy_137 : decode cX8_screwBy 137 = .ok (.iload 5, 2) := by decide +kernel
theorem dX8_screwBy_139 : decode cX8_screwBy 139 = .ok (.iadd, 1) := by decide +kernel
theorem dX8_screwBy_140 : decode cX8_screwBy 140 = .ok (.goto 10, 3) := by decide +kernel
theorem dX8_screwBy_143 : decode cX8_screwBy 143 = .ok (.aload_n 0, 1) := by decide +kernel
theorem dX8_screwBy_144 : decode cX8_screwBy 144 = .ok (.getfield 59, 3) := by decide +kernel
theorem dX8_screwBy_147 : decode cX8_screwBy 147 = .ok (.iload 4, 2) := by decide +kernel
theorem dX8_screwBy_149 : decode cX8_screwBy 149 = .ok (.iaload, 1) := by decide +kernel
theorem dX8_screwBy_150 : decode cX8_screwBy 150 = .ok (.iastore, 1) := by decide +kernel
theorem dX8_screwBy_151 : decode cX8_screwBy 151 = .ok (.iinc 4 1, 3) := by decide +kernel
theorem dX8_screwBy_154 : decode cX8_screwBy 154 = .ok (.goto (-147), 3) := by decide +kernel
theorem dX8_screwBy_157 : decode cX8_screwBy 157 = .ok (.iload_n 2, 1) := by decide +kernel
theorem dX8_screwBy_158 : decode cX8_screwBy 158 = .ok (.iconst 4, 1) := by decide +kernel
theorem dX8_screwBy_159 : decode cX8_screwBy 159 = .ok (.if_icmp .le 8, 3) := by decide +kernel
theorem dX8_screwBy_162 : decode cX8_screwBy 162 = .ok (.bipush 9, 2) := by decide +kernel
theorem dX8_screwBy_164 : decode cX8_screwBy 164 = .ok (.goto 4, 3) := by decide +kernel
theorem dX8_screwBy_167 : decode cX8_screwBy 167 = .ok (.iload_n 2, 1) := by decide +kernel
theorem dX8_screwBy_168 : decode cX8_screwBy 168 = .ok (.ireturn, 1) := by decide +kernel
theorem dX8_screwed_0 : decode cX8_screwed 0 = .ok (.aload_n 0, 1) := by decide +kernel
theorem dX8_screwed_1 : decode cX8_screwed 1 = .ok (.iconst 0, 1) := by decide +kernel
theorem dX8_screwed_2 : decode cX8_screwed 2 = .ok (.putfield 77, 3) := by decide +kernel
theorem dX8_screwed_5 : decode cX8_screwed 5 = .ok (.iconst 0, 1) := by decide +kernel
theorem dX8_screwed_6 : decode cX8_screwed 6 = .ok (.istore_n 1, 1) := by decide +kernel
theorem dX8_screwed_7 : decode cX8_screwed 7 = .ok (.iload_n 1, 1) := by decide +kernel
theorem dX8_screwed_8 : decode cX8_screwed 8 = .ok (.iconst 4, 1) := by decide +kernel
theorem dX8_screwed_9 : decode cX8_screwed 9 = .ok (.if_icmp .ge 21, 3) := by decide +kernel
theorem dX8_screwed_12 : decode cX8_screwed 12 = .ok (.aload_n 0, 1) := by decide +kernel
theorem dX8_screwed_13 : decode cX8_screwed 13 = .ok (.getfield 59, 3) := by decide +kernel
theorem dX8_screwed_16 : decode cX8_screwed 16 = .ok (.iload_n 1, 1) := by decide +kernel
theorem dX8_screwed_17 : decode cX8_screwed 17 = .ok (.aload_n 0, 1) := by decide +kernel
theorem dX8_screwed_18 : decode cX8_screwed 18 = .ok (.getfield 19, 3) := by decide +kernel
theorem dX8_screwed_21 : decode cX8_screwed 21 = .ok (.iload_n 1, 1) := by decide +kernel
theorem dX8_screwed_22 : decode cX8_screwed 22 = .ok (.iaload, 1) := by decide +kernel
theorem dX8_screwed_23 : decode cX8_screwed 23 = .ok (.iastore, 1) := by decide +kernel
theorem dX8_screwed_24 : decode cX8_screwed 24 = .ok (.iinc 1 1, 3) := by decide +kernel
theorem dX8_screwed_27 : decode cX8_screwed 27 = .ok (.goto (-20), 3) := by decide +kernel
theorem dX8_screwed_30 : decode cX8_screwed 30 = .ok (.bipush 9, 2) := by decide +kernel
theorem dX8_screwed_32 : decode cX8_screwed 32 = .ok (.istore_n 1, 1) := by decide +kernel
theorem dX8_screwed_33 : decode cX8_screwed 33 = .ok (.iconst 0, 1) := by decide +kernel
theorem dX8_screwed_34 : decode cX8_screwed 34 = .ok (.istore_n 2, 1) := by decide +kernel
theorem dX8_screwed_35 : decode cX8_screwed 35 = .ok (.iload_n 2, 1) := by decide +kernel
theorem dX8_screwed_36 : decode cX8_screwed 36 = .ok (.sipush 2401, 3) := by decide +kernel
theorem dX8_screwed_39 : decode cX8_screwed 39 = .ok (.if_icmp .ge 37, 3) := by decide +kernel
theorem dX8_screwed_42 : decode cX8_screwed 42 = .ok (.aload_n 0, 1) := by decide +kernel
theorem dX8_screwed_43 : decode cX8_screwed 43 = .ok (.iload_n 2, 1) := by decide +kernel
theorem dX8_screwed_44 : decode cX8_screwed 44 = .ok (.invokevirtual 274, 3) := by decide +kernel
theorem dX8_screwed_47 : decode cX8_screwed 47 = .ok (.istore_n 3, 1) := by decide +kernel
theorem dX8_screwed_48 : decode cX8_screwed 48 = .ok (.iload_n 3, 1) := by decide +kernel
theorem dX8_screwed_49 : decode cX8_screwed 49 = .ok (.iload_n 1, 1) := by decide +kernel
theorem dX8_screwed_50 : decode cX8_screwed 50 = .ok (.if_icmp .ge 20, 3) := by decide +kernel
theorem dX8_screwed_53 : decode cX8_screwed 53 = .ok (.aload_n 0, 1) := by decide +kernel
theorem dX8_screwed_54 : decode cX8_screwed 54 = .ok (.invokevirtual 248, 3) := by decide +kernel
theorem dX8_screwed_57 : decode cX8_screwed 57 = .ok (.aload_n 0, 1) := by decide +kernel
theorem dX8_screwed_58 : decode cX8_screwed 58 = .ok (.getfield 229, 3) := by decide +kernel
theorem dX8_screwed_61 : decode cX8_screwed 61 = .ok (.ifCond .ne 7, 3) := by decide +kernel
theorem dX8_screwed_64 : decode cX8_screwed 64 = .ok (.iload_n 3, 1) := by decide +kernel
theorem dX8_screwed_65 : decode cX8_screwed 65 = .ok (.goto 4, 3) := by decide +kernel
theorem dX8_screwed_68 : decode cX8_screwed 68 = .ok (.iload_n 1, 1) := by decide +kernel
theorem dX8_screwed_69 : decode cX8_screwed 69 = .ok (.istore_n 1, 1) := by decide +kernel
theorem dX8_screwed_70 : decode cX8_screwed 70 = .ok (.iinc 2 1, 3) := by decide +kernel
theorem dX8_screwed_73 : decode cX8_screwed 73 = .ok (.goto (-38), 3) := by decide +kernel
theorem dX8_screwed_76 : decode cX8_screwed 76 = .ok (.iconst 0, 1) := by decide +kernel
theorem dX8_screwed_77 : decode cX8_screwed 77 = .ok (.istore_n 2, 1) := by decide +kernel
theorem dX8_screwed_78 : decode cX8_screwed 78 = .ok (.iload_n 2, 1) := by decide +kernel
theorem dX8_screwed_79 : decode cX8_screwed 79 = .ok (.iconst 4, 1) := by decide +kernel
theorem dX8_screwed_80 : decode cX8_screwed 80 = .ok (.if_icmp .ge 21, 3) := by decide +kernel
theorem dX8_screwed_83 : decode cX8_screwed 83 = .ok (.aload_n 0, 1) := by decide +kernel
theorem dX8_screwed_84 : decode cX8_screwed 84 = .ok (.getfield 19, 3) := by decide +kernel
theorem dX8_screwed_87 : decode cX8_screwed 87 = .ok (.iload_n 2, 1) := by decide +kernel
theorem dX8_screwed_88 : decode cX8_screwed 88 = .ok (.aload_n 0, 1) := by decide +kernel
theorem dX8_screwed_89 : decode cX8_screwed 89 = .ok (.getfield 59, 3) := by decide +kernel
theorem dX8_screwed_92 : decode cX8_screwed 92 = .ok (.iload_n 2, 1) := by decide +kernel
theorem dX8_screwed_93 : decode cX8_screwed 93 = .ok (.iaload, 1) := by decide +kernel
theorem dX8_screwed_94 : decode cX8_screwed 94 = .ok (.iastore, 1) := by decide +kernel
theorem dX8_screwed_95 : decode cX8_screwed 95 = .ok (.iinc 2 1, 3) := by decide +kernel
theorem dX8_screwed_98 : decode cX8_screwed 98 = .ok (.goto (-20), 3) := by decide +kernel
theorem dX8_screwed_101 : decode cX8_screwed 101 = .ok (.iload_n 1, 1) := by decide +kernel
theorem dX8_screwed_102 : decode cX8_screwed 102 = .ok (.bipush 9, 2) := by decide +kernel
theorem dX8_screwed_104 : decode cX8_screwed 104 = .ok (.if_icmp .ge 7, 3) := by decide +kernel
theorem dX8_screwed_107 : decode cX8_screwed 107 = .ok (.iload_n 1, 1) := by decide +kernel
theorem dX8_screwed_108 : decode cX8_screwed 108 = .ok (.goto 4, 3) := by decide +kernel
theorem dX8_screwed_111 : decode cX8_screwed 111 = .ok (.iconst (-1), 1) := by decide +kernel
theorem dX8_screwed_112 : decode cX8_screwed 112 = .ok (.ireturn, 1) := by decide +kernel
theorem dX8_blame_0 : decode cX8_blame 0 = .ok (.aload_n 0, 1) := by decide +kernel
theorem dX8_blame_1 : decode cX8_blame 1 = .ok (.iconst 0, 1) := by decide +kernel
theorem dX8_blame_2 : decode cX8_blame 2 = .ok (.putfield 77, 3) := by decide +kernel
theorem dX8_blame_5 : decode cX8_blame 5 = .ok (.iload_n 1, 1) := by decide +kernel
theorem dX8_blame_6 : decode cX8_blame 6 = .ok (.i2l, 1) := by decide +kernel
theorem dX8_blame_7 : decode cX8_blame 7 = .ok (.lconst 0, 1) := by decide +kernel
theorem dX8_blame_8 : decode cX8_blame 8 = .ok (.lconst 1, 1) := by decide +kernel
theorem dX8_blame_9 : decode cX8_blame 9 = .ok (.invokestatic 97, 3) := by decide +kernel
theorem dX8_blame_12 : decode cX8_blame 12 = .ok (.ifCond .ne 6, 3) := by decide +kernel
theorem dX8_blame_15 : decode cX8_blame 15 = .ok (.ldc 247, 2) := by decide +kernel
theorem dX8_blame_17 : decode cX8_blame 17 = .ok (.ireturn, 1) := by decide +kernel
theorem dX8_blame_18 : decode cX8_blame 18 = .ok (.aload_n 0, 1) := by decide +kernel
theorem dX8_blame_19 : decode cX8_blame 19 = .ok (.aload_n 0, 1) := by decide +kernel
theorem dX8_blame_20 : decode cX8_blame 20 = .ok (.getfield 22, 3) := by decide +kernel
theorem dX8_blame_23 : decode cX8_blame 23 = .ok (.aload_n 0, 1) := by decide +kernel
theorem dX8_blame_24 : decode cX8_blame 24 = .ok (.getfield 238, 3) := by decide +kernel
theorem dX8_blame_27 : decode cX8_blame 27 = .ok (.iconst 2, 1) := by decide +kernel
theorem dX8_blame_28 : decode cX8_blame 28 = .ok (.iadd, 1) := by decide +kernel
theorem dX8_blame_29 : decode cX8_blame 29 = .ok (.bipush 8, 2) := by decide +kernel
theorem dX8_blame_31 : decode cX8_blame 31 = .ok (.irem, 1) := by decide +kernel
theorem dX8_blame_32 : decode cX8_blame 32 = .ok (.invokevirtual 241, 3) := by decide +kernel
theorem dX8_blame_35 : decode cX8_blame 35 = .ok (.aload_n 0, 1) := by decide +kernel
theorem dX8_blame_36 : decode cX8_blame 36 = .ok (.getfield 211, 3) := by decide +kernel
theorem dX8_blame_39 : decode cX8_blame 39 = .ok (.istore_n 2, 1) := by decide +kernel
theorem dX8_blame_40 : decode cX8_blame 40 = .ok (.aload_n 0, 1) := by decide +kernel
theorem dX8_blame_41 : decode cX8_blame 41 = .ok (.invokevirtual 248, 3) := by decide +kernel
theorem dX8_blame_44 : decode cX8_blame 44 = .ok (.aload_n 0, 1) := by decide +kernel
theorem dX8_blame_45 : decode cX8_blame 45 = .ok (.getfield 211, 3) := by decide +kernel
theorem dX8_blame_48 : decode cX8_blame 48 = .ok (.iload_n 2, 1) := by decide +kernel
theorem dX8_blame_49 : decode cX8_blame 49 = .ok (.iadd, 1) := by decide +kernel
theorem dX8_blame_50 : decode cX8_blame 50 = .ok (.iconst 2, 1) := by decide +kernel
theorem dX8_blame_51 : decode cX8_blame 51 = .ok (.idiv, 1) := by decide +kernel
theorem dX8_blame_52 : decode cX8_blame 52 = .ok (.istore_n 3, 1) := by decide +kernel
theorem dX8_blame_53 : decode cX8_blame 53 = .ok (.iload_n 1, 1) := by decide +kernel
theorem dX8_blame_54 : decode cX8_blame 54 = .ok (.ifCond .ne 7, 3) := by decide +kernel
theorem dX8_blame_57 : decode cX8_blame 57 = .ok (.iload_n 3, 1) := by decide +kernel
theorem dX8_blame_58 : decode cX8_blame 58 = .ok (.goto 9, 3) := by decide +kernel
theorem dX8_blame_61 : decode cX8_blame 61 = .ok (.aload_n 0, 1) := by decide +kernel
theorem dX8_blame_62 : decode cX8_blame 62 = .ok (.getfield 211, 3) := by decide +kernel
theorem dX8_blame_65 : decode cX8_blame 65 = .ok (.iload_n 3, 1) := by decide +kernel
theorem dX8_blame_66 : decode cX8_blame 66 = .ok (.isub, 1) := by decide +kernel
theorem dX8_blame_67 : decode cX8_blame 67 = .ok (.ireturn, 1) := by decide +kernel
theorem dX8_apart_0 : decode cX8_apart 0 = .ok (.iload_n 0, 1) := by decide +kernel
theorem dX8_apart_1 : decode cX8_apart 1 = .ok (.iload_n 1, 1) := by decide +kernel
theorem dX8_apart_2 : decode cX8_apart 2 = .ok (.if_icmp .ge 9, 3) := by decide +kernel
theorem dX8_apart_5 : decode cX8_apart 5 = .ok (.iload_n 1, 1) := by decide +kernel
theorem dX8_apart_6 : decode cX8_apart 6 = .ok (.iload_n 0, 1) := by decide +kernel
theorem dX8_apart_7 : decode cX8_apart 7 = .ok (.isub, 1) := by decide +kernel
theorem dX8_apart_8 : decode cX8_apart 8 = .ok (.goto 6, 3) := by decide +kernel
theorem dX8_apart_11 : decode cX8_apart 11 = .ok (.iload_n 0, 1) := by decide +kernel
theorem dX8_apart_12 : decode cX8_apart 12 = .ok (.iload_n 1, 1) := by decide +kernel
theorem dX8_apart_13 : decode cX8_apart 13 = .ok (.isub, 1) := by decide +kernel
theorem dX8_apart_14 : decode cX8_apart 14 = .ok (.ireturn, 1) := by decide +kernel
theorem dX8_beside_0 : decode cX8_beside 0 = .ok (.aload_n 0, 1) := by decide +kernel
theorem dX8_beside_1 : decode cX8_beside 1 = .ok (.iconst 0, 1) := by decide +kernel
theorem dX8_beside_2 : decode cX8_beside 2 = .ok (.putfield 77, 3) := by decide +kernel
theorem dX8_beside_5 : decode cX8_beside 5 = .ok (.iload_n 1, 1) := by decide +kernel
theorem dX8_beside_6 : decode cX8_beside 6 = .ok (.i2l, 1) := by decide +kernel
theorem dX8_beside_7 : decode cX8_beside 7 = .ok (.lconst 0, 1) := by decide +kernel
theorem dX8_beside_8 : decode cX8_beside 8 = .ok (.lconst 1, 1) := by decide +kernel
theorem dX8_beside_9 : decode cX8_beside 9 = .ok (.invokestatic 97, 3) := by decide +kernel
theorem dX8_beside_12 : decode cX8_beside 12 = .ok (.ifCond .ne 6, 3) := by decide +kernel
theorem dX8_beside_15 : decode cX8_beside 15 = .ok (.bipush (-2), 2) := by decide +kernel
theorem dX8_beside_17 : decode cX8_beside 17 = .ok (.ireturn, 1) := by decide +kernel
theorem dX8_beside_18 : decode cX8_beside 18 = .ok (.iconst 0, 1) := by decide +kernel
theorem dX8_beside_19 : decode cX8_beside 19 = .ok (.istore_n 2, 1) := by decide +kernel
theorem dX8_beside_20 : decode cX8_beside 20 = .ok (.iload_n 2, 1) := by decide +kernel
theorem dX8_beside_21 : decode cX8_beside 21 = .ok (.bipush 64, 2) := by decide +kernel
theorem dX8_beside_23 : decode cX8_beside 23 = .ok (.if_icmp .ge 111, 3) := by decide +kernel
theorem dX8_beside_26 : decode cX8_beside 26 = .ok (.iload_n 2, 1) := by decide +kernel
theorem dX8_beside_27 : decode cX8_beside 27 = .ok (.bipush 8, 2) := by decide +kernel
theorem dX8_beside_29 : decode cX8_beside 29 = .ok (.idiv, 1) := by decide +kernel
theorem dX8_beside_30 : decode cX8_beside 30 = .ok (.aload_n 0, 1) := by decide +kernel
theorem dX8_beside_31 : decode cX8_beside 31 = .ok (.getfield 22, 3) := by decide +kernel
theorem dX8_beside_34 : decode cX8_beside 34 = .ok (.bipush 8, 2) := by decide +kernel
theorem dX8_beside_36 : decode cX8_beside 36 = .ok (.idiv, 1) := by decide +kernel
theorem dX8_beside_37 : decode cX8_beside 37 = .ok (.invokestatic 277, 3) := by decide +kernel
theorem dX8_beside_40 : decode cX8_beside 40 = .ok (.iconst 2, 1) := by decide +kernel
theorem dX8_beside_41 : decode cX8_beside 41 = .ok (.aload_n 0, 1) := by decide +kernel
theorem dX8_beside_42 : decode cX8_beside 42 = .ok (.getfield 26, 3) := by decide +kernel
theorem dX8_beside_45 : decode cX8_beside 45 = .ok (.imul, 1) := by decide +kernel
theorem dX8_beside_46 : decode cX8_beside 46 = .ok (.if_icmp .gt 26, 3) := by decide +kernel
theorem dX8_beside_49 : decode cX8_beside 49 = .ok (.iload_n 2, 1) := by decide +kernel
theorem dX8_beside_50 : decode cX8_beside 50 = .ok (.bipush 8, 2) := by decide +kernel
theorem dX8_beside_52 : decode cX8_beside 52 = .ok (.irem, 1) := by decide +kernel
theorem dX8_beside_53 : decode cX8_beside 53 = .ok (.aload_n 0, 1) := by decide +kernel
theorem dX8_beside_54 : decode cX8_beside 54 = .ok (.getfield 22, 3) := by decide +kernel
theorem dX8_beside_57 : decode cX8_beside 57 = .ok (.bipush 8, 2) := by decide +kernel
theorem dX8_beside_59 : decode cX8_beside 59 = .ok (.irem, 1) := by decide +kernel
theorem dX8_beside_60 : decode cX8_beside 60 = .ok (.invokestatic 277, 3) := by decide +kernel
theorem dX8_beside_63 : decode cX8_beside 63 = .ok (.iconst 2, 1) := by decide +kernel
theorem dX8_beside_64 : decode cX8_beside 64 = .ok (.aload_n 0, 1) := by decide +kernel
theorem dX8_beside_65 : decode cX8_beside 65 = .ok (.getfield 26, 3) := by decide +kernel
theorem dX8_beside_68 : decode cX8_beside 68 = .ok (.imul, 1) := by decide +kernel
theorem dX8_beside_69 : decode cX8_beside 69 = .ok (.if_icmp .le 7, 3) := by decide +kernel
theorem dX8_beside_72 : decode cX8_beside 72 = .ok (.iconst 1, 1) := by decide +kernel
theorem dX8_beside_73 : decode cX8_beside 73 = .ok (.goto 4, 3) := by decide +kernel
theorem dX8_beside_76 : decode cX8_beside 76 = .ok (.iconst 0, 1) := by decide +kernel
theorem dX8_beside_77 : decode cX8_beside 77 = .ok (.istore_n 3, 1) := by decide +kernel
theorem dX8_beside_78 : decode cX8_beside 78 = .ok (.iload_n 3, 1) := by decide +kernel
theorem dX8_beside_79 : decode cX8_beside 79 = .ok (.ifCond .eq 11, 3) := by decide +kernel
theorem dX8_beside_82 : decode cX8_beside 82 = .ok (.aload_n 0, 1) := by decide +kernel
theorem dX8_beside_83 : decode cX8_beside 83 = .ok (.iload_n 2, 1) := by decide +kernel
theorem dX8_beside_84 : decode cX8_beside 84 = .ok (.invokevirtual 262, 3) := by decide +kernel
theorem dX8_beside_87 : decode cX8_beside 87 = .ok (.goto 4, 3) := by decide +kernel
theorem dX8_beside_90 : decode cX8_beside 90 = .ok (.iconst 0, 1) := by decide +kernel
theorem dX8_beside_91 : decode cX8_beside 91 = .ok (.istore 4, 2) := by decide +kernel
theorem dX8_beside_93 : decode cX8_beside 93 = .ok (.iload 4, 2) := by decide +kernel
theorem dX8_beside_95 : decode cX8_beside 95 = .ok (.ifCond .eq 33, 3) := by decide +kernel
theorem dX8_beside_98 : decode cX8_beside 98 = .ok (.iconst 0, 1) := by decide +kernel
theorem dX8_beside_99 : decode cX8_beside 99 = .ok (.istore 5, 2) := by decide +kernel
theorem dX8_beside_101 : decode cX8_beside 101 = .ok (.iload 4, 2) := by decide +kernel
theorem dX8_beside_103 : decode cX8_beside 103 = .ok (.iload 5, 2) := by decide +kernel
theorem dX8_beside_105 : decode cX8_beside 105 = .ok (.ishr, 1) := by decide +kernel
theorem dX8_beside_106 : decode cX8_beside 106 = .ok (.iconst 1, 1) := by decide +kernel
theorem dX8_beside_107 : decode cX8_beside 107 = .ok (.iand, 1) := by decide +kernel
theorem dX8_beside_108 : decode cX8_beside 108 = .ok (.ifCond .ne 9, 3) := by decide +kernel
theorem dX8_beside_111 : decode cX8_beside 111 = .ok (.iinc 5 1, 3) := by decide +kernel
theorem dX8_beside_114 : decode cX8_beside 114 = .ok (.goto (-13), 3) := by decide +kernel
theorem dX8_beside_117 : decode cX8_beside 117 = .ok (.iload_n 1, 1) := by decide +kernel
theorem dX8_beside_118 : decode cX8_beside 118 = .ok (.ifCond .ne 7, 3) := by decide +kernel
theorem dX8_beside_121 : decode cX8_beside 121 = .ok (.iload_n 2, 1) := by decide +kernel
theorem dX8_beside_122 : decode cX8_beside 122 = .ok (.goto 5, 3) := by decide +kernel
theorem dX8_beside_125 : decode cX8_beside 125 = .ok (.iload 5, 2) := by decide +kernel
theorem dX8_beside_127 : decode cX8_beside 127 = .ok (.ireturn, 1) := by decide +kernel
theorem dX8_beside_128 : decode cX8_beside 128 = .ok (.iinc 2 1, 3) := by decide +kernel
theorem dX8_beside_131 : decode cX8_beside 131 = .ok (.goto (-111), 3) := by decide +kernel
theorem dX8_beside_134 : decode cX8_beside 134 = .ok (.iconst (-1), 1) := by decide +kernel
theorem dX8_beside_135 : decode cX8_beside 135 = .ok (.ireturn, 1) := by decide +kernel
theorem dX8_sit_0 : decode cX8_sit 0 = .ok (.aload_n 0, 1) := by decide +kernel
theorem dX8_sit_1 : decode cX8_sit 1 = .ok (.iconst 0, 1) := by decide +kernel
theorem dX8_sit_2 : decode cX8_sit 2 = .ok (.putfield 77, 3) := by decide +kernel
theorem dX8_sit_5 : decode cX8_sit 5 = .ok (.aload_n 0, 1) := by decide +kernel
theorem dX8_sit_6 : decode cX8_sit 6 = .ok (.getfield 204, 3) := by decide +kernel
theorem dX8_sit_9 : decode cX8_sit 9 = .ok (.istore_n 1, 1) := by decide +kernel
theorem dX8_sit_10 : decode cX8_sit 10 = .ok (.iconst (-1), 1) := by decide +kernel
theorem dX8_sit_11 : decode cX8_sit 11 = .ok (.istore_n 2, 1) := by decide +kernel
theorem dX8_sit_12 : decode cX8_sit 12 = .ok (.iload_n 1, 1) := by decide +kernel
theorem dX8_sit_13 : decode cX8_sit 13 = .ok (.istore_n 3, 1) := by decide +kernel
theorem dX8_sit_14 : decode cX8_sit 14 = .ok (.iload_n 3, 1) := by decide +kernel
theorem dX8_sit_15 : decode cX8_sit 15 = .ok (.bipush 10, 2) := by decide +kernel
theorem dX8_sit_17 : decode cX8_sit 17 = .ok (.if_icmp .ge 37, 3) := by decide +kernel
theorem dX8_sit_20 : decode cX8_sit 20 = .ok (.iload_n 2, 1) := by decide +kernel
theorem dX8_sit_21 : decode cX8_sit 21 = .ok (.ifCond .ge 33, 3) := by decide +kernel
theorem dX8_sit_24 : decode cX8_sit 24 = .ok (.aload_n 0, 1) := by decide +kernel
theorem dX8_sit_25 : decode cX8_sit 25 = .ok (.iload_n 3, 1) := by decide +kernel
theorem dX8_sit_26 : decode cX8_sit 26 = .ok (.putfield 204, 3) := by decide +kernel
theorem dX8_sit_29 : decode cX8_sit 29 = .ok (.aload_n 0, 1) := by decide +kernel
theorem dX8_sit_30 : decode cX8_sit 30 = .ok (.invokevirtual 248, 3) := by decide +kernel
theorem dX8_sit_33 : decode cX8_sit 33 = .ok (.aload_n 0, 1) := by decide +kernel
theorem dX8_sit_34 : decode cX8_sit 34 = .ok (.getfield 229, 3) := by decide +kernel
theorem dX8_sit_37 : decode cX8_sit 37 = .ok (.ifCond .ne 9, 3) := by decide +kernel
theorem dX8_sit_40 : decode cX8_sit 40 = .ok (.iload_n 3, 1) := by decide +kernel
theorem dX8_sit_41 : decode cX8_sit 41 = .ok (.iload_n 1, 1) := by decide +kernel
theorem dX8_sit_42 : decode cX8_sit 42 = .ok (.isub, 1) := by decide +kernel
theorem dX8_sit_43 : decode cX8_sit 43 = .ok (.goto 4, 3) := by decide +kernel
theorem dX8_sit_46 : decode cX8_sit 46 = .ok (.iconst (-1), 1) := by decide +kernel
theorem dX8_sit_47 : decode cX8_sit 47 = .ok (.istore_n 2, 1) := by decide +kernel
theorem dX8_sit_48 : decode cX8_sit 48 = .ok (.iinc 3 1, 3) := by decide +kernel
theorem dX8_sit_51 : decode cX8_sit 51 = .ok (.goto (-37), 3) := by decide +kernel
theorem dX8_sit_54 : decode cX8_sit 54 = .ok (.aload_n 0, 1) := by decide +kernel
theorem dX8_sit_55 : decode cX8_sit 55 = .ok (.iload_n 1, 1) := by decide +kernel
theorem dX8_sit_56 : decode cX8_sit 56 = .ok (.putfield 204, 3) := by decide +kernel
theorem dX8_sit_59 : decode cX8_sit 59 = .ok (.iload_n 2, 1) := by decide +kernel
theorem dX8_sit_60 : decode cX8_sit 60 = .ok (.ireturn, 1) := by decide +kernel
theorem dX8_firstOtherwise_0 : decode cX8_firstOtherwise 0 = .ok (.iconst 0, 1) := by decide +kernel
theorem dX8_firstOtherwise_1 : decode cX8_firstOtherwise 1 = .ok (.istore_n 3, 1) := by decide +kernel
theorem dX8_firstOtherwise_2 : decode cX8_firstOtherwise 2 = .ok (.iload_n 3, 1) := by decide +kernel
theorem dX8_firstOtherwise_3 : decode cX8_firstOtherwise 3 = .ok (.aload_n 0, 1) := by decide +kernel
theorem dX8_firstOtherwise_4 : decode cX8_firstOtherwise 4 = .ok (.getfield 68, 3) := by decide +kernel
theorem dX8_firstOtherwise_7 : decode cX8_firstOtherwise 7 = .ok (.iload_n 1, 1) := by decide +kernel
theorem dX8_firstOtherwise_8 : decode cX8_firstOtherwise 8 = .ok (.iaload, 1) := by decide +kernel
theorem dX8_firstOtherwise_9 : decode cX8_firstOtherwise 9 = .ok (.if_icmp .ge 36, 3) := by decide +kernel
theorem dX8_firstOtherwise_12 : decode cX8_firstOtherwise 12 = .ok (.aload_n 0, 1) := by decide +kernel
theorem dX8_firstOtherwise_13 : decode cX8_firstOtherwise 13 = .ok (.getfield 71, 3) := by decide +kernel
theorem dX8_firstOtherwise_16 : decode cX8_firstOtherwise 16 = .ok (.bipush 40, 2) := by decide +kernel
theorem dX8_firstOtherwise_18 : decode cX8_firstOtherwise 18 = .ok (.iload_n 1, 1) := by decide +kernel
theorem dX8_firstOtherwise_19 : decode cX8_firstOtherwise 19 = .ok (.imul, 1) := by decide +kernel
theorem dX8_firstOtherwise_20 : decode cX8_firstOtherwise 20 = .ok (.iload_n 3, 1) := by decide +kernel
theorem dX8_firstOtherwise_21 : decode cX8_firstOtherwise 21 = .ok (.iadd, 1) := by decide +kernel
theorem dX8_firstOtherwise_22 : decode cX8_firstOtherwise 22 = .ok (.iaload, 1) := by decide +kernel
theorem dX8_firstOtherwise_23 : decode cX8_firstOtherwise 23 = .ok (.aload_n 0, 1) := by decide +kernel
theorem dX8_firstOtherwise_24 : decode cX8_firstOtherwise 24 = .ok (.iload_n 2, 1) := by decide +kernel
theorem dX8_firstOtherwise_25 : decode cX8_firstOtherwise 25 = .ok (.aload_n 0, 1) := by decide +kernel
theorem dX8_firstOtherwise_26 : decode cX8_firstOtherwise 26 = .ok (.getfield 238, 3) := by decide +kernel
theorem dX8_firstOtherwise_29 : decode cX8_firstOtherwise 29 = .ok (.iload_n 3, 1) := by decide +kernel
theorem dX8_firstOtherwise_30 : decode cX8_firstOtherwise 30 = .ok (.iadd, 1) := by decide +kernel
theorem dX8_firstOtherwise_31 : decode cX8_firstOtherwise 31 = .ok (.invokevirtual 265, 3) := by decide +kernel
theorem dX8_firstOtherwise_34 : decode cX8_firstOtherwise 34 = .ok (.if_icmp .eq 5, 3) := by decide +kernel
theorem dX8_firstOtherwise_37 : decode cX8_firstOtherwise 37 = .ok (.iload_n 3, 1) := by decide +kernel
theorem dX8_firstOtherwise_38 : decode cX8_firstOtherwise 38 = .ok (.ireturn, 1) := by decide +kernel
theorem dX8_firstOtherwise_39 : decode cX8_firstOtherwise 39 = .ok (.iinc 3 1, 3) := by decide +kernel
theorem dX8_firstOtherwise_42 : decode cX8_firstOtherwise 42 = .ok (.goto (-40), 3) := by decide +kernel
theorem dX8_firstOtherwise_45 : decode cX8_firstOtherwise 45 = .ok (.iconst (-1), 1) := by decide +kernel
theorem dX8_firstOtherwise_46 : decode cX8_firstOtherwise 46 = .ok (.ireturn, 1) := by decide +kernel
theorem dX8_judge_0 : decode cX8_judge 0 = .ok (.aload_n 0, 1) := by decide +kernel
theorem dX8_judge_1 : decode cX8_judge 1 = .ok (.iconst 0, 1) := by decide +kernel
theorem dX8_judge_2 : decode cX8_judge 2 = .ok (.putfield 77, 3) := by decide +kernel
theorem dX8_judge_5 : decode cX8_judge 5 = .ok (.iload_n 1, 1) := by decide +kernel
theorem dX8_judge_6 : decode cX8_judge 6 = .ok (.i2l, 1) := by decide +kernel
theorem dX8_judge_7 : decode cX8_judge 7 = .ok (.lconst 0, 1) := by decide +kernel
theorem dX8_judge_8 : decode cX8_judge 8 = .ok (.ldc2_w 280, 3) := by decide +kernel
theorem dX8_judge_11 : decode cX8_judge 11 = .ok (.invokestatic 97, 3) := by decide +kernel
theorem dX8_judge_14 : decode cX8_judge 14 = .ok (.ifCond .eq 12, 3) := by decide +kernel
theorem dX8_judge_17 : decode cX8_judge 17 = .ok (.aload_n 0, 1) := by decide +kernel
theorem dX8_judge_18 : decode cX8_judge 18 = .ok (.getfield 65, 3) := by decide +kernel
theorem dX8_judge_21 : decode cX8_judge 21 = .ok (.iload_n 1, 1) := by decide +kernel
theorem dX8_judge_22 : decode cX8_judge 22 = .ok (.iaload, 1) := by decide +kernel
theorem dX8_judge_23 : decode cX8_judge 23 = .ok (.ifCond .ge 23, 3) := by decide +kernel
theorem dX8_judge_26 : decode cX8_judge 26 = .ok (.iload_n 1, 1) := by decide +kernel
theorem dX8_judge_27 : decode cX8_judge 27 = .ok (.i2l, 1) := by decide +kernel
theorem dX8_judge_28 : decode cX8_judge 28 = .ok (.lconst 0, 1) := by decide +kernel
theorem dX8_judge_29 : decode cX8_judge 29 = .ok (.ldc2_w 280, 3) := by decide +kernel
theorem dX8_judge_32 : decode cX8_judge 32 = .ok (.invokestatic 97, 3) := by decide +kernel
theorem dX8_judge_35 : decode cX8_judge 35 = .ok (.ifCond .eq 8, 3) := by decide +kernel
theorem dX8_judge_38 : decode cX8_judge 38 = .ok (.bipush (-11), 2) := by decide +kernel
theorem dX8_judge_40 : decode cX8_judge 40 = .ok (.goto 5, 3) := by decide +kernel
theorem dX8_judge_43 : decode cX8_judge 43 = .ok (.bipush (-2), 2) := by decide +kernel
theorem dX8_judge_45 : decode cX8_judge 45 = .ok (.ireturn, 1) := by decide +kernel
theorem dX8_judge_46 : decode cX8_judge 46 = .ok (.aload_n 0, 1) := by decide +kernel
theorem dX8_judge_47 : decode cX8_judge 47 = .ok (.iload_n 1, 1) := by decide +kernel
theorem dX8_judge_48 : decode cX8_judge 48 = .ok (.aload_n 0, 1) := by decide +kernel
theorem dX8_judge_49 : decode cX8_judge 49 = .ok (.getfield 22, 3) := by decide +kernel
theorem dX8_judge_52 : decode cX8_judge 52 = .ok (.invokevirtual 282, 3) := by decide +kernel
theorem dX8_judge_55 : decode cX8_judge 55 = .ok (.ireturn, 1) := by decide +kernel
theorem dX8_which_0 : decode cX8_which 0 = .ok (.aload_n 0, 1) := by decide +kernel
theorem dX8_which_1 : decode cX8_which 1 = .ok (.iconst 0, 1) := by decide +kernel
theorem dX8_which_2 : decode cX8_which 2 = .ok (.putfield 77, 3) := by decide +kernel
theorem dX8_which_5 : decode cX8_which 5 = .ok (.iload_n 1, 1) := by decide +kernel
theorem dX8_which_6 : decode cX8_which 6 = .ok (.i2l, 1) := by decide +kernel
theorem dX8_which_7 : decode cX8_which 7 = .ok (.lconst 0, 1) := by decide +kernel
theorem dX8_which_8 : decode cX8_which 8 = .ok (.ldc2_w 280, 3) := by decide +kernel
theorem dX8_which_11 : decode cX8_which 11 = .ok (.invokestatic 97, 3) := by decide +kernel
theorem dX8_which_14 : decode cX8_which 14 = .ok (.ifCond .eq 12, 3) := by decide +kernel
theorem dX8_which_17 : decode cX8_which 17 = .ok (.aload_n 0, 1) := by decide +kernel
theorem dX8_which_18 : decode cX8_which 18 = .ok (.getfield 65, 3) := by decide +kernel
theorem dX8_which_21 : decode cX8_which 21 = .ok (.iload_n 1, 1) := by decide +kernel
theorem dX8_which_22 : decode cX8_which 22 = .ok (.iaload, 1) := by decide +kernel
theorem dX8_which_23 : decode cX8_which 23 = .ok (.ifCond .ge 7, 3) := by decide +kernel
theorem dX8_which_26 : decode cX8_which 26 = .ok (.ldc2_w 285, 3) := by decide +kernel
theorem dX8_which_29 : decode cX8_which 29 = .ok (.lreturn, 1) := by decide +kernel
theorem dX8_which_30 : decode cX8_which 30 = .ok (.lconst 0, 1) := by decide +kernel
theorem dX8_which_31 : decode cX8_which 31 = .ok (.lstore_n 2, 1) := by decide +kernel
theorem dX8_which_32 : decode cX8_which 32 = .ok (.iconst 0, 1) := by decide +kernel
theorem dX8_which_33 : decode cX8_which 33 = .ok (.istore 4, 2) := by decide +kernel
theorem dX8_which_35 : decode cX8_which 35 = .ok (.iload 4, 2) := by decide +kernel
theorem dX8_which_37 : decode cX8_which 37 = .ok (.bipush 64, 2) := by decide +kernel
theorem dX8_which_39 : decode cX8_which 39 = .ok (.if_icmp .ge 30, 3) := by decide +kernel
theorem dX8_which_42 : decode cX8_which 42 = .ok (.aload_n 0, 1) := by decide +kernel
theorem dX8_which_43 : decode cX8_which 43 = .ok (.iload_n 1, 1) := by decide +kernel
theorem dX8_which_44 : decode cX8_which 44 = .ok (.iload 4, 2) := by decide +kernel
theorem dX8_which_46 : decode cX8_which 46 = .ok (.invokevirtual 282, 3) := by decide +kernel
theorem dX8_which_49 : decode cX8_which 49 = .ok (.ifCond .ge 12, 3) := by decide +kernel
theorem dX8_which_52 : decode cX8_which 52 = .ok (.lload_n 2, 1) := by decide +kernel
theorem dX8_which_53 : decode cX8_which 53 = .ok (.lconst 1, 1) := by decide +kernel
theorem dX8_which_54 : decode cX8_which 54 = .ok (.iload 4, 2) := by decide +kernel
theorem dX8_which_56 : decode cX8_which 56 = .ok (.lshl, 1) := by decide +kernel
theorem dX8_which_57 : decode cX8_which 57 = .ok (.lor, 1) := by decide +kernel
theorem dX8_which_58 : decode cX8_which 58 = .ok (.goto 4, 3) := by decide +kernel
theorem dX8_which_61 : decode cX8_which 61 = .ok (.lload_n 2, 1) := by decide +kernel
theorem dX8_which_62 : decode cX8_which 62 = .ok (.lstore_n 2, 1) := by decide +kernel
theorem dX8_which_63 : decode cX8_which 63 = .ok (.iinc 4 1, 3) := by decide +kernel
theorem dX8_which_66 : decode cX8_which 66 = .ok (.goto (-31), 3) := by decide +kernel
theorem dX8_which_69 : decode cX8_which 69 = .ok (.lload_n 2, 1) := by decide +kernel
theorem dX8_which_70 : decode cX8_which 70 = .ok (.lreturn, 1) := by decide +kernel
theorem dX8_rockBy_0 : decode cX8_rockBy 0 = .ok (.iload_n 1, 1) := by decide +kernel
theorem dX8_rockBy_1 : decode cX8_rockBy 1 = .ok (.ldc_w 287, 3) := by decide +kernel
theorem dX8_rockBy_4 : decode cX8_rockBy 4 = .ok (.imul, 1) := by decide +kernel
theorem dX8_rockBy_5 : decode cX8_rockBy 5 = .ok (.sipush 12345, 3) := by decide +kernel
theorem dX8_rockBy_8 : decode cX8_rockBy 8 = .ok (.iadd, 1) := by decide +kernel
theorem dX8_rockBy_9 : decode cX8_rockBy 9 = .ok (.istore_n 2, 1) := by decide +kernel
theorem dX8_rockBy_10 : decode cX8_rockBy 10 = .ok (.iload_n 2, 1) := by decide +kernel
theorem dX8_rockBy_11 : decode cX8_rockBy 11 = .ok (.bipush 8, 2) := by decide +kernel
theorem dX8_rockBy_13 : decode cX8_rockBy 13 = .ok (.iushr, 1) := by decide +kernel
theorem dX8_rockBy_14 : decode cX8_rockBy 14 = .ok (.bipush 64, 2) := by decide +kernel
theorem dX8_rockBy_16 : decode cX8_rockBy 16 = .ok (.irem, 1) := by decide +kernel
theorem dX8_rockBy_17 : decode cX8_rockBy 17 = .ok (.istore_n 3, 1) := by decide +kernel
theorem dX8_rockBy_18 : decode cX8_rockBy 18 = .ok (.iload_n 2, 1) := by decide +kernel
theorem dX8_rockBy_19 : decode cX8_rockBy 19 = .ok (.ldc_w 287, 3) := by decide +kernel
theorem dX8_rockBy_22 : decode cX8_rockBy 22 = .ok (.imul, 1) := by decide +kernel
theorem dX8_rockBy_23 : decode cX8_rockBy 23 = .ok (.sipush 12345, 3) := by decide +kernel
theorem dX8_rockBy_26 : decode cX8_rockBy 26 = .ok (.iadd, 1) := by decide +kernel
theorem dX8_rockBy_27 : decode cX8_rockBy 27 = .ok (.istore_n 2, 1) := by decide +kernel
theorem dX8_rockBy_28 : decode cX8_rockBy 28 = .ok (.aload_n 0, 1) := by decide +kernel
theorem dX8_rockBy_29 : decode cX8_rockBy 29 = .ok (.iload_n 3, 1) := by decide +kernel
theorem dX8_rockBy_30 : decode cX8_rockBy 30 = .ok (.iload_n 2, 1) := by decide +kernel
theorem dX8_rockBy_31 : decode cX8_rockBy 31 = .ok (.bipush 10, 2) := by decide +kernel
theorem dX8_rockBy_33 : decode cX8_rockBy 33 = .ok (.iushr, 1) := by decide +kernel
theorem dX8_rockBy_34 : decode cX8_rockBy 34 = .ok (.bipush 8, 2) := by decide +kernel
theorem dX8_rockBy_36 : decode cX8_rockBy 36 = .ok (.irem, 1) := by decide +kernel
theorem dX8_rockBy_37 : decode cX8_rockBy 37 = .ok (.invokevirtual 241, 3) := by decide +kernel
theorem dX8_rockBy_40 : decode cX8_rockBy 40 = .ok (.aload_n 0, 1) := by decide +kernel
theorem dX8_rockBy_41 : decode cX8_rockBy 41 = .ok (.getfield 229, 3) := by decide +kernel
theorem dX8_rockBy_44 : decode cX8_rockBy 44 = .ok (.ireturn, 1) := by decide +kernel
theorem dX8_drawn_0 : decode cX8_drawn 0 = .ok (.aload_n 0, 1) := by decide +kernel
theorem dX8_drawn_1 : decode cX8_drawn 1 = .ok (.iconst 0, 1) := by decide +kernel
theorem dX8_drawn_2 : decode cX8_drawn 2 = .ok (.putfield 77, 3) := by decide +kernel
theorem dX8_drawn_5 : decode cX8_drawn 5 = .ok (.aload_n 0, 1) := by decide +kernel
theorem dX8_drawn_6 : decode cX8_drawn 6 = .ok (.iload_n 1, 1) := by decide +kernel
theorem dX8_drawn_7 : decode cX8_drawn 7 = .ok (.invokevirtual 288, 3) := by decide +kernel
theorem dX8_drawn_10 : decode cX8_drawn 10 = .ok (.ireturn, 1) := by decide +kernel
theorem dX8_odds_0 : decode cX8_odds 0 = .ok (.aload_n 0, 1) := by decide +kernel
theorem dX8_odds_1 : decode cX8_odds 1 = .ok (.iconst 0, 1) := by decide +kernel
theorem dX8_odds_2 : decode cX8_odds 2 = .ok (.putfield 77, 3) := by decide +kernel
theorem dX8_odds_5 : decode cX8_odds 5 = .ok (.iload_n 2, 1) := by decide +kernel
theorem dX8_odds_6 : decode cX8_odds 6 = .ok (.i2l, 1) := by decide +kernel
theorem dX8_odds_7 : decode cX8_odds 7 = .ok (.lconst 1, 1) := by decide +kernel
theorem dX8_odds_8 : decode cX8_odds 8 = .ok (.ldc2_w 291, 3) := by decide +kernel
theorem dX8_odds_11 : decode cX8_odds 11 = .ok (.invokestatic 97, 3) := by decide +kernel
theorem dX8_odds_14 : decode cX8_odds 14 = .ok (.ifCond .eq 13, 3) := by decide +kernel
theorem dX8_odds_17 : decode cX8_odds 17 = .ok (.iload_n 3, 1) := by decide +kernel
theorem dX8_odds_18 : decode cX8_odds 18 = .ok (.i2l, 1) := by decide +kernel
theorem dX8_odds_19 : decode cX8_odds 19 = .ok (.lconst 0, 1) := by decide +kernel
theorem dX8_odds_20 : decode cX8_odds 20 = .ok (.lconst 1, 1) := by decide +kernel
theorem dX8_odds_21 : decode cX8_odds 21 = .ok (.invokestatic 97, 3) := by decide +kernel
theorem dX8_odds_24 : decode cX8_odds 24 = .ok (.ifCond .ne 7, 3) := by decide +kernel
theorem dX8_odds_27 : decode cX8_odds 27 = .ok (.ldc2_w 285, 3) := by decide +kernel
theorem dX8_odds_30 : decode cX8_odds 30 = .ok (.lreturn, 1) := by decide +kernel
theorem dX8_odds_31 : decode cX8_odds 31 = .ok (.iconst 0, 1) := by decide +kernel
theorem dX8_odds_32 : decode cX8_odds 32 = .ok (.istore 4, 2) := by decide +kernel
theorem dX8_odds_34 : decode cX8_odds 34 = .ok (.iconst 0, 1) := by decide +kernel
theorem dX8_odds_35 : decode cX8_odds 35 = .ok (.istore 5, 2) := by decide +kernel
theorem dX8_odds_37 : decode cX8_odds 37 = .ok (.iload 5, 2) := by decide +kernel
theorem dX8_odds_39 : decode cX8_odds 39 = .ok (.iload_n 2, 1) := by decide +kernel
theorem dX8_odds_40 : decode cX8_odds 40 = .ok (.if_icmp .ge 30, 3) := by decide +kernel
theorem dX8_odds_43 : decode cX8_odds 43 = .ok (.iload 4, 2) := by decide +kernel
theorem dX8_odds_45 : decode cX8_odds 45 = .ok (.aload_n 0, 1) := by decide +kernel
theorem dX8_odds_46 : decode cX8_odds 46 = .ok (.iload_n 1, 1) := by decide +kernel
theorem dX8_odds_47 : decode cX8_odds 47 = .ok (.iload 5, 2) := by decide +kernel
theorem dX8_odds_49 : decode cX8_odds 49 = .ok (.iadd, 1) := by decide +kernel
theorem dX8_odds_50 : decode cX8_odds 50 = .ok (.invokevirtual 288, 3) := by decide +kernel
theorem dX8_odds_53 : decode cX8_odds 53 = .ok (.ifCond .ne 7, 3) := by decide +kernel
theorem dX8_odds_56 : decode cX8_odds 56 = .ok (.iconst 1, 1) := by decide +kernel
theorem dX8_odds_57 : decode cX8_odds 57 = .ok (.goto 4, 3) := by decide +kernel
theorem dX8_odds_60 : decode cX8_odds 60 = .ok (.iconst 0, 1) := by decide +kernel
theorem dX8_odds_61 : decode cX8_odds 61 = .ok (.iadd, 1) := by decide +kernel
theorem dX8_odds_62 : decode cX8_odds 62 = .ok (.istore 4, 2) := by decide +kernel
theorem dX8_odds_64 : decode cX8_odds 64 = .ok (.iinc 5 1, 3) := by decide +kernel
theorem dX8_odds_67 : decode cX8_odds 67 = .ok (.goto (-30), 3) := by decide +kernel
theorem dX8_odds_70 : decode cX8_odds 70 = .ok (.iload 4, 2) := by decide +kernel
theorem dX8_odds_72 : decode cX8_odds 72 = .ok (.istore 5, 2) := by decide +kernel
theorem dX8_odds_74 : decode cX8_odds 74 = .ok (.iload_n 2, 1) := by decide +kernel
theorem dX8_odds_75 : decode cX8_odds 75 = .ok (.istore 6, 2) := by decide +kernel
theorem dX8_odds_77 : decode cX8_odds 77 = .ok (.iload 6, 2) := by decide +kernel
theorem dX8_odds_79 : decode cX8_odds 79 = .ok (.ifCond .eq 21, 3) := by decide +kernel
theorem dX8_odds_82 : decode cX8_odds 82 = .ok (.iload 5, 2) := by decide +kernel
theorem dX8_odds_84 : decode cX8_odds 84 = .ok (.iload 6, 2) := by decide +kernel
theorem dX8_odds_86 : decode cX8_odds 86 = .ok (.irem, 1) := by decide +kernel
theorem dX8_odds_87 : decode cX8_odds 87 = .ok (.istore 7, 2) := by decide +kernel
theorem dX8_odds_89 : decode cX8_odds 89 = .ok (.iload 6, 2) := by decide +kernel
theorem dX8_odds_91 : decode cX8_odds 91 = .ok (.istore 5, 2) := by decide +kernel
theorem dX8_odds_93 : decode cX8_odds 93 = .ok (.iload 7, 2) := by decide +kernel
theorem dX8_odds_95 : decode cX8_odds 95 = .ok (.istore 6, 2) := by decide +kernel
theorem dX8_odds_97 : decode cX8_odds 97 = .ok (.goto (-20), 3) := by decide +kernel
theorem dX8_odds_100 : decode cX8_odds 100 = .ok (.iload_n 3, 1) := by decide +kernel
theorem dX8_odds_101 : decode cX8_odds 101 = .ok (.ifCond .ne 12, 3) := by decide +kernel
theorem dX8_odds_104 : decode cX8_odds 104 = .ok (.iload 4, 2) := by decide +kernel
theorem dX8_odds_106 : decode cX8_odds 106 = .ok (.iload 5, 2) := by decide +kernel
theorem dX8_odds_108 : decode cX8_odds 108 = .ok (.idiv, 1) := by decide +kernel
theorem dX8_odds_109 : decode cX8_odds 109 = .ok (.i2l, 1) := by decide +kernel
theorem dX8_odds_110 : decode cX8_odds 110 = .ok (.goto 8, 3) := by decide +kernel
theorem dX8_odds_113 : decode cX8_odds 113 = .ok (.iload_n 2, 1) := by decide +kernel
theorem dX8_odds_114 : decode cX8_odds 114 = .ok (.iload 5, 2) := by decide +kernel
theorem dX8_odds_116 : decode cX8_odds 116 = .ok (.idiv, 1) := by decide +kernel
theorem dX8_odds_117 : decode cX8_odds 117 = .ok (.i2l, 1) := by decide +kernel
theorem dX8_odds_118 : decode cX8_odds 118 = .ok (.lreturn, 1) := by decide +kernel
theorem dX8_floor_0 : decode cX8_floor 0 = .ok (.aload_n 0, 1) := by decide +kernel
theorem dX8_floor_1 : decode cX8_floor 1 = .ok (.iconst 0, 1) := by decide +kernel
theorem dX8_floor_2 : decode cX8_floor 2 = .ok (.putfield 77, 3) := by decide +kernel
theorem dX8_floor_5 : decode cX8_floor 5 = .ok (.iload_n 1, 1) := by decide +kernel
theorem dX8_floor_6 : decode cX8_floor 6 = .ok (.i2l, 1) := by decide +kernel
theorem dX8_floor_7 : decode cX8_floor 7 = .ok (.lconst 0, 1) := by decide +kernel
theorem dX8_floor_8 : decode cX8_floor 8 = .ok (.ldc2_w 254, 3) := by decide +kernel
theorem dX8_floor_11 : decode cX8_floor 11 = .ok (.invokestatic 97, 3) := by decide +kernel
theorem dX8_floor_14 : decode cX8_floor 14 = .ok (.ifCond .eq 15, 3) := by decide +kernel
theorem dX8_floor_17 : decode cX8_floor 17 = .ok (.iload_n 2, 1) := by decide +kernel
theorem dX8_floor_18 : decode cX8_floor 18 = .ok (.i2l, 1) := by decide +kernel
theorem dX8_floor_19 : decode cX8_floor 19 = .ok (.lconst 0, 1) := by decide +kernel
theorem dX8_floor_20 : decode cX8_floor 20 = .ok (.ldc2_w 293, 3) := by decide +kernel
theorem dX8_floor_23 : decode cX8_floor 23 = .ok (.invokestatic 97, 3) := by decide +kernel
theorem dX8_floor_26 : decode cX8_floor 26 = .ok (.ifCond .ne 6, 3) := by decide +kernel
theorem dX8_floor_29 : decode cX8_floor 29 = .ok (.bipush (-2), 2) := by decide +kernel
theorem dX8_floor_31 : decode cX8_floor 31 = .ok (.ireturn, 1) := by decide +kernel
theorem dX8_floor_32 : decode cX8_floor 32 = .ok (.aload_n 0, 1) := by decide +kernel
theorem dX8_floor_33 : decode cX8_floor 33 = .ok (.getfield 7, 3) := by decide +kernel
theorem dX8_floor_36 : decode cX8_floor 36 = .ok (.iload_n 1, 1) := by decide +kernel
theorem dX8_floor_37 : decode cX8_floor 37 = .ok (.iaload, 1) := by decide +kernel
theorem dX8_floor_38 : decode cX8_floor 38 = .ok (.istore_n 3, 1) := by decide +kernel
theorem dX8_floor_39 : decode cX8_floor 39 = .ok (.aload_n 0, 1) := by decide +kernel
theorem dX8_floor_40 : decode cX8_floor 40 = .ok (.getfield 7, 3) := by decide +kernel
theorem dX8_floor_43 : decode cX8_floor 43 = .ok (.iload_n 1, 1) := by decide +kernel
theorem dX8_floor_44 : decode cX8_floor 44 = .ok (.iload_n 2, 1) := by decide +kernel
theorem dX8_floor_45 : decode cX8_floor 45 = .ok (.iastore, 1) := by decide +kernel
theorem dX8_floor_46 : decode cX8_floor 46 = .ok (.iload_n 3, 1) := by decide +kernel
theorem dX8_floor_47 : decode cX8_floor 47 = .ok (.ireturn, 1) := by decide +kernel
theorem dX8_wave_0 : decode cX8_wave 0 = .ok (.aload_n 0, 1) := by decide +kernel
theorem dX8_wave_1 : decode cX8_wave 1 = .ok (.iconst 0, 1) := by decide +kernel
theorem dX8_wave_2 : decode cX8_wave 2 = .ok (.putfield 77, 3) := by decide +kernel
theorem dX8_wave_5 : decode cX8_wave 5 = .ok (.iload_n 1, 1) := by decide +kernel
theorem dX8_wave_6 : decode cX8_wave 6 = .ok (.i2l, 1) := by decide +kernel
theorem dX8_wave_7 : decode cX8_wave 7 = .ok (.lconst 0, 1) := by decide +kernel
theorem dX8_wave_8 : decode cX8_wave 8 = .ok (.ldc2_w 293, 3) := by decide +kernel
theorem dX8_wave_11 : decode cX8_wave 11 = .ok (.invokestatic 97, 3) := by decide +kernel
theorem dX8_wave_14 : decode cX8_wave 14 = .ok (.ifCond .eq 27, 3) := by decide +kernel
theorem dX8_wave_17 : decode cX8_wave 17 = .ok (.iload_n 2, 1) := by decide +kernel
theorem dX8_wave_18 : decode cX8_wave 18 = .ok (.i2l, 1) := by decide +kernel
theorem dX8_wave_19 : decode cX8_wave 19 = .ok (.lconst 0, 1) := by decide +kernel
theorem dX8_wave_20 : decode cX8_wave 20 = .ok (.ldc2_w 293, 3) := by decide +kernel
theorem dX8_wave_23 : decode cX8_wave 23 = .ok (.invokestatic 97, 3) := by decide +kernel
theorem dX8_wave_26 : decode cX8_wave 26 = .ok (.ifCond .eq 15, 3) := by decide +kernel
theorem dX8_wave_29 : decode cX8_wave 29 = .ok (.iload_n 3, 1) := by decide +kernel
theorem dX8_wave_30 : decode cX8_wave 30 = .ok (.i2l, 1) := by decide +kernel
theorem dX8_wave_31 : decode cX8_wave 31 = .ok (.lconst 0, 1) := by decide +kernel
theorem dX8_wave_32 : decode cX8_wave 32 = .ok (.ldc2_w 293, 3) := by decide +kernel
theorem dX8_wave_35 : decode cX8_wave 35 = .ok (.invokestatic 97, 3) := by decide +kernel
theorem dX8_wave_38 : decode cX8_wave 38 = .ok (.ifCond .ne 6, 3) := by decide +kernel
theorem dX8_wave_41 : decode cX8_wave 41 = .ok (.bipush (-2), 2) := by decide +kernel
theorem dX8_wave_43 : decode cX8_wave 43 = .ok (.ireturn, 1) := by decide +kernel
theorem dX8_wave_44 : decode cX8_wave 44 = .ok (.iconst 0, 1) := by decide +kernel
theorem dX8_wave_45 : decode cX8_wave 45 = .ok (.istore 4, 2) := by decide +kernel
theorem dX8_wave_47 : decode cX8_wave 47 = .ok (.iconst 0, 1) := by decide +kernel
theorem dX8_wave_48 : decode cX8_wave 48 = .ok (.istore 5, 2) := by decide +kernel
theorem dX8_wave_50 : decode cX8_wave 50 = .ok (.iload 5, 2) := by decide +kernel
theorem dX8_wave_52 : decode cX8_wave 52 = .ok (.bipush 64, 2) := by decide +kernel
theorem dX8_wave_54 : decode cX8_wave 54 = .ok (.if_icmp .ge 60, 3) := by decide +kernel
theorem dX8_wave_57 : decode cX8_wave 57 = .ok (.aload_n 0, 1) := by decide +kernel
theorem dX8_wave_58 : decode cX8_wave 58 = .ok (.getfield 7, 3) := by decide +kernel
theorem dX8_wave_61 : decode cX8_wave 61 = .ok (.iload 5, 2) := by decide +kernel
theorem dX8_wave_63 : decode cX8_wave 63 = .ok (.iload 5, 2) := by decide +kernel
theorem dX8_wave_65 : decode cX8_wave 65 = .ok (.bipush 8, 2) := by decide +kernel
theorem dX8_wave_67 : decode cX8_wave 67 = .ok (.idiv, 1) := by decide +kernel
theorem dX8_wave_68 : decode cX8_wave 68 = .ok (.iload_n 1, 1) := by decide +kernel
theorem dX8_wave_69 : decode cX8_wave 69 = .ok (.imul, 1) := by decide +kernel
theorem dX8_wave_70 : decode cX8_wave 70 = .ok (.iload 5, 2) := by decide +kernel
theorem dX8_wave_72 : decode cX8_wave 72 = .ok (.bipush 8, 2) := by decide +kernel
theorem dX8_wave_74 : decode cX8_wave 74 = .ok (.irem, 1) := by decide +kernel
theorem dX8_wave_75 : decode cX8_wave 75 = .ok (.iload_n 2, 1) := by decide +kernel
theorem dX8_wave_76 : decode cX8_wave 76 = .ok (.imul, 1) := by decide +kernel
theorem dX8_wave_77 : decode cX8_wave 77 = .ok (.iadd, 1) := by decide +kernel
theorem dX8_wave_78 : decode cX8_wave 78 = .ok (.iload 5, 2) := by decide +kernel
theorem dX8_wave_80 : decode cX8_wave 80 = .ok (.bipush 8, 2) := by decide +kernel
theorem dX8_wave_82 : decode cX8_wave 82 = .ok (.idiv, 1) := by decide +kernel
theorem dX8_wave_83 : decode cX8_wave 83 = .ok (.iload 5, 2) := by decide +kernel
theorem dX8_wave_85 : decode cX8_wave 85 = .ok (.bipush 8, 2) := by decide +kernel
theorem dX8_wave_87 : decode cX8_wave 87 = .ok (.irem, 1) := by decide +kernel
theorem dX8_wave_88 : decode cX8_wave 88 = .ok (.imul, 1) := by decide +kernel
theorem dX8_wave_89 : decode cX8_wave 89 = .ok (.iload_n 3, 1) := by decide +kernel
theorem dX8_wave_90 : decode cX8_wave 90 = .ok (.imul, 1) := by decide +kernel
theorem dX8_wave_91 : decode cX8_wave 91 = .ok (.iadd, 1) := by decide +kernel
theorem dX8_wave_92 : decode cX8_wave 92 = .ok (.bipush 100, 2) := by decide +kernel
theorem dX8_wave_94 : decode cX8_wave 94 = .ok (.irem, 1) := by decide +kernel
theorem dX8_wave_95 : decode cX8_wave 95 = .ok (.iastore, 1) := by decide +kernel
theorem dX8_wave_96 : decode cX8_wave 96 = .ok (.iload 4, 2) := by decide +kernel
theorem dX8_wave_98 : decode cX8_wave 98 = .ok (.aload_n 0, 1) := by decide +kernel
theorem dX8_wave_99 : decode cX8_wave 99 = .ok (.getfield 7, 3) := by decide +kernel
theorem dX8_wave_102 : decode cX8_wave 102 = .ok (.iload 5, 2) := by decide +kernel
theorem dX8_wave_104 : decode cX8_wave 104 = .ok (.iaload, 1) := by decide +kernel
theorem dX8_wave_105 : decode cX8_wave 105 = .ok (.iadd, 1) := by decide +kernel
theorem dX8_wave_106 : decode cX8_wave 106 = .ok (.istore 4, 2) := by decide +kernel
theorem dX8_wave_108 : decode cX8_wave 108 = .ok (.iinc 5 1, 3) := by decide +kernel
theorem dX8_wave_111 : decode cX8_wave 111 = .ok (.goto (-61), 3) := by decide +kernel
theorem dX8_wave_114 : decode cX8_wave 114 = .ok (.iload 4, 2) := by decide +kernel
theorem dX8_wave_116 : decode cX8_wave 116 = .ok (.ireturn, 1) := by decide +kernel
theorem dX8_leg_0 : decode cX8_leg 0 = .ok (.aload_n 0, 1) := by decide +kernel
theorem dX8_leg_1 : decode cX8_leg 1 = .ok (.iconst 0, 1) := by decide +kernel
theorem dX8_leg_2 : decode cX8_leg 2 = .ok (.putfield 77, 3) := by decide +kernel
theorem dX8_leg_5 : decode cX8_leg 5 = .ok (.iload_n 1, 1) := by decide +kernel
theorem dX8_leg_6 : decode cX8_leg 6 = .ok (.i2l, 1) := by decide +kernel
theorem dX8_leg_7 : decode cX8_leg 7 = .ok (.lconst 0, 1) := by decide +kernel
theorem dX8_leg_8 : decode cX8_leg 8 = .ok (.ldc2_w 280, 3) := by decide +kernel
theorem dX8_leg_11 : decode cX8_leg 11 = .ok (.invokestatic 97, 3) := by decide +kernel
theorem dX8_leg_14 : decode cX8_leg 14 = .ok (.ifCond .eq 27, 3) := by decide +kernel
theorem dX8_leg_17 : decode cX8_leg 17 = .ok (.iload_n 2, 1) := by decide +kernel
theorem dX8_leg_18 : decode cX8_leg 18 = .ok (.i2l, 1) := by decide +kernel
theorem dX8_leg_19 : decode cX8_leg 19 = .ok (.lconst 0, 1) := by decide +kernel
theorem dX8_leg_20 : decode cX8_leg 20 = .ok (.ldc2_w 245, 3) := by decide +kernel
theorem dX8_leg_23 : decode cX8_leg 23 = .ok (.invokestatic 97, 3) := by decide +kernel
theorem dX8_leg_26 : decode cX8_leg 26 = .ok (.ifCond .eq 15, 3) := by decide +kernel
theorem dX8_leg_29 : decode cX8_leg 29 = .ok (.iload_n 3, 1) := by decide +kernel
theorem dX8_leg_30 : decode cX8_leg 30 = .ok (.i2l, 1) := by decide +kernel
theorem dX8_leg_31 : decode cX8_leg 31 = .ok (.lconst 0, 1) := by decide +kernel
theorem dX8_leg_32 : decode cX8_leg 32 = .ok (.ldc2_w 272, 3) := by decide +kernel
theorem dX8_leg_35 : decode cX8_leg 35 = .ok (.invokestatic 97, 3) := by decide +kernel
theorem dX8_leg_38 : decode cX8_leg 38 = .ok (.ifCond .ne 6, 3) := by decide +kernel
theorem dX8_leg_41 : decode cX8_leg 41 = .ok (.bipush (-2), 2) := by decide +kernel
theorem dX8_leg_43 : decode cX8_leg 43 = .ok (.ireturn, 1) := by decide +kernel
theorem dX8_leg_44 : decode cX8_leg 44 = .ok (.aload_n 0, 1) := by decide +kernel
theorem dX8_leg_45 : decode cX8_leg 45 = .ok (.getfield 13, 3) := by decide +kernel
theorem dX8_leg_48 : decode cX8_leg 48 = .ok (.iload_n 1, 1) := by decide +kernel
theorem dX8_leg_49 : decode cX8_leg 49 = .ok (.iaload, 1) := by decide +kernel
theorem dX8_leg_50 : decode cX8_leg 50 = .ok (.istore 4, 2) := by decide +kernel
theorem dX8_leg_52 : decode cX8_leg 52 = .ok (.aload_n 0, 1) := by decide +kernel
theorem dX8_leg_53 : decode cX8_leg 53 = .ok (.getfield 13, 3) := by decide +kernel
theorem dX8_leg_56 : decode cX8_leg 56 = .ok (.iload_n 1, 1) := by decide +kernel
theorem dX8_leg_57 : decode cX8_leg 57 = .ok (.iload_n 2, 1) := by decide +kernel
theorem dX8_leg_58 : decode cX8_leg 58 = .ok (.iastore, 1) := by decide +kernel
theorem dX8_leg_59 : decode cX8_leg 59 = .ok (.aload_n 0, 1) := by decide +kernel
theorem dX8_leg_60 : decode cX8_leg 60 = .ok (.getfield 19, 3) := by decide +kernel
theorem dX8_leg_63 : decode cX8_leg 63 = .ok (.iload_n 1, 1) := by decide +kernel
theorem dX8_leg_64 : decode cX8_leg 64 = .ok (.iload_n 3, 1) := by decide +kernel
theorem dX8_leg_65 : decode cX8_leg 65 = .ok (.iastore, 1) := by decide +kernel
theorem dX8_leg_66 : decode cX8_leg 66 = .ok (.iload 4, 2) := by decide +kernel
theorem dX8_leg_68 : decode cX8_leg 68 = .ok (.ireturn, 1) := by decide +kernel
theorem dX8_became_0 : decode cX8_became 0 = .ok (.iload_n 1, 1) := by decide +kernel
theorem dX8_became_1 : decode cX8_became 1 = .ok (.ifCond .ne 12, 3) := by decide +kernel
theorem dX8_became_4 : decode cX8_became 4 = .ok (.aload_n 0, 1) := by decide +kernel
theorem dX8_became_5 : decode cX8_became 5 = .ok (.getfield 16, 3) := by decide +kernel
theorem dX8_became_8 : decode cX8_became 8 = .ok (.iload_n 2, 1) := by decide +kernel
theorem dX8_became_9 : decode cX8_became 9 = .ok (.iaload, 1) := by decide +kernel
theorem dX8_became_10 : decode cX8_became 10 = .ok (.goto 57, 3) := by decide +kernel
theorem dX8_became_13 : decode cX8_became 13 = .ok (.iload_n 1, 1) := by decide +kernel
theorem dX8_became_14 : decode cX8_became 14 = .ok (.iconst 1, 1) := by decide +kernel
theorem dX8_became_15 : decode cX8_became 15 = .ok (.if_icmp .ne 12, 3) := by decide +kernel
theorem dX8_became_18 : decode cX8_became 18 = .ok (.aload_n 0, 1) := by decide +kernel
theorem dX8_became_19 : decode cX8_became 19 = .ok (.getfield 19, 3) := by decide +kernel
theorem dX8_became_22 : decode cX8_became 22 = .ok (.iload_n 2, 1) := by decide +kernel
theorem dX8_became_23 : decode cX8_became 23 = .ok (.iaload, 1) := by decide +kernel
theorem dX8_became_24 : decode cX8_became 24 = .ok (.goto 43, 3) := by decide +kernel
theorem dX8_became_27 : decode cX8_became 27 = .ok (.iload_n 1, 1) := by decide +kernel
theorem dX8_became_28 : decode cX8_became 28 = .ok (.iconst 2, 1) := by decide +kernel
theorem dX8_became_29 : decode cX8_became 29 = .ok (.if_icmp .ne 10, 3) := by decide +kernel
theorem dX8_became_32 : decode cX8_became 32 = .ok (.aload_n 0, 1) := by decide +kernel
theorem dX8_became_33 : decode cX8_became 33 = .ok (.getfield 22, 3) := by decide +kernel
theorem dX8_became_36 : decode cX8_became 36 = .ok (.goto 31, 3) := by decide +kernel
theorem dX8_became_39 : decode cX8_became 39 = .ok (.iload_n 1, 1) := by decide +kernel
theorem dX8_became_40 : decode cX8_became 40 = .ok (.iconst 3, 1) := by decide +kernel
theorem dX8_became_41 : decode cX8_became 41 = .ok (.if_icmp .ne 10, 3) := by decide +kernel
theorem dX8_became_44 : decode cX8_became 44 = .ok (.aload_n 0, 1) := by decide +kernel
theorem dX8_became_45 : decode cX8_became 45 = .ok (.getfield 26, 3) := by decide +kernel
theorem dX8_became_48 : decode cX8_became 48 = .ok (.goto 19, 3) := by decide +kernel
theorem dX8_became_51 : decode cX8_became 51 = .ok (.iload_n 1, 1) := by decide +kernel
theorem dX8_became_52 : decode cX8_became 52 = .ok (.iconst 4, 1) := by decide +kernel
theorem dX8_became_53 : decode cX8_became 53 = .ok (.if_icmp .ne 10, 3) := by decide +kernel
theorem dX8_became_56 : decode cX8_became 56 = .ok (.aload_n 0, 1) := by decide +kernel
theorem dX8_became_57 : decode cX8_became 57 = .ok (.getfield 238, 3) := by decide +kernel
theorem dX8_became_60 : decode cX8_became 60 = .ok (.goto 7, 3) := by decide +kernel
theorem dX8_became_63 : decode cX8_became 63 = .ok (.aload_n 0, 1) := by decide +kernel
theorem dX8_became_64 : decode cX8_became 64 = .ok (.getfield 204, 3) := by decide +kernel
theorem dX8_became_67 : decode cX8_became 67 = .ok (.istore 4, 2) := by decide +kernel
theorem dX8_became_69 : decode cX8_became 69 = .ok (.iload_n 1, 1) := by decide +kernel
theorem dX8_became_70 : decode cX8_became 70 = .ok (.ifCond .ne 10, 3) := by decide +kernel
theorem dX8_became_73 : decode cX8_became 73 = .ok (.aload_n 0, 1) := by decide +kernel
theorem dX8_became_74 : decode cX8_became 74 = .ok (.getfield 16, 3) := by decide +kernel
theorem dX8_became_77 : decode cX8_became 77 = .ok (.iload_n 2, 1) := by decide +kernel
theorem dX8_became_78 : decode cX8_became 78 = .ok (.iload_n 3, 1) := by decide +kernel
theorem dX8_became_79 : decode cX8_became 79 = .ok (.iastore, 1) := by decide +kernel
theorem dX8_became_80 : decode cX8_became 80 = .ok (.iload_n 1, 1) := by decide +kernel
theorem dX8_became_81 : decode cX8_became 81 = .ok (.iconst 1, 1) := by decide +kernel
theorem dX8_became_82 : decode cX8_became 82 = .ok (.if_icmp .ne 10, 3) := by decide +kernel
theorem dX8_became_85 : decode cX8_became 85 = .ok (.aload_n 0, 1) := by decide +kernel
theorem dX8_became_86 : decode cX8_became 86 = .ok (.getfield 19, 3) := by decide +kernel
theorem dX8_became_89 : decode cX8_became 89 = .ok (.iload_n 2, 1) := by decide +kernel
theorem dX8_became_90 : decode cX8_became 90 = .ok (.iload_n 3, 1) := by decide +kernel
theorem dX8_became_91 : decode cX8_became 91 = .ok (.iastore, 1) := by decide +kernel
theorem dX8_became_92 : decode cX8_became 92 = .ok (.aload_n 0, 1) := by decide +kernel
theorem dX8_became_93 : decode cX8_became 93 = .ok (.iload_n 1, 1) := by decide +kernel
theorem dX8_became_94 : decode cX8_became 94 = .ok (.iconst 2, 1) := by decide +kernel
theorem dX8_became_95 : decode cX8_became 95 = .ok (.if_icmp .ne 7, 3) := by decide +kernel
theorem dX8_became_98 : decode cX8_became 98 = .ok (.iload_n 3, 1) := by decide +kernel
theorem dX8_became_99 : decode cX8_became 99 = .ok (.goto 7, 3) := by decide +kernel
theorem dX8_became_102 : decode cX8_became 102 = .ok (.aload_n 0, 1) := by decide +kernel
theorem dX8_became_103 : decode cX8_became 103 = .ok (.getfield 22, 3) := by decide +kernel
theorem dX8_became_106 : decode cX8_became 106 = .ok (.putfield 22, 3) := by decide +kernel
theorem dX8_became_109 : decode cX8_became 109 = .ok (.aload_n 0, 1) := by decide +kernel
theorem dX8_became_110 : decode cX8_became 110 = .ok (.iload_n 1, 1) := by decide +kernel
theorem dX8_became_111 : decode cX8_became 111 = .ok (.iconst 3, 1) := by decide +kernel
theorem dX8_became_112 : decode cX8_became 112 = .ok (.if_icmp .ne 7, 3) := by decide +kernel
theorem dX8_became_115 : decode cX8_became 115 = .ok (.iload_n 3, 1) := by decide +kernel
theorem dX8_became_116 : decode cX8_became 116 = .ok (.goto 7, 3) := by decide +kernel
theorem dX8_became_119 : decode cX8_became 119 = .ok (.aload_n 0, 1) := by decide +kernel
theorem dX8_became_120 : decode cX8_became 120 = .ok (.getfield 26, 3) := by decide +kernel
theorem dX8_became_123 : decode cX8_became 123 = .ok (.putfield 26, 3) := by decide +kernel
theorem dX8_became_126 : decode cX8_became 126 = .ok (.aload_n 0, 1) := by decide +kernel
theorem dX8_became_127 : decode cX8_became 127 = .ok (.iload_n 1, 1) := by decide +kernel
theorem dX8_became_128 : decode cX8_became 128 = .ok (.iconst 4, 1) := by decide +kernel
theorem dX8_became_129 : decode cX8_became 129 = .ok (.if_icmp .ne 7, 3) := by decide +kernel
theorem dX8_became_132 : decode cX8_became 132 = .ok (.iload_n 3, 1) := by decide +kernel
theorem dX8_became_133 : decode cX8_became 133 = .ok (.goto 7, 3) := by decide +kernel
theorem dX8_became_136 : decode cX8_became 136 = .ok (.aload_n 0, 1) := by decide +kernel
theorem dX8_became_137 : decode cX8_became 137 = .ok (.getfield 238, 3) := by decide +kernel
theorem dX8_became_140 : decode cX8_became 140 = .ok (.putfield 238, 3) := by decide +kernel
theorem dX8_became_143 : decode cX8_became 143 = .ok (.aload_n 0, 1) := by decide +kernel
theorem dX8_became_144 : decode cX8_became 144 = .ok (.iload_n 1, 1) := by decide +kernel
theorem dX8_became_145 : decode cX8_became 145 = .ok (.iconst 5, 1) := by decide +kernel
theorem dX8_became_146 : decode cX8_became 146 = .ok (.if_icmp .ne 7, 3) := by decide +kernel
theorem dX8_became_149 : decode cX8_became 149 = .ok (.iload_n 3, 1) := by decide +kernel
theorem dX8_became_150 : decode cX8_became 150 = .ok (.goto 7, 3) := by decide +kernel
theorem dX8_became_153 : decode cX8_became 153 = .ok (.aload_n 0, 1) := by decide +kernel
theorem dX8_became_154 : decode cX8_became 154 = .ok (.getfield 204, 3) := by decide +kernel
theorem dX8_became_157 : decode cX8_became 157 = .ok (.putfield 204, 3) := by decide +kernel
theorem dX8_became_160 : decode cX8_became 160 = .ok (.iload 4, 2) := by decide +kernel
theorem dX8_became_162 : decode cX8_became 162 = .ok (.ireturn, 1) := by decide +kernel
theorem dX8_set_0 : decode cX8_set 0 = .ok (.aload_n 0, 1) := by decide +kernel
theorem dX8_set_1 : decode cX8_set 1 = .ok (.iconst 0, 1) := by decide +kernel
theorem dX8_set_2 : decode cX8_set 2 = .ok (.putfield 77, 3) := by decide +kernel
theorem dX8_set_5 : decode cX8_set 5 = .ok (.iload_n 1, 1) := by decide +kernel
theorem dX8_set_6 : decode cX8_set 6 = .ok (.ifCond .ne 8, 3) := by decide +kernel
theorem dX8_set_9 : decode cX8_set 9 = .ok (.bipush 99, 2) := by decide +kernel
theorem dX8_set_11 : decode cX8_set 11 = .ok (.goto 39, 3) := by decide +kernel
theorem dX8_set_14 : decode cX8_set 14 = .ok (.iload_n 1, 1) := by decide +kernel
theorem dX8_set_15 : decode cX8_set 15 = .ok (.iconst 1, 1) := by decide +kernel
theorem dX8_set_16 : decode cX8_set 16 = .ok (.if_icmp .eq 8, 3) := by decide +kernel
theorem dX8_set_19 : decode cX8_set 19 = .ok (.iload_n 1, 1) := by decide +kernel
theorem dX8_set_20 : decode cX8_set 20 = .ok (.iconst 5, 1) := by decide +kernel
theorem dX8_set_21 : decode cX8_set 21 = .ok (.if_icmp .ne 8, 3) := by decide +kernel
theorem dX8_set_24 : decode cX8_set 24 = .ok (.bipush 9, 2) := by decide +kernel
theorem dX8_set_26 : decode cX8_set 26 = .ok (.goto 24, 3) := by decide +kernel
theorem dX8_set_29 : decode cX8_set 29 = .ok (.iload_n 1, 1) := by decide +kernel
theorem dX8_set_30 : decode cX8_set 30 = .ok (.iconst 2, 1) := by decide +kernel
theorem dX8_set_31 : decode cX8_set 31 = .ok (.if_icmp .ne 8, 3) := by decide +kernel
theorem dX8_set_34 : decode cX8_set 34 = .ok (.bipush 63, 2) := by decide +kernel
theorem dX8_set_36 : decode cX8_set 36 = .ok (.goto 14, 3) := by decide +kernel
theorem dX8_set_39 : decode cX8_set 39 = .ok (.iload_n 1, 1) := by decide +kernel
theorem dX8_set_40 : decode cX8_set 40 = .ok (.iconst 3, 1) := by decide +kernel
theorem dX8_set_41 : decode cX8_set 41 = .ok (.if_icmp .ne 7, 3) := by decide +kernel
theorem dX8_set_44 : decode cX8_set 44 = .ok (.iconst 3, 1) := by decide +kernel
theorem dX8_set_45 : decode cX8_set 45 = .ok (.goto 5, 3) := by decide +kernel
theorem dX8_set_48 : decode cX8_set 48 = .ok (.bipush 7, 2) := by decide +kernel
theorem dX8_set_50 : decode cX8_set 50 = .ok (.istore 4, 2) := by decide +kernel
theorem dX8_set_52 : decode cX8_set 52 = .ok (.iload_n 1, 1) := by decide +kernel
theorem dX8_set_53 : decode cX8_set 53 = .ok (.i2l, 1) := by decide +kernel
theorem dX8_set_54 : decode cX8_set 54 = .ok (.lconst 0, 1) := by decide +kernel
theorem dX8_set_55 : decode cX8_set 55 = .ok (.ldc2_w 245, 3) := by decide +kernel
theorem dX8_set_58 : decode cX8_set 58 = .ok (.invokestatic 97, 3) := by decide +kernel
theorem dX8_set_61 : decode cX8_set 61 = .ok (.ifCond .eq 45, 3) := by decide +kernel
theorem dX8_set_64 : decode cX8_set 64 = .ok (.iload_n 3, 1) := by decide +kernel
theorem dX8_set_65 : decode cX8_set 65 = .ok (.i2l, 1) := by decide +kernel
theorem dX8_set_66 : decode cX8_set 66 = .ok (.iload_n 1, 1) := by decide +kernel
theorem dX8_set_67 : decode cX8_set 67 = .ok (.iconst 3, 1) := by decide +kernel
theorem dX8_set_68 : decode cX8_set 68 = .ok (.if_icmp .ne 7, 3) := by decide +kernel
theorem dX8_set_71 : decode cX8_set 71 = .ok (.lconst 1, 1) := by decide +kernel
theorem dX8_set_72 : decode cX8_set 72 = .ok (.goto 4, 3) := by decide +kernel
theorem dX8_set_75 : decode cX8_set 75 = .ok (.lconst 0, 1) := by decide +kernel
theorem dX8_set_76 : decode cX8_set 76 = .ok (.iload 4, 2) := by decide +kernel
theorem dX8_set_78 : decode cX8_set 78 = .ok (.i2l, 1) := by decide +kernel
theorem dX8_set_79 : decode cX8_set 79 = .ok (.invokestatic 97, 3) := by decide +kernel
theorem dX8_set_82 : decode cX8_set 82 = .ok (.ifCond .eq 24, 3) := by decide +kernel
theorem dX8_set_85 : decode cX8_set 85 = .ok (.iload_n 1, 1) := by decide +kernel
theorem dX8_set_86 : decode cX8_set 86 = .ok (.iconst 1, 1) := by decide +kernel
theorem dX8_set_87 : decode cX8_set 87 = .ok (.if_icmp .gt 15, 3) := by decide +kernel
theorem dX8_set_90 : decode cX8_set 90 = .ok (.iload_n 2, 1) := by decide +kernel
theorem dX8_set_91 : decode cX8_set 91 = .ok (.i2l, 1) := by decide +kernel
theorem dX8_set_92 : decode cX8_set 92 = .ok (.lconst 0, 1) := by decide +kernel
theorem dX8_set_93 : decode cX8_set 93 = .ok (.ldc2_w 280, 3) := by decide +kernel
theorem dX8_set_96 : decode cX8_set 96 = .ok (.invokestatic 97, 3) := by decide +kernel
theorem dX8_set_99 : decode cX8_set 99 = .ok (.ifCond .eq 7, 3) := by decide +kernel
theorem dX8_set_102 : decode cX8_set 102 = .ok (.iconst 1, 1) := by decide +kernel
theorem dX8_set_103 : decode cX8_set 103 = .ok (.goto 4, 3) := by decide +kernel
theorem dX8_set_106 : decode cX8_set 106 = .ok (.iconst 0, 1) := by decide +kernel
theorem dX8_set_107 : decode cX8_set 107 = .ok (.istore 5, 2) := by decide +kernel
theorem dX8_set_109 : decode cX8_set 109 = .ok (.iload 5, 2) := by decide +kernel
theorem dX8_set_111 : decode cX8_set 111 = .ok (.ifCond .eq 13, 3) := by decide +kernel
theorem dX8_set_114 : decode cX8_set 114 = .ok (.aload_n 0, 1) := by decide +kernel
theorem dX8_set_115 : decode cX8_set 115 = .ok (.iload_n 1, 1) := by decide +kernel
theorem dX8_set_116 : decode cX8_set 116 = .ok (.iload_n 2, 1) := by decide +kernel
theorem dX8_set_117 : decode cX8_set 117 = .ok (.iload_n 3, 1) := by decide +kernel
theorem dX8_set_118 : decode cX8_set 118 = .ok (.invokevirtual 295, 3) := by decide +kernel
theorem dX8_set_121 : decode cX8_set 121 = .ok (.goto 5, 3) := by decide +kernel
theorem dX8_set_124 : decode cX8_set 124 = .ok (.bipush (-2), 2) := by decide +kernel
theorem dX8_set_126 : decode cX8_set 126 = .ok (.ireturn, 1) := by decide +kernel
theorem dX8_told_0 : decode cX8_told 0 = .ok (.aload_n 0, 1) := by decide +kernel
theorem dX8_told_1 : decode cX8_told 1 = .ok (.iconst 0, 1) := by decide +kernel
theorem dX8_told_2 : decode cX8_told 2 = .ok (.putfield 77, 3) := by decide +kernel
theorem dX8_told_5 : decode cX8_told 5 = .ok (.iload_n 2, 1) := by decide +kernel
theorem dX8_told_6 : decode cX8_told 6 = .ok (.i2l, 1) := by decide +kernel
theorem dX8_told_7 : decode cX8_told 7 = .ok (.lconst 0, 1) := by decide +kernel
theorem dX8_told_8 : decode cX8_told 8 = .ok (.ldc2_w 298, 3) := by decide +kernel
theorem dX8_told_11 : decode cX8_told 11 = .ok (.invokestatic 97, 3) := by decide +kernel
theorem dX8_told_14 : decode cX8_told 14 = .ok (.ifCond .eq 27, 3) := by decide +kernel
theorem dX8_told_17 : decode cX8_told 17 = .ok (.iload_n 1, 1) := by decide +kernel
theorem dX8_told_18 : decode cX8_told 18 = .ok (.i2l, 1) := by decide +kernel
theorem dX8_told_19 : decode cX8_told 19 = .ok (.lconst 0, 1) := by decide +kernel
theorem dX8_told_20 : decode cX8_told 20 = .ok (.iload_n 2, 1) := by decide +kernel
theorem dX8_told_21 : decode cX8_told 21 = .ok (.bipush 6, 2) := by decide +kernel
theorem dX8_told_23 : decode cX8_told 23 = .ok (.if_icmp .ne 9, 3) := by decide +kernel
theorem dX8_told_26 : decode cX8_told 26 = .ok (.ldc2_w 254, 3) := by decide +kernel
theorem dX8_told_29 : decode cX8_told 29 = .ok (.goto 6, 3) := by decide +kernel
theorem dX8_told_32 : decode cX8_told 32 = .ok (.ldc2_w 280, 3) := by decide +kernel
theorem dX8_told_35 : decode cX8_told 35 = .ok (.invokestatic 97, 3) := by decide +kernel
theorem dX8_told_38 : decode cX8_told 38 = .ok (.ifCond .ne 6, 3) := by decide +kernel
theorem dX8_told_41 : decode cX8_told 41 = .ok (.bipush (-2), 2) := by decide +kernel
theorem dX8_told_43 : decode cX8_told 43 = .ok (.ireturn, 1) := by decide +kernel
theorem dX8_told_44 : decode cX8_told 44 = .ok (.iload_n 2, 1) := by decide +kernel
theorem dX8_told_45 : decode cX8_told 45 = .ok (.tableswitch 113 0 5 #[39, 46, 53, 60, 70, 84], 39) := by decide +kernel
theorem dX8_told_84 : decode cX8_told 84 = .ok (.aload_n 0, 1) := by decide +kernel
theorem dX8_told_85 : decode cX8_told 85 = .ok (.getfield 13, 3) := by decide +kernel
theorem dX8_told_88 : decode cX8_told 88 = .ok (.iload_n 1, 1) := by decide +kernel
theorem dX8_told_89 : decode cX8_told 89 = .ok (.iaload, 1) := by decide +kernel
theorem dX8_told_90 : decode cX8_told 90 = .ok (.ireturn, 1) := by decide +kernel
theorem dX8_told_91 : decode cX8_told 91 = .ok (.aload_n 0, 1) := by decide +kernel
theorem dX8_told_92 : decode cX8_told 92 = .ok (.getfield 16, 3) := by decide +kernel
theorem dX8_told_95 : decode cX8_told 95 = .ok (.iload_n 1, 1) := by decide +kernel
theorem dX8_told_96 : decode cX8_told 96 = .ok (.iaload, 1) := by decide +kernel
theorem dX8_told_97 : decode cX8_told 97 = .ok (.ireturn, 1) := by decide +kernel
theorem dX8_told_98 : decode cX8_told 98 = .ok (.aload_n 0, 1) := by decide +kernel
theorem dX8_told_99 : decode cX8_told 99 = .ok (.getfield 19, 3) := by decide +kernel
theorem dX8_told_102 : decode cX8_told 102 = .ok (.iload_n 1, 1) := by decide +kernel
theorem dX8_told_103 : decode cX8_told 103 = .ok (.iaload, 1) := by decide +kernel
theorem dX8_told_104 : decode cX8_told 104 = .ok (.ireturn, 1) := by decide +kernel
theorem dX8_told_105 : decode cX8_told 105 = .ok (.aload_n 0, 1) := by decide +kernel
theorem dX8_told_106 : decode cX8_told 106 = .ok (.iload_n 1, 1) := by decide +kernel
theorem dX8_told_107 : decode cX8_told 107 = .ok (.aload_n 0, 1) := by decide +kernel
theorem dX8_told_108 : decode cX8_told 108 = .ok (.getfield 204, 3) := by decide +kernel
theorem dX8_told_111 : decode cX8_told 111 = .ok (.invokevirtual 207, 3) := by decide +kernel
theorem dX8_told_114 : decode cX8_told 114 = .ok (.ireturn, 1) := by decide +kernel
theorem dX8_told_115 : decode cX8_told 115 = .ok (.aload_n 0, 1) := by decide +kernel
theorem dX8_told_116 : decode cX8_told 116 = .ok (.iload_n 1, 1) := by decide +kernel
theorem dX8_told_117 : decode cX8_told 117 = .ok (.aload_n 0, 1) := by decide +kernel
theorem dX8_told_118 : decode cX8_told 118 = .ok (.getfield 22, 3) := by decide +kernel
theorem dX8_told_121 : decode cX8_told 121 = .ok (.aload_n 0, 1) := by decide +kernel
theorem dX8_told_122 : decode cX8_told 122 = .ok (.getfield 238, 3) := by decide +kernel
theorem dX8_told_125 : decode cX8_told 125 = .ok (.invokevirtual 201, 3) := by decide +kernel
theorem dX8_told_128 : decode cX8_told 128 = .ok (.ireturn, 1) := by decide +kernel
theorem dX8_told_129 : decode cX8_told 129 = .ok (.aload_n 0, 1) := by decide +kernel
theorem dX8_told_130 : decode cX8_told 130 = .ok (.getfield 7, 3) := by decide +kernel
theorem dX8_told_133 : decode cX8_told 133 = .ok (.aload_n 0, 1) := by decide +kernel
theorem dX8_told_134 : decode cX8_told 134 = .ok (.iload_n 1, 1) := by decide +kernel
theorem dX8_told_135 : decode cX8_told 135 = .ok (.aload_n 0, 1) := by decide +kernel
theorem dX8_told_136 : decode cX8_told 136 = .ok (.getfield 22, 3) := by decide +kernel
theorem dX8_told_139 : decode cX8_told 139 = .ok (.aload_n 0, 1) := by decide +kernel
theorem dX8_told_140 : decode cX8_told 140 = .ok (.getfield 238, 3) := by decide +kernel
theorem dX8_told_143 : decode cX8_told 143 = .ok (.invokevirtual 201, 3) := by decide +kernel
theorem dX8_told_146 : decode cX8_told 146 = .ok (.iaload, 1) := by decide +kernel
theorem dX8_told_147 : decode cX8_told 147 = .ok (.aload_n 0, 1) := by decide +kernel
theorem dX8_told_148 : decode cX8_told 148 = .ok (.iload_n 1, 1) := by decide +kernel
theorem dX8_told_149 : decode cX8_told 149 = .ok (.aload_n 0, 1) := by decide +kernel
theorem dX8_told_150 : decode cX8_told 150 = .ok (.getfield 204, 3) := by decide +kernel
theorem dX8_told_153 : decode cX8_told 153 = .ok (.invokevirtual 207, 3) := by decide +kernel
theorem dX8_told_156 : decode cX8_told 156 = .ok (.iadd, 1) := by decide +kernel
theorem dX8_told_157 : decode cX8_told 157 = .ok (.ireturn, 1) := by decide +kernel
theorem dX8_told_158 : decode cX8_told 158 = .ok (.aload_n 0, 1) := by decide +kernel
theorem dX8_told_159 : decode cX8_told 159 = .ok (.getfield 7, 3) := by decide +kernel
theorem dX8_told_162 : decode cX8_told 162 = .ok (.iload_n 1, 1) := by decide +kernel
theorem dX8_told_163 : decode cX8_told 163 = .ok (.iaload, 1) := by decide +kernel
theorem dX8_told_164 : decode cX8_told 164 = .ok (.ireturn, 1) := by decide +kernel
theorem dX8_carry_0 : decode cX8_carry 0 = .ok (.aload_n 0, 1) := by decide +kernel
theorem dX8_carry_1 : decode cX8_carry 1 = .ok (.getfield 300, 3) := by decide +kernel
theorem dX8_carry_4 : decode cX8_carry 4 = .ok (.ifCond .eq 13, 3) := by decide +kernel
theorem dX8_carry_7 : decode cX8_carry 7 = .ok (.aload_n 0, 1) := by decide +kernel
theorem dX8_carry_8 : decode cX8_carry 8 = .ok (.getfield 62, 3) := by decide +kernel
theorem dX8_carry_11 : decode cX8_carry 11 = .ok (.aload_n 0, 1) := by decide +kernel
theorem dX8_carry_12 : decode cX8_carry 12 = .ok (.getfield 303, 3) := by decide +kernel
theorem dX8_carry_15 : decode cX8_carry 15 = .ok (.iload_n 1, 1) := by decide +kernel
theorem dX8_carry_16 : decode cX8_carry 16 = .ok (.iastore, 1) := by decide +kernel
theorem dX8_carry_17 : decode cX8_carry 17 = .ok (.aload_n 0, 1) := by decide +kernel
theorem dX8_carry_18 : decode cX8_carry 18 = .ok (.dup, 1) := by decide +kernel
theorem dX8_carry_19 : decode cX8_carry 19 = .ok (.getfield 303, 3) := by decide +kernel
theorem dX8_carry_22 : decode cX8_carry 22 = .ok (.iconst 1, 1) := by decide +kernel
theorem dX8_carry_23 : decode cX8_carry 23 = .ok (.iadd, 1) := by decide +kernel
theorem dX8_carry_24 : decode cX8_carry 24 = .ok (.putfield 303, 3) := by decide +kernel
theorem dX8_carry_27 : decode cX8_carry 27 = .ok (.aload_n 0, 1) := by decide +kernel
theorem dX8_carry_28 : decode cX8_carry 28 = .ok (.getfield 62, 3) := by decide +kernel
theorem dX8_carry_31 : decode cX8_carry 31 = .ok (.aload_n 0, 1) := by decide +kernel
theorem dX8_carry_32 : decode cX8_carry 32 = .ok (.getfield 303, 3) := by decide +kernel
theorem dX8_carry_35 : decode cX8_carry 35 = .ok (.iconst 1, 1) := by decide +kernel
theorem dX8_carry_36 : decode cX8_carry 36 = .ok (.isub, 1) := by decide +kernel
theorem dX8_carry_37 : decode cX8_carry 37 = .ok (.iaload, 1) := by decide +kernel
theorem dX8_carry_38 : decode cX8_carry 38 = .ok (.ireturn, 1) := by decide +kernel
theorem dX8_carryAll_0 : decode cX8_carryAll 0 = .ok (.aload_n 0, 1) := by decide +kernel
theorem dX8_carryAll_1 : decode cX8_carryAll 1 = .ok (.iconst 0, 1) := by decide +kernel
theorem dX8_carryAll_2 : decode cX8_carryAll 2 = .ok (.putfield 303, 3) := by decide +kernel
theorem dX8_carryAll_5 : decode cX8_carryAll 5 = .ok (.aload_n 0, 1) := by decide +kernel
theorem dX8_carryAll_6 : decode cX8_carryAll 6 = .ok (.aload_n 0, 1) := by decide +kernel
theorem dX8_carryAll_7 : decode cX8_carryAll 7 = .ok (.aload_n 0, 1) := by decide +kernel
theorem dX8_carryAll_8 : decode cX8_carryAll 8 = .ok (.getfield 22, 3) := by decide +kernel
theorem dX8_carryAll_11 : decode cX8_carryAll 11 = .ok (.invokevirtual 306, 3) := by decide +kernel
theorem dX8_carryAll_14 : decode cX8_carryAll 14 = .ok (.putfield 22, 3) := by decide +kernel
theorem dX8_carryAll_17 : decode cX8_carryAll 17 = .ok (.aload_n 0, 1) := by decide +kernel
theorem dX8_carryAll_18 : decode cX8_carryAll 18 = .ok (.aload_n 0, 1) := by decide +kernel
theorem dX8_carryAll_19 : decode cX8_carryAll 19 = .ok (.aload_n 0, 1) := by decide +kernel
theorem dX8_carryAll_20 : decode cX8_carryAll 20 = .ok (.getfield 26, 3) := by decide +kernel
theorem dX8_carryAll_23 : decode cX8_carryAll 23 = .ok (.invokevirtual 306, 3) := by decide +kernel
theorem dX8_carryAll_26 : decode cX8_carryAll 26 = .ok (.putfield 26, 3) := by decide +kernel
theorem dX8_carryAll_29 : decode cX8_carryAll 29 = .ok (.aload_n 0, 1) := by decide +kernel
theorem dX8_carryAll_30 : decode cX8_carryAll 30 = .ok (.aload_n 0, 1) := by decide +kernel
theorem dX8_carryAll_31 : decode cX8_carryAll 31 = .ok (.aload_n 0, 1) := by decide +kernel
theorem dX8_carryAll_32 : decode cX8_carryAll 32 = .ok (.getfield 238, 3) := by decide +kernel
theorem dX8_carryAll_35 : decode cX8_carryAll 35 = .ok (.invokevirtual 306, 3) := by decide +kernel
theorem dX8_carryAll_38 : decode cX8_carryAll 38 = .ok (.putfield 238, 3) := by decide +kernel
theorem dX8_carryAll_41 : decode cX8_carryAll 41 = .ok (.aload_n 0, 1) := by decide +kernel
theorem dX8_carryAll_42 : decode cX8_carryAll 42 = .ok (.aload_n 0, 1) := by decide +kernel
theorem dX8_carryAll_43 : decode cX8_carryAll 43 = .ok (.aload_n 0, 1) := by decide +kernel
theorem dX8_carryAll_44 : decode cX8_carryAll 44 = .ok (.getfield 204, 3) := by decide +kernel
theorem dX8_carryAll_47 : decode cX8_carryAll 47 = .ok (.invokevirtual 306, 3) := by decide +kernel
theorem dX8_carryAll_50 : decode cX8_carryAll 50 = .ok (.putfield 204, 3) := by decide +kernel
theorem dX8_carryAll_53 : decode cX8_carryAll 53 = .ok (.aload_n 0, 1) := by decide +kernel
theorem dX8_carryAll_54 : decode cX8_carryAll 54 = .ok (.aload_n 0, 1) := by decide +kernel
theorem dX8_carryAll_55 : decode cX8_carryAll 55 = .ok (.aload_n 0, 1) := by decide +kernel
theorem dX8_carryAll_56 : decode cX8_carryAll 56 = .ok (.getfield 189, 3) := by decide +kernel
theorem dX8_carryAll_59 : decode cX8_carryAll 59 = .ok (.invokevirtual 306, 3) := by decide +kernel
theorem dX8_carryAll_62 : decode cX8_carryAll 62 = .ok (.putfield 189, 3) := by decide +kernel
theorem dX8_carryAll_65 : decode cX8_carryAll 65 = .ok (.iconst 0, 1) := by decide +kernel
theorem dX8_carryAll_66 : decode cX8_carryAll 66 = .ok (.istore_n 1, 1) := by decide +kernel
theorem dX8_carryAll_67 : decode cX8_carryAll 67 = .ok (.iload_n 1, 1) := by decide +kernel
theorem dX8_carryAll_68 : decode cX8_carryAll 68 = .ok (.iconst 4, 1) := by decide +kernel
theorem dX8_carryAll_69 : decode cX8_carryAll 69 = .ok (.if_icmp .ge 41, 3) := by decide +kernel
theorem dX8_carryAll_72 : decode cX8_carryAll 72 = .ok (.aload_n 0, 1) := by decide +kernel
theorem dX8_carryAll_73 : decode cX8_carryAll 73 = .ok (.getfield 16, 3) := by decide +kernel
theorem dX8_carryAll_76 : decode cX8_carryAll 76 = .ok (.iload_n 1, 1) := by decide +kernel
theorem dX8_carryAll_77 : decode cX8_carryAll 77 = .ok (.aload_n 0, 1) := by decide +kernel
theorem dX8_carryAll_78 : decode cX8_carryAll 78 = .ok (.aload_n 0, 1) := by decide +kernel
theorem dX8_carryAll_79 : decode cX8_carryAll 79 = .ok (.getfield 16, 3) := by decide +kernel
theorem dX8_carryAll_82 : decode cX8_carryAll 82 = .ok (.iload_n 1, 1) := by decide +kernel
theorem dX8_carryAll_83 : decode cX8_carryAll 83 = .ok (.iaload, 1) := by decide +kernel
theorem dX8_carryAll_84 : decode cX8_carryAll 84 = .ok (.invokevirtual 306, 3) := by decide +kernel
theorem dX8_carryAll_87 : decode cX8_carryAll 87 = .ok (.iastore, 1) := by decide +kernel
theorem dX8_carryAll_88 : decode cX8_carryAll 88 = .ok (.aload_n 0, 1) := by decide +kernel
theorem dX8_carryAll_89 : decode cX8_carryAll 89 = .ok (.getfield 19, 3) := by decide +kernel
theorem dX8_carryAll_92 : decode cX8_carryAll 92 = .ok (.iload_n 1, 1) := by decide +kernel
theorem dX8_carryAll_93 : decode cX8_carryAll 93 = .ok (.aload_n 0, 1) := by decide +kernel
theorem dX8_carryAll_94 : decode cX8_carryAll 94 = .ok (.aload_n 0, 1) := by decide +kernel
theorem dX8_carryAll_95 : decode cX8_carryAll 95 = .ok (.getfield 19, 3) := by decide +kernel
theorem dX8_carryAll_98 : decode cX8_carryAll 98 = .ok (.iload_n 1, 1) := by decide +kernel
theorem dX8_carryAll_99 : decode cX8_carryAll 99 = .ok (.iaload, 1) := by decide +kernel
theorem dX8_carryAll_100 : decode cX8_carryAll 100 = .ok (.invokevirtual 306, 3) := by decide +kernel
theorem dX8_carryAll_103 : decode cX8_carryAll 103 = .ok (.iastore, 1) := by decide +kernel
theorem dX8_carryAll_104 : decode cX8_carryAll 104 = .ok (.iinc 1 1, 3) := by decide +kernel
theorem dX8_carryAll_107 : decode cX8_carryAll 107 = .ok (.goto (-40), 3) := by decide +kernel
theorem dX8_carryAll_110 : decode cX8_carryAll 110 = .ok (.iconst 0, 1) := by decide +kernel
theorem dX8_carryAll_111 : decode cX8_carryAll 111 = .ok (.istore_n 1, 1) := by decide +kernel
theorem dX8_carryAll_112 : decode cX8_carryAll 112 = .ok (.iload_n 1, 1) := by decide +kernel
theorem dX8_carryAll_113 : decode cX8_carryAll 113 = .ok (.bipush 64, 2) := by decide +kernel
theorem dX8_carryAll_115 : decode cX8_carryAll 115 = .ok (.if_icmp .ge 25, 3) := by decide +kernel
theorem dX8_carryAll_118 : decode cX8_carryAll 118 = .ok (.aload_n 0, 1) := by decide +kernel
theorem dX8_carryAll_119 : decode cX8_carryAll 119 = .ok (.getfield 7, 3) := by decide +kernel
theorem dX8_carryAll_122 : decode cX8_carryAll 122 = .ok (.iload_n 1, 1) := by decide +kernel
theorem dX8_carryAll_123 : decode cX8_carryAll 123 = .ok (.aload_n 0, 1) := by decide +kernel
theorem dX8_carryAll_124 : decode cX8_carryAll 124 = .ok (.aload_n 0, 1) := by decide +kernel
theorem dX8_carryAll_125 : decode cX8_carryAll 125 = .ok (.getfield 7, 3) := by decide +kernel
theorem dX8_carryAll_128 : decode cX8_carryAll 128 = .ok (.iload_n 1, 1) := by decide +kernel
theorem dX8_carryAll_129 : decode cX8_carryAll 129 = .ok (.iaload, 1) := by decide +kernel
theorem dX8_carryAll_130 : decode cX8_carryAll 130 = .ok (.invokevirtual 306, 3) := by decide +kernel
theorem dX8_carryAll_133 : decode cX8_carryAll 133 = .ok (.iastore, 1) := by decide +kernel
theorem dX8_carryAll_134 : decode cX8_carryAll 134 = .ok (.iinc 1 1, 3) := by decide +kernel
theorem dX8_carryAll_137 : decode cX8_carryAll 137 = .ok (.goto (-25), 3) := by decide +kernel
theorem dX8_carryAll_140 : decode cX8_carryAll 140 = .ok (.return_, 1) := by decide +kernel
theorem dX8_image_0 : decode cX8_image 0 = .ok (.aload_n 0, 1) := by decide +kernel
theorem dX8_image_1 : decode cX8_image 1 = .ok (.iconst 0, 1) := by decide +kernel
theorem dX8_image_2 : decode cX8_image 2 = .ok (.putfield 77, 3) := by decide +kernel
theorem dX8_image_5 : decode cX8_image 5 = .ok (.aload_n 0, 1) := by decide +kernel
theorem dX8_image_6 : decode cX8_image 6 = .ok (.iconst 1, 1) := by decide +kernel
theorem dX8_image_7 : decode cX8_image 7 = .ok (.putfield 309, 3) := by decide +kernel
theorem dX8_image_10 : decode cX8_image 10 = .ok (.aload_n 0, 1) := by decide +kernel
theorem dX8_image_11 : decode cX8_image 11 = .ok (.iconst 1, 1) := by decide +kernel
theorem dX8_image_12 : decode cX8_image 12 = .ok (.putfield 300, 3) := by decide +kernel
theorem dX8_image_15 : decode cX8_image 15 = .ok (.aload_n 0, 1) := by decide +kernel
theorem dX8_image_16 : decode cX8_image 16 = .ok (.invokevirtual 312, 3) := by decide +kernel
theorem dX8_image_19 : decode cX8_image 19 = .ok (.aload_n 0, 1) := by decide +kernel
theorem dX8_image_20 : decode cX8_image 20 = .ok (.getfield 238, 3) := by decide +kernel
theorem dX8_image_23 : decode cX8_image 23 = .ok (.ireturn, 1) := by decide +kernel
theorem dX8_back_0 : decode cX8_back 0 = .ok (.aload_n 0, 1) := by decide +kernel
theorem dX8_back_1 : decode cX8_back 1 = .ok (.iconst 0, 1) := by decide +kernel
theorem dX8_back_2 : decode cX8_back 2 = .ok (.putfield 77, 3) := by decide +kernel
theorem dX8_back_5 : decode cX8_back 5 = .ok (.aload_n 0, 1) := by decide +kernel
theorem dX8_back_6 : decode cX8_back 6 = .ok (.getfield 309, 3) := by decide +kernel
theorem dX8_back_9 : decode cX8_back 9 = .ok (.ifCond .ne 6, 3) := by decide +kernel
theorem dX8_back_12 : decode cX8_back 12 = .ok (.bipush (-3), 2) := by decide +kernel
theorem dX8_back_14 : decode cX8_back 14 = .ok (.ireturn, 1) := by decide +kernel
theorem dX8_back_15 : decode cX8_back 15 = .ok (.aload_n 0, 1) := by decide +kernel
theorem dX8_back_16 : decode cX8_back 16 = .ok (.iconst 0, 1) := by decide +kernel
theorem dX8_back_17 : decode cX8_back 17 = .ok (.putfield 300, 3) := by decide +kernel
theorem dX8_back_20 : decode cX8_back 20 = .ok (.aload_n 0, 1) := by decide +kernel
theorem dX8_back_21 : decode cX8_back 21 = .ok (.invokevirtual 312, 3) := by decide +kernel
theorem dX8_back_24 : decode cX8_back 24 = .ok (.aload_n 0, 1) := by decide +kernel
theorem dX8_back_25 : decode cX8_back 25 = .ok (.getfield 238, 3) := by decide +kernel
theorem dX8_back_28 : decode cX8_back 28 = .ok (.ireturn, 1) := by decide +kernel
theorem dX8_count_0 : decode cX8_count 0 = .ok (.aload_n 0, 1) := by decide +kernel
theorem dX8_count_1 : decode cX8_count 1 = .ok (.iconst 0, 1) := by decide +kernel
theorem dX8_count_2 : decode cX8_count 2 = .ok (.putfield 77, 3) := by decide +kernel
theorem dX8_count_5 : decode cX8_count 5 = .ok (.iload_n 1, 1) := by decide +kernel
theorem dX8_count_6 : decode cX8_count 6 = .ok (.tableswitch 77 0 6 #[42, 47, 52, 57, 62, 67, 72], 42) := by decide +kernel
theorem dX8_count_48 : decode cX8_count 48 = .ok (.aload_n 0, 1) := by decide +kernel
theorem dX8_count_49 : decode cX8_count 49 = .ok (.getfield 22, 3) := by decide +kernel
theorem dX8_count_52 : decode cX8_count 52 = .ok (.ireturn, 1) := by decide +kernel
theorem dX8_count_53 : decode cX8_count 53 = .ok (.aload_n 0, 1) := by decide +kernel
theorem dX8_count_54 : decode cX8_count 54 = .ok (.getfield 26, 3) := by decide +kernel
theorem dX8_count_57 : decode cX8_count 57 = .ok (.ireturn, 1) := by decide +kernel
theorem dX8_count_58 : decode cX8_count 58 = .ok (.aload_n 0, 1) := by decide +kernel
theorem dX8_count_59 : decode cX8_count 59 = .ok (.getfield 238, 3) := by decide +kernel
theorem dX8_count_62 : decode cX8_count 62 = .ok (.ireturn, 1) := by decide +kernel
theorem dX8_count_63 : decode cX8_count 63 = .ok (.aload_n 0, 1) := by decide +kernel
theorem dX8_count_64 : decode cX8_count 64 = .ok (.getfield 204, 3) := by decide +kernel
theorem dX8_count_67 : decode cX8_count 67 = .ok (.ireturn, 1) := by decide +kernel
theorem dX8_count_68 : decode cX8_count 68 = .ok (.aload_n 0, 1) := by decide +kernel
theorem dX8_count_69 : decode cX8_count 69 = .ok (.getfield 87, 3) := by decide +kernel
theorem dX8_count_72 : decode cX8_count 72 = .ok (.ireturn, 1) := by decide +kernel
theorem dX8_count_73 : decode cX8_count 73 = .ok (.aload_n 0, 1) := by decide +kernel
theorem dX8_count_74 : decode cX8_count 74 = .ok (.getfield 80, 3) := by decide +kernel
theorem dX8_count_77 : decode cX8_count 77 = .ok (.ireturn, 1) := by decide +kernel
theorem dX8_count_78 : decode cX8_count 78 = .ok (.aload_n 0, 1) := by decide +kernel
theorem dX8_count_79 : decode cX8_count 79 = .ok (.getfield 189, 3) := by decide +kernel
theorem dX8_count_82 : decode cX8_count 82 = .ok (.ireturn, 1) := by decide +kernel
theorem dX8_count_83 : decode cX8_count 83 = .ok (.bipush (-2), 2) := by decide +kernel
theorem dX8_count_85 : decode cX8_count 85 = .ok (.ireturn, 1) := by decide +kernel
theorem dX8_sheet_0 : decode cX8_sheet 0 = .ok (.aload_n 0, 1) := by decide +kernel
theorem dX8_sheet_1 : decode cX8_sheet 1 = .ok (.iconst 0, 1) := by decide +kernel
theorem dX8_sheet_2 : decode cX8_sheet 2 = .ok (.putfield 77, 3) := by decide +kernel
theorem dX8_sheet_5 : decode cX8_sheet 5 = .ok (.iload_n 1, 1) := by decide +kernel
theorem dX8_sheet_6 : decode cX8_sheet 6 = .ok (.i2l, 1) := by decide +kernel
theorem dX8_sheet_7 : decode cX8_sheet 7 = .ok (.lconst 0, 1) := by decide +kernel
theorem dX8_sheet_8 : decode cX8_sheet 8 = .ok (.ldc2_w 280, 3) := by decide +kernel
theorem dX8_sheet_11 : decode cX8_sheet 11 = .ok (.invokestatic 97, 3) := by decide +kernel
theorem dX8_sheet_14 : decode cX8_sheet 14 = .ok (.ifCond .eq 27, 3) := by decide +kernel
theorem dX8_sheet_17 : decode cX8_sheet 17 = .ok (.iload_n 2, 1) := by decide +kernel
theorem dX8_sheet_18 : decode cX8_sheet 18 = .ok (.i2l, 1) := by decide +kernel
theorem dX8_sheet_19 : decode cX8_sheet 19 = .ok (.ldc2_w 315, 3) := by decide +kernel
theorem dX8_sheet_22 : decode cX8_sheet 22 = .ok (.ldc2_w 268, 3) := by decide +kernel
theorem dX8_sheet_25 : decode cX8_sheet 25 = .ok (.invokestatic 97, 3) := by decide +kernel
theorem dX8_sheet_28 : decode cX8_sheet 28 = .ok (.ifCond .eq 13, 3) := by decide +kernel
theorem dX8_sheet_31 : decode cX8_sheet 31 = .ok (.iload_n 2, 1) := by decide +kernel
theorem dX8_sheet_32 : decode cX8_sheet 32 = .ok (.ifCond .lt 12, 3) := by decide +kernel
theorem dX8_sheet_35 : decode cX8_sheet 35 = .ok (.iload_n 3, 1) := by decide +kernel
theorem dX8_sheet_36 : decode cX8_sheet 36 = .ok (.bipush 40, 2) := by decide +kernel
theorem dX8_sheet_38 : decode cX8_sheet 38 = .ok (.if_icmp .le 6, 3) := by decide +kernel
theorem dX8_sheet_41 : decode cX8_sheet 41 = .ok (.bipush (-2), 2) := by decide +kernel
theorem dX8_sheet_43 : decode cX8_sheet 43 = .ok (.ireturn, 1) := by decide +kernel
theorem dX8_sheet_44 : decode cX8_sheet 44 = .ok (.iload_n 2, 1) := by decide +kernel
theorem dX8_sheet_45 : decode cX8_sheet 45 = .ok (.ifCond .lt 10, 3) := by decide +kernel
theorem dX8_sheet_48 : decode cX8_sheet 48 = .ok (.iload_n 3, 1) := by decide +kernel
theorem dX8_sheet_49 : decode cX8_sheet 49 = .ok (.ifCond .ge 6, 3) := by decide +kernel
theorem dX8_sheet_52 : decode cX8_sheet 52 = .ok (.bipush (-14), 2) := by decide +kernel
theorem dX8_sheet_54 : decode cX8_sheet 54 = .ok (.ireturn, 1) := by decide +kernel
theorem dX8_sheet_55 : decode cX8_sheet 55 = .ok (.aload_n 0, 1) := by decide +kernel
theorem dX8_sheet_56 : decode cX8_sheet 56 = .ok (.getfield 65, 3) := by decide +kernel
theorem dX8_sheet_59 : decode cX8_sheet 59 = .ok (.iload_n 1, 1) := by decide +kernel
theorem dX8_sheet_60 : decode cX8_sheet 60 = .ok (.iload_n 2, 1) := by decide +kernel
theorem dX8_sheet_61 : decode cX8_sheet 61 = .ok (.iastore, 1) := by decide +kernel
theorem dX8_sheet_62 : decode cX8_sheet 62 = .ok (.aload_n 0, 1) := by decide +kernel
theorem dX8_sheet_63 : decode cX8_sheet 63 = .ok (.getfield 68, 3) := by decide +kernel
theorem dX8_sheet_66 : decode cX8_sheet 66 = .ok (.iload_n 1, 1) := by decide +kernel
theorem dX8_sheet_67 : decode cX8_sheet 67 = .ok (.iload_n 2, 1) := by decide +kernel
theorem dX8_sheet_68 : decode cX8_sheet 68 = .ok (.ifCond .ge 7, 3) := by decide +kernel
theorem dX8_sheet_71 : decode cX8_sheet 71 = .ok (.iconst 0, 1) := by decide +kernel
theorem dX8_sheet_72 : decode cX8_sheet 72 = .ok (.goto 4, 3) := by decide +kernel
theorem dX8_sheet_75 : decode cX8_sheet 75 = .ok (.iload_n 3, 1) := by decide +kernel
theorem dX8_sheet_76 : decode cX8_sheet 76 = .ok (.iastore, 1) := by decide +kernel
theorem dX8_sheet_77 : decode cX8_sheet 77 = .ok (.iconst 0, 1) := by decide +kernel
theorem dX8_sheet_78 : decode cX8_sheet 78 = .ok (.istore 4, 2) := by decide +kernel
theorem dX8_sheet_80 : decode cX8_sheet 80 = .ok (.iload 4, 2) := by decide +kernel
theorem dX8_sheet_82 : decode cX8_sheet 82 = .ok (.bipush 40, 2) := by decide +kernel
theorem dX8_sheet_84 : decode cX8_sheet 84 = .ok (.if_icmp .ge 22, 3) := by decide +kernel
theorem dX8_sheet_87 : decode cX8_sheet 87 = .ok (.aload_n 0, 1) := by decide +kernel
theorem dX8_sheet_88 : decode cX8_sheet 88 = .ok (.getfield 71, 3) := by decide +kernel
theorem dX8_sheet_91 : decode cX8_sheet 91 = .ok (.bipush 40, 2) := by decide +kernel
theorem dX8_sheet_93 : decode cX8_sheet 93 = .ok (.iload_n 1, 1) := by decide +kernel
theorem dX8_sheet_94 : decode cX8_sheet 94 = .ok (.imul, 1) := by decide +kernel
theorem dX8_sheet_95 : decode cX8_sheet 95 = .ok (.iload 4, 2) := by decide +kernel
theorem dX8_sheet_97 : decode cX8_sheet 97 = .ok (.iadd, 1) := by decide +kernel
theorem dX8_sheet_98 : decode cX8_sheet 98 = .ok (.iconst 0, 1) := by decide +kernel
theorem dX8_sheet_99 : decode cX8_sheet 99 = .ok (.iastore, 1) := by decide +kernel
theorem dX8_sheet_100 : decode cX8_sheet 100 = .ok (.iinc 4 1, 3) := by decide +kernel
theorem dX8_sheet_103 : decode cX8_sheet 103 = .ok (.goto (-23), 3) := by decide +kernel
theorem dX8_sheet_106 : decode cX8_sheet 106 = .ok (.iconst 1, 1) := by decide +kernel
theorem dX8_sheet_107 : decode cX8_sheet 107 = .ok (.ireturn, 1) := by decide +kernel
theorem dX8_cell_0 : decode cX8_cell 0 = .ok (.aload_n 0, 1) := by decide +kernel
theorem dX8_cell_1 : decode cX8_cell 1 = .ok (.iconst 0, 1) := by decide +kernel
theorem dX8_cell_2 : decode cX8_cell 2 = .ok (.putfield 77, 3) := by decide +kernel
theorem dX8_cell_5 : decode cX8_cell 5 = .ok (.iload_n 1, 1) := by decide +kernel
theorem dX8_cell_6 : decode cX8_cell 6 = .ok (.i2l, 1) := by decide +kernel
theorem dX8_cell_7 : decode cX8_cell 7 = .ok (.lconst 0, 1) := by decide +kernel
theorem dX8_cell_8 : decode cX8_cell 8 = .ok (.ldc2_w 280, 3) := by decide +kernel
theorem dX8_cell_11 : decode cX8_cell 11 = .ok (.invokestatic 97, 3) := by decide +kernel
theorem dX8_cell_14 : decode cX8_cell 14 = .ok (.ifCond .ne 6, 3) := by decide +kernel
theorem dX8_cell_17 : decode cX8_cell 17 = .ok (.bipush (-2), 2) := by decide +kernel
theorem dX8_cell_19 : decode cX8_cell 19 = .ok (.ireturn, 1) := by decide +kernel
theorem dX8_cell_20 : decode cX8_cell 20 = .ok (.aload_n 0, 1) := by decide +kernel
theorem dX8_cell_21 : decode cX8_cell 21 = .ok (.getfield 65, 3) := by decide +kernel
theorem dX8_cell_24 : decode cX8_cell 24 = .ok (.iload_n 1, 1) := by decide +kernel
theorem dX8_cell_25 : decode cX8_cell 25 = .ok (.iaload, 1) := by decide +kernel
theorem dX8_cell_26 : decode cX8_cell 26 = .ok (.ifCond .ge 6, 3) := by decide +kernel
theorem dX8_cell_29 : decode cX8_cell 29 = .ok (.bipush (-11), 2) := by decide +kernel
theorem dX8_cell_31 : decode cX8_cell 31 = .ok (.ireturn, 1) := by decide +kernel
theorem dX8_cell_32 : decode cX8_cell 32 = .ok (.iload_n 2, 1) := by decide +kernel
theorem dX8_cell_33 : decode cX8_cell 33 = .ok (.i2l, 1) := by decide +kernel
theorem dX8_cell_34 : decode cX8_cell 34 = .ok (.lconst 0, 1) := by decide +kernel
theorem dX8_cell_35 : decode cX8_cell 35 = .ok (.aload_n 0, 1) := by decide +kernel
theorem dX8_cell_36 : decode cX8_cell 36 = .ok (.getfield 68, 3) := by decide +kernel
theorem dX8_cell_39 : decode cX8_cell 39 = .ok (.iload_n 1, 1) := by decide +kernel
theorem dX8_cell_40 : decode cX8_cell 40 = .ok (.iaload, 1) := by decide +kernel
theorem dX8_cell_41 : decode cX8_cell 41 = .ok (.iconst 1, 1) := by decide +kernel
theorem dX8_cell_42 : decode cX8_cell 42 = .ok (.isub, 1) := by decide +kernel
theorem dX8_cell_43 : decode cX8_cell 43 = .ok (.i2l, 1) := by decide +kernel
theorem dX8_cell_44 : decode cX8_cell 44 = .ok (.invokestatic 97, 3) := by decide +kernel
theorem dX8_cell_47 : decode cX8_cell 47 = .ok (.ifCond .ne 6, 3) := by decide +kernel
theorem dX8_cell_50 : decode cX8_cell 50 = .ok (.bipush (-12), 2) := by decide +kernel
theorem dX8_cell_52 : decode cX8_cell 52 = .ok (.ireturn, 1) := by decide +kernel
theorem dX8_cell_53 : decode cX8_cell 53 = .ok (.aload_n 0, 1) := by decide +kernel
theorem dX8_cell_54 : decode cX8_cell 54 = .ok (.getfield 71, 3) := by decide +kernel
theorem dX8_cell_57 : decode cX8_cell 57 = .ok (.bipush 40, 2) := by decide +kernel
theorem dX8_cell_59 : decode cX8_cell 59 = .ok (.iload_n 1, 1) := by decide +kernel
theorem dX8_cell_60 : decode cX8_cell 60 = .ok (.imul, 1) := by decide +kernel
theorem dX8_cell_61 : decode cX8_cell 61 = .ok (.iload_n 2, 1) := by decide +kernel
theorem dX8_cell_62 : decode cX8_cell 62 = .ok (.iadd, 1) := by decide +kernel
theorem dX8_cell_63 : decode cX8_cell 63 = .ok (.aload_n 0, 1) := by decide +kernel
theorem dX8_cell_64 : decode cX8_cell 64 = .ok (.getfield 65, 3) := by decide +kernel
theorem dX8_cell_67 : decode cX8_cell 67 = .ok (.iload_n 1, 1) := by decide +kernel
theorem dX8_cell_68 : decode cX8_cell 68 = .ok (.iaload, 1) := by decide +kernel
theorem dX8_cell_69 : decode cX8_cell 69 = .ok (.ifCond .ne 8, 3) := by decide +kernel
theorem dX8_cell_72 : decode cX8_cell 72 = .ok (.iload_n 3, 1) := by decide +kernel
theorem dX8_cell_73 : decode cX8_cell 73 = .ok (.i2b, 1) := by decide +kernel
theorem dX8_cell_74 : decode cX8_cell 74 = .ok (.goto 19, 3) := by decide +kernel
theorem dX8_cell_77 : decode cX8_cell 77 = .ok (.aload_n 0, 1) := by decide +kernel
theorem dX8_cell_78 : decode cX8_cell 78 = .ok (.getfield 65, 3) := by decide +kernel
theorem dX8_cell_81 : decode cX8_cell 81 = .ok (.iload_n 1, 1) := by decide +kernel
theorem dX8_cell_82 : decode cX8_cell 82 = .ok (.iaload, 1) := by decide +kernel
theorem dX8_cell_83 : decode cX8_cell 83 = .ok (.iconst 1, 1) := by decide +kernel
theorem dX8_cell_84 : decode cX8_cell 84 = .ok (.if_icmp .ne 8, 3) := by decide +kernel
theorem dX8_cell_87 : decode cX8_cell 87 = .ok (.iload_n 3, 1) := by decide +kernel
theorem dX8_cell_88 : decode cX8_cell 88 = .ok (.i2s, 1) := by decide +kernel
theorem dX8_cell_89 : decode cX8_cell 89 = .ok (.goto 4, 3) := by decide +kernel
theorem dX8_cell_92 : decode cX8_cell 92 = .ok (.iload_n 3, 1) := by decide +kernel
theorem dX8_cell_93 : decode cX8_cell 93 = .ok (.iastore, 1) := by decide +kernel
theorem dX8_cell_94 : decode cX8_cell 94 = .ok (.iconst 1, 1) := by decide +kernel
theorem dX8_cell_95 : decode cX8_cell 95 = .ok (.ireturn, 1) := by decide +kernel
theorem dX8_copy_0 : decode cX8_copy 0 = .ok (.aload_n 0, 1) := by decide +kernel
theorem dX8_copy_1 : decode cX8_copy 1 = .ok (.iconst 0, 1) := by decide +kernel
theorem dX8_copy_2 : decode cX8_copy 2 = .ok (.putfield 77, 3) := by decide +kernel
theorem dX8_copy_5 : decode cX8_copy 5 = .ok (.iload_n 1, 1) := by decide +kernel
theorem dX8_copy_6 : decode cX8_copy 6 = .ok (.i2l, 1) := by decide +kernel
theorem dX8_copy_7 : decode cX8_copy 7 = .ok (.lconst 0, 1) := by decide +kernel
theorem dX8_copy_8 : decode cX8_copy 8 = .ok (.ldc2_w 280, 3) := by decide +kernel
theorem dX8_copy_11 : decode cX8_copy 11 = .ok (.invokestatic 97, 3) := by decide +kernel
theorem dX8_copy_14 : decode cX8_copy 14 = .ok (.ifCond .eq 15, 3) := by decide +kernel
theorem dX8_copy_17 : decode cX8_copy 17 = .ok (.iload_n 3, 1) := by decide +kernel
theorem dX8_copy_18 : decode cX8_copy 18 = .ok (.i2l, 1) := by decide +kernel
theorem dX8_copy_19 : decode cX8_copy 19 = .ok (.lconst 0, 1) := by decide +kernel
theorem dX8_copy_20 : decode cX8_copy 20 = .ok (.ldc2_w 280, 3) := by decide +kernel
theorem dX8_copy_23 : decode cX8_copy 23 = .ok (.invokestatic 97, 3) := by decide +kernel
theorem dX8_copy_26 : decode cX8_copy 26 = .ok (.ifCond .ne 6, 3) := by decide +kernel
theorem dX8_copy_29 : decode cX8_copy 29 = .ok (.bipush (-2), 2) := by decide +kernel
theorem dX8_copy_31 : decode cX8_copy 31 = .ok (.ireturn, 1) := by decide +kernel
theorem dX8_copy_32 : decode cX8_copy 32 = .ok (.aload_n 0, 1) := by decide +kernel
theorem dX8_copy_33 : decode cX8_copy 33 = .ok (.getfield 65, 3) := by decide +kernel
theorem dX8_copy_36 : decode cX8_copy 36 = .ok (.iload_n 1, 1) := by decide +kernel
theorem dX8_copy_37 : decode cX8_copy 37 = .ok (.iaload, 1) := by decide +kernel
theorem dX8_copy_38 : decode cX8_copy 38 = .ok (.ifCond .lt 12, 3) := by decide +kernel
theorem dX8_copy_41 : decode cX8_copy 41 = .ok (.aload_n 0, 1) := by decide +kernel
theorem dX8_copy_42 : decode cX8_copy 42 = .ok (.getfield 65, 3) := by decide +kernel
theorem dX8_copy_45 : decode cX8_copy 45 = .ok (.iload_n 3, 1) := by decide +kernel
theorem dX8_copy_46 : decode cX8_copy 46 = .ok (.iaload, 1) := by decide +kernel
theorem dX8_copy_47 : decode cX8_copy 47 = .ok (.ifCond .ge 6, 3) := by decide +kernel
theorem dX8_copy_50 : decode cX8_copy 50 = .ok (.bipush (-11), 2) := by decide +kernel
theorem dX8_copy_52 : decode cX8_copy 52 = .ok (.ireturn, 1) := by decide +kernel
theorem dX8_copy_53 : decode cX8_copy 53 = .ok (.aload_n 0, 1) := by decide +kernel
theorem dX8_copy_54 : decode cX8_copy 54 = .ok (.getfield 65, 3) := by decide +kernel
theorem dX8_copy_57 : decode cX8_copy 57 = .ok (.iload_n 1, 1) := by decide +kernel
theorem dX8_copy_58 : decode cX8_copy 58 = .ok (.iaload, 1) := by decide +kernel
theorem dX8_copy_59 : decode cX8_copy 59 = .ok (.aload_n 0, 1) := by decide +kernel
theorem dX8_copy_60 : decode cX8_copy 60 = .ok (.getfield 65, 3) := by decide +kernel
theorem dX8_copy_63 : decode cX8_copy 63 = .ok (.iload_n 3, 1) := by decide +kernel
theorem dX8_copy_64 : decode cX8_copy 64 = .ok (.iaload, 1) := by decide +kernel
theorem dX8_copy_65 : decode cX8_copy 65 = .ok (.if_icmp .eq 6, 3) := by decide +kernel
theorem dX8_copy_68 : decode cX8_copy 68 = .ok (.bipush (-13), 2) := by decide +kernel
theorem dX8_copy_70 : decode cX8_copy 70 = .ok (.ireturn, 1) := by decide +kernel
theorem dX8_copy_71 : decode cX8_copy 71 = .ok (.iload 5, 2) := by decide +kernel
theorem dX8_copy_73 : decode cX8_copy 73 = .ok (.ifCond .lt 39, 3) := by decide +kernel
theorem dX8_copy_76 : decode cX8_copy 76 = .ok (.iload_n 2, 1) := by decide +kernel
theorem dX8_copy_77 : decode cX8_copy 77 = .ok (.ifCond .lt 35, 3) := by decide +kernel
theorem dX8_copy_80 : decode cX8_copy 80 = .ok (.iload 4, 2) := by decide +kernel
theorem dX8_copy_82 : decode cX8_copy 82 = .ok (.ifCond .lt 30, 3) := by decide +kernel
theorem dX8_copy_85 : decode cX8_copy 85 = .ok (.iload_n 2, 1) := by decide +kernel
theorem dX8_copy_86 : decode cX8_copy 86 = .ok (.aload_n 0, 1) := by decide +kernel
theorem dX8_copy_87 : decode cX8_copy 87 = .ok (.getfield 68, 3) := by decide +kernel
theorem dX8_copy_90 : decode cX8_copy 90 = .ok (.iload_n 1, 1) := by decide +kernel
theorem dX8_copy_91 : decode cX8_copy 91 = .ok (.iaload, 1) := by decide +kernel
theorem dX8_copy_92 : decode cX8_copy 92 = .ok (.iload 5, 2) := by decide +kernel
theorem dX8_copy_94 : decode cX8_copy 94 = .ok (.isub, 1) := by decide +kernel
theorem dX8_copy_95 : decode cX8_copy 95 = .ok (.if_icmp .gt 17, 3) := by decide +kernel
theorem dX8_copy_98 : decode cX8_copy 98 = .ok (.iload 4, 2) := by decide +kernel
theorem dX8_copy_100 : decode cX8_copy 100 = .ok (.aload_n 0, 1) := by decide +kernel
theorem dX8_copy_101 : decode cX8_copy 101 = .ok (.getfield 68, 3) := by decide +kernel
theorem dX8_copy_104 : decode cX8_copy 104 = .ok (.iload_n 3, 1) := by decide +kernel
theorem dX8_copy_105 : decode cX8_copy 105 = .ok (.iaload, 1) := by decide +kernel
theorem dX8_copy_106 : decode cX8_copy 106 = .ok (.iload 5, 2) := by decide +kernel
theorem dX8_copy_108 : decode cX8_copy 108 = .ok (.isub, 1) := by decide +kernel
theorem dX8_copy_109 : decode cX8_copy 109 = .ok (.if_icmp .le 6, 3) := by decide +kernel
theorem dX8_copy_112 : decode cX8_copy 112 = .ok (.bipush (-12), 2) := by decide +kernel
theorem dX8_copy_114 : decode cX8_copy 114 = .ok (.ireturn, 1) := by decide +kernel
theorem dX8_copy_115 : decode cX8_copy 115 = .ok (.iconst 0, 1) := by decide +kernel
theorem dX8_copy_116 : decode cX8_copy 116 = .ok (.istore 6, 2) := by decide +kernel
theorem dX8_copy_118 : decode cX8_copy 118 = .ok (.iload 6, 2) := by decide +kernel
theorem dX8_copy_120 : decode cX8_copy 120 = .ok (.iload 5, 2) := by decide +kernel
theorem dX8_copy_122 : decode cX8_copy 122 = .ok (.if_icmp .ge 30, 3) := by decide +kernel
theorem dX8_copy_125 : decode cX8_copy 125 = .ok (.aload_n 0, 1) := by decide +kernel
theorem dX8_copy_126 : decode cX8_copy 126 = .ok (.getfield 74, 3) := by decide +kernel
theorem dX8_copy_129 : decode cX8_copy 129 = .ok (.iload 6, 2) := by decide +kernel
theorem dX8_copy_131 : decode cX8_copy 131 = .ok (.aload_n 0, 1) := by decide +kernel
theorem dX8_copy_132 : decode cX8_copy 132 = .ok (.getfield 71, 3) := by decide +kernel
theorem dX8_copy_135 : decode cX8_copy 135 = .ok (.bipush 40, 2) := by decide +kernel
theorem dX8_copy_137 : decode cX8_copy 137 = .ok (.iload_n 1, 1) := by decide +kernel
theorem dX8_copy_138 : decode cX8_copy 138 = .ok (.imul, 1) := by decide +kernel
theorem dX8_copy_139 : decode cX8_copy 139 = .ok (.iload_n 2, 1) := by decide +kernel
theorem dX8_copy_140 : decode cX8_copy 140 = .ok (.iadd, 1) := by decide +kernel
theorem dX8_copy_141 : decode cX8_copy 141 = .ok (.iload 6, 2) := by decide +kernel
theorem dX8_copy_143 : decode cX8_copy 143 = .ok (.iadd, 1) := by decide +kernel
theorem dX8_copy_144 : decode cX8_copy 144 = .ok (.iaload, 1) := by decide +kernel
theorem dX8_copy_145 : decode cX8_copy 145 = .ok (.iastore, 1) := by decide +kernel
theorem dX8_copy_146 : decode cX8_copy 146 = .ok (.iinc 6 1, 3) := by decide +kernel
theorem dX8_copy_149 : decode cX8_copy 149 = .ok (.goto (-31), 3) := by decide +kernel
theorem dX8_copy_152 : decode cX8_copy 152 = .ok (.iconst 0, 1) := by decide +kernel
theorem dX8_copy_153 : decode cX8_copy 153 = .ok (.istore 6, 2) := by decide +kernel
theorem dX8_copy_155 : decode cX8_copy 155 = .ok (.iload 6, 2) := by decide +kernel
theorem dX8_copy_157 : decode cX8_copy 157 = .ok (.iload 5, 2) := by decide +kernel
theorem dX8_copy_159 : decode cX8_copy 159 = .ok (.if_icmp .ge 31, 3) := by decide +kernel
theorem dX8_copy_162 : decode cX8_copy 162 = .ok (.aload_n 0, 1) := by decide +kernel
theorem dX8_copy_163 : decode cX8_copy 163 = .ok (.getfield 71, 3) := by decide +kernel
theorem dX8_copy_166 : decode cX8_copy 166 = .ok (.bipush 40, 2) := by decide +kernel
theorem dX8_copy_168 : decode cX8_copy 168 = .ok (.iload_n 3, 1) := by decide +kernel
theorem dX8_copy_169 : decode cX8_copy 169 = .ok (.imul, 1) := by decide +kernel
theorem dX8_copy_170 : decode cX8_copy 170 = .ok (.iload 4, 2) := by decide +kernel
theorem dX8_copy_172 : decode cX8_copy 172 = .ok (.iadd, 1) := by decide +kernel
theorem dX8_copy_173 : decode cX8_copy 173 = .ok (.iload 6, 2) := by decide +kernel
theorem dX8_copy_175 : decode cX8_copy 175 = .ok (.iadd, 1) := by decide +kernel
theorem dX8_copy_176 : decode cX8_copy 176 = .ok (.aload_n 0, 1) := by decide +kernel
theorem dX8_copy_177 : decode cX8_copy 177 = .ok (.getfield 74, 3) := by decide +kernel
theorem dX8_copy_180 : decode cX8_copy 180 = .ok (.iload 6, 2) := by decide +kernel
theorem dX8_copy_182 : decode cX8_copy 182 = .ok (.iaload, 1) := by decide +kernel
theorem dX8_copy_183 : decode cX8_copy 183 = .ok (.iastore, 1) := by decide +kernel
theorem dX8_copy_184 : decode cX8_copy 184 = .ok (.iinc 6 1, 3) := by decide +kernel
theorem dX8_copy_187 : decode cX8_copy 187 = .ok (.goto (-32), 3) := by decide +kernel
theorem dX8_copy_190 : decode cX8_copy 190 = .ok (.iload 5, 2) := by decide +kernel
theorem dX8_copy_192 : decode cX8_copy 192 = .ok (.ireturn, 1) := by decide +kernel
theorem dX8_floors_0 : decode cX8_floors 0 = .ok (.aload_n 0, 1) := by decide +kernel
theorem dX8_floors_1 : decode cX8_floors 1 = .ok (.iconst 0, 1) := by decide +kernel
theorem dX8_floors_2 : decode cX8_floors 2 = .ok (.putfield 77, 3) := by decide +kernel
theorem dX8_floors_5 : decode cX8_floors 5 = .ok (.iload_n 1, 1) := by decide +kernel
theorem dX8_floors_6 : decode cX8_floors 6 = .ok (.i2l, 1) := by decide +kernel
theorem dX8_floors_7 : decode cX8_floors 7 = .ok (.lconst 0, 1) := by decide +kernel
theorem dX8_floors_8 : decode cX8_floors 8 = .ok (.ldc2_w 280, 3) := by decide +kernel
theorem dX8_floors_11 : decode cX8_floors 11 = .ok (.invokestatic 97, 3) := by decide +kernel
theorem dX8_floors_14 : decode cX8_floors 14 = .ok (.ifCond .eq 28, 3) := by decide +kernel
theorem dX8_floors_17 : decode cX8_floors 17 = .ok (.iload_n 2, 1) := by decide +kernel
theorem dX8_floors_18 : decode cX8_floors 18 = .ok (.i2l, 1) := by decide +kernel
theorem dX8_floors_19 : decode cX8_floors 19 = .ok (.lconst 0, 1) := by decide +kernel
theorem dX8_floors_20 : decode cX8_floors 20 = .ok (.ldc2_w 268, 3) := by decide +kernel
theorem dX8_floors_23 : decode cX8_floors 23 = .ok (.invokestatic 97, 3) := by decide +kernel
theorem dX8_floors_26 : decode cX8_floors 26 = .ok (.ifCond .eq 16, 3) := by decide +kernel
theorem dX8_floors_29 : decode cX8_floors 29 = .ok (.iload 4, 2) := by decide +kernel
theorem dX8_floors_31 : decode cX8_floors 31 = .ok (.i2l, 1) := by decide +kernel
theorem dX8_floors_32 : decode cX8_floors 32 = .ok (.lconst 0, 1) := by decide +kernel
theorem dX8_floors_33 : decode cX8_floors 33 = .ok (.ldc2_w 317, 3) := by decide +kernel
theorem dX8_floors_36 : decode cX8_floors 36 = .ok (.invokestatic 97, 3) := by decide +kernel
theorem dX8_floors_39 : decode cX8_floors 39 = .ok (.ifCond .ne 6, 3) := by decide +kernel
theorem dX8_floors_42 : decode cX8_floors 42 = .ok (.bipush (-2), 2) := by decide +kernel
theorem dX8_floors_44 : decode cX8_floors 44 = .ok (.ireturn, 1) := by decide +kernel
theorem dX8_floors_45 : decode cX8_floors 45 = .ok (.aload_n 0, 1) := by decide +kernel
theorem dX8_floors_46 : decode cX8_floors 46 = .ok (.getfield 65, 3) := by decide +kernel
theorem dX8_floors_49 : decode cX8_floors 49 = .ok (.iload_n 1, 1) := by decide +kernel
theorem dX8_floors_50 : decode cX8_floors 50 = .ok (.iaload, 1) := by decide +kernel
theorem dX8_floors_51 : decode cX8_floors 51 = .ok (.ifCond .lt 16, 3) := by decide +kernel
theorem dX8_floors_54 : decode cX8_floors 54 = .ok (.aload_n 0, 1) := by decide +kernel
theorem dX8_floors_55 : decode cX8_floors 55 = .ok (.getfield 65, 3) := by decide +kernel
theorem dX8_floors_58 : decode cX8_floors 58 = .ok (.iload_n 1, 1) := by decide +kernel
theorem dX8_floors_59 : decode cX8_floors 59 = .ok (.iaload, 1) := by decide +kernel
theorem dX8_floors_60 : decode cX8_floors 60 = .ok (.iload_n 2, 1) := by decide +kernel
theorem dX8_floors_61 : decode cX8_floors 61 = .ok (.if_icmp .eq 6, 3) := by decide +kernel
theorem dX8_floors_64 : decode cX8_floors 64 = .ok (.bipush (-13), 2) := by decide +kernel
theorem dX8_floors_66 : decode cX8_floors 66 = .ok (.ireturn, 1) := by decide +kernel
theorem dX8_floors_67 : decode cX8_floors 67 = .ok (.aload_n 0, 1) := by decide +kernel
theorem dX8_floors_68 : decode cX8_floors 68 = .ok (.getfield 65, 3) := by decide +kernel
theorem dX8_floors_71 : decode cX8_floors 71 = .ok (.iload_n 1, 1) := by decide +kernel
theorem dX8_floors_72 : decode cX8_floors 72 = .ok (.iaload, 1) := by decide +kernel
theorem dX8_floors_73 : decode cX8_floors 73 = .ok (.ifCond .ge 6, 3) := by decide +kernel
theorem dX8_floors_76 : decode cX8_floors 76 = .ok (.bipush (-11), 2) := by decide +kernel
theorem dX8_floors_78 : decode cX8_floors 78 = .ok (.ireturn, 1) := by decide +kernel
theorem dX8_floors_79 : decode cX8_floors 79 = .ok (.iconst 0, 1) := by decide +kernel
theorem dX8_floors_80 : decode cX8_floors 80 = .ok (.istore 5, 2) := by decide +kernel
theorem dX8_floors_82 : decode cX8_floors 82 = .ok (.iconst 0, 1) := by decide +kernel
theorem dX8_floors_83 : decode cX8_floors 83 = .ok (.istore 6, 2) := by decide +kernel
theorem dX8_floors_85 : decode cX8_floors 85 = .ok (.iload 6, 2) := by decide +kernel
theorem dX8_floors_87 : decode cX8_floors 87 = .ok (.iload 4, 2) := by decide +kernel
theorem dX8_floors_89 : decode cX8_floors 89 = .ok (.if_icmp .ge 112, 3) := by decide +kernel
theorem dX8_floors_92 : decode cX8_floors 92 = .ok (.ldc2_w 268, 3) := by decide +kernel
theorem dX8_floors_95 : decode cX8_floors 95 = .ok (.iload 6, 2) := by decide +kernel
theorem dX8_floors_97 : decode cX8_floors 97 = .ok (.i2l, 1) := by decide +kernel
theorem dX8_floors_98 : decode cX8_floors 98 = .ok (.lmul, 1) := by decide +kernel
theorem dX8_floors_99 : decode cX8_floors 99 = .ok (.iload_n 3, 1) := by decide +kernel
theorem dX8_floors_100 : decode cX8_floors 100 = .ok (.i2l, 1) := by decide +kernel
theorem dX8_floors_101 : decode cX8_floors 101 = .ok (.ladd, 1) := by decide +kernel
theorem dX8_floors_102 : decode cX8_floors 102 = .ok (.lstore 7, 2) := by decide +kernel
theorem dX8_floors_104 : decode cX8_floors 104 = .ok (.lload 7, 2) := by decide +kernel
theorem dX8_floors_106 : decode cX8_floors 106 = .ok (.lconst 0, 1) := by decide +kernel
theorem dX8_floors_107 : decode cX8_floors 107 = .ok (.aload_n 0, 1) := by decide +kernel
theorem dX8_floors_108 : decode cX8_floors 108 = .ok (.getfield 68, 3) := by decide +kernel
theorem dX8_floors_111 : decode cX8_floors 111 = .ok (.iload_n 1, 1) := by decide +kernel
theorem dX8_floors_112 : decode cX8_floors 112 = .ok (.iaload, 1) := by decide +kernel
theorem dX8_floors_113 : decode cX8_floors 113 = .ok (.iconst 2, 1) := by decide +kernel
theorem dX8_floors_114 : decode cX8_floors 114 = .ok (.isub, 1) := by decide +kernel
theorem dX8_floors_115 : decode cX8_floors 115 = .ok (.i2l, 1) := by decide +kernel
theorem dX8_floors_116 : decode cX8_floors 116 = .ok (.invokestatic 97, 3) := by decide +kernel
theorem dX8_floors_119 : decode cX8_floors 119 = .ok (.ifCond .ne 6, 3) := by decide +kernel
theorem dX8_floors_122 : decode cX8_floors 122 = .ok (.bipush (-12), 2) := by decide +kernel
theorem dX8_floors_124 : decode cX8_floors 124 = .ok (.ireturn, 1) := by decide +kernel
theorem dX8_floors_125 : decode cX8_floors 125 = .ok (.aload_n 0, 1) := by decide +kernel
theorem dX8_floors_126 : decode cX8_floors 126 = .ok (.getfield 71, 3) := by decide +kernel
theorem dX8_floors_129 : decode cX8_floors 129 = .ok (.bipush 40, 2) := by decide +kernel
theorem dX8_floors_131 : decode cX8_floors 131 = .ok (.iload_n 1, 1) := by decide +kernel
theorem dX8_floors_132 : decode cX8_floors 132 = .ok (.imul, 1) := by decide +kernel
theorem dX8_floors_133 : decode cX8_floors 133 = .ok (.lload 7, 2) := by decide +kernel
theorem dX8_floors_135 : decode cX8_floors 135 = .ok (.l2i, 1) := by decide +kernel
theorem dX8_floors_136 : decode cX8_floors 136 = .ok (.iadd, 1) := by decide +kernel
theorem dX8_floors_137 : decode cX8_floors 137 = .ok (.iaload, 1) := by decide +kernel
theorem dX8_floors_138 : decode cX8_floors 138 = .ok (.istore 9, 2) := by decide +kernel
theorem dX8_floors_140 : decode cX8_floors 140 = .ok (.aload_n 0, 1) := by decide +kernel
theorem dX8_floors_141 : decode cX8_floors 141 = .ok (.getfield 71, 3) := by decide +kernel
theorem dX8_floors_144 : decode cX8_floors 144 = .ok (.bipush 40, 2) := by decide +kernel
theorem dX8_floors_146 : decode cX8_floors 146 = .ok (.iload_n 1, 1) := by decide +kernel
theorem dX8_floors_147 : decode cX8_floors 147 = .ok (.imul, 1) := by decide +kernel
theorem dX8_floors_148 : decode cX8_floors 148 = .ok (.lload 7, 2) := by decide +kernel
theorem dX8_floors_150 : decode cX8_floors 150 = .ok (.l2i, 1) := by decide +kernel
theorem dX8_floors_151 : decode cX8_floors 151 = .ok (.iadd, 1) := by decide +kernel
theorem dX8_floors_152 : decode cX8_floors 152 = .ok (.iconst 1, 1) := by decide +kernel
theorem dX8_floors_153 : decode cX8_floors 153 = .ok (.iadd, 1) := by decide +kernel
theorem dX8_floors_154 : decode cX8_floors 154 = .ok (.iaload, 1) := by decide +kernel
theorem dX8_floors_155 : decode cX8_floors 155 = .ok (.istore 10, 2) := by decide +kernel
theorem dX8_floors_157 : decode cX8_floors 157 = .ok (.iload 9, 2) := by decide +kernel
theorem dX8_floors_159 : decode cX8_floors 159 = .ok (.i2l, 1) := by decide +kernel
theorem dX8_floors_160 : decode cX8_floors 160 = .ok (.lconst 0, 1) := by decide +kernel
theorem dX8_floors_161 : decode cX8_floors 161 = .ok (.ldc2_w 254, 3) := by decide +kernel
theorem dX8_floors_164 : decode cX8_floors 164 = .ok (.invokestatic 97, 3) := by decide +kernel
theorem dX8_floors_167 : decode cX8_floors 167 = .ok (.ifCond .eq 28, 3) := by decide +kernel
theorem dX8_floors_170 : decode cX8_floors 170 = .ok (.iload 10, 2) := by decide +kernel
theorem dX8_floors_172 : decode cX8_floors 172 = .ok (.i2l, 1) := by decide +kernel
theorem dX8_floors_173 : decode cX8_floors 173 = .ok (.lconst 0, 1) := by decide +kernel
theorem dX8_floors_174 : decode cX8_floors 174 = .ok (.ldc2_w 293, 3) := by decide +kernel
theorem dX8_floors_177 : decode cX8_floors 177 = .ok (.invokestatic 97, 3) := by decide +kernel
theorem dX8_floors_180 : decode cX8_floors 180 = .ok (.ifCond .eq 15, 3) := by decide +kernel
theorem dX8_floors_183 : decode cX8_floors 183 = .ok (.aload_n 0, 1) := by decide +kernel
theorem dX8_floors_184 : decode cX8_floors 184 = .ok (.getfield 7, 3) := by decide +kernel
theorem dX8_floors_187 : decode cX8_floors 187 = .ok (.iload 9, 2) := by decide +kernel
theorem dX8_floors_189 : decode cX8_floors 189 = .ok (.iload 10, 2) := by decide +kernel
theorem dX8_floors_191 : decode cX8_floors 191 = .ok (.iastore, 1) := by decide +kernel
theorem dX8_floors_192 : decode cX8_floors 192 = .ok (.iinc 5 1, 3) := by decide +kernel
theorem dX8_floors_195 : decode cX8_floors 195 = .ok (.iinc 6 1, 3) := by decide +kernel
theorem dX8_floors_198 : decode cX8_floors 198 = .ok (.goto (-113), 3) := by decide +kernel
theorem dX8_floors_201 : decode cX8_floors 201 = .ok (.iload 5, 2) := by decide +kernel
theorem dX8_floors_203 : decode cX8_floors 203 = .ok (.ireturn, 1) := by decide +kernel
theorem dX8_taken_0 : decode cX8_taken 0 = .ok (.aload_n 0, 1) := by decide +kernel
theorem dX8_taken_1 : decode cX8_taken 1 = .ok (.iconst 0, 1) := by decide +kernel
theorem dX8_taken_2 : decode cX8_taken 2 = .ok (.putfield 77, 3) := by decide +kernel
theorem dX8_taken_5 : decode cX8_taken 5 = .ok (.iload_n 2, 1) := by decide +kernel
theorem dX8_taken_6 : decode cX8_taken 6 = .ok (.i2l, 1) := by decide +kernel
theorem dX8_taken_7 : decode cX8_taken 7 = .ok (.lconst 0, 1) := by decide +kernel
theorem dX8_taken_8 : decode cX8_taken 8 = .ok (.ldc2_w 245, 3) := by decide +kernel
theorem dX8_taken_11 : decode cX8_taken 11 = .ok (.invokestatic 97, 3) := by decide +kernel
theorem dX8_taken_14 : decode cX8_taken 14 = .ok (.ifCond .ne 6, 3) := by decide +kernel
theorem dX8_taken_17 : decode cX8_taken 17 = .ok (.bipush (-2), 2) := by decide +kernel
theorem dX8_taken_19 : decode cX8_taken 19 = .ok (.ireturn, 1) := by decide +kernel
theorem dX8_taken_20 : decode cX8_taken 20 = .ok (.iload_n 1, 1) := by decide +kernel
theorem dX8_taken_21 : decode cX8_taken 21 = .ok (.i2l, 1) := by decide +kernel
theorem dX8_taken_22 : decode cX8_taken 22 = .ok (.lconst 0, 1) := by decide +kernel
theorem dX8_taken_23 : decode cX8_taken 23 = .ok (.ldc2_w 280, 3) := by decide +kernel
theorem dX8_taken_26 : decode cX8_taken 26 = .ok (.invokestatic 97, 3) := by decide +kernel
theorem dX8_taken_29 : decode cX8_taken 29 = .ok (.ifCond .ne 6, 3) := by decide +kernel
theorem dX8_taken_32 : decode cX8_taken 32 = .ok (.bipush (-11), 2) := by decide +kernel
theorem dX8_taken_34 : decode cX8_taken 34 = .ok (.ireturn, 1) := by decide +kernel
theorem dX8_taken_35 : decode cX8_taken 35 = .ok (.aload_n 0, 1) := by decide +kernel
theorem dX8_taken_36 : decode cX8_taken 36 = .ok (.getfield 13, 3) := by decide +kernel
theorem dX8_taken_39 : decode cX8_taken 39 = .ok (.iload_n 1, 1) := by decide +kernel
theorem dX8_taken_40 : decode cX8_taken 40 = .ok (.iaload, 1) := by decide +kernel
theorem dX8_taken_41 : decode cX8_taken 41 = .ok (.istore_n 3, 1) := by decide +kernel
theorem dX8_taken_42 : decode cX8_taken 42 = .ok (.iload_n 2, 1) := by decide +kernel
theorem dX8_taken_43 : decode cX8_taken 43 = .ok (.ifCond .eq 28, 3) := by decide +kernel
theorem dX8_taken_46 : decode cX8_taken 46 = .ok (.iload_n 3, 1) := by decide +kernel
theorem dX8_taken_47 : decode cX8_taken 47 = .ok (.iload_n 2, 1) := by decide +kernel
theorem dX8_taken_48 : decode cX8_taken 48 = .ok (.if_icmp .eq 23, 3) := by decide +kernel
theorem dX8_taken_51 : decode cX8_taken 51 = .ok (.iload_n 3, 1) := by decide +kernel
theorem dX8_taken_52 : decode cX8_taken 52 = .ok (.iconst 3, 1) := by decide +kernel
theorem dX8_taken_53 : decode cX8_taken 53 = .ok (.if_icmp .ne 8, 3) := by decide +kernel
theorem dX8_taken_56 : decode cX8_taken 56 = .ok (.iload_n 2, 1) := by decide +kernel
theorem dX8_taken_57 : decode cX8_taken 57 = .ok (.iconst 1, 1) := by decide +kernel
theorem dX8_taken_58 : decode cX8_taken 58 = .ok (.if_icmp .eq 13, 3) := by decide +kernel
theorem dX8_taken_61 : decode cX8_taken 61 = .ok (.iload_n 3, 1) := by decide +kernel
theorem dX8_taken_62 : decode cX8_taken 62 = .ok (.iconst 4, 1) := by decide +kernel
theorem dX8_taken_63 : decode cX8_taken 63 = .ok (.if_icmp .ne 12, 3) := by decide +kernel
theorem dX8_taken_66 : decode cX8_taken 66 = .ok (.iload_n 2, 1) := by decide +kernel
theorem dX8_taken_67 : decode cX8_taken 67 = .ok (.iconst 2, 1) := by decide +kernel
theorem dX8_taken_68 : decode cX8_taken 68 = .ok (.if_icmp .ne 7, 3) := by decide +kernel
theorem dX8_taken_71 : decode cX8_taken 71 = .ok (.iconst 1, 1) := by decide +kernel
theorem dX8_taken_72 : decode cX8_taken 72 = .ok (.goto 4, 3) := by decide +kernel
theorem dX8_taken_75 : decode cX8_taken 75 = .ok (.iconst 0, 1) := by decide +kernel
theorem dX8_taken_76 : decode cX8_taken 76 = .ok (.istore 4, 2) := by decide +kernel
theorem dX8_taken_78 : decode cX8_taken 78 = .ok (.iload 4, 2) := by decide +kernel
theorem dX8_taken_80 : decode cX8_taken 80 = .ok (.ifCond .eq 12, 3) := by decide +kernel
theorem dX8_taken_83 : decode cX8_taken 83 = .ok (.aload_n 0, 1) := by decide +kernel
theorem dX8_taken_84 : decode cX8_taken 84 = .ok (.getfield 16, 3) := by decide +kernel
theorem dX8_taken_87 : decode cX8_taken 87 = .ok (.iload_n 1, 1) := by decide +kernel
theorem dX8_taken_88 : decode cX8_taken 88 = .ok (.iaload, 1) := by decide +kernel
theorem dX8_taken_89 : decode cX8_taken 89 = .ok (.goto 5, 3) := by decide +kernel
theorem dX8_taken_92 : decode cX8_taken 92 = .ok (.bipush (-13), 2) := by decide +kernel
theorem dX8_taken_94 : decode cX8_taken 94 = .ok (.ireturn, 1) := by decide +kernel
end
section
theorem dJ9_floorMod_7cf53_0 : decode cJ9_floorMod_7cf53 0 = .ok (.iload_n 0, 1) := by decide +kernel
theorem dJ9_floorMod_7cf53_1 : decode cJ9_floorMod_7cf53 1 = .ok (.iload_n 1, 1) := by decide +kernel
theorem dJ9_floorMod_7cf53_2 : decode cJ9_floorMod_7cf53 2 = .ok (.irem, 1) := by decide +kernel
theorem dJ9_floorMod_7cf53_3 : decode cJ9_floorMod_7cf53 3 = .ok (.istore_n 2, 1) := by decide +kernel
theorem dJ9_floorMod_7cf53_4 : decode cJ9_floorMod_7cf53 4 = .ok (.iload_n 0, 1) := by decide +kernel
theorem dJ9_floorMod_7cf53_5 : decode cJ9_floorMod_7cf53 5 = .ok (.iload_n 1, 1) := by decide +kernel
theorem dJ9_floorMod_7cf53_6 : decode cJ9_floorMod_7cf53 6 = .ok (.ixor, 1) := by decide +kernel
theorem dJ9_floorMod_7cf53_7 : decode cJ9_floorMod_7cf53 7 = .ok (.ifCond .ge 11, 3) := by decide +kernel
theorem dJ9_floorMod_7cf53_10 : decode cJ9_floorMod_7cf53 10 = .ok (.iload_n 2, 1) := by decide +kernel
theorem dJ9_floorMod_7cf53_11 : decode cJ9_floorMod_7cf53 11 = .ok (.ifCond .eq 7, 3) := by decide +kernel
theorem dJ9_floorMod_7cf53_14 : decode cJ9_floorMod_7cf53 14 = .ok (.iload_n 2, 1) := by decide +kernel
theorem dJ9_floorMod_7cf53_15 : decode cJ9_floorMod_7cf53 15 = .ok (.iload_n 1, 1) := by decide +kernel
theorem dJ9_floorMod_7cf53_16 : decode cJ9_floorMod_7cf53 16 = .ok (.iadd, 1) := by decide +kernel
theorem dJ9_floorMod_7cf53_17 : decode cJ9_floorMod_7cf53 17 = .ok (.ireturn, 1) := by decide +kernel
theorem dJ9_floorMod_7cf53_18 : decode cJ9_floorMod_7cf53 18 = .ok (.iload_n 2, 1) := by decide +kernel
theorem dJ9_floorMod_7cf53_19 : decode cJ9_floorMod_7cf53 19 = .ok (.ireturn, 1) := by decide +kernel
theorem dJ9_abs_0f7a4_0 : decode cJ9_abs_0f7a4 0 = .ok (.iload_n 0, 1) := by decide +kernel
theorem dJ9_abs_0f7a4_1 : decode cJ9_abs_0f7a4 1 = .ok (.ifCond .ge 8, 3) := by decide +kernel
theorem dJ9_abs_0f7a4_4 : decode cJ9_abs_0f7a4 4 = .ok (.iload_n 0, 1) := by decide +kernel
theorem dJ9_abs_0f7a4_5 : decode cJ9_abs_0f7a4 5 = .ok (.ineg, 1) := by decide +kernel
theorem dJ9_abs_0f7a4_6 : decode cJ9_abs_0f7a4 6 = .ok (.goto 4, 3) := by decide +kernel
theorem dJ9_abs_0f7a4_9 : decode cJ9_abs_0f7a4 9 = .ok (.iload_n 0, 1) := by decide +kernel
theorem dJ9_abs_0f7a4_10 : decode cJ9_abs_0f7a4 10 = .ok (.ireturn, 1) := by decide +kernel
theorem dJ9_max_7cf53_0 : decode cJ9_max_7cf53 0 = .ok (.iload_n 0, 1) := by decide +kernel
theorem dJ9_max_7cf53_1 : decode cJ9_max_7cf53 1 = .ok (.iload_n 1, 1) := by decide +kernel
theorem dJ9_max_7cf53_2 : decode cJ9_max_7cf53 2 = .ok (.if_icmp .lt 7, 3) := by decide +kernel
theorem dJ9_max_7cf53_5 : decode cJ9_max_7cf53 5 = .ok (.iload_n 0, 1) := by decide +kernel
theorem dJ9_max_7cf53_6 : decode cJ9_max_7cf53 6 = .ok (.goto 4, 3) := by decide +kernel
theorem dJ9_max_7cf53_9 : decode cJ9_max_7cf53 9 = .ok (.iload_n 1, 1) := by decide +kernel
theorem dJ9_max_7cf53_10 : decode cJ9_max_7cf53 10 = .ok (.ireturn, 1) := by decide +kernel
theorem dJ9_min_7cf53_0 : decode cJ9_min_7cf53 0 = .ok (.iload_n 0, 1) := by decide +kernel
theorem dJ9_min_7cf53_1 : decode cJ9_min_7cf53 1 = .ok (.iload_n 1, 1) := by decide +kernel
theorem dJ9_min_7cf53_2 : decode cJ9_min_7cf53 2 = .ok (.if_icmp .gt 7, 3) := by decide +kernel
theorem dJ9_min_7cf53_5 : decode cJ9_min_7cf53 5 = .ok (.iload_n 0, 1) := by decide +kernel
theorem dJ9_min_7cf53_6 : decode cJ9_min_7cf53 6 = .ok (.goto 4, 3) := by decide +kernel
theorem dJ9_min_7cf53_9 : decode cJ9_min_7cf53 9 = .ok (.iload_n 1, 1) := by decide +kernel
theorem dJ9_min_7cf53_10 : decode cJ9_min_7cf53 10 = .ok (.ireturn, 1) := by decide +kernel
theorem dJ0_length_8abf5_0 : decode cJ0_length_8abf5 0 = .ok (.aload_n 0, 1) := by decide +kernel
theorem dJ0_length_8abf5_1 : decode cJ0_length_8abf5 1 = .ok (.getfield 9, 3) := by decide +kernel
theorem dJ0_length_8abf5_4 : decode cJ0_length_8abf5 4 = .ok (.arraylength, 1) := by decide +kernel
theorem dJ0_length_8abf5_5 : decode cJ0_length_8abf5 5 = .ok (.aload_n 0, 1) := by decide +kernel
theorem dJ0_length_8abf5_6 : decode cJ0_length_8abf5 6 = .ok (.invokevirtual 335, 3) := by decide +kernel
theorem dJ0_length_8abf5_9 : decode cJ0_length_8abf5 9 = .ok (.ishr, 1) := by decide +kernel
theorem dJ0_length_8abf5_10 : decode cJ0_length_8abf5 10 = .ok (.ireturn, 1) := by decide +kernel
theorem dJ0_charAt_5068e_0 : decode cJ0_charAt_5068e 0 = .ok (.aload_n 0, 1) := by decide +kernel
theorem dJ0_charAt_5068e_1 : decode cJ0_charAt_5068e 1 = .ok (.invokevirtual 492, 3) := by decide +kernel
theorem dJ0_charAt_5068e_4 : decode cJ0_charAt_5068e 4 = .ok (.ifCond .eq 12, 3) := by decide +kernel
theorem dJ0_charAt_5068e_7 : decode cJ0_charAt_5068e 7 = .ok (.aload_n 0, 1) := by decide +kernel
theorem dJ0_charAt_5068e_8 : decode cJ0_charAt_5068e 8 = .ok (.getfield 9, 3) := by decide +kernel
theorem dJ0_charAt_5068e_11 : decode cJ0_charAt_5068e 11 = .ok (.iload_n 1, 1) := by decide +kernel
theorem dJ0_charAt_5068e_12 : decode cJ0_charAt_5068e 12 = .ok (.invokestatic 495, 3) := by decide +kernel
theorem dJ0_charAt_5068e_15 : decode cJ0_charAt_5068e 15 = .ok (.ireturn, 1) := by decide +kernel
theorem dJ0_charAt_5068e_16 : decode cJ0_charAt_5068e 16 = .ok (.aload_n 0, 1) := by decide +kernel
theorem dJ0_charAt_5068e_17 : decode cJ0_charAt_5068e 17 = .ok (.getfield 9, 3) := by decide +kernel
theorem dJ0_charAt_5068e_20 : decode cJ0_charAt_5068e 20 = .ok (.iload_n 1, 1) := by decide +kernel
theorem dJ0_charAt_5068e_21 : decode cJ0_charAt_5068e 21 = .ok (.invokestatic 498, 3) := by decide +kernel
theorem dJ0_charAt_5068e_24 : decode cJ0_charAt_5068e 24 = .ok (.ireturn, 1) := by decide +kernel
theorem dJ0_coder_7d493_0 : decode cJ0_coder_7d493 0 = .ok (.getstatic 38, 3) := by decide +kernel
theorem dJ0_coder_7d493_3 : decode cJ0_coder_7d493 3 = .ok (.ifCond .eq 10, 3) := by decide +kernel
theorem dJ0_coder_7d493_6 : decode cJ0_coder_7d493 6 = .ok (.aload_n 0, 1) := by decide +kernel
theorem dJ0_coder_7d493_7 : decode cJ0_coder_7d493 7 = .ok (.getfield 15, 3) := by decide +kernel
theorem dJ0_coder_7d493_10 : decode cJ0_coder_7d493 10 = .ok (.goto 4, 3) := by decide +kernel
theorem dJ0_coder_7d493_13 : decode cJ0_coder_7d493 13 = .ok (.iconst 1, 1) := by decide +kernel
theorem dJ0_coder_7d493_14 : decode cJ0_coder_7d493 14 = .ok (.ireturn, 1) := by decide +kernel
theorem dJ0_isLatin1_aae02_0 : decode cJ0_isLatin1_aae02 0 = .ok (.getstatic 38, 3) := by decide +kernel
theorem dJ0_isLatin1_aae02_3 : decode cJ0_isLatin1_aae02 3 = .ok (.ifCond .eq 14, 3) := by decide +kernel
theorem dJ0_isLatin1_aae02_6 : decode cJ0_isLatin1_aae02 6 = .ok (.aload_n 0, 1) := by decide +kernel
theorem dJ0_isLatin1_aae02_7 : decode cJ0_isLatin1_aae02 7 = .ok (.getfield 15, 3) := by decide +kernel
theorem dJ0_isLatin1_aae02_10 : decode cJ0_isLatin1_aae02 10 = .ok (.ifCond .ne 7, 3) := by decide +kernel
theorem dJ0_isLatin1_aae02_13 : decode cJ0_isLatin1_aae02 13 = .ok (.iconst 1, 1) := by decide +kernel
theorem dJ0_isLatin1_aae02_14 : decode cJ0_isLatin1_aae02 14 = .ok (.goto 4, 3) := by decide +kernel
theorem dJ0_isLatin1_aae02_17 : decode cJ0_isLatin1_aae02 17 = .ok (.iconst 0, 1) := by decide +kernel
theorem dJ0_isLatin1_aae02_18 : decode cJ0_isLatin1_aae02 18 = .ok (.ireturn, 1) := by decide +kernel
theorem dJ0_checkIndex_df160_0 : decode cJ0_checkIndex_df160 0 = .ok (.iload_n 0, 1) := by decide +kernel
theorem dJ0_checkIndex_df160_1 : decode cJ0_checkIndex_df160 1 = .ok (.iload_n 1, 1) := by decide +kernel
theorem dJ0_checkIndex_df160_2 : decode cJ0_checkIndex_df160 2 = .ok (.getstatic 1053, 3) := by decide +kernel
theorem dJ0_checkIndex_df160_5 : decode cJ0_checkIndex_df160 5 = .ok (.invokestatic 1059, 3) := by decide +kernel
theorem dJ0_checkIndex_df160_8 : decode cJ0_checkIndex_df160 8 = .ok (.pop, 1) := by decide +kernel
theorem dJ0_checkIndex_df160_9 : decode cJ0_checkIndex_df160 9 = .ok (.return_, 1) := by decide +kernel
theorem dJ1_charAt_3b067_0 : decode cJ1_charAt_3b067 0 = .ok (.iload_n 1, 1) := by decide +kernel
theorem dJ1_charAt_3b067_1 : decode cJ1_charAt_3b067 1 = .ok (.aload_n 0, 1) := by decide +kernel
theorem dJ1_charAt_3b067_2 : decode cJ1_charAt_3b067 2 = .ok (.arraylength, 1) := by decide +kernel
theorem dJ1_charAt_3b067_3 : decode cJ1_charAt_3b067 3 = .ok (.invokestatic 9, 3) := by decide +kernel
theorem dJ1_charAt_3b067_6 : decode cJ1_charAt_3b067 6 = .ok (.aload_n 0, 1) := by decide +kernel
theorem dJ1_charAt_3b067_7 : decode cJ1_charAt_3b067 7 = .ok (.iload_n 1, 1) := by decide +kernel
theorem dJ1_charAt_3b067_8 : decode cJ1_charAt_3b067 8 = .ok (.baload, 1) := by decide +kernel
theorem dJ1_charAt_3b067_9 : decode cJ1_charAt_3b067 9 = .ok (.sipush 255, 3) := by decide +kernel
theorem dJ1_charAt_3b067_12 : decode cJ1_charAt_3b067 12 = .ok (.iand, 1) := by decide +kernel
theorem dJ1_charAt_3b067_13 : decode cJ1_charAt_3b067 13 = .ok (.i2c, 1) := by decide +kernel
theorem dJ1_charAt_3b067_14 : decode cJ1_charAt_3b067 14 = .ok (.ireturn, 1) := by decide +kernel
theorem dJ2_getChar_3b067_0 : decode cJ2_getChar_3b067 0 = .ok (.getstatic 44, 3) := by decide +kernel
theorem dJ2_getChar_3b067_3 : decode cJ2_getChar_3b067 3 = .ok (.ifCond .ne 25, 3) := by decide +kernel
theorem dJ2_getChar_3b067_6 : decode cJ2_getChar_3b067 6 = .ok (.iload_n 1, 1) := by decide +kernel
theorem dJ2_getChar_3b067_7 : decode cJ2_getChar_3b067 7 = .ok (.ifCond .lt 11, 3) := by decide +kernel
theorem dJ2_getChar_3b067_10 : decode cJ2_getChar_3b067 10 = .ok (.iload_n 1, 1) := by decide +kernel
theorem dJ2_getChar_3b067_11 : decode cJ2_getChar_3b067 11 = .ok (.aload_n 0, 1) := by decide +kernel
theorem dJ2_getChar_3b067_12 : decode cJ2_getChar_3b067 12 = .ok (.invokestatic 48, 3) := by decide +kernel
theorem dJ2_getChar_3b067_15 : decode cJ2_getChar_3b067 15 = .ok (.if_icmp .lt 13, 3) := by decide +kernel
theorem dJ2_getChar_3b067_18 : decode cJ2_getChar_3b067 18 = .ok (.new 52, 3) := by decide +kernel
theorem dJ2_getChar_3b067_21 : decode cJ2_getChar_3b067 21 = .ok (.dup, 1) := by decide +kernel
theorem dJ2_getChar_3b067_22 : decode cJ2_getChar_3b067 22 = .ok (.ldc 54, 2) := by decide +kernel
theorem dJ2_getChar_3b067_24 : decode cJ2_getChar_3b067 24 = .ok (.invokespecial 56, 3) := by decide +kernel
theorem dJ2_getChar_3b067_27 : decode cJ2_getChar_3b067 27 = .ok (.athrow, 1) := by decide +kernel
theorem dJ2_getChar_3b067_28 : decode cJ2_getChar_3b067 28 = .ok (.iload_n 1, 1) := by decide +kernel
theorem dJ2_getChar_3b067_29 : decode cJ2_getChar_3b067 29 = .ok (.iconst 1, 1) := by decide +kernel
theorem dJ2_getChar_3b067_30 : decode cJ2_getChar_3b067 30 = .ok (.ishl, 1) := by decide +kernel
theorem dJ2_getChar_3b067_31 : decode cJ2_getChar_3b067 31 = .ok (.istore_n 1, 1) := by decide +kernel
theorem dJ2_getChar_3b067_32 : decode cJ2_getChar_3b067 32 = .ok (.aload_n 0, 1) := by decide +kernel
theorem dJ2_getChar_3b067_33 : decode cJ2_getChar_3b067 33 = .ok (.iload_n 1, 1) := by decide +kernel
theorem dJ2_getChar_3b067_34 : decode cJ2_getChar_3b067 34 = .ok (.iinc 1 1, 3) := by decide +kernel
theorem dJ2_getChar_3b067_37 : decode cJ2_getChar_3b067 37 = .ok (.baload, 1) := by decide +kernel
theorem dJ2_getChar_3b067_38 : decode cJ2_getChar_3b067 38 = .ok (.sipush 255, 3) := by decide +kernel
theorem dJ2_getChar_3b067_41 : decode cJ2_getChar_3b067 41 = .ok (.iand, 1) := by decide +kernel
theorem dJ2_getChar_3b067_42 : decode cJ2_getChar_3b067 42 = .ok (.getstatic 59, 3) := by decide +kernel
theorem dJ2_getChar_3b067_45 : decode cJ2_getChar_3b067 45 = .ok (.ishl, 1) := by decide +kernel
theorem dJ2_getChar_3b067_46 : decode cJ2_getChar_3b067 46 = .ok (.aload_n 0, 1) := by decide +kernel
theorem dJ2_getChar_3b067_47 : decode cJ2_getChar_3b067 47 = .ok (.iload_n 1, 1) := by decide +kernel
theorem dJ2_getChar_3b067_48 : decode cJ2_getChar_3b067 48 = .ok (.baload, 1) := by decide +kernel
theorem dJ2_getChar_3b067_49 : decode cJ2_getChar_3b067 49 = .ok (.sipush 255, 3) := by decide +kernel
theorem dJ2_getChar_3b067_52 : decode cJ2_getChar_3b067 52 = .ok (.iand, 1) := by decide +kernel
theorem dJ2_getChar_3b067_53 : decode cJ2_getChar_3b067 53 = .ok (.getstatic 63, 3) := by decide +kernel
theorem dJ2_getChar_3b067_56 : decode cJ2_getChar_3b067 56 = .ok (.ishl, 1) := by decide +kernel
theorem dJ2_getChar_3b067_57 : decode cJ2_getChar_3b067 57 = .ok (.ior, 1) := by decide +kernel
theorem dJ2_getChar_3b067_58 : decode cJ2_getChar_3b067 58 = .ok (.i2c, 1) := by decide +kernel
theorem dJ2_getChar_3b067_59 : decode cJ2_getChar_3b067 59 = .ok (.ireturn, 1) := by decide +kernel
theorem dJ2_length_9d52b_0 : decode cJ2_length_9d52b 0 = .ok (.aload_n 0, 1) := by decide +kernel
theorem dJ2_length_9d52b_1 : decode cJ2_length_9d52b 1 = .ok (.arraylength, 1) := by decide +kernel
theorem dJ2_length_9d52b_2 : decode cJ2_length_9d52b 2 = .ok (.iconst 1, 1) := by decide +kernel
theorem dJ2_length_9d52b_3 : decode cJ2_length_9d52b 3 = .ok (.ishr, 1) := by decide +kernel
theorem dJ2_length_9d52b_4 : decode cJ2_length_9d52b 4 = .ok (.ireturn, 1) := by decide +kernel
theorem dJ2_charAt_3b067_0 : decode cJ2_charAt_3b067 0 = .ok (.iload_n 1, 1) := by decide +kernel
theorem dJ2_charAt_3b067_1 : decode cJ2_charAt_3b067 1 = .ok (.aload_n 0, 1) := by decide +kernel
theorem dJ2_charAt_3b067_2 : decode cJ2_charAt_3b067 2 = .ok (.invokestatic 67, 3) := by decide +kernel
theorem dJ2_charAt_3b067_5 : decode cJ2_charAt_3b067 5 = .ok (.aload_n 0, 1) := by decide +kernel
theorem dJ2_charAt_3b067_6 : decode cJ2_charAt_3b067 6 = .ok (.iload_n 1, 1) := by decide +kernel
theorem dJ2_charAt_3b067_7 : decode cJ2_charAt_3b067 7 = .ok (.invokestatic 71, 3) := by decide +kernel
theorem dJ2_charAt_3b067_10 : decode cJ2_charAt_3b067 10 = .ok (.ireturn, 1) := by decide +kernel
theorem dJ2_checkIndex_2214a_0 : decode cJ2_checkIndex_2214a 0 = .ok (.iload_n 0, 1) := by decide +kernel
theorem dJ2_checkIndex_2214a_1 : decode cJ2_checkIndex_2214a 1 = .ok (.aload_n 1, 1) := by decide +kernel
theorem dJ2_checkIndex_2214a_2 : decode cJ2_checkIndex_2214a 2 = .ok (.invokestatic 48, 3) := by decide +kernel
theorem dJ2_checkIndex_2214a_5 : decode cJ2_checkIndex_2214a 5 = .ok (.invokestatic 414, 3) := by decide +kernel
theorem dJ2_checkIndex_2214a_8 : decode cJ2_checkIndex_2214a 8 = .ok (.return_, 1) := by decide +kernel
theorem dJ3_checkIndex_8e157_0 : decode cJ3_checkIndex_8e157 0 = .ok (.iload_n 0, 1) := by decide +kernel
theorem dJ3_checkIndex_8e157_1 : decode cJ3_checkIndex_8e157 1 = .ok (.ifCond .lt 8, 3) := by decide +kernel
theorem dJ3_checkIndex_8e157_4 : decode cJ3_checkIndex_8e157 4 = .ok (.iload_n 0, 1) := by decide +kernel
theorem dJ3_checkIndex_8e157_5 : decode cJ3_checkIndex_8e157 5 = .ok (.iload_n 1, 1) := by decide +kernel
theorem dJ3_checkIndex_8e157_6 : decode cJ3_checkIndex_8e157 6 = .ok (.if_icmp .lt 10, 3) := by decide +kernel
theorem dJ3_checkIndex_8e157_9 : decode cJ3_checkIndex_8e157 9 = .ok (.aload_n 2, 1) := by decide +kernel
theorem dJ3_checkIndex_8e157_10 : decode cJ3_checkIndex_8e157 10 = .ok (.iload_n 0, 1) := by decide +kernel
theorem dJ3_checkIndex_8e157_11 : decode cJ3_checkIndex_8e157 11 = .ok (.iload_n 1, 1) := by decide +kernel
theorem dJ3_checkIndex_8e157_12 : decode cJ3_checkIndex_8e157 12 = .ok (.invokestatic 95, 3) := by decide +kernel
theorem dJ3_checkIndex_8e157_15 : decode cJ3_checkIndex_8e157 15 = .ok (.athrow, 1) := by decide +kernel
theorem dJ3_checkIndex_8e157_16 : decode cJ3_checkIndex_8e157 16 = .ok (.iload_n 0, 1) := by decide +kernel
theorem dJ3_checkIndex_8e157_17 : decode cJ3_checkIndex_8e157 17 = .ok (.ireturn, 1) := by decide +kernel
theorem dL_law_0 : decode cL_law 0 = .ok (.new 7, 3) := by decide +kernel
theorem dL_law_3 : decode cL_law 3 = .ok (.dup, 1) := by decide +kernel
theorem dL_law_4 : decode cL_law 4 = .ok (.invokespecial 9, 3) := by decide +kernel
theorem dL_law_7 : decode cL_law 7 = .ok (.astore_n 1, 1) := by decide +kernel
theorem dL_law_8 : decode cL_law 8 = .ok (.new 10, 3) := by decide +kernel
theorem dL_law_11 : decode cL_law 11 = .ok (.dup, 1) := by decide +kernel
theorem dL_law_12 : decode cL_law 12 = .ok (.invokespecial 12, 3) := by decide +kernel
theorem dL_law_15 : decode cL_law 15 = .ok (.astore_n 2, 1) := by decide +kernel
theorem dL_law_16 : decode cL_law 16 = .ok (.iconst 0, 1) := by decide +kernel
theorem dL_law_17 : decode cL_law 17 = .ok (.istore_n 3, 1) := by decide +kernel
theorem dL_law_18 : decode cL_law 18 = .ok (.iload_n 3, 1) := by decide +kernel
theorem dL_law_19 : decode cL_law 19 = .ok (.aload_n 0, 1) := by decide +kernel
theorem dL_law_20 : decode cL_law 20 = .ok (.arraylength, 1) := by decide +kernel
theorem dL_law_21 : decode cL_law 21 = .ok (.bipush 6, 2) := by decide +kernel
theorem dL_law_23 : decode cL_law 23 = .ok (.isub, 1) := by decide +kernel
theorem dL_law_24 : decode cL_law 24 = .ok (.if_icmp .gt 1083, 3) := by decide +kernel
theorem dL_law_27 : decode cL_law 27 = .ok (.aload_n 0, 1) := by decide +kernel
theorem dL_law_28 : decode cL_law 28 = .ok (.iload_n 3, 1) := by decide +kernel
theorem dL_law_29 : decode cL_law 29 = .ok (.iaload, 1) := by decide +kernel
theorem dL_law_30 : decode cL_law 30 = .ok (.bipush 63, 2) := by decide +kernel
theorem dL_law_32 : decode cL_law 32 = .ok (.iand, 1) := by decide +kernel
theorem dL_law_33 : decode cL_law 33 = .ok (.tableswitch 1068 0 32 #[147, 180, 223, 266, 309, 342, 365, 378, 401, 424, 467, 480, 503, 526, 549, 572, 585, 598, 611, 634, 657, 670, 693, 717, 740, 784, 797, 810, 833, 876, 919, 982, 1035], 147) := by decide +kernel
theorem dL_law_180 : decode cL_law 180 = .ok (.aload_n 1, 1) := by decide +kernel
theorem dL_law_181 : decode cL_law 181 = .ok (.aload_n 0, 1) := by decide +kernel
theorem dL_law_182 : decode cL_law 182 = .ok (.iload_n 3, 1) := by decide +kernel
theorem dL_law_183 : decode cL_law 183 = .ok (.iconst 1, 1) := by decide +kernel
theorem dL_law_184 : decode cL_law 184 = .ok (.iadd, 1) := by decide +kernel
theorem dL_law_185 : decode cL_law 185 = .ok (.iaload, 1) := by decide +kernel
theorem dL_law_186 : decode cL_law 186 = .ok (.aload_n 0, 1) := by decide +kernel
theorem dL_law_187 : decode cL_law 187 = .ok (.iload_n 3, 1) := by decide +kernel
theorem dL_law_188 : decode cL_law 188 = .ok (.iconst 2, 1) := by decide +kernel
theorem dL_law_189 : decode cL_law 189 = .ok (.iadd, 1) := by decide +kernel
theorem dL_law_190 : decode cL_law 190 = .ok (.iaload, 1) := by decide +kernel
theorem dL_law_191 : decode cL_law 191 = .ok (.invokevirtual 13, 3) := by decide +kernel
theorem dL_law_194 : decode cL_law 194 = .ok (.aload_n 2, 1) := by decide +kernel
theorem dL_law_195 : decode cL_law 195 = .ok (.aload_n 0, 1) := by decide +kernel
theorem dL_law_196 : decode cL_law 196 = .ok (.iload_n 3, 1) := by decide +kernel
theorem dL_law_197 : decode cL_law 197 = .ok (.iconst 1, 1) := by decide +kernel
theorem dL_law_198 : decode cL_law 198 = .ok (.iadd, 1) := by decide +kernel
theorem dL_law_199 : decode cL_law 199 = .ok (.iaload, 1) := by decide +kernel
theorem dL_law_200 : decode cL_law 200 = .ok (.aload_n 0, 1) := by decide +kernel
theorem dL_law_201 : decode cL_law 201 = .ok (.iload_n 3, 1) := by decide +kernel
theorem dL_law_202 : decode cL_law 202 = .ok (.iconst 2, 1) := by decide +kernel
theorem dL_law_203 : decode cL_law 203 = .ok (.iadd, 1) := by decide +kernel
theorem dL_law_204 : decode cL_law 204 = .ok (.iaload, 1) := by decide +kernel
theorem dL_law_205 : decode cL_law 205 = .ok (.invokevirtual 17, 3) := by decide +kernel
theorem dL_law_208 : decode cL_law 208 = .ok (.if_icmp .eq 893, 3) := by decide +kernel
theorem dL_law_211 : decode cL_law 211 = .ok (.iconst 0, 1) := by decide +kernel
theorem dL_law_212 : decode cL_law 212 = .ok (.ireturn, 1) := by decide +kernel
theorem dL_law_213 : decode cL_law 213 = .ok (.aload_n 1, 1) := by decide +kernel
theorem dL_law_214 : decode cL_law 214 = .ok (.aload_n 0, 1) := by decide +kernel
theorem dL_law_215 : decode cL_law 215 = .ok (.iload_n 3, 1) := by decide +kernel
theorem dL_law_216 : decode cL_law 216 = .ok (.iconst 1, 1) := by decide +kernel
theorem dL_law_217 : decode cL_law 217 = .ok (.iadd, 1) := by decide +kernel
theorem dL_law_218 : decode cL_law 218 = .ok (.iaload, 1) := by decide +kernel
theorem dL_law_219 : decode cL_law 219 = .ok (.aload_n 0, 1) := by decide +kernel
theorem dL_law_220 : decode cL_law 220 = .ok (.iload_n 3, 1) := by decide +kernel
theorem dL_law_221 : decode cL_law 221 = .ok (.iconst 2, 1) := by decide +kernel
theorem dL_law_222 : decode cL_law 222 = .ok (.iadd, 1) := by decide +kernel
theorem dL_law_223 : decode cL_law 223 = .ok (.iaload, 1) := by decide +kernel
theorem dL_law_224 : decode cL_law 224 = .ok (.aload_n 0, 1) := by decide +kernel
theorem dL_law_225 : decode cL_law 225 = .ok (.iload_n 3, 1) := by decide +kernel
theorem dL_law_226 : decode cL_law 226 = .ok (.iconst 3, 1) := by decide +kernel
theorem dL_law_227 : decode cL_law 227 = .ok (.iadd, 1) := by decide +kernel
theorem dL_law_228 : decode cL_law 228 = .ok (.iaload, 1) := by decide +kernel
theorem dL_law_229 : decode cL_law 229 = .ok (.invokevirtual 18, 3) := by decide +kernel
theorem dL_law_232 : decode cL_law 232 = .ok (.aload_n 2, 1) := by decide +kernel
theorem dL_law_233 : decode cL_law 233 = .ok (.aload_n 0, 1) := by decide +kernel
theorem dL_law_234 : decode cL_law 234 = .ok (.iload_n 3, 1) := by decide +kernel
theorem dL_law_235 : decode cL_law 235 = .ok (.iconst 1, 1) := by decide +kernel
theorem dL_law_236 : decode cL_law 236 = .ok (.iadd, 1) := by decide +kernel
theorem dL_law_237 : decode cL_law 237 = .ok (.iaload, 1) := by decide +kernel
theorem dL_law_238 : decode cL_law 238 = .ok (.aload_n 0, 1) := by decide +kernel
theorem dL_law_239 : decode cL_law 239 = .ok (.iload_n 3, 1) := by decide +kernel
theorem dL_law_240 : decode cL_law 240 = .ok (.iconst 2, 1) := by decide +kernel
theorem dL_law_241 : decode cL_law 241 = .ok (.iadd, 1) := by decide +kernel
theorem dL_law_242 : decode cL_law 242 = .ok (.iaload, 1) := by decide +kernel
theorem dL_law_243 : decode cL_law 243 = .ok (.aload_n 0, 1) := by decide +kernel
theorem dL_law_244 : decode cL_law 244 = .ok (.iload_n 3, 1) := by decide +kernel
theorem dL_law_245 : decode cL_law 245 = .ok (.iconst 3, 1) := by decide +kernel
theorem dL_law_246 : decode cL_law 246 = .ok (.iadd, 1) := by decide +kernel
theorem dL_law_247 : decode cL_law 247 = .ok (.iaload, 1) := by decide +kernel
theorem dL_law_248 : decode cL_law 248 = .ok (.invokevirtual 22, 3) := by decide +kernel
theorem dL_law_251 : decode cL_law 251 = .ok (.if_icmp .eq 850, 3) := by decide +kernel
theorem dL_law_254 : decode cL_law 254 = .ok (.iconst 0, 1) := by decide +kernel
theorem dL_law_255 : decode cL_law 255 = .ok (.ireturn, 1) := by decide +kernel
theorem dL_law_256 : decode cL_law 256 = .ok (.aload_n 1, 1) := by decide +kernel
theorem dL_law_257 : decode cL_law 257 = .ok (.aload_n 0, 1) := by decide +kernel
theorem dL_law_258 : decode cL_law 258 = .ok (.iload_n 3, 1) := by decide +kernel
theorem dL_law_259 : decode cL_law 259 = .ok (.iconst 1, 1) := by decide +kernel
theorem dL_law_260 : decode cL_law 260 = .ok (.iadd, 1) := by decide +kernel
theorem dL_law_261 : decode cL_law 261 = .ok (.iaload, 1) := by decide +kernel
theorem dL_law_262 : decode cL_law 262 = .ok (.aload_n 0, 1) := by decide +kernel
theorem dL_law_263 : decode cL_law 263 = .ok (.iload_n 3, 1) := by decide +kernel
theorem dL_law_264 : decode cL_law 264 = .ok (.iconst 2, 1) := by decide +kernel
theorem dL_law_265 : decode cL_law 265 = .ok (.iadd, 1) := by decide +kernel
theorem dL_law_266 : decode cL_law 266 = .ok (.iaload, 1) := by decide +kernel
theorem dL_law_267 : decode cL_law 267 = .ok (.aload_n 0, 1) := by decide +kernel
theorem dL_law_268 : decode cL_law 268 = .ok (.iload_n 3, 1) := by decide +kernel
theorem dL_law_269 : decode cL_law 269 = .ok (.iconst 3, 1) := by decide +kernel
theorem dL_law_270 : decode cL_law 270 = .ok (.iadd, 1) := by decide +kernel
theorem dL_law_271 : decode cL_law 271 = .ok (.iaload, 1) := by decide +kernel
theorem dL_law_272 : decode cL_law 272 = .ok (.invokevirtual 23, 3) := by decide +kernel
theorem dL_law_275 : decode cL_law 275 = .ok (.aload_n 2, 1) := by decide +kernel
theorem dL_law_276 : decode cL_law 276 = .ok (.aload_n 0, 1) := by decide +kernel
theorem dL_law_277 : decode cL_law 277 = .ok (.iload_n 3, 1) := by decide +kernel
theorem dL_law_278 : decode cL_law 278 = .ok (.iconst 1, 1) := by decide +kernel
theorem dL_law_279 : decode cL_law 279 = .ok (.iadd, 1) := by decide +kernel
theorem dL_law_280 : decode cL_law 280 = .ok (.iaload, 1) := by decide +kernel
theorem dL_law_281 : decode cL_law 281 = .ok (.aload_n 0, 1) := by decide +kernel
theorem dL_law_282 : decode cL_law 282 = .ok (.iload_n 3, 1) := by decide +kernel
theorem dL_law_283 : decode cL_law 283 = .ok (.iconst 2, 1) := by decide +kernel
theorem dL_law_284 : decode cL_law 284 = .ok (.iadd, 1) := by decide +kernel
theorem dL_law_285 : decode cL_law 285 = .ok (.iaload, 1) := by decide +kernel
theorem dL_law_286 : decode cL_law 286 = .ok (.aload_n 0, 1) := by decide +kernel
theorem dL_law_287 : decode cL_law 287 = .ok (.iload_n 3, 1) := by decide +kernel
theorem dL_law_288 : decode cL_law 288 = .ok (.iconst 3, 1) := by decide +kernel
theorem dL_law_289 : decode cL_law 289 = .ok (.iadd, 1) := by decide +kernel
theorem dL_law_290 : decode cL_law 290 = .ok (.iaload, 1) := by decide +kernel
theorem dL_law_291 : decode cL_law 291 = .ok (.invokevirtual 26, 3) := by decide +kernel
theorem dL_law_294 : decode cL_law 294 = .ok (.if_icmp .eq 807, 3) := by decide +kernel
theorem dL_law_297 : decode cL_law 297 = .ok (.iconst 0, 1) := by decide +kernel
theorem dL_law_298 : decode cL_law 298 = .ok (.ireturn, 1) := by decide +kernel
theorem dL_law_299 : decode cL_law 299 = .ok (.aload_n 1, 1) := by decide +kernel
theorem dL_law_300 : decode cL_law 300 = .ok (.aload_n 0, 1) := by decide +kernel
theorem dL_law_301 : decode cL_law 301 = .ok (.iload_n 3, 1) := by decide +kernel
theorem dL_law_302 : decode cL_law 302 = .ok (.iconst 1, 1) := by decide +kernel
theorem dL_law_303 : decode cL_law 303 = .ok (.iadd, 1) := by decide +kernel
theorem dL_law_304 : decode cL_law 304 = .ok (.iaload, 1) := by decide +kernel
theorem dL_law_305 : decode cL_law 305 = .ok (.aload_n 0, 1) := by decide +kernel
theorem dL_law_306 : decode cL_law 306 = .ok (.iload_n 3, 1) := by decide +kernel
theorem dL_law_307 : decode cL_law 307 = .ok (.iconst 2, 1) := by decide +kernel
theorem dL_law_308 : decode cL_law 308 = .ok (.iadd, 1) := by decide +kernel
theorem dL_law_309 : decode cL_law 309 = .ok (.iaload, 1) := by decide +kernel
theorem dL_law_310 : decode cL_law 310 = .ok (.aload_n 0, 1) := by decide +kernel
theorem dL_law_311 : decode cL_law 311 = .ok (.iload_n 3, 1) := by decide +kernel
theorem dL_law_312 : decode cL_law 312 = .ok (.iconst 3, 1) := by decide +kernel
theorem dL_law_313 : decode cL_law 313 = .ok (.iadd, 1) := by decide +kernel
theorem dL_law_314 : decode cL_law 314 = .ok (.iaload, 1) := by decide +kernel
theorem dL_law_315 : decode cL_law 315 = .ok (.invokevirtual 27, 3) := by decide +kernel
theorem dL_law_318 : decode cL_law 318 = .ok (.aload_n 2, 1) := by decide +kernel
theorem dL_law_319 : decode cL_law 319 = .ok (.aload_n 0, 1) := by decide +kernel
theorem dL_law_320 : decode cL_law 320 = .ok (.iload_n 3, 1) := by decide +kernel
theorem dL_law_321 : decode cL_law 321 = .ok (.iconst 1, 1) := by decide +kernel
theorem dL_law_322 : decode cL_law 322 = .ok (.iadd, 1) := by decide +kernel
theorem dL_law_323 : decode cL_law 323 = .ok (.iaload, 1) := by decide +kernel
theorem dL_law_324 : decode cL_law 324 = .ok (.aload_n 0, 1) := by decide +kernel
theorem dL_law_325 : decode cL_law 325 = .ok (.iload_n 3, 1) := by decide +kernel
theorem dL_law_326 : decode cL_law 326 = .ok (.iconst 2, 1) := by decide +kernel
theorem dL_law_327 : decode cL_law 327 = .ok (.iadd, 1) := by decide +kernel
theorem dL_law_328 : decode cL_law 328 = .ok (.iaload, 1) := by decide +kernel
theorem dL_law_329 : decode cL_law 329 = .ok (.aload_n 0, 1) := by decide +kernel
theorem dL_law_330 : decode cL_law 330 = .ok (.iload_n 3, 1) := by decide +kernel
theorem dL_law_331 : decode cL_law 331 = .ok (.iconst 3, 1) := by decide +kernel
theorem dL_law_332 : decode cL_law 332 = .ok (.iadd, 1) := by decide +kernel
theorem dL_law_333 : decode cL_law 333 = .ok (.iaload, 1) := by decide +kernel
theorem dL_law_334 : decode cL_law 334 = .ok (.invokevirtual 30, 3) := by decide +kernel
theorem dL_law_337 : decode cL_law 337 = .ok (.if_icmp .eq 764, 3) := by decide +kernel
theorem dL_law_340 : decode cL_law 340 = .ok (.iconst 0, 1) := by decide +kernel
theorem dL_law_341 : decode cL_law 341 = .ok (.ireturn, 1) := by decide +kernel
theorem dL_law_342 : decode cL_law 342 = .ok (.aload_n 1, 1) := by decide +kernel
theorem dL_law_343 : decode cL_law 343 = .ok (.aload_n 0, 1) := by decide +kernel
theorem dL_law_344 : decode cL_law 344 = .ok (.iload_n 3, 1) := by decide +kernel
theorem dL_law_345 : decode cL_law 345 = .ok (.iconst 1, 1) := by decide +kernel
theorem dL_law_346 : decode cL_law 346 = .ok (.iadd, 1) := by decide +kernel
theorem dL_law_347 : decode cL_law 347 = .ok (.iaload, 1) := by decide +kernel
theorem dL_law_348 : decode cL_law 348 = .ok (.aload_n 0, 1) := by decide +kernel
theorem dL_law_349 : decode cL_law 349 = .ok (.iload_n 3, 1) := by decide +kernel
theorem dL_law_350 : decode cL_law 350 = .ok (.iconst 2, 1) := by decide +kernel
theorem dL_law_351 : decode cL_law 351 = .ok (.iadd, 1) := by decide +kernel
theorem dL_law_352 : decode cL_law 352 = .ok (.iaload, 1) := by decide +kernel
theorem dL_law_353 : decode cL_law 353 = .ok (.invokevirtual 31, 3) := by decide +kernel
theorem dL_law_356 : decode cL_law 356 = .ok (.aload_n 2, 1) := by decide +kernel
theorem dL_law_357 : decode cL_law 357 = .ok (.aload_n 0, 1) := by decide +kernel
theorem dL_law_358 : decode cL_law 358 = .ok (.iload_n 3, 1) := by decide +kernel
theorem dL_law_359 : decode cL_law 359 = .ok (.iconst 1, 1) := by decide +kernel
theorem dL_law_360 : decode cL_law 360 = .ok (.iadd, 1) := by decide +kernel
theorem dL_law_361 : decode cL_law 361 = .ok (.iaload, 1) := by decide +kernel
theorem dL_law_362 : decode cL_law 362 = .ok (.aload_n 0, 1) := by decide +kernel
theorem dL_law_363 : decode cL_law 363 = .ok (.iload_n 3, 1) := by decide +kernel
theorem dL_law_364 : decode cL_law 364 = .ok (.iconst 2, 1) := by decide +kernel
theorem dL_law_365 : decode cL_law 365 = .ok (.iadd, 1) := by decide +kernel
theorem dL_law_366 : decode cL_law 366 = .ok (.iaload, 1) := by decide +kernel
theorem dL_law_367 : decode cL_law 367 = .ok (.invokevirtual 34, 3) := by decide +kernel
theorem dL_law_370 : decode cL_law 370 = .ok (.if_icmp .eq 731, 3) := by decide +kernel
theorem dL_law_373 : decode cL_law 373 = .ok (.iconst 0, 1) := by decide +kernel
theorem dL_law_374 : decode cL_law 374 = .ok (.ireturn, 1) := by decide +kernel
theorem dL_law_375 : decode cL_law 375 = .ok (.aload_n 1, 1) := by decide +kernel
theorem dL_law_376 : decode cL_law 376 = .ok (.aload_n 0, 1) := by decide +kernel
theorem dL_law_377 : decode cL_law 377 = .ok (.iload_n 3, 1) := by decide +kernel
theorem dL_law_378 : decode cL_law 378 = .ok (.iconst 1, 1) := by decide +kernel
theorem dL_law_379 : decode cL_law 379 = .ok (.iadd, 1) := by decide +kernel
theorem dL_law_380 : decode cL_law 380 = .ok (.iaload, 1) := by decide +kernel
theorem dL_law_381 : decode cL_law 381 = .ok (.invokevirtual 35, 3) := by decide +kernel
theorem dL_law_384 : decode cL_law 384 = .ok (.aload_n 2, 1) := by decide +kernel
theorem dL_law_385 : decode cL_law 385 = .ok (.aload_n 0, 1) := by decide +kernel
theorem dL_law_386 : decode cL_law 386 = .ok (.iload_n 3, 1) := by decide +kernel
theorem dL_law_387 : decode cL_law 387 = .ok (.iconst 1, 1) := by decide +kernel
theorem dL_law_388 : decode cL_law 388 = .ok (.iadd, 1) := by decide +kernel
theorem dL_law_389 : decode cL_law 389 = .ok (.iaload, 1) := by decide +kernel
theorem dL_law_390 : decode cL_law 390 = .ok (.invokevirtual 39, 3) := by decide +kernel
theorem dL_law_393 : decode cL_law 393 = .ok (.if_icmp .eq 708, 3) := by decide +kernel
theorem dL_law_396 : decode cL_law 396 = .ok (.iconst 0, 1) := by decide +kernel
theorem dL_law_397 : decode cL_law 397 = .ok (.ireturn, 1) := by decide +kernel
theorem dL_law_398 : decode cL_law 398 = .ok (.aload_n 1, 1) := by decide +kernel
theorem dL_law_399 : decode cL_law 399 = .ok (.invokevirtual 40, 3) := by decide +kernel
theorem dL_law_402 : decode cL_law 402 = .ok (.aload_n 2, 1) := by decide +kernel
theorem dL_law_403 : decode cL_law 403 = .ok (.invokevirtual 44, 3) := by decide +kernel
theorem dL_law_406 : decode cL_law 406 = .ok (.if_icmp .eq 695, 3) := by decide +kernel
theorem dL_law_409 : decode cL_law 409 = .ok (.iconst 0, 1) := by decide +kernel
theorem dL_law_410 : decode cL_law 410 = .ok (.ireturn, 1) := by decide +kernel
theorem dL_law_411 : decode cL_law 411 = .ok (.aload_n 1, 1) := by decide +kernel
theorem dL_law_412 : decode cL_law 412 = .ok (.aload_n 0, 1) := by decide +kernel
theorem dL_law_413 : decode cL_law 413 = .ok (.iload_n 3, 1) := by decide +kernel
theorem dL_law_414 : decode cL_law 414 = .ok (.iconst 1, 1) := by decide +kernel
theorem dL_law_415 : decode cL_law 415 = .ok (.iadd, 1) := by decide +kernel
theorem dL_law_416 : decode cL_law 416 = .ok (.iaload, 1) := by decide +kernel
theorem dL_law_417 : decode cL_law 417 = .ok (.invokevirtual 45, 3) := by decide +kernel
theorem dL_law_420 : decode cL_law 420 = .ok (.aload_n 2, 1) := by decide +kernel
theorem dL_law_421 : decode cL_law 421 = .ok (.aload_n 0, 1) := by decide +kernel
theorem dL_law_422 : decode cL_law 422 = .ok (.iload_n 3, 1) := by decide +kernel
theorem dL_law_423 : decode cL_law 423 = .ok (.iconst 1, 1) := by decide +kernel
theorem dL_law_424 : decode cL_law 424 = .ok (.iadd, 1) := by decide +kernel
theorem dL_law_425 : decode cL_law 425 = .ok (.iaload, 1) := by decide +kernel
theorem dL_law_426 : decode cL_law 426 = .ok (.invokevirtual 48, 3) := by decide +kernel
theorem dL_law_429 : decode cL_law 429 = .ok (.if_icmp .eq 672, 3) := by decide +kernel
theorem dL_law_432 : decode cL_law 432 = .ok (.iconst 0, 1) := by decide +kernel
theorem dL_law_433 : decode cL_law 433 = .ok (.ireturn, 1) := by decide +kernel
theorem dL_law_434 : decode cL_law 434 = .ok (.aload_n 1, 1) := by decide +kernel
theorem dL_law_435 : decode cL_law 435 = .ok (.aload_n 0, 1) := by decide +kernel
theorem dL_law_436 : decode cL_law 436 = .ok (.iload_n 3, 1) := by decide +kernel
theorem dL_law_437 : decode cL_law 437 = .ok (.iconst 1, 1) := by decide +kernel
theorem dL_law_438 : decode cL_law 438 = .ok (.iadd, 1) := by decide +kernel
theorem dL_law_439 : decode cL_law 439 = .ok (.iaload, 1) := by decide +kernel
theorem dL_law_440 : decode cL_law 440 = .ok (.invokevirtual 49, 3) := by decide +kernel
theorem dL_law_443 : decode cL_law 443 = .ok (.aload_n 2, 1) := by decide +kernel
theorem dL_law_444 : decode cL_law 444 = .ok (.aload_n 0, 1) := by decide +kernel
theorem dL_law_445 : decode cL_law 445 = .ok (.iload_n 3, 1) := by decide +kernel
theorem dL_law_446 : decode cL_law 446 = .ok (.iconst 1, 1) := by decide +kernel
theorem dL_law_447 : decode cL_law 447 = .ok (.iadd, 1) := by decide +kernel
theorem dL_law_448 : decode cL_law 448 = .ok (.iaload, 1) := by decide +kernel
theorem dL_law_449 : decode cL_law 449 = .ok (.invokevirtual 52, 3) := by decide +kernel
theorem dL_law_452 : decode cL_law 452 = .ok (.if_icmp .eq 649, 3) := by decide +kernel
theorem dL_law_455 : decode cL_law 455 = .ok (.iconst 0, 1) := by decide +kernel
theorem dL_law_456 : decode cL_law 456 = .ok (.ireturn, 1) := by decide +kernel
theorem dL_law_457 : decode cL_law 457 = .ok (.aload_n 1, 1) := by decide +kernel
theorem dL_law_458 : decode cL_law 458 = .ok (.aload_n 0, 1) := by decide +kernel
theorem dL_law_459 : decode cL_law 459 = .ok (.iload_n 3, 1) := by decide +kernel
theorem dL_law_460 : decode cL_law 460 = .ok (.iconst 1, 1) := by decide +kernel
theorem dL_law_461 : decode cL_law 461 = .ok (.iadd, 1) := by decide +kernel
theorem dL_law_462 : decode cL_law 462 = .ok (.iaload, 1) := by decide +kernel
theorem dL_law_463 : decode cL_law 463 = .ok (.aload_n 0, 1) := by decide +kernel
theorem dL_law_464 : decode cL_law 464 = .ok (.iload_n 3, 1) := by decide +kernel
theorem dL_law_465 : decode cL_law 465 = .ok (.iconst 2, 1) := by decide +kernel
theorem dL_law_466 : decode cL_law 466 = .ok (.iadd, 1) := by decide +kernel
theorem dL_law_467 : decode cL_law 467 = .ok (.iaload, 1) := by decide +kernel
theorem dL_law_468 : decode cL_law 468 = .ok (.aload_n 0, 1) := by decide +kernel
theorem dL_law_469 : decode cL_law 469 = .ok (.iload_n 3, 1) := by decide +kernel
theorem dL_law_470 : decode cL_law 470 = .ok (.iconst 3, 1) := by decide +kernel
theorem dL_law_471 : decode cL_law 471 = .ok (.iadd, 1) := by decide +kernel
theorem dL_law_472 : decode cL_law 472 = .ok (.iaload, 1) := by decide +kernel
theorem dL_law_473 : decode cL_law 473 = .ok (.invokevirtual 53, 3) := by decide +kernel
theorem dL_law_476 : decode cL_law 476 = .ok (.aload_n 2, 1) := by decide +kernel
theorem dL_law_477 : decode cL_law 477 = .ok (.aload_n 0, 1) := by decide +kernel
theorem dL_law_478 : decode cL_law 478 = .ok (.iload_n 3, 1) := by decide +kernel
theorem dL_law_479 : decode cL_law 479 = .ok (.iconst 1, 1) := by decide +kernel
theorem dL_law_480 : decode cL_law 480 = .ok (.iadd, 1) := by decide +kernel
theorem dL_law_481 : decode cL_law 481 = .ok (.iaload, 1) := by decide +kernel
theorem dL_law_482 : decode cL_law 482 = .ok (.aload_n 0, 1) := by decide +kernel
theorem dL_law_483 : decode cL_law 483 = .ok (.iload_n 3, 1) := by decide +kernel
theorem dL_law_484 : decode cL_law 484 = .ok (.iconst 2, 1) := by decide +kernel
theorem dL_law_485 : decode cL_law 485 = .ok (.iadd, 1) := by decide +kernel
theorem dL_law_486 : decode cL_law 486 = .ok (.iaload, 1) := by decide +kernel
theorem dL_law_487 : decode cL_law 487 = .ok (.aload_n 0, 1) := by decide +kernel
theorem dL_law_488 : decode cL_law 488 = .ok (.iload_n 3, 1) := by decide +kernel
theorem dL_law_489 : decode cL_law 489 = .ok (.iconst 3, 1) := by decide +kernel
theorem dL_law_490 : decode cL_law 490 = .ok (.iadd, 1) := by decide +kernel
theorem dL_law_491 : decode cL_law 491 = .ok (.iaload, 1) := by decide +kernel
theorem dL_law_492 : decode cL_law 492 = .ok (.invokevirtual 56, 3) := by decide +kernel
theorem dL_law_495 : decode cL_law 495 = .ok (.if_icmp .eq 606, 3) := by decide +kernel
theorem dL_law_498 : decode cL_law 498 = .ok (.iconst 0, 1) := by decide +kernel
theorem dL_law_499 : decode cL_law 499 = .ok (.ireturn, 1) := by decide +kernel
theorem dL_law_500 : decode cL_law 500 = .ok (.aload_n 1, 1) := by decide +kernel
theorem dL_law_501 : decode cL_law 501 = .ok (.invokevirtual 57, 3) := by decide +kernel
theorem dL_law_504 : decode cL_law 504 = .ok (.aload_n 2, 1) := by decide +kernel
theorem dL_law_505 : decode cL_law 505 = .ok (.invokevirtual 60, 3) := by decide +kernel
theorem dL_law_508 : decode cL_law 508 = .ok (.if_icmp .eq 593, 3) := by decide +kernel
theorem dL_law_511 : decode cL_law 511 = .ok (.iconst 0, 1) := by decide +kernel
theorem dL_law_512 : decode cL_law 512 = .ok (.ireturn, 1) := by decide +kernel
theorem dL_law_513 : decode cL_law 513 = .ok (.aload_n 1, 1) := by decide +kernel
theorem dL_law_514 : decode cL_law 514 = .ok (.aload_n 0, 1) := by decide +kernel
theorem dL_law_515 : decode cL_law 515 = .ok (.iload_n 3, 1) := by decide +kernel
theorem dL_law_516 : decode cL_law 516 = .ok (.iconst 1, 1) := by decide +kernel
theorem dL_law_517 : decode cL_law 517 = .ok (.iadd, 1) := by decide +kernel
theorem dL_law_518 : decode cL_law 518 = .ok (.iaload, 1) := by decide +kernel
theorem dL_law_519 : decode cL_law 519 = .ok (.invokevirtual 61, 3) := by decide +kernel
theorem dL_law_522 : decode cL_law 522 = .ok (.aload_n 2, 1) := by decide +kernel
theorem dL_law_523 : decode cL_law 523 = .ok (.aload_n 0, 1) := by decide +kernel
theorem dL_law_524 : decode cL_law 524 = .ok (.iload_n 3, 1) := by decide +kernel
theorem dL_law_525 : decode cL_law 525 = .ok (.iconst 1, 1) := by decide +kernel
theorem dL_law_526 : decode cL_law 526 = .ok (.iadd, 1) := by decide +kernel
theorem dL_law_527 : decode cL_law 527 = .ok (.iaload, 1) := by decide +kernel
theorem dL_law_528 : decode cL_law 528 = .ok (.invokevirtual 64, 3) := by decide +kernel
theorem dL_law_531 : decode cL_law 531 = .ok (.if_icmp .eq 570, 3) := by decide +kernel
theorem dL_law_534 : decode cL_law 534 = .ok (.iconst 0, 1) := by decide +kernel
theorem dL_law_535 : decode cL_law 535 = .ok (.ireturn, 1) := by decide +kernel
theorem dL_law_536 : decode cL_law 536 = .ok (.aload_n 1, 1) := by decide +kernel
theorem dL_law_537 : decode cL_law 537 = .ok (.aload_n 0, 1) := by decide +kernel
theorem dL_law_538 : decode cL_law 538 = .ok (.iload_n 3, 1) := by decide +kernel
theorem dL_law_539 : decode cL_law 539 = .ok (.iconst 1, 1) := by decide +kernel
theorem dL_law_540 : decode cL_law 540 = .ok (.iadd, 1) := by decide +kernel
theorem dL_law_541 : decode cL_law 541 = .ok (.iaload, 1) := by decide +kernel
theorem dL_law_542 : decode cL_law 542 = .ok (.invokevirtual 65, 3) := by decide +kernel
theorem dL_law_545 : decode cL_law 545 = .ok (.aload_n 2, 1) := by decide +kernel
theorem dL_law_546 : decode cL_law 546 = .ok (.aload_n 0, 1) := by decide +kernel
theorem dL_law_547 : decode cL_law 547 = .ok (.iload_n 3, 1) := by decide +kernel
theorem dL_law_548 : decode cL_law 548 = .ok (.iconst 1, 1) := by decide +kernel
theorem dL_law_549 : decode cL_law 549 = .ok (.iadd, 1) := by decide +kernel
theorem dL_law_550 : decode cL_law 550 = .ok (.iaload, 1) := by decide +kernel
theorem dL_law_551 : decode cL_law 551 = .ok (.invokevirtual 68, 3) := by decide +kernel
theorem dL_law_554 : decode cL_law 554 = .ok (.if_icmp .eq 547, 3) := by decide +kernel
theorem dL_law_557 : decode cL_law 557 = .ok (.iconst 0, 1) := by decide +kernel
theorem dL_law_558 : decode cL_law 558 = .ok (.ireturn, 1) := by decide +kernel
theorem dL_law_559 : decode cL_law 559 = .ok (.aload_n 1, 1) := by decide +kernel
theorem dL_law_560 : decode cL_law 560 = .ok (.aload_n 0, 1) := by decide +kernel
theorem dL_law_561 : decode cL_law 561 = .ok (.iload_n 3, 1) := by decide +kernel
theorem dL_law_562 : decode cL_law 562 = .ok (.iconst 1, 1) := by decide +kernel
theorem dL_law_563 : decode cL_law 563 = .ok (.iadd, 1) := by decide +kernel
theorem dL_law_564 : decode cL_law 564 = .ok (.iaload, 1) := by decide +kernel
theorem dL_law_565 : decode cL_law 565 = .ok (.invokevirtual 69, 3) := by decide +kernel
theorem dL_law_568 : decode cL_law 568 = .ok (.aload_n 2, 1) := by decide +kernel
theorem dL_law_569 : decode cL_law 569 = .ok (.aload_n 0, 1) := by decide +kernel
theorem dL_law_570 : decode cL_law 570 = .ok (.iload_n 3, 1) := by decide +kernel
theorem dL_law_571 : decode cL_law 571 = .ok (.iconst 1, 1) := by decide +kernel
theorem dL_law_572 : decode cL_law 572 = .ok (.iadd, 1) := by decide +kernel
theorem dL_law_573 : decode cL_law 573 = .ok (.iaload, 1) := by decide +kernel
theorem dL_law_574 : decode cL_law 574 = .ok (.invokevirtual 72, 3) := by decide +kernel
theorem dL_law_577 : decode cL_law 577 = .ok (.if_icmp .eq 524, 3) := by decide +kernel
theorem dL_law_580 : decode cL_law 580 = .ok (.iconst 0, 1) := by decide +kernel
theorem dL_law_581 : decode cL_law 581 = .ok (.ireturn, 1) := by decide +kernel
theorem dL_law_582 : decode cL_law 582 = .ok (.aload_n 1, 1) := by decide +kernel
theorem dL_law_583 : decode cL_law 583 = .ok (.aload_n 0, 1) := by decide +kernel
theorem dL_law_584 : decode cL_law 584 = .ok (.iload_n 3, 1) := by decide +kernel
theorem dL_law_585 : decode cL_law 585 = .ok (.iconst 1, 1) := by decide +kernel
theorem dL_law_586 : decode cL_law 586 = .ok (.iadd, 1) := by decide +kernel
theorem dL_law_587 : decode cL_law 587 = .ok (.iaload, 1) := by decide +kernel
theorem dL_law_588 : decode cL_law 588 = .ok (.invokevirtual 73, 3) := by decide +kernel
theorem dL_law_591 : decode cL_law 591 = .ok (.aload_n 2, 1) := by decide +kernel
theorem dL_law_592 : decode cL_law 592 = .ok (.aload_n 0, 1) := by decide +kernel
theorem dL_law_593 : decode cL_law 593 = .ok (.iload_n 3, 1) := by decide +kernel
theorem dL_law_594 : decode cL_law 594 = .ok (.iconst 1, 1) := by decide +kernel
theorem dL_law_595 : decode cL_law 595 = .ok (.iadd, 1) := by decide +kernel
theorem dL_law_596 : decode cL_law 596 = .ok (.iaload, 1) := by decide +kernel
theorem dL_law_597 : decode cL_law 597 = .ok (.invokevirtual 76, 3) := by decide +kernel
theorem dL_law_600 : decode cL_law 600 = .ok (.if_icmp .eq 501, 3) := by decide +kernel
theorem dL_law_603 : decode cL_law 603 = .ok (.iconst 0, 1) := by decide +kernel
theorem dL_law_604 : decode cL_law 604 = .ok (.ireturn, 1) := by decide +kernel
theorem dL_law_605 : decode cL_law 605 = .ok (.aload_n 1, 1) := by decide +kernel
theorem dL_law_606 : decode cL_law 606 = .ok (.invokevirtual 77, 3) := by decide +kernel
theorem dL_law_609 : decode cL_law 609 = .ok (.aload_n 2, 1) := by decide +kernel
theorem dL_law_610 : decode cL_law 610 = .ok (.invokevirtual 80, 3) := by decide +kernel
theorem dL_law_613 : decode cL_law 613 = .ok (.if_icmp .eq 488, 3) := by decide +kernel
theorem dL_law_616 : decode cL_law 616 = .ok (.iconst 0, 1) := by decide +kernel
theorem dL_law_617 : decode cL_law 617 = .ok (.ireturn, 1) := by decide +kernel
theorem dL_law_618 : decode cL_law 618 = .ok (.aload_n 1, 1) := by decide +kernel
theorem dL_law_619 : decode cL_law 619 = .ok (.invokevirtual 81, 3) := by decide +kernel
theorem dL_law_622 : decode cL_law 622 = .ok (.aload_n 2, 1) := by decide +kernel
theorem dL_law_623 : decode cL_law 623 = .ok (.invokevirtual 84, 3) := by decide +kernel
theorem dL_law_626 : decode cL_law 626 = .ok (.if_icmp .eq 475, 3) := by decide +kernel
theorem dL_law_629 : decode cL_law 629 = .ok (.iconst 0, 1) := by decide +kernel
theorem dL_law_630 : decode cL_law 630 = .ok (.ireturn, 1) := by decide +kernel
theorem dL_law_631 : decode cL_law 631 = .ok (.aload_n 1, 1) := by decide +kernel
theorem dL_law_632 : decode cL_law 632 = .ok (.invokevirtual 85, 3) := by decide +kernel
theorem dL_law_635 : decode cL_law 635 = .ok (.aload_n 2, 1) := by decide +kernel
theorem dL_law_636 : decode cL_law 636 = .ok (.invokevirtual 88, 3) := by decide +kernel
theorem dL_law_639 : decode cL_law 639 = .ok (.if_icmp .eq 462, 3) := by decide +kernel
theorem dL_law_642 : decode cL_law 642 = .ok (.iconst 0, 1) := by decide +kernel
theorem dL_law_643 : decode cL_law 643 = .ok (.ireturn, 1) := by decide +kernel
theorem dL_law_644 : decode cL_law 644 = .ok (.aload_n 1, 1) := by decide +kernel
theorem dL_law_645 : decode cL_law 645 = .ok (.aload_n 0, 1) := by decide +kernel
theorem dL_law_646 : decode cL_law 646 = .ok (.iload_n 3, 1) := by decide +kernel
theorem dL_law_647 : decode cL_law 647 = .ok (.iconst 1, 1) := by decide +kernel
theorem dL_law_648 : decode cL_law 648 = .ok (.iadd, 1) := by decide +kernel
theorem dL_law_649 : decode cL_law 649 = .ok (.iaload, 1) := by decide +kernel
theorem dL_law_650 : decode cL_law 650 = .ok (.invokevirtual 89, 3) := by decide +kernel
theorem dL_law_653 : decode cL_law 653 = .ok (.aload_n 2, 1) := by decide +kernel
theorem dL_law_654 : decode cL_law 654 = .ok (.aload_n 0, 1) := by decide +kernel
theorem dL_law_655 : decode cL_law 655 = .ok (.iload_n 3, 1) := by decide +kernel
theorem dL_law_656 : decode cL_law 656 = .ok (.iconst 1, 1) := by decide +kernel
theorem dL_law_657 : decode cL_law 657 = .ok (.iadd, 1) := by decide +kernel
theorem dL_law_658 : decode cL_law 658 = .ok (.iaload, 1) := by decide +kernel
theorem dL_law_659 : decode cL_law 659 = .ok (.invokevirtual 92, 3) := by decide +kernel
theorem dL_law_662 : decode cL_law 662 = .ok (.if_icmp .eq 439, 3) := by decide +kernel
theorem dL_law_665 : decode cL_law 665 = .ok (.iconst 0, 1) := by decide +kernel
theorem dL_law_666 : decode cL_law 666 = .ok (.ireturn, 1) := by decide +kernel
theorem dL_law_667 : decode cL_law 667 = .ok (.aload_n 1, 1) := by decide +kernel
theorem dL_law_668 : decode cL_law 668 = .ok (.aload_n 0, 1) := by decide +kernel
theorem dL_law_669 : decode cL_law 669 = .ok (.iload_n 3, 1) := by decide +kernel
theorem dL_law_670 : decode cL_law 670 = .ok (.iconst 1, 1) := by decide +kernel
theorem dL_law_671 : decode cL_law 671 = .ok (.iadd, 1) := by decide +kernel
theorem dL_law_672 : decode cL_law 672 = .ok (.iaload, 1) := by decide +kernel
theorem dL_law_673 : decode cL_law 673 = .ok (.invokevirtual 93, 3) := by decide +kernel
theorem dL_law_676 : decode cL_law 676 = .ok (.aload_n 2, 1) := by decide +kernel
theorem dL_law_677 : decode cL_law 677 = .ok (.aload_n 0, 1) := by decide +kernel
theorem dL_law_678 : decode cL_law 678 = .ok (.iload_n 3, 1) := by decide +kernel
theorem dL_law_679 : decode cL_law 679 = .ok (.iconst 1, 1) := by decide +kernel
theorem dL_law_680 : decode cL_law 680 = .ok (.iadd, 1) := by decide +kernel
theorem dL_law_681 : decode cL_law 681 = .ok (.iaload, 1) := by decide +kernel
theorem dL_law_682 : decode cL_law 682 = .ok (.invokevirtual 96, 3) := by decide +kernel
theorem dL_law_685 : decode cL_law 685 = .ok (.if_icmp .eq 416, 3) := by decide +kernel
theorem dL_law_688 : decode cL_law 688 = .ok (.iconst 0, 1) := by decide +kernel
theorem dL_law_689 : decode cL_law 689 = .ok (.ireturn, 1) := by decide +kernel
theorem dL_law_690 : decode cL_law 690 = .ok (.aload_n 1, 1) := by decide +kernel
theorem dL_law_691 : decode cL_law 691 = .ok (.invokevirtual 97, 3) := by decide +kernel
theorem dL_law_694 : decode cL_law 694 = .ok (.aload_n 2, 1) := by decide +kernel
theorem dL_law_695 : decode cL_law 695 = .ok (.invokevirtual 100, 3) := by decide +kernel
theorem dL_law_698 : decode cL_law 698 = .ok (.if_icmp .eq 403, 3) := by decide +kernel
theorem dL_law_701 : decode cL_law 701 = .ok (.iconst 0, 1) := by decide +kernel
theorem dL_law_702 : decode cL_law 702 = .ok (.ireturn, 1) := by decide +kernel
theorem dL_law_703 : decode cL_law 703 = .ok (.aload_n 1, 1) := by decide +kernel
theorem dL_law_704 : decode cL_law 704 = .ok (.aload_n 0, 1) := by decide +kernel
theorem dL_law_705 : decode cL_law 705 = .ok (.iload_n 3, 1) := by decide +kernel
theorem dL_law_706 : decode cL_law 706 = .ok (.iconst 1, 1) := by decide +kernel
theorem dL_law_707 : decode cL_law 707 = .ok (.iadd, 1) := by decide +kernel
theorem dL_law_708 : decode cL_law 708 = .ok (.iaload, 1) := by decide +kernel
theorem dL_law_709 : decode cL_law 709 = .ok (.invokevirtual 101, 3) := by decide +kernel
theorem dL_law_712 : decode cL_law 712 = .ok (.aload_n 2, 1) := by decide +kernel
theorem dL_law_713 : decode cL_law 713 = .ok (.aload_n 0, 1) := by decide +kernel
theorem dL_law_714 : decode cL_law 714 = .ok (.iload_n 3, 1) := by decide +kernel
theorem dL_law_715 : decode cL_law 715 = .ok (.iconst 1, 1) := by decide +kernel
theorem dL_law_716 : decode cL_law 716 = .ok (.iadd, 1) := by decide +kernel
theorem dL_law_717 : decode cL_law 717 = .ok (.iaload, 1) := by decide +kernel
theorem dL_law_718 : decode cL_law 718 = .ok (.invokevirtual 104, 3) := by decide +kernel
theorem dL_law_721 : decode cL_law 721 = .ok (.if_icmp .eq 380, 3) := by decide +kernel
theorem dL_law_724 : decode cL_law 724 = .ok (.iconst 0, 1) := by decide +kernel
theorem dL_law_725 : decode cL_law 725 = .ok (.ireturn, 1) := by decide +kernel
theorem dL_law_726 : decode cL_law 726 = .ok (.aload_n 1, 1) := by decide +kernel
theorem dL_law_727 : decode cL_law 727 = .ok (.aload_n 0, 1) := by decide +kernel
theorem dL_law_728 : decode cL_law 728 = .ok (.iload_n 3, 1) := by decide +kernel
theorem dL_law_729 : decode cL_law 729 = .ok (.iconst 1, 1) := by decide +kernel
theorem dL_law_730 : decode cL_law 730 = .ok (.iadd, 1) := by decide +kernel
theorem dL_law_731 : decode cL_law 731 = .ok (.iaload, 1) := by decide +kernel
theorem dL_law_732 : decode cL_law 732 = .ok (.invokevirtual 105, 3) := by decide +kernel
theorem dL_law_735 : decode cL_law 735 = .ok (.aload_n 2, 1) := by decide +kernel
theorem dL_law_736 : decode cL_law 736 = .ok (.aload_n 0, 1) := by decide +kernel
theorem dL_law_737 : decode cL_law 737 = .ok (.iload_n 3, 1) := by decide +kernel
theorem dL_law_738 : decode cL_law 738 = .ok (.iconst 1, 1) := by decide +kernel
theorem dL_law_739 : decode cL_law 739 = .ok (.iadd, 1) := by decide +kernel
theorem dL_law_740 : decode cL_law 740 = .ok (.iaload, 1) := by decide +kernel
theorem dL_law_741 : decode cL_law 741 = .ok (.invokevirtual 109, 3) := by decide +kernel
theorem dL_law_744 : decode cL_law 744 = .ok (.lcmp, 1) := by decide +kernel
theorem dL_law_745 : decode cL_law 745 = .ok (.ifCond .eq 356, 3) := by decide +kernel
theorem dL_law_748 : decode cL_law 748 = .ok (.iconst 0, 1) := by decide +kernel
theorem dL_law_749 : decode cL_law 749 = .ok (.ireturn, 1) := by decide +kernel
theorem dL_law_750 : decode cL_law 750 = .ok (.aload_n 1, 1) := by decide +kernel
theorem dL_law_751 : decode cL_law 751 = .ok (.aload_n 0, 1) := by decide +kernel
theorem dL_law_752 : decode cL_law 752 = .ok (.iload_n 3, 1) := by decide +kernel
theorem dL_law_753 : decode cL_law 753 = .ok (.iconst 1, 1) := by decide +kernel
theorem dL_law_754 : decode cL_law 754 = .ok (.iadd, 1) := by decide +kernel
theorem dL_law_755 : decode cL_law 755 = .ok (.iaload, 1) := by decide +kernel
theorem dL_law_756 : decode cL_law 756 = .ok (.invokevirtual 110, 3) := by decide +kernel
theorem dL_law_759 : decode cL_law 759 = .ok (.aload_n 2, 1) := by decide +kernel
theorem dL_law_760 : decode cL_law 760 = .ok (.aload_n 0, 1) := by decide +kernel
theorem dL_law_761 : decode cL_law 761 = .ok (.iload_n 3, 1) := by decide +kernel
theorem dL_law_762 : decode cL_law 762 = .ok (.iconst 1, 1) := by decide +kernel
theorem dL_law_763 : decode cL_law 763 = .ok (.iadd, 1) := by decide +kernel
theorem dL_law_764 : decode cL_law 764 = .ok (.iaload, 1) := by decide +kernel
theorem dL_law_765 : decode cL_law 765 = .ok (.invokevirtual 113, 3) := by decide +kernel
theorem dL_law_768 : decode cL_law 768 = .ok (.if_icmp .eq 333, 3) := by decide +kernel
theorem dL_law_771 : decode cL_law 771 = .ok (.iconst 0, 1) := by decide +kernel
theorem dL_law_772 : decode cL_law 772 = .ok (.ireturn, 1) := by decide +kernel
theorem dL_law_773 : decode cL_law 773 = .ok (.aload_n 1, 1) := by decide +kernel
theorem dL_law_774 : decode cL_law 774 = .ok (.aload_n 0, 1) := by decide +kernel
theorem dL_law_775 : decode cL_law 775 = .ok (.iload_n 3, 1) := by decide +kernel
theorem dL_law_776 : decode cL_law 776 = .ok (.iconst 1, 1) := by decide +kernel
theorem dL_law_777 : decode cL_law 777 = .ok (.iadd, 1) := by decide +kernel
theorem dL_law_778 : decode cL_law 778 = .ok (.iaload, 1) := by decide +kernel
theorem dL_law_779 : decode cL_law 779 = .ok (.aload_n 0, 1) := by decide +kernel
theorem dL_law_780 : decode cL_law 780 = .ok (.iload_n 3, 1) := by decide +kernel
theorem dL_law_781 : decode cL_law 781 = .ok (.iconst 2, 1) := by decide +kernel
theorem dL_law_782 : decode cL_law 782 = .ok (.iadd, 1) := by decide +kernel
theorem dL_law_783 : decode cL_law 783 = .ok (.iaload, 1) := by decide +kernel
theorem dL_law_784 : decode cL_law 784 = .ok (.aload_n 0, 1) := by decide +kernel
theorem dL_law_785 : decode cL_law 785 = .ok (.iload_n 3, 1) := by decide +kernel
theorem dL_law_786 : decode cL_law 786 = .ok (.iconst 3, 1) := by decide +kernel
theorem dL_law_787 : decode cL_law 787 = .ok (.iadd, 1) := by decide +kernel
theorem dL_law_788 : decode cL_law 788 = .ok (.iaload, 1) := by decide +kernel
theorem dL_law_789 : decode cL_law 789 = .ok (.invokevirtual 114, 3) := by decide +kernel
theorem dL_law_792 : decode cL_law 792 = .ok (.aload_n 2, 1) := by decide +kernel
theorem dL_law_793 : decode cL_law 793 = .ok (.aload_n 0, 1) := by decide +kernel
theorem dL_law_794 : decode cL_law 794 = .ok (.iload_n 3, 1) := by decide +kernel
theorem dL_law_795 : decode cL_law 795 = .ok (.iconst 1, 1) := by decide +kernel
theorem dL_law_796 : decode cL_law 796 = .ok (.iadd, 1) := by decide +kernel
theorem dL_law_797 : decode cL_law 797 = .ok (.iaload, 1) := by decide +kernel
theorem dL_law_798 : decode cL_law 798 = .ok (.aload_n 0, 1) := by decide +kernel
theorem dL_law_799 : decode cL_law 799 = .ok (.iload_n 3, 1) := by decide +kernel
theorem dL_law_800 : decode cL_law 800 = .ok (.iconst 2, 1) := by decide +kernel
theorem dL_law_801 : decode cL_law 801 = .ok (.iadd, 1) := by decide +kernel
theorem dL_law_802 : decode cL_law 802 = .ok (.iaload, 1) := by decide +kernel
theorem dL_law_803 : decode cL_law 803 = .ok (.aload_n 0, 1) := by decide +kernel
theorem dL_law_804 : decode cL_law 804 = .ok (.iload_n 3, 1) := by decide +kernel
theorem dL_law_805 : decode cL_law 805 = .ok (.iconst 3, 1) := by decide +kernel
theorem dL_law_806 : decode cL_law 806 = .ok (.iadd, 1) := by decide +kernel
theorem dL_law_807 : decode cL_law 807 = .ok (.iaload, 1) := by decide +kernel
theorem dL_law_808 : decode cL_law 808 = .ok (.invokevirtual 118, 3) := by decide +kernel
theorem dL_law_811 : decode cL_law 811 = .ok (.lcmp, 1) := by decide +kernel
theorem dL_law_812 : decode cL_law 812 = .ok (.ifCond .eq 289, 3) := by decide +kernel
theorem dL_law_815 : decode cL_law 815 = .ok (.iconst 0, 1) := by decide +kernel
theorem dL_law_816 : decode cL_law 816 = .ok (.ireturn, 1) := by decide +kernel
theorem dL_law_817 : decode cL_law 817 = .ok (.aload_n 1, 1) := by decide +kernel
theorem dL_law_818 : decode cL_law 818 = .ok (.invokevirtual 119, 3) := by decide +kernel
theorem dL_law_821 : decode cL_law 821 = .ok (.aload_n 2, 1) := by decide +kernel
theorem dL_law_822 : decode cL_law 822 = .ok (.invokevirtual 122, 3) := by decide +kernel
theorem dL_law_825 : decode cL_law 825 = .ok (.if_icmp .eq 276, 3) := by decide +kernel
theorem dL_law_828 : decode cL_law 828 = .ok (.iconst 0, 1) := by decide +kernel
theorem dL_law_829 : decode cL_law 829 = .ok (.ireturn, 1) := by decide +kernel
theorem dL_law_830 : decode cL_law 830 = .ok (.aload_n 1, 1) := by decide +kernel
theorem dL_law_831 : decode cL_law 831 = .ok (.invokevirtual 123, 3) := by decide +kernel
theorem dL_law_834 : decode cL_law 834 = .ok (.aload_n 2, 1) := by decide +kernel
theorem dL_law_835 : decode cL_law 835 = .ok (.invokevirtual 126, 3) := by decide +kernel
theorem dL_law_838 : decode cL_law 838 = .ok (.if_icmp .eq 263, 3) := by decide +kernel
theorem dL_law_841 : decode cL_law 841 = .ok (.iconst 0, 1) := by decide +kernel
theorem dL_law_842 : decode cL_law 842 = .ok (.ireturn, 1) := by decide +kernel
theorem dL_law_843 : decode cL_law 843 = .ok (.aload_n 1, 1) := by decide +kernel
theorem dL_law_844 : decode cL_law 844 = .ok (.aload_n 0, 1) := by decide +kernel
theorem dL_law_845 : decode cL_law 845 = .ok (.iload_n 3, 1) := by decide +kernel
theorem dL_law_846 : decode cL_law 846 = .ok (.iconst 1, 1) := by decide +kernel
theorem dL_law_847 : decode cL_law 847 = .ok (.iadd, 1) := by decide +kernel
theorem dL_law_848 : decode cL_law 848 = .ok (.iaload, 1) := by decide +kernel
theorem dL_law_849 : decode cL_law 849 = .ok (.invokevirtual 127, 3) := by decide +kernel
theorem dL_law_852 : decode cL_law 852 = .ok (.aload_n 2, 1) := by decide +kernel
theorem dL_law_853 : decode cL_law 853 = .ok (.aload_n 0, 1) := by decide +kernel
theorem dL_law_854 : decode cL_law 854 = .ok (.iload_n 3, 1) := by decide +kernel
theorem dL_law_855 : decode cL_law 855 = .ok (.iconst 1, 1) := by decide +kernel
theorem dL_law_856 : decode cL_law 856 = .ok (.iadd, 1) := by decide +kernel
theorem dL_law_857 : decode cL_law 857 = .ok (.iaload, 1) := by decide +kernel
theorem dL_law_858 : decode cL_law 858 = .ok (.invokevirtual 130, 3) := by decide +kernel
theorem dL_law_861 : decode cL_law 861 = .ok (.if_icmp .eq 240, 3) := by decide +kernel
theorem dL_law_864 : decode cL_law 864 = .ok (.iconst 0, 1) := by decide +kernel
theorem dL_law_865 : decode cL_law 865 = .ok (.ireturn, 1) := by decide +kernel
theorem dL_law_866 : decode cL_law 866 = .ok (.aload_n 1, 1) := by decide +kernel
theorem dL_law_867 : decode cL_law 867 = .ok (.aload_n 0, 1) := by decide +kernel
theorem dL_law_868 : decode cL_law 868 = .ok (.iload_n 3, 1) := by decide +kernel
theorem dL_law_869 : decode cL_law 869 = .ok (.iconst 1, 1) := by decide +kernel
theorem dL_law_870 : decode cL_law 870 = .ok (.iadd, 1) := by decide +kernel
theorem dL_law_871 : decode cL_law 871 = .ok (.iaload, 1) := by decide +kernel
theorem dL_law_872 : decode cL_law 872 = .ok (.aload_n 0, 1) := by decide +kernel
theorem dL_law_873 : decode cL_law 873 = .ok (.iload_n 3, 1) := by decide +kernel
theorem dL_law_874 : decode cL_law 874 = .ok (.iconst 2, 1) := by decide +kernel
theorem dL_law_875 : decode cL_law 875 = .ok (.iadd, 1) := by decide +kernel
theorem dL_law_876 : decode cL_law 876 = .ok (.iaload, 1) := by decide +kernel
theorem dL_law_877 : decode cL_law 877 = .ok (.aload_n 0, 1) := by decide +kernel
theorem dL_law_878 : decode cL_law 878 = .ok (.iload_n 3, 1) := by decide +kernel
theorem dL_law_879 : decode cL_law 879 = .ok (.iconst 3, 1) := by decide +kernel
theorem dL_law_880 : decode cL_law 880 = .ok (.iadd, 1) := by decide +kernel
theorem dL_law_881 : decode cL_law 881 = .ok (.iaload, 1) := by decide +kernel
theorem dL_law_882 : decode cL_law 882 = .ok (.invokevirtual 131, 3) := by decide +kernel
theorem dL_law_885 : decode cL_law 885 = .ok (.aload_n 2, 1) := by decide +kernel
theorem dL_law_886 : decode cL_law 886 = .ok (.aload_n 0, 1) := by decide +kernel
theorem dL_law_887 : decode cL_law 887 = .ok (.iload_n 3, 1) := by decide +kernel
theorem dL_law_888 : decode cL_law 888 = .ok (.iconst 1, 1) := by decide +kernel
theorem dL_law_889 : decode cL_law 889 = .ok (.iadd, 1) := by decide +kernel
theorem dL_law_890 : decode cL_law 890 = .ok (.iaload, 1) := by decide +kernel
theorem dL_law_891 : decode cL_law 891 = .ok (.aload_n 0, 1) := by decide +kernel
theorem dL_law_892 : decode cL_law 892 = .ok (.iload_n 3, 1) := by decide +kernel
theorem dL_law_893 : decode cL_law 893 = .ok (.iconst 2, 1) := by decide +kernel
theorem dL_law_894 : decode cL_law 894 = .ok (.iadd, 1) := by decide +kernel
theorem dL_law_895 : decode cL_law 895 = .ok (.iaload, 1) := by decide +kernel
theorem dL_law_896 : decode cL_law 896 = .ok (.aload_n 0, 1) := by decide +kernel
theorem dL_law_897 : decode cL_law 897 = .ok (.iload_n 3, 1) := by decide +kernel
theorem dL_law_898 : decode cL_law 898 = .ok (.iconst 3, 1) := by decide +kernel
theorem dL_law_899 : decode cL_law 899 = .ok (.iadd, 1) := by decide +kernel
theorem dL_law_900 : decode cL_law 900 = .ok (.iaload, 1) := by decide +kernel
theorem dL_law_901 : decode cL_law 901 = .ok (.invokevirtual 134, 3) := by decide +kernel
theorem dL_law_904 : decode cL_law 904 = .ok (.if_icmp .eq 197, 3) := by decide +kernel
theorem dL_law_907 : decode cL_law 907 = .ok (.iconst 0, 1) := by decide +kernel
theorem dL_law_908 : decode cL_law 908 = .ok (.ireturn, 1) := by decide +kernel
theorem dL_law_909 : decode cL_law 909 = .ok (.aload_n 1, 1) := by decide +kernel
theorem dL_law_910 : decode cL_law 910 = .ok (.aload_n 0, 1) := by decide +kernel
theorem dL_law_911 : decode cL_law 911 = .ok (.iload_n 3, 1) := by decide +kernel
theorem dL_law_912 : decode cL_law 912 = .ok (.iconst 1, 1) := by decide +kernel
theorem dL_law_913 : decode cL_law 913 = .ok (.iadd, 1) := by decide +kernel
theorem dL_law_914 : decode cL_law 914 = .ok (.iaload, 1) := by decide +kernel
theorem dL_law_915 : decode cL_law 915 = .ok (.aload_n 0, 1) := by decide +kernel
theorem dL_law_916 : decode cL_law 916 = .ok (.iload_n 3, 1) := by decide +kernel
theorem dL_law_917 : decode cL_law 917 = .ok (.iconst 2, 1) := by decide +kernel
theorem dL_law_918 : decode cL_law 918 = .ok (.iadd, 1) := by decide +kernel
theorem dL_law_919 : decode cL_law 919 = .ok (.iaload, 1) := by decide +kernel
theorem dL_law_920 : decode cL_law 920 = .ok (.aload_n 0, 1) := by decide +kernel
theorem dL_law_921 : decode cL_law 921 = .ok (.iload_n 3, 1) := by decide +kernel
theorem dL_law_922 : decode cL_law 922 = .ok (.iconst 3, 1) := by decide +kernel
theorem dL_law_923 : decode cL_law 923 = .ok (.iadd, 1) := by decide +kernel
theorem dL_law_924 : decode cL_law 924 = .ok (.iaload, 1) := by decide +kernel
theorem dL_law_925 : decode cL_law 925 = .ok (.invokevirtual 135, 3) := by decide +kernel
theorem dL_law_928 : decode cL_law 928 = .ok (.aload_n 2, 1) := by decide +kernel
theorem dL_law_929 : decode cL_law 929 = .ok (.aload_n 0, 1) := by decide +kernel
theorem dL_law_930 : decode cL_law 930 = .ok (.iload_n 3, 1) := by decide +kernel
theorem dL_law_931 : decode cL_law 931 = .ok (.iconst 1, 1) := by decide +kernel
theorem dL_law_932 : decode cL_law 932 = .ok (.iadd, 1) := by decide +kernel
theorem dL_law_933 : decode cL_law 933 = .ok (.iaload, 1) := by decide +kernel
theorem dL_law_934 : decode cL_law 934 = .ok (.aload_n 0, 1) := by decide +kernel
theorem dL_law_935 : decode cL_law 935 = .ok (.iload_n 3, 1) := by decide +kernel
theorem dL_law_936 : decode cL_law 936 = .ok (.iconst 2, 1) := by decide +kernel
theorem dL_law_937 : decode cL_law 937 = .ok (.iadd, 1) := by decide +kernel
theorem dL_law_938 : decode cL_law 938 = .ok (.iaload, 1) := by decide +kernel
theorem dL_law_939 : decode cL_law 939 = .ok (.aload_n 0, 1) := by decide +kernel
theorem dL_law_940 : decode cL_law 940 = .ok (.iload_n 3, 1) := by decide +kernel
theorem dL_law_941 : decode cL_law 941 = .ok (.iconst 3, 1) := by decide +kernel
theorem dL_law_942 : decode cL_law 942 = .ok (.iadd, 1) := by decide +kernel
theorem dL_law_943 : decode cL_law 943 = .ok (.iaload, 1) := by decide +kernel
theorem dL_law_944 : decode cL_law 944 = .ok (.invokevirtual 138, 3) := by decide +kernel
theorem dL_law_947 : decode cL_law 947 = .ok (.if_icmp .eq 154, 3) := by decide +kernel
theorem dL_law_950 : decode cL_law 950 = .ok (.iconst 0, 1) := by decide +kernel
theorem dL_law_951 : decode cL_law 951 = .ok (.ireturn, 1) := by decide +kernel
theorem dL_law_952 : decode cL_law 952 = .ok (.aload_n 1, 1) := by decide +kernel
theorem dL_law_953 : decode cL_law 953 = .ok (.aload_n 0, 1) := by decide +kernel
theorem dL_law_954 : decode cL_law 954 = .ok (.iload_n 3, 1) := by decide +kernel
theorem dL_law_955 : decode cL_law 955 = .ok (.iconst 1, 1) := by decide +kernel
theorem dL_law_956 : decode cL_law 956 = .ok (.iadd, 1) := by decide +kernel
theorem dL_law_957 : decode cL_law 957 = .ok (.iaload, 1) := by decide +kernel
theorem dL_law_958 : decode cL_law 958 = .ok (.aload_n 0, 1) := by decide +kernel
theorem dL_law_959 : decode cL_law 959 = .ok (.iload_n 3, 1) := by decide +kernel
theorem dL_law_960 : decode cL_law 960 = .ok (.iconst 2, 1) := by decide +kernel
theorem dL_law_961 : decode cL_law 961 = .ok (.iadd, 1) := by decide +kernel
theorem dL_law_962 : decode cL_law 962 = .ok (.iaload, 1) := by decide +kernel
theorem dL_law_963 : decode cL_law 963 = .ok (.aload_n 0, 1) := by decide +kernel
theorem dL_law_964 : decode cL_law 964 = .ok (.iload_n 3, 1) := by decide +kernel
theorem dL_law_965 : decode cL_law 965 = .ok (.iconst 3, 1) := by decide +kernel
theorem dL_law_966 : decode cL_law 966 = .ok (.iadd, 1) := by decide +kernel
theorem dL_law_967 : decode cL_law 967 = .ok (.iaload, 1) := by decide +kernel
theorem dL_law_968 : decode cL_law 968 = .ok (.aload_n 0, 1) := by decide +kernel
theorem dL_law_969 : decode cL_law 969 = .ok (.iload_n 3, 1) := by decide +kernel
theorem dL_law_970 : decode cL_law 970 = .ok (.iconst 4, 1) := by decide +kernel
theorem dL_law_971 : decode cL_law 971 = .ok (.iadd, 1) := by decide +kernel
theorem dL_law_972 : decode cL_law 972 = .ok (.iaload, 1) := by decide +kernel
theorem dL_law_973 : decode cL_law 973 = .ok (.aload_n 0, 1) := by decide +kernel
theorem dL_law_974 : decode cL_law 974 = .ok (.iload_n 3, 1) := by decide +kernel
theorem dL_law_975 : decode cL_law 975 = .ok (.iconst 5, 1) := by decide +kernel
theorem dL_law_976 : decode cL_law 976 = .ok (.iadd, 1) := by decide +kernel
theorem dL_law_977 : decode cL_law 977 = .ok (.iaload, 1) := by decide +kernel
theorem dL_law_978 : decode cL_law 978 = .ok (.invokevirtual 139, 3) := by decide +kernel
theorem dL_law_981 : decode cL_law 981 = .ok (.aload_n 2, 1) := by decide +kernel
theorem dL_law_982 : decode cL_law 982 = .ok (.aload_n 0, 1) := by decide +kernel
theorem dL_law_983 : decode cL_law 983 = .ok (.iload_n 3, 1) := by decide +kernel
theorem dL_law_984 : decode cL_law 984 = .ok (.iconst 1, 1) := by decide +kernel
theorem dL_law_985 : decode cL_law 985 = .ok (.iadd, 1) := by decide +kernel
theorem dL_law_986 : decode cL_law 986 = .ok (.iaload, 1) := by decide +kernel
theorem dL_law_987 : decode cL_law 987 = .ok (.aload_n 0, 1) := by decide +kernel
theorem dL_law_988 : decode cL_law 988 = .ok (.iload_n 3, 1) := by decide +kernel
theorem dL_law_989 : decode cL_law 989 = .ok (.iconst 2, 1) := by decide +kernel
theorem dL_law_990 : decode cL_law 990 = .ok (.iadd, 1) := by decide +kernel
theorem dL_law_991 : decode cL_law 991 = .ok (.iaload, 1) := by decide +kernel
theorem dL_law_992 : decode cL_law 992 = .ok (.aload_n 0, 1) := by decide +kernel
theorem dL_law_993 : decode cL_law 993 = .ok (.iload_n 3, 1) := by decide +kernel
theorem dL_law_994 : decode cL_law 994 = .ok (.iconst 3, 1) := by decide +kernel
theorem dL_law_995 : decode cL_law 995 = .ok (.iadd, 1) := by decide +kernel
theorem dL_law_996 : decode cL_law 996 = .ok (.iaload, 1) := by decide +kernel
theorem dL_law_997 : decode cL_law 997 = .ok (.aload_n 0, 1) := by decide +kernel
theorem dL_law_998 : decode cL_law 998 = .ok (.iload_n 3, 1) := by decide +kernel
theorem dL_law_999 : decode cL_law 999 = .ok (.iconst 4, 1) := by decide +kernel
theorem dL_law_1000 : decode cL_law 1000 = .ok (.iadd, 1) := by decide +kernel
theorem dL_law_1001 : decode cL_law 1001 = .ok (.iaload, 1) := by decide +kernel
theorem dL_law_1002 : decode cL_law 1002 = .ok (.aload_n 0, 1) := by decide +kernel
theorem dL_law_1003 : decode cL_law 1003 = .ok (.iload_n 3, 1) := by decide +kernel
theorem dL_law_1004 : decode cL_law 1004 = .ok (.iconst 5, 1) := by decide +kernel
theorem dL_law_1005 : decode cL_law 1005 = .ok (.iadd, 1) := by decide +kernel
theorem dL_law_1006 : decode cL_law 1006 = .ok (.iaload, 1) := by decide +kernel
theorem dL_law_1007 : decode cL_law 1007 = .ok (.invokevirtual 143, 3) := by decide +kernel
theorem dL_law_1010 : decode cL_law 1010 = .ok (.if_icmp .eq 91, 3) := by decide +kernel
theorem dL_law_1013 : decode cL_law 1013 = .ok (.iconst 0, 1) := by decide +kernel
theorem dL_law_1014 : decode cL_law 1014 = .ok (.ireturn, 1) := by decide +kernel
theorem dL_law_1015 : decode cL_law 1015 = .ok (.aload_n 1, 1) := by decide +kernel
theorem dL_law_1016 : decode cL_law 1016 = .ok (.aload_n 0, 1) := by decide +kernel
theorem dL_law_1017 : decode cL_law 1017 = .ok (.iload_n 3, 1) := by decide +kernel
theorem dL_law_1018 : decode cL_law 1018 = .ok (.iconst 1, 1) := by decide +kernel
theorem dL_law_1019 : decode cL_law 1019 = .ok (.iadd, 1) := by decide +kernel
theorem dL_law_1020 : decode cL_law 1020 = .ok (.iaload, 1) := by decide +kernel
theorem dL_law_1021 : decode cL_law 1021 = .ok (.aload_n 0, 1) := by decide +kernel
theorem dL_law_1022 : decode cL_law 1022 = .ok (.iload_n 3, 1) := by decide +kernel
theorem dL_law_1023 : decode cL_law 1023 = .ok (.iconst 2, 1) := by decide +kernel
theorem dL_law_1024 : decode cL_law 1024 = .ok (.iadd, 1) := by decide +kernel
theorem dL_law_1025 : decode cL_law 1025 = .ok (.iaload, 1) := by decide +kernel
theorem dL_law_1026 : decode cL_law 1026 = .ok (.aload_n 0, 1) := by decide +kernel
theorem dL_law_1027 : decode cL_law 1027 = .ok (.iload_n 3, 1) := by decide +kernel
theorem dL_law_1028 : decode cL_law 1028 = .ok (.iconst 3, 1) := by decide +kernel
theorem dL_law_1029 : decode cL_law 1029 = .ok (.iadd, 1) := by decide +kernel
theorem dL_law_1030 : decode cL_law 1030 = .ok (.iaload, 1) := by decide +kernel
theorem dL_law_1031 : decode cL_law 1031 = .ok (.aload_n 0, 1) := by decide +kernel
theorem dL_law_1032 : decode cL_law 1032 = .ok (.iload_n 3, 1) := by decide +kernel
theorem dL_law_1033 : decode cL_law 1033 = .ok (.iconst 4, 1) := by decide +kernel
theorem dL_law_1034 : decode cL_law 1034 = .ok (.iadd, 1) := by decide +kernel
theorem dL_law_1035 : decode cL_law 1035 = .ok (.iaload, 1) := by decide +kernel
theorem dL_law_1036 : decode cL_law 1036 = .ok (.invokevirtual 144, 3) := by decide +kernel
theorem dL_law_1039 : decode cL_law 1039 = .ok (.aload_n 2, 1) := by decide +kernel
theorem dL_law_1040 : decode cL_law 1040 = .ok (.aload_n 0, 1) := by decide +kernel
theorem dL_law_1041 : decode cL_law 1041 = .ok (.iload_n 3, 1) := by decide +kernel
theorem dL_law_1042 : decode cL_law 1042 = .ok (.iconst 1, 1) := by decide +kernel
theorem dL_law_1043 : decode cL_law 1043 = .ok (.iadd, 1) := by decide +kernel
theorem dL_law_1044 : decode cL_law 1044 = .ok (.iaload, 1) := by decide +kernel
theorem dL_law_1045 : decode cL_law 1045 = .ok (.aload_n 0, 1) := by decide +kernel
theorem dL_law_1046 : decode cL_law 1046 = .ok (.iload_n 3, 1) := by decide +kernel
theorem dL_law_1047 : decode cL_law 1047 = .ok (.iconst 2, 1) := by decide +kernel
theorem dL_law_1048 : decode cL_law 1048 = .ok (.iadd, 1) := by decide +kernel
theorem dL_law_1049 : decode cL_law 1049 = .ok (.iaload, 1) := by decide +kernel
theorem dL_law_1050 : decode cL_law 1050 = .ok (.aload_n 0, 1) := by decide +kernel
theorem dL_law_1051 : decode cL_law 1051 = .ok (.iload_n 3, 1) := by decide +kernel
theorem dL_law_1052 : decode cL_law 1052 = .ok (.iconst 3, 1) := by decide +kernel
theorem dL_law_1053 : decode cL_law 1053 = .ok (.iadd, 1) := by decide +kernel
theorem dL_law_1054 : decode cL_law 1054 = .ok (.iaload, 1) := by decide +kernel
theorem dL_law_1055 : decode cL_law 1055 = .ok (.aload_n 0, 1) := by decide +kernel
theorem dL_law_1056 : decode cL_law 1056 = .ok (.iload_n 3, 1) := by decide +kernel
theorem dL_law_1057 : decode cL_law 1057 = .ok (.iconst 4, 1) := by decide +kernel
theorem dL_law_1058 : decode cL_law 1058 = .ok (.iadd, 1) := by decide +kernel
theorem dL_law_1059 : decode cL_law 1059 = .ok (.iaload, 1) := by decide +kernel
theorem dL_law_1060 : decode cL_law 1060 = .ok (.invokevirtual 148, 3) := by decide +kernel
theorem dL_law_1063 : decode cL_law 1063 = .ok (.if_icmp .eq 38, 3) := by decide +kernel
theorem dL_law_1066 : decode cL_law 1066 = .ok (.iconst 0, 1) := by decide +kernel
theorem dL_law_1067 : decode cL_law 1067 = .ok (.ireturn, 1) := by decide +kernel
theorem dL_law_1068 : decode cL_law 1068 = .ok (.aload_n 1, 1) := by decide +kernel
theorem dL_law_1069 : decode cL_law 1069 = .ok (.aload_n 0, 1) := by decide +kernel
theorem dL_law_1070 : decode cL_law 1070 = .ok (.iload_n 3, 1) := by decide +kernel
theorem dL_law_1071 : decode cL_law 1071 = .ok (.iconst 1, 1) := by decide +kernel
theorem dL_law_1072 : decode cL_law 1072 = .ok (.iadd, 1) := by decide +kernel
theorem dL_law_1073 : decode cL_law 1073 = .ok (.iaload, 1) := by decide +kernel
theorem dL_law_1074 : decode cL_law 1074 = .ok (.aload_n 0, 1) := by decide +kernel
theorem dL_law_1075 : decode cL_law 1075 = .ok (.iload_n 3, 1) := by decide +kernel
theorem dL_law_1076 : decode cL_law 1076 = .ok (.iconst 2, 1) := by decide +kernel
theorem dL_law_1077 : decode cL_law 1077 = .ok (.iadd, 1) := by decide +kernel
theorem dL_law_1078 : decode cL_law 1078 = .ok (.iaload, 1) := by decide +kernel
theorem dL_law_1079 : decode cL_law 1079 = .ok (.invokevirtual 149, 3) := by decide +kernel
theorem dL_law_1082 : decode cL_law 1082 = .ok (.aload_n 2, 1) := by decide +kernel
theorem dL_law_1083 : decode cL_law 1083 = .ok (.aload_n 0, 1) := by decide +kernel
theorem dL_law_1084 : decode cL_law 1084 = .ok (.iload_n 3, 1) := by decide +kernel
theorem dL_law_1085 : decode cL_law 1085 = .ok (.iconst 1, 1) := by decide +kernel
theorem dL_law_1086 : decode cL_law 1086 = .ok (.iadd, 1) := by decide +kernel
theorem dL_law_1087 : decode cL_law 1087 = .ok (.iaload, 1) := by decide +kernel
theorem dL_law_1088 : decode cL_law 1088 = .ok (.aload_n 0, 1) := by decide +kernel
theorem dL_law_1089 : decode cL_law 1089 = .ok (.iload_n 3, 1) := by decide +kernel
theorem dL_law_1090 : decode cL_law 1090 = .ok (.iconst 2, 1) := by decide +kernel
theorem dL_law_1091 : decode cL_law 1091 = .ok (.iadd, 1) := by decide +kernel
theorem dL_law_1092 : decode cL_law 1092 = .ok (.iaload, 1) := by decide +kernel
theorem dL_law_1093 : decode cL_law 1093 = .ok (.invokevirtual 152, 3) := by decide +kernel
theorem dL_law_1096 : decode cL_law 1096 = .ok (.if_icmp .eq 5, 3) := by decide +kernel
theorem dL_law_1099 : decode cL_law 1099 = .ok (.iconst 0, 1) := by decide +kernel
theorem dL_law_1100 : decode cL_law 1100 = .ok (.ireturn, 1) := by decide +kernel
theorem dL_law_1101 : decode cL_law 1101 = .ok (.iinc 3 6, 3) := by decide +kernel
theorem dL_law_1104 : decode cL_law 1104 = .ok (.goto (-1086), 3) := by decide +kernel
theorem dL_law_1107 : decode cL_law 1107 = .ok (.iconst 1, 1) := by decide +kernel
theorem dL_law_1108 : decode cL_law 1108 = .ok (.ireturn, 1) := by decide +kernel
end
section
/-! THE WALK LAYER: a frozen set of cells o = (N, addresses, shapes, class numbers, array classes, standing facts), a memory S (cell, slot -> int);
G: the machine stands in method frame g at pc, with locals L and stack st, the cells holding S. -/
abbrev CxT : Type := Program × Launch × Env × State × MethodId × Array Value × List Frame × Method × Code × (State → Prop)
abbrev Mem : Type := Nat → Nat → Int32
abbrev OmT : Type := Nat × (Nat → Nat) × (Nat → (Nat → Int32) → va_E) × va_G × List (ClassId × FieldType) × (State → Heap → Prop)
def mset (S : Mem) (c : Nat) (f : Nat → Int32) : Mem := fun a => if a = c then f else S a
def rl (k : Nat) : Room := { frames := k, cells := 0, slots := 0, locals := 100 * k }
def GW (o : OmT) (S : Mem) : va_W := (List.range o.1).map fun c => (o.2.1 c, o.2.2.1 c (S c))
def AX (o : OmT) : Nat → Prop := fun a => ∃ c, c < o.1 ∧ a = o.2.1 c
theorem gw_at {o : OmT} {c : Nat} (S : Mem) (h : c < o.1) : (GW o S)[c]? = some (o.2.1 c, o.2.2.1 c (S c)) := by
  unfold GW
  rw [List.getElem?_map, List.getElem?_range h]
  rfl
theorem gw_at' {o : OmT} {c : Nat} {S : Mem} {e : va_E} (h : c < o.1) (he : o.2.2.1 c (S c) = e) : (GW o S)[c]? = some (o.2.1 c, e) := by
  rw [gw_at S h, he]
theorem gw_set (o : OmT) (S : Mem) (c : Nat) (f : Nat → Int32) : (GW o S).set c (o.2.1 c, o.2.2.1 c f) = GW o (mset S c f) := by
  apply List.ext_getElem?
  intro i
  unfold GW
  rw [List.getElem?_set]
  by_cases hi : i < o.1
  · rw [List.getElem?_map, List.getElem?_map, List.getElem?_range hi]
    by_cases hc : c = i
    · subst hc
      simp [mset, hi]
    · have hc2 : ¬ i = c := fun e => hc e.symm
      simp [mset, hc, hc2]
  · have hn : (List.range o.1)[i]? = none := List.getElem?_eq_none (by simpa using Nat.le_of_not_lt hi)
    rw [List.getElem?_map, List.getElem?_map, hn]
    by_cases hc : c = i
    · subst hc
      simp [hi]
    · simp [hc]
theorem gw_set' {o : OmT} {S : Mem} {c : Nat} {f : Nat → Int32} {e : va_E} (he : o.2.2.1 c f = e) : (GW o S).set c (o.2.1 c, e) = GW o (mset S c f) := by
  rw [← he, gw_set]
def isNest : Cond → Bool
  | .fieldLinkNest _ _ _ _ _ _ => true
  | .methodLinkNest _ _ _ _ => true
  | _ => false
def okw (w : Cond) : Bool := goodWord w || isNest w
def WD (U : State) : Prop := ∀ w, w ∈ lw_tbl → okw w = true → ∀ a : Array Value, w.before a U = true
theorem wd_warm {w : Cond} {s U : State} {a a' : Array Value} (hk : okw w = true) (hW : s.WarmedH U.vm) (h : w.before a s = true) : w.before a' U = true := by
  unfold okw at hk
  rw [Bool.or_eq_true] at hk
  rcases hk with hk | hk
  · exact word_at hW (good_of_word hk) h
  · cases w with
    | fieldLinkNest x1 x2 x3 x4 x5 x6 => exact va_Nw.use rfl (va_Nw.warmF hW (va_Nw.of rfl h))
    | methodLinkNest x1 x2 x3 x4 => exact va_Nw.use rfl (va_Nw.warmM hW (va_Nw.of rfl h))
    | _ => cases hk
theorem WD.warm {s U : State} (h : WD s) (hW : s.WarmedH U.vm) : WD U := fun w hw hk a => wd_warm (a := a) hk hW (h w hw hk a)
theorem WD.of {s : State} {a : Array Value} (h : ∀ w ∈ lw_tbl, w.before a s = true) : WD s := fun w hw hk a' => wd_warm (a := a) hk (State.WarmedH.refl s) (h w hw)
theorem tm {w : Cond} (i : Nat) (h : tables_1[i]? = some w) : w ∈ lw_tbl := List.mem_append_right _ (List.mem_of_getElem? h)
theorem pm {q : MethodName × Nat} (i : Nat) (h : lw_privs[i]? = some q) : Cond.selects q.1.cls q.1 q.1 ∈ lw_tbl := List.mem_append_left _ (List.mem_map.mpr ⟨q, List.mem_of_getElem? h, rfl⟩)
/-- the words of a class's fields -/
def WL (ws : List Cond) : Prop := ∀ w ∈ ws, w ∈ lw_tbl ∧ okw w = true
theorem wl_nil : WL [] := fun _ h => by cases h
theorem wl_cons {w : Cond} {ws : List Cond} (h1 : w ∈ lw_tbl) (h2 : okw w = true) (h : WL ws) : WL (w :: ws) := List.forall_mem_cons.mpr ⟨⟨h1, h2⟩, h⟩
theorem WL.use {ws : List Cond} {s : State} {a : Array Value} (h : WL ws) (hW : WD s) : ∀ w ∈ ws, w.before a s = true := fun w hw => hW w (h w hw).1 (h w hw).2 a
def DW (o : OmT) : Prop := ∀ S, va_D (AX o) (GW o S)
def Stab (o : OmT) : Prop := ∀ (u U : State) (H1 : Heap), u.WarmedH U.vm → (∀ a, a < u.heap.size → ¬ AX o a → H1[a]? = u.heap[a]?) → o.2.2.2.2.2 u u.heap → o.2.2.2.2.2 U H1
def BX (o : OmT) (S : Mem) (U : State) : Prop := va_P o.2.2.2.1 vwCl (GW o S) U.heap ∧ va_K o.2.2.2.1 vwCl o.2.2.2.2.1 U ∧ DW o ∧ Stab o ∧ o.2.2.2.2.2 U U.heap ∧ WD U
def Ok (l : Launch) (g : CxT) (o : OmT) (nL : Nat) (cc : ByteArray) (own : String) (ret : Option FieldType) : Prop := match g with
  | (p, l', _, s, m, _, _, meth, c, _) => l' = l ∧ p.tables.exec = Jvm.exec ∧ c.code = cc ∧ c.maxLocals = nL ∧ s.vm.findClass own = some m.cls ∧ WD s ∧ meth.sig.returnType = ret ∧ meth.locks = false ∧ va_K o.2.2.2.1 vwCl o.2.2.2.2.1 s ∧ DW o ∧ Stab o ∧ o.2.2.2.2.2 s s.heap
def G (g : CxT) (o : OmT) (k nL pc : Nat) (L : List (Nat × Value)) (st : List Value) (S : Mem) : Prop := match g with
  | (p, l, e, s, m, args, below, meth, c, Q) => ∀ (ls : Array Slot) (H : Heap) (locs : List Loc), lv_has ls nL L → va_P o.2.2.2.1 vwCl (GW o S) H → va_S (AX o) s.heap H locs → W p l e (rl k) s m args below meth c H locs 0 0 Q (F0 m pc ls st)
theorem bx_blind {o : OmT} {S : Mem} (av : List Value) : FrameBlind (va_Pc av (BX o S)) := by
  intro a U g mk h
  obtain ⟨h0, hP, hK, hD, hSt, hZ, hWD⟩ := h
  exact ⟨h0, hP, va_K.moved (u := U) (U := U.calling g mk a) (Vm.Alike.refl U.vm) hK, hD, hSt, hSt U (U.calling g mk a) U.heap (State.WarmedH.refl U) (fun _ _ _ => rfl) hZ, hWD.warm (U := U.calling g mk a) (State.WarmedH.refl U)⟩
theorem bx_make {o : OmT} {S : Mem} {s U : State} {H : Heap} {locs : List Loc} (hK : va_K o.2.2.2.1 vwCl o.2.2.2.2.1 s) (hD : DW o) (hSt : Stab o) (hZ : o.2.2.2.2.2 s s.heap) (hWD : WD s) (hP : va_P o.2.2.2.1 vwCl (GW o S) H) (hS : va_S (AX o) s.heap H locs) (hU : U.heap = H) (hW : s.WarmedH U.vm) : BX o S U := by
  subst hU
  exact ⟨hP, va_K.moved hW.alike hK, hD, hSt, hSt s U U.heap hW (fun a h1 h2 => hS.2.1 a h1 h2) hZ, hWD.warm hW⟩
theorem vp_nar_int' (x : Int32) : vp_nar .int x = x := rfl
section
variable {l : Launch} {g : CxT} {o : OmT} {k nL pc : Nat} {cc : ByteArray} {own : String} {ret : Option FieldType} {L : List (Nat × Value)} {st : List Value} {S : Mem}
theorem g_eq {L' : List (Nat × Value)} {st' : List Value} (h : G g o k nL pc L' st' S) (e1 : L = L') (e2 : st = st') : G g o k nL pc L st S := by
  subst e1; subst e2; exact h
theorem g_sub {L' : List (Nat × Value)} (ks : List Nat) (hl : lv_pick L ks = L') (h : G g o k nL pc L' st S) : G g o k nL pc L st S := by
  obtain ⟨p, l', e, s, m, args, below, meth, c, Q⟩ := g
  exact fun ls H locs hl2 hP hS => h ls H locs (lv_sub hl2 ks hl) hP hS
theorem g_topi {x : Int32} (h : ∀ y : Int32, y = x → G g o k nL pc L (.int y :: st) S) : G g o k nL pc L (.int x :: st) S := h x rfl
theorem g_topl {x : Int64} (h : ∀ y : Int64, y = x → G g o k nL pc L (.long y :: st) S) : G g o k nL pc L (.long x :: st) S := h x rfl
theorem g_mem (h : ∀ S1 : Mem, S1 = S → G g o k nL pc L st S1) : G g o k nL pc L st S := h S rfl
theorem g_iconst (ok : Ok l g o nL cc own ret) {i : Int} {v : Int32} {n : Nat} (hd : decode cc pc = .ok (.iconst i, 1)) (hn : pc + 1 = n) (hv : Int32.ofInt i = v) (h : G g o k nL n L (.int v :: st) S) : G g o k nL pc L (st) S := by
  obtain ⟨p, l', e, s, m, args, below, meth, cD, Q⟩ := g
  obtain ⟨rfl, hx, hb, hml, hown, hts, hr, hlk, hK, hD, hSt, hZ⟩ := ok
  subst hn
  exact fun ls H locs hl hP hS => lv_iconst hx hb hd hv (h ls H locs hl hP hS)
theorem g_bipush (ok : Ok l g o nL cc own ret) {i : Int} {v : Int32} {n : Nat} (hd : decode cc pc = .ok (.bipush i, 2)) (hn : pc + 2 = n) (hv : (Int8.ofInt i).toInt32 = v) (h : G g o k nL n L (.int v :: st) S) : G g o k nL pc L (st) S := by
  obtain ⟨p, l', e, s, m, args, below, meth, cD, Q⟩ := g
  obtain ⟨rfl, hx, hb, hml, hown, hts, hr, hlk, hK, hD, hSt, hZ⟩ := ok
  subst hn
  exact fun ls H locs hl hP hS => lv_bipush hx hb hd hv (h ls H locs hl hP hS)
theorem g_sipush (ok : Ok l g o nL cc own ret) {i : Int} {v : Int32} {n : Nat} (hd : decode cc pc = .ok (.sipush i, 3)) (hn : pc + 3 = n) (hv : (Int16.ofInt i).toInt32 = v) (h : G g o k nL n L (.int v :: st) S) : G g o k nL pc L (st) S := by
  obtain ⟨p, l', e, s, m, args, below, meth, cD, Q⟩ := g
  obtain ⟨rfl, hx, hb, hml, hown, hts, hr, hlk, hK, hD, hSt, hZ⟩ := ok
  subst hn
  exact fun ls H locs hl hP hS => lv_sipush hx hb hd hv (h ls H locs hl hP hS)
theorem g_lconst (ok : Ok l g o nL cc own ret) {i : Fin 2} {v : Int64} {n : Nat} (hd : decode cc pc = .ok (.lconst i, 1)) (hn : pc + 1 = n) (hv : Int64.ofNat (i : Nat) = v) (h : G g o k nL n L (.long v :: st) S) : G g o k nL pc L (st) S := by
  obtain ⟨p, l', e, s, m, args, below, meth, cD, Q⟩ := g
  obtain ⟨rfl, hx, hb, hml, hown, hts, hr, hlk, hK, hD, hSt, hZ⟩ := ok
  subst hn
  exact fun ls H locs hl hP hS => lv_lconst hx hb hd hv (h ls H locs hl hP hS)
theorem g_ldc (ok : Ok l g o nL cc own ret) {i : Nat} {v : Int32} {n : Nat} (hd : decode cc pc = .ok (.ldc i, 2)) (hn : pc + 2 = n) (hc : Cond.constant own i v ∈ lw_tbl) (h : G g o k nL n L (.int v :: st) S) : G g o k nL pc L (st) S := by
  obtain ⟨p, l', e, s, m, args, below, meth, cD, Q⟩ := g
  obtain ⟨rfl, hx, hb, hml, hown, hts, hr, hlk, hK, hD, hSt, hZ⟩ := ok
  subst hn
  exact fun ls H locs hl hP hS => lv_ldc hx hb hown (hts _ hc rfl _) hd (h ls H locs hl hP hS)
theorem g_ldc2 (ok : Ok l g o nL cc own ret) {i : Nat} {v : Int64} {n : Nat} (hd : decode cc pc = .ok (.ldc2_w i, 3)) (hn : pc + 3 = n) (hc : Cond.constantLong own i v ∈ lw_tbl) (h : G g o k nL n L (.long v :: st) S) : G g o k nL pc L (st) S := by
  obtain ⟨p, l', e, s, m, args, below, meth, cD, Q⟩ := g
  obtain ⟨rfl, hx, hb, hml, hown, hts, hr, hlk, hK, hD, hSt, hZ⟩ := ok
  subst hn
  exact fun ls H locs hl hP hS => lv_ldc2 hx hb hown (hts _ hc rfl _) hd (h ls H locs hl hP hS)
theorem g_iload_n (ok : Ok l g o nL cc own ret) (j : Nat) {i : Fin 4} {x : Int32} {n : Nat} (hd : decode cc pc = .ok (.iload_n i, 1)) (hn : pc + 1 = n) (hj : L[j]? = some ((i : Nat), .int x)) (h : G g o k nL n L (.int x :: st) S) : G g o k nL pc L (st) S := by
  obtain ⟨p, l', e, s, m, args, below, meth, cD, Q⟩ := g
  obtain ⟨rfl, hx, hb, hml, hown, hts, hr, hlk, hK, hD, hSt, hZ⟩ := ok
  subst hn
  exact fun ls H locs hl hP hS => lv_iload_n hx hb hd rfl (lv_at hl j hj) (h ls H locs hl hP hS)
theorem g_iload (ok : Ok l g o nL cc own ret) (j : Nat) {i : Nat} {x : Int32} {n : Nat} (hd : decode cc pc = .ok (.iload i, 2)) (hn : pc + 2 = n) (hj : L[j]? = some (i, .int x)) (h : G g o k nL n L (.int x :: st) S) : G g o k nL pc L (st) S := by
  obtain ⟨p, l', e, s, m, args, below, meth, cD, Q⟩ := g
  obtain ⟨rfl, hx, hb, hml, hown, hts, hr, hlk, hK, hD, hSt, hZ⟩ := ok
  subst hn
  exact fun ls H locs hl hP hS => lv_iload hx hb hd (lv_at hl j hj) (h ls H locs hl hP hS)
theorem g_lload_n (ok : Ok l g o nL cc own ret) (j : Nat) {i : Fin 4} {x : Int64} {n : Nat} (hd : decode cc pc = .ok (.lload_n i, 1)) (hn : pc + 1 = n) (hj : L[j]? = some ((i : Nat), .long x)) (h : G g o k nL n L (.long x :: st) S) : G g o k nL pc L (st) S := by
  obtain ⟨p, l', e, s, m, args, below, meth, cD, Q⟩ := g
  obtain ⟨rfl, hx, hb, hml, hown, hts, hr, hlk, hK, hD, hSt, hZ⟩ := ok
  subst hn
  exact fun ls H locs hl hP hS => lv_lload_n hx hb hd rfl (lv_at hl j hj) (h ls H locs hl hP hS)
theorem g_lload (ok : Ok l g o nL cc own ret) (j : Nat) {i : Nat} {x : Int64} {n : Nat} (hd : decode cc pc = .ok (.lload i, 2)) (hn : pc + 2 = n) (hj : L[j]? = some (i, .long x)) (h : G g o k nL n L (.long x :: st) S) : G g o k nL pc L (st) S := by
  obtain ⟨p, l', e, s, m, args, below, meth, cD, Q⟩ := g
  obtain ⟨rfl, hx, hb, hml, hown, hts, hr, hlk, hK, hD, hSt, hZ⟩ := ok
  subst hn
  exact fun ls H locs hl hP hS => lv_lload hx hb hd (lv_at hl j hj) (h ls H locs hl hP hS)
theorem g_aload_n (ok : Ok l g o nL cc own ret) (j : Nat) {i : Fin 4} {x : Nat} {n : Nat} (hd : decode cc pc = .ok (.aload_n i, 1)) (hn : pc + 1 = n) (hj : L[j]? = some ((i : Nat), .ref x)) (h : G g o k nL n L (.ref x :: st) S) : G g o k nL pc L (st) S := by
  obtain ⟨p, l', e, s, m, args, below, meth, cD, Q⟩ := g
  obtain ⟨rfl, hx, hb, hml, hown, hts, hr, hlk, hK, hD, hSt, hZ⟩ := ok
  subst hn
  exact fun ls H locs hl hP hS => lv_aload_n hx hb hd rfl (lv_at hl j hj) (h ls H locs hl hP hS)
theorem g_aload (ok : Ok l g o nL cc own ret) (j : Nat) {i : Nat} {x : Nat} {n : Nat} (hd : decode cc pc = .ok (.aload i, 2)) (hn : pc + 2 = n) (hj : L[j]? = some (i, .ref x)) (h : G g o k nL n L (.ref x :: st) S) : G g o k nL pc L (st) S := by
  obtain ⟨p, l', e, s, m, args, below, meth, cD, Q⟩ := g
  obtain ⟨rfl, hx, hb, hml, hown, hts, hr, hlk, hK, hD, hSt, hZ⟩ := ok
  subst hn
  exact fun ls H locs hl hP hS => lv_aload hx hb hd (lv_at hl j hj) (h ls H locs hl hP hS)
theorem g_istore_n (ok : Ok l g o nL cc own ret) (L2 : List (Nat × Value)) {i : Fin 4} {x : Int32} {n : Nat} (hd : decode cc pc = .ok (.istore_n i, 1)) (hn : pc + 1 = n) (hi : (i : Nat) < nL) (hf : ((i : Nat), Value.int x) :: L.filter (fun q => !(q.1 == (i : Nat)) && !(q.1 + 1 == (i : Nat) && q.2.category == 2)) = L2) (h : G g o k nL n L2 (st) S) : G g o k nL pc L (.int x :: st) S := by
  obtain ⟨p, l', e, s, m, args, below, meth, cD, Q⟩ := g
  obtain ⟨rfl, hx, hb, hml, hown, hts, hr, hlk, hK, hD, hSt, hZ⟩ := ok
  subst hn
  exact fun ls H locs hl hP hS => lv_istore_n hx hb hd rfl hl hi hf (fun ls2 hl2 => h ls2 H locs hl2 hP hS)
theorem g_istore (ok : Ok l g o nL cc own ret) (L2 : List (Nat × Value)) {i : Nat} {x : Int32} {n : Nat} (hd : decode cc pc = .ok (.istore i, 2)) (hn : pc + 2 = n) (hi : i < nL) (hf : (i, Value.int x) :: L.filter (fun q => !(q.1 == i) && !(q.1 + 1 == i && q.2.category == 2)) = L2) (h : G g o k nL n L2 (st) S) : G g o k nL pc L (.int x :: st) S := by
  obtain ⟨p, l', e, s, m, args, below, meth, cD, Q⟩ := g
  obtain ⟨rfl, hx, hb, hml, hown, hts, hr, hlk, hK, hD, hSt, hZ⟩ := ok
  subst hn
  exact fun ls H locs hl hP hS => lv_istore hx hb hd hl hi hf (fun ls2 hl2 => h ls2 H locs hl2 hP hS)
theorem g_lstore_n (ok : Ok l g o nL cc own ret) (L2 : List (Nat × Value)) {i : Fin 4} {x : Int64} {n : Nat} (hd : decode cc pc = .ok (.lstore_n i, 1)) (hn : pc + 1 = n) (hi : (i : Nat) + 1 < nL) (hf : ((i : Nat), Value.long x) :: L.filter (fun q => !(q.1 == (i : Nat)) && (!(q.1 == (i : Nat) + 1) && !(q.1 + 1 == (i : Nat) && q.2.category == 2))) = L2) (h : G g o k nL n L2 (st) S) : G g o k nL pc L (.long x :: st) S := by
  obtain ⟨p, l', e, s, m, args, below, meth, cD, Q⟩ := g
  obtain ⟨rfl, hx, hb, hml, hown, hts, hr, hlk, hK, hD, hSt, hZ⟩ := ok
  subst hn
  exact fun ls H locs hl hP hS => lv_lstore_n hx hb hd rfl hl hi hf (fun ls2 hl2 => h ls2 H locs hl2 hP hS)
theorem g_lstore (ok : Ok l g o nL cc own ret) (L2 : List (Nat × Value)) {i : Nat} {x : Int64} {n : Nat} (hd : decode cc pc = .ok (.lstore i, 2)) (hn : pc + 2 = n) (hi : i + 1 < nL) (hf : (i, Value.long x) :: L.filter (fun q => !(q.1 == i) && (!(q.1 == i + 1) && !(q.1 + 1 == i && q.2.category == 2))) = L2) (h : G g o k nL n L2 (st) S) : G g o k nL pc L (.long x :: st) S := by
  obtain ⟨p, l', e, s, m, args, below, meth, cD, Q⟩ := g
  obtain ⟨rfl, hx, hb, hml, hown, hts, hr, hlk, hK, hD, hSt, hZ⟩ := ok
  subst hn
  exact fun ls H locs hl hP hS => lv_lstore hx hb hd hl hi hf (fun ls2 hl2 => h ls2 H locs hl2 hP hS)
theorem g_astore_n (ok : Ok l g o nL cc own ret) (L2 : List (Nat × Value)) {i : Fin 4} {x : Nat} {n : Nat} (hd : decode cc pc = .ok (.astore_n i, 1)) (hn : pc + 1 = n) (hi : (i : Nat) < nL) (hf : ((i : Nat), Value.ref x) :: L.filter (fun q => !(q.1 == (i : Nat)) && !(q.1 + 1 == (i : Nat) && q.2.category == 2)) = L2) (h : G g o k nL n L2 (st) S) : G g o k nL pc L (.ref x :: st) S := by
  obtain ⟨p, l', e, s, m, args, below, meth, cD, Q⟩ := g
  obtain ⟨rfl, hx, hb, hml, hown, hts, hr, hlk, hK, hD, hSt, hZ⟩ := ok
  subst hn
  exact fun ls H locs hl hP hS => lv_astore_n hx hb hd rfl hl hi hf (fun ls2 hl2 => h ls2 H locs hl2 hP hS)
theorem g_astore (ok : Ok l g o nL cc own ret) (L2 : List (Nat × Value)) {i : Nat} {x : Nat} {n : Nat} (hd : decode cc pc = .ok (.astore i, 2)) (hn : pc + 2 = n) (hi : i < nL) (hf : (i, Value.ref x) :: L.filter (fun q => !(q.1 == i) && !(q.1 + 1 == i && q.2.category == 2)) = L2) (h : G g o k nL n L2 (st) S) : G g o k nL pc L (.ref x :: st) S := by
  obtain ⟨p, l', e, s, m, args, below, meth, cD, Q⟩ := g
  obtain ⟨rfl, hx, hb, hml, hown, hts, hr, hlk, hK, hD, hSt, hZ⟩ := ok
  subst hn
  exact fun ls H locs hl hP hS => lv_astore hx hb hd hl hi hf (fun ls2 hl2 => h ls2 H locs hl2 hP hS)
theorem g_iinc (ok : Ok l g o nL cc own ret) (j : Nat) (L2 : List (Nat × Value)) {i : Nat} {d : Int} {x v : Int32} {n : Nat} (hd : decode cc pc = .ok (.iinc i d, 3)) (hn : pc + 3 = n) (hj : L[j]? = some (i, .int x)) (hv : x + Int32.ofInt d = v) (hi : i < nL) (hf : (i, Value.int v) :: L.filter (fun q => !(q.1 == i) && !(q.1 + 1 == i && q.2.category == 2)) = L2) (h : G g o k nL n L2 (st) S) : G g o k nL pc L (st) S := by
  obtain ⟨p, l', e, s, m, args, below, meth, cD, Q⟩ := g
  obtain ⟨rfl, hx, hb, hml, hown, hts, hr, hlk, hK, hD, hSt, hZ⟩ := ok
  subst hn
  exact fun ls H locs hl hP hS => lv_iinc hx hb hd hl hj hv hi hf (fun ls2 hl2 => h ls2 H locs hl2 hP hS)
theorem g_iadd (ok : Ok l g o nL cc own ret) {x y : Int32} {n : Nat} (hd : decode cc pc = .ok (.iadd, 1)) (hn : pc + 1 = n)  (h : G g o k nL n L (.int (x + y) :: st) S) : G g o k nL pc L (.int y :: .int x :: st) S := by
  obtain ⟨p, l', e, s, m, args, below, meth, cD, Q⟩ := g
  obtain ⟨rfl, hx, hb, hml, hown, hts, hr, hlk, hK, hD, hSt, hZ⟩ := ok
  subst hn
  exact fun ls H locs hl hP hS => lv_iadd hx hb hd (h ls H locs hl hP hS)
theorem g_isub (ok : Ok l g o nL cc own ret) {x y : Int32} {n : Nat} (hd : decode cc pc = .ok (.isub, 1)) (hn : pc + 1 = n)  (h : G g o k nL n L (.int (x - y) :: st) S) : G g o k nL pc L (.int y :: .int x :: st) S := by
  obtain ⟨p, l', e, s, m, args, below, meth, cD, Q⟩ := g
  obtain ⟨rfl, hx, hb, hml, hown, hts, hr, hlk, hK, hD, hSt, hZ⟩ := ok
  subst hn
  exact fun ls H locs hl hP hS => lv_isub hx hb hd (h ls H locs hl hP hS)
theorem g_imul (ok : Ok l g o nL cc own ret) {x y : Int32} {n : Nat} (hd : decode cc pc = .ok (.imul, 1)) (hn : pc + 1 = n)  (h : G g o k nL n L (.int (x * y) :: st) S) : G g o k nL pc L (.int y :: .int x :: st) S := by
  obtain ⟨p, l', e, s, m, args, below, meth, cD, Q⟩ := g
  obtain ⟨rfl, hx, hb, hml, hown, hts, hr, hlk, hK, hD, hSt, hZ⟩ := ok
  subst hn
  exact fun ls H locs hl hP hS => lv_imul hx hb hd (h ls H locs hl hP hS)
theorem g_iand (ok : Ok l g o nL cc own ret) {x y : Int32} {n : Nat} (hd : decode cc pc = .ok (.iand, 1)) (hn : pc + 1 = n)  (h : G g o k nL n L (.int (x &&& y) :: st) S) : G g o k nL pc L (.int y :: .int x :: st) S := by
  obtain ⟨p, l', e, s, m, args, below, meth, cD, Q⟩ := g
  obtain ⟨rfl, hx, hb, hml, hown, hts, hr, hlk, hK, hD, hSt, hZ⟩ := ok
  subst hn
  exact fun ls H locs hl hP hS => lv_iand hx hb hd (h ls H locs hl hP hS)
theorem g_ior (ok : Ok l g o nL cc own ret) {x y : Int32} {n : Nat} (hd : decode cc pc = .ok (.ior, 1)) (hn : pc + 1 = n)  (h : G g o k nL n L (.int (x ||| y) :: st) S) : G g o k nL pc L (.int y :: .int x :: st) S := by
  obtain ⟨p, l', e, s, m, args, below, meth, cD, Q⟩ := g
  obtain ⟨rfl, hx, hb, hml, hown, hts, hr, hlk, hK, hD, hSt, hZ⟩ := ok
  subst hn
  exact fun ls H locs hl hP hS => lv_ior hx hb hd (h ls H locs hl hP hS)
theorem g_ixor (ok : Ok l g o nL cc own ret) {x y : Int32} {n : Nat} (hd : decode cc pc = .ok (.ixor, 1)) (hn : pc + 1 = n)  (h : G g o k nL n L (.int (x ^^^ y) :: st) S) : G g o k nL pc L (.int y :: .int x :: st) S := by
  obtain ⟨p, l', e, s, m, args, below, meth, cD, Q⟩ := g
  obtain ⟨rfl, hx, hb, hml, hown, hts, hr, hlk, hK, hD, hSt, hZ⟩ := ok
  subst hn
  exact fun ls H locs hl hP hS => lv_ixor hx hb hd (h ls H locs hl hP hS)
theorem g_ishl (ok : Ok l g o nL cc own ret) {x y : Int32} {n : Nat} (hd : decode cc pc = .ok (.ishl, 1)) (hn : pc + 1 = n)  (h : G g o k nL n L (.int (x <<< (y &&& 31)) :: st) S) : G g o k nL pc L (.int y :: .int x :: st) S := by
  obtain ⟨p, l', e, s, m, args, below, meth, cD, Q⟩ := g
  obtain ⟨rfl, hx, hb, hml, hown, hts, hr, hlk, hK, hD, hSt, hZ⟩ := ok
  subst hn
  exact fun ls H locs hl hP hS => lv_ishl hx hb hd (h ls H locs hl hP hS)
theorem g_ishr (ok : Ok l g o nL cc own ret) {x y : Int32} {n : Nat} (hd : decode cc pc = .ok (.ishr, 1)) (hn : pc + 1 = n)  (h : G g o k nL n L (.int (x >>> (y &&& 31)) :: st) S) : G g o k nL pc L (.int y :: .int x :: st) S := by
  obtain ⟨p, l', e, s, m, args, below, meth, cD, Q⟩ := g
  obtain ⟨rfl, hx, hb, hml, hown, hts, hr, hlk, hK, hD, hSt, hZ⟩ := ok
  subst hn
  exact fun ls H locs hl hP hS => lv_ishr hx hb hd (h ls H locs hl hP hS)
theorem g_ladd (ok : Ok l g o nL cc own ret) {x y : Int64} {n : Nat} (hd : decode cc pc = .ok (.ladd, 1)) (hn : pc + 1 = n)  (h : G g o k nL n L (.long (x + y) :: st) S) : G g o k nL pc L (.long y :: .long x :: st) S := by
  obtain ⟨p, l', e, s, m, args, below, meth, cD, Q⟩ := g
  obtain ⟨rfl, hx, hb, hml, hown, hts, hr, hlk, hK, hD, hSt, hZ⟩ := ok
  subst hn
  exact fun ls H locs hl hP hS => lv_ladd hx hb hd (h ls H locs hl hP hS)
theorem g_lmul (ok : Ok l g o nL cc own ret) {x y : Int64} {n : Nat} (hd : decode cc pc = .ok (.lmul, 1)) (hn : pc + 1 = n)  (h : G g o k nL n L (.long (x * y) :: st) S) : G g o k nL pc L (.long y :: .long x :: st) S := by
  obtain ⟨p, l', e, s, m, args, below, meth, cD, Q⟩ := g
  obtain ⟨rfl, hx, hb, hml, hown, hts, hr, hlk, hK, hD, hSt, hZ⟩ := ok
  subst hn
  exact fun ls H locs hl hP hS => lv_lmul hx hb hd (h ls H locs hl hP hS)
theorem g_lor (ok : Ok l g o nL cc own ret) {x y : Int64} {n : Nat} (hd : decode cc pc = .ok (.lor, 1)) (hn : pc + 1 = n)  (h : G g o k nL n L (.long (x ||| y) :: st) S) : G g o k nL pc L (.long y :: .long x :: st) S := by
  obtain ⟨p, l', e, s, m, args, below, meth, cD, Q⟩ := g
  obtain ⟨rfl, hx, hb, hml, hown, hts, hr, hlk, hK, hD, hSt, hZ⟩ := ok
  subst hn
  exact fun ls H locs hl hP hS => lv_lor hx hb hd (h ls H locs hl hP hS)
def jrem (x y : Int32) : Int32 := x - x / y * y
def jushr (x y : Int32) : Int32 := (x.toUInt32 >>> (y.toUInt32 &&& Int32.toUInt32 31)).toInt32
def jlshl (x : Int64) (y : Int32) : Int64 := x <<< (y.toInt64 &&& 63)
def jmax (x y : Int32) : Int32 := if x < y then y else x
def jmin (x y : Int32) : Int32 := if y < x then y else x
def jabs (x : Int32) : Int32 := if 0 ≤ x then x else 0 - x
theorem g_idiv (ok : Ok l g o nL cc own ret) {x y : Int32} {n : Nat} (hd : decode cc pc = .ok (.idiv, 1)) (hn : pc + 1 = n) (h0 : ¬ y = 0) (h : G g o k nL n L (.int (x / y) :: st) S) : G g o k nL pc L (.int y :: .int x :: st) S := by
  obtain ⟨p, l', e, s, m, args, below, meth, cD, Q⟩ := g
  obtain ⟨rfl, hx, hb, hml, hown, hts, hr, hlk, hK, hD, hSt, hZ⟩ := ok
  subst hn
  exact fun ls H locs hl hP hS => lv_idiv hx hb hd h0 (h ls H locs hl hP hS)
theorem g_irem (ok : Ok l g o nL cc own ret) {x y : Int32} {n : Nat} (hd : decode cc pc = .ok (.irem, 1)) (hn : pc + 1 = n) (h0 : ¬ y = 0) (h : G g o k nL n L (.int (jrem x y) :: st) S) : G g o k nL pc L (.int y :: .int x :: st) S := by
  obtain ⟨p, l', e, s, m, args, below, meth, cD, Q⟩ := g
  obtain ⟨rfl, hx, hb, hml, hown, hts, hr, hlk, hK, hD, hSt, hZ⟩ := ok
  subst hn
  exact fun ls H locs hl hP hS => lv_irem hx hb hd h0 (h ls H locs hl hP hS)
theorem g_ineg (ok : Ok l g o nL cc own ret) {x : Int32} {n : Nat} (hd : decode cc pc = .ok (.ineg, 1)) (hn : pc + 1 = n)  (h : G g o k nL n L (.int (-x) :: st) S) : G g o k nL pc L (.int x :: st) S := by
  obtain ⟨p, l', e, s, m, args, below, meth, cD, Q⟩ := g
  obtain ⟨rfl, hx, hb, hml, hown, hts, hr, hlk, hK, hD, hSt, hZ⟩ := ok
  subst hn
  exact fun ls H locs hl hP hS => lv_ineg hx hb hd (h ls H locs hl hP hS)
theorem g_iushr (ok : Ok l g o nL cc own ret) {x y : Int32} {n : Nat} (hd : decode cc pc = .ok (.iushr, 1)) (hn : pc + 1 = n)  (h : G g o k nL n L (.int (jushr x y) :: st) S) : G g o k nL pc L (.int y :: .int x :: st) S := by
  obtain ⟨p, l', e, s, m, args, below, meth, cD, Q⟩ := g
  obtain ⟨rfl, hx, hb, hml, hown, hts, hr, hlk, hK, hD, hSt, hZ⟩ := ok
  subst hn
  exact fun ls H locs hl hP hS => lv_iushr hx hb hd rfl (h ls H locs hl hP hS)
theorem g_lshl (ok : Ok l g o nL cc own ret) {x : Int64} {y : Int32} {n : Nat} (hd : decode cc pc = .ok (.lshl, 1)) (hn : pc + 1 = n)  (h : G g o k nL n L (.long (jlshl x y) :: st) S) : G g o k nL pc L (.int y :: .long x :: st) S := by
  obtain ⟨p, l', e, s, m, args, below, meth, cD, Q⟩ := g
  obtain ⟨rfl, hx, hb, hml, hown, hts, hr, hlk, hK, hD, hSt, hZ⟩ := ok
  subst hn
  exact fun ls H locs hl hP hS => lv_lshl hx hb hd rfl (h ls H locs hl hP hS)
theorem g_lcmp (ok : Ok l g o nL cc own ret) {x y : Int64} {n : Nat} (hd : decode cc pc = .ok (.lcmp, 1)) (hn : pc + 1 = n)  (h : G g o k nL n L (.int (lg_cmp x y) :: st) S) : G g o k nL pc L (.long y :: .long x :: st) S := by
  obtain ⟨p, l', e, s, m, args, below, meth, cD, Q⟩ := g
  obtain ⟨rfl, hx, hb, hml, hown, hts, hr, hlk, hK, hD, hSt, hZ⟩ := ok
  subst hn
  exact fun ls H locs hl hP hS => W.lcmp hx hb hd (h ls H locs hl hP hS)
theorem g_i2l (ok : Ok l g o nL cc own ret) {x : Int32} {n : Nat} (hd : decode cc pc = .ok (.i2l, 1)) (hn : pc + 1 = n)  (h : G g o k nL n L (.long x.toInt64 :: st) S) : G g o k nL pc L (.int x :: st) S := by
  obtain ⟨p, l', e, s, m, args, below, meth, cD, Q⟩ := g
  obtain ⟨rfl, hx, hb, hml, hown, hts, hr, hlk, hK, hD, hSt, hZ⟩ := ok
  subst hn
  exact fun ls H locs hl hP hS => lv_i2l hx hb hd rfl (h ls H locs hl hP hS)
theorem g_l2i (ok : Ok l g o nL cc own ret) {x : Int64} {n : Nat} (hd : decode cc pc = .ok (.l2i, 1)) (hn : pc + 1 = n)  (h : G g o k nL n L (.int x.toInt32 :: st) S) : G g o k nL pc L (.long x :: st) S := by
  obtain ⟨p, l', e, s, m, args, below, meth, cD, Q⟩ := g
  obtain ⟨rfl, hx, hb, hml, hown, hts, hr, hlk, hK, hD, hSt, hZ⟩ := ok
  subst hn
  exact fun ls H locs hl hP hS => lv_l2i hx hb hd rfl (h ls H locs hl hP hS)
theorem g_i2b (ok : Ok l g o nL cc own ret) {x : Int32} {n : Nat} (hd : decode cc pc = .ok (.i2b, 1)) (hn : pc + 1 = n)  (h : G g o k nL n L (.int x.toInt8.toInt32 :: st) S) : G g o k nL pc L (.int x :: st) S := by
  obtain ⟨p, l', e, s, m, args, below, meth, cD, Q⟩ := g
  obtain ⟨rfl, hx, hb, hml, hown, hts, hr, hlk, hK, hD, hSt, hZ⟩ := ok
  subst hn
  exact fun ls H locs hl hP hS => lv_i2b hx hb hd rfl (h ls H locs hl hP hS)
theorem g_i2s (ok : Ok l g o nL cc own ret) {x : Int32} {n : Nat} (hd : decode cc pc = .ok (.i2s, 1)) (hn : pc + 1 = n)  (h : G g o k nL n L (.int x.toInt16.toInt32 :: st) S) : G g o k nL pc L (.int x :: st) S := by
  obtain ⟨p, l', e, s, m, args, below, meth, cD, Q⟩ := g
  obtain ⟨rfl, hx, hb, hml, hown, hts, hr, hlk, hK, hD, hSt, hZ⟩ := ok
  subst hn
  exact fun ls H locs hl hP hS => lv_i2s hx hb hd rfl (h ls H locs hl hP hS)
theorem g_dup (ok : Ok l g o nL cc own ret) {x : Value} {n : Nat} (hd : decode cc pc = .ok (.dup, 1)) (hn : pc + 1 = n) (hc : x.category = 1) (h : G g o k nL n L (x :: x :: st) S) : G g o k nL pc L (x :: st) S := by
  obtain ⟨p, l', e, s, m, args, below, meth, cD, Q⟩ := g
  obtain ⟨rfl, hx, hb, hml, hown, hts, hr, hlk, hK, hD, hSt, hZ⟩ := ok
  subst hn
  exact fun ls H locs hl hP hS => lv_dup hx hb hd hc (h ls H locs hl hP hS)
theorem g_pop (ok : Ok l g o nL cc own ret) {x : Value} {n : Nat} (hd : decode cc pc = .ok (.pop, 1)) (hn : pc + 1 = n) (hc : x.category = 1) (h : G g o k nL n L (st) S) : G g o k nL pc L (x :: st) S := by
  obtain ⟨p, l', e, s, m, args, below, meth, cD, Q⟩ := g
  obtain ⟨rfl, hx, hb, hml, hown, hts, hr, hlk, hK, hD, hSt, hZ⟩ := ok
  subst hn
  exact fun ls H locs hl hP hS => lv_pop hx hb hd hc (h ls H locs hl hP hS)
theorem g_goto (ok : Ok l g o nL cc own ret) {off : Int} {t : Nat} (hd : decode cc pc = .ok (.goto off, 3)) (ht : (pc : Int) + off = (t : Int)) (h : G g o k nL t L st S) : G g o k nL pc L st S := by
  obtain ⟨p, l', e, s, m, args, below, meth, cD, Q⟩ := g
  obtain ⟨rfl, hx, hb, hml, hown, hts, hr, hlk, hK, hD, hSt, hZ⟩ := ok
  exact fun ls H locs hl hP hS => lv_goto hx hb hd ht (h ls H locs hl hP hS)
theorem g_if_eq (ok : Ok l g o nL cc own ret) {x : Int32} {off : Int} {t : Nat} {n : Nat} (hd : decode cc pc = .ok (.ifCond .eq off, 3)) (ht : (pc : Int) + off = (t : Int)) (hn : pc + 3 = n) (h1 : x = 0 → G g o k nL t L st S) (h2 : ¬ x = 0 → G g o k nL n L st S) : G g o k nL pc L (.int x :: st) S := by
  obtain ⟨p, l', e, s, m, args, below, meth, cD, Q⟩ := g
  obtain ⟨rfl, hx, hb, hml, hown, hts, hr, hlk, hK, hD, hSt, hZ⟩ := ok
  subst hn
  exact fun ls H locs hl hP hS => lv_if_eq hx hb hd ht (fun z => h1 z ls H locs hl hP hS) (fun z => h2 z ls H locs hl hP hS)
theorem g_if_ne (ok : Ok l g o nL cc own ret) {x : Int32} {off : Int} {t : Nat} {n : Nat} (hd : decode cc pc = .ok (.ifCond .ne off, 3)) (ht : (pc : Int) + off = (t : Int)) (hn : pc + 3 = n) (h1 : ¬ x = 0 → G g o k nL t L st S) (h2 : x = 0 → G g o k nL n L st S) : G g o k nL pc L (.int x :: st) S := by
  obtain ⟨p, l', e, s, m, args, below, meth, cD, Q⟩ := g
  obtain ⟨rfl, hx, hb, hml, hown, hts, hr, hlk, hK, hD, hSt, hZ⟩ := ok
  subst hn
  exact fun ls H locs hl hP hS => lv_if_ne hx hb hd ht (fun z => h1 z ls H locs hl hP hS) (fun z => h2 z ls H locs hl hP hS)
theorem g_if_lt (ok : Ok l g o nL cc own ret) {x : Int32} {off : Int} {t : Nat} {n : Nat} (hd : decode cc pc = .ok (.ifCond .lt off, 3)) (ht : (pc : Int) + off = (t : Int)) (hn : pc + 3 = n) (h1 : x < 0 → G g o k nL t L st S) (h2 : ¬ x < 0 → G g o k nL n L st S) : G g o k nL pc L (.int x :: st) S := by
  obtain ⟨p, l', e, s, m, args, below, meth, cD, Q⟩ := g
  obtain ⟨rfl, hx, hb, hml, hown, hts, hr, hlk, hK, hD, hSt, hZ⟩ := ok
  subst hn
  exact fun ls H locs hl hP hS => lv_if_lt hx hb hd ht (fun z => h1 z ls H locs hl hP hS) (fun z => h2 z ls H locs hl hP hS)
theorem g_if_ge (ok : Ok l g o nL cc own ret) {x : Int32} {off : Int} {t : Nat} {n : Nat} (hd : decode cc pc = .ok (.ifCond .ge off, 3)) (ht : (pc : Int) + off = (t : Int)) (hn : pc + 3 = n) (h1 : 0 ≤ x → G g o k nL t L st S) (h2 : ¬ 0 ≤ x → G g o k nL n L st S) : G g o k nL pc L (.int x :: st) S := by
  obtain ⟨p, l', e, s, m, args, below, meth, cD, Q⟩ := g
  obtain ⟨rfl, hx, hb, hml, hown, hts, hr, hlk, hK, hD, hSt, hZ⟩ := ok
  subst hn
  exact fun ls H locs hl hP hS => lv_if_ge hx hb hd ht (fun z => h1 z ls H locs hl hP hS) (fun z => h2 z ls H locs hl hP hS)
theorem g_if_gt (ok : Ok l g o nL cc own ret) {x : Int32} {off : Int} {t : Nat} {n : Nat} (hd : decode cc pc = .ok (.ifCond .gt off, 3)) (ht : (pc : Int) + off = (t : Int)) (hn : pc + 3 = n) (h1 : 0 < x → G g o k nL t L st S) (h2 : ¬ 0 < x → G g o k nL n L st S) : G g o k nL pc L (.int x :: st) S := by
  obtain ⟨p, l', e, s, m, args, below, meth, cD, Q⟩ := g
  obtain ⟨rfl, hx, hb, hml, hown, hts, hr, hlk, hK, hD, hSt, hZ⟩ := ok
  subst hn
  exact fun ls H locs hl hP hS => lv_if_gt hx hb hd ht (fun z => h1 z ls H locs hl hP hS) (fun z => h2 z ls H locs hl hP hS)
theorem g_if_le (ok : Ok l g o nL cc own ret) {x : Int32} {off : Int} {t : Nat} {n : Nat} (hd : decode cc pc = .ok (.ifCond .le off, 3)) (ht : (pc : Int) + off = (t : Int)) (hn : pc + 3 = n) (h1 : x ≤ 0 → G g o k nL t L st S) (h2 : ¬ x ≤ 0 → G g o k nL n L st S) : G g o k nL pc L (.int x :: st) S := by
  obtain ⟨p, l', e, s, m, args, below, meth, cD, Q⟩ := g
  obtain ⟨rfl, hx, hb, hml, hown, hts, hr, hlk, hK, hD, hSt, hZ⟩ := ok
  subst hn
  exact fun ls H locs hl hP hS => lv_if_le hx hb hd ht (fun z => h1 z ls H locs hl hP hS) (fun z => h2 z ls H locs hl hP hS)
theorem g_icmp_eq (ok : Ok l g o nL cc own ret) {x y : Int32} {off : Int} {t : Nat} {n : Nat} (hd : decode cc pc = .ok (.if_icmp .eq off, 3)) (ht : (pc : Int) + off = (t : Int)) (hn : pc + 3 = n) (h1 : x = y → G g o k nL t L st S) (h2 : ¬ x = y → G g o k nL n L st S) : G g o k nL pc L (.int y :: .int x :: st) S := by
  obtain ⟨p, l', e, s, m, args, below, meth, cD, Q⟩ := g
  obtain ⟨rfl, hx, hb, hml, hown, hts, hr, hlk, hK, hD, hSt, hZ⟩ := ok
  subst hn
  exact fun ls H locs hl hP hS => lv_icmp_eq hx hb hd ht (fun z => h1 z ls H locs hl hP hS) (fun z => h2 z ls H locs hl hP hS)
theorem g_icmp_ne (ok : Ok l g o nL cc own ret) {x y : Int32} {off : Int} {t : Nat} {n : Nat} (hd : decode cc pc = .ok (.if_icmp .ne off, 3)) (ht : (pc : Int) + off = (t : Int)) (hn : pc + 3 = n) (h1 : ¬ x = y → G g o k nL t L st S) (h2 : x = y → G g o k nL n L st S) : G g o k nL pc L (.int y :: .int x :: st) S := by
  obtain ⟨p, l', e, s, m, args, below, meth, cD, Q⟩ := g
  obtain ⟨rfl, hx, hb, hml, hown, hts, hr, hlk, hK, hD, hSt, hZ⟩ := ok
  subst hn
  exact fun ls H locs hl hP hS => lv_icmp_ne hx hb hd ht (fun z => h1 z ls H locs hl hP hS) (fun z => h2 z ls H locs hl hP hS)
theorem g_icmp_lt (ok : Ok l g o nL cc own ret) {x y : Int32} {off : Int} {t : Nat} {n : Nat} (hd : decode cc pc = .ok (.if_icmp .lt off, 3)) (ht : (pc : Int) + off = (t : Int)) (hn : pc + 3 = n) (h1 : x < y → G g o k nL t L st S) (h2 : ¬ x < y → G g o k nL n L st S) : G g o k nL pc L (.int y :: .int x :: st) S := by
  obtain ⟨p, l', e, s, m, args, below, meth, cD, Q⟩ := g
  obtain ⟨rfl, hx, hb, hml, hown, hts, hr, hlk, hK, hD, hSt, hZ⟩ := ok
  subst hn
  exact fun ls H locs hl hP hS => lv_icmp_lt hx hb hd ht (fun z => h1 z ls H locs hl hP hS) (fun z => h2 z ls H locs hl hP hS)
theorem g_icmp_ge (ok : Ok l g o nL cc own ret) {x y : Int32} {off : Int} {t : Nat} {n : Nat} (hd : decode cc pc = .ok (.if_icmp .ge off, 3)) (ht : (pc : Int) + off = (t : Int)) (hn : pc + 3 = n) (h1 : y ≤ x → G g o k nL t L st S) (h2 : ¬ y ≤ x → G g o k nL n L st S) : G g o k nL pc L (.int y :: .int x :: st) S := by
  obtain ⟨p, l', e, s, m, args, below, meth, cD, Q⟩ := g
  obtain ⟨rfl, hx, hb, hml, hown, hts, hr, hlk, hK, hD, hSt, hZ⟩ := ok
  subst hn
  exact fun ls H locs hl hP hS => lv_icmp_ge hx hb hd ht (fun z => h1 z ls H locs hl hP hS) (fun z => h2 z ls H locs hl hP hS)
theorem g_icmp_gt (ok : Ok l g o nL cc own ret) {x y : Int32} {off : Int} {t : Nat} {n : Nat} (hd : decode cc pc = .ok (.if_icmp .gt off, 3)) (ht : (pc : Int) + off = (t : Int)) (hn : pc + 3 = n) (h1 : y < x → G g o k nL t L st S) (h2 : ¬ y < x → G g o k nL n L st S) : G g o k nL pc L (.int y :: .int x :: st) S := by
  obtain ⟨p, l', e, s, m, args, below, meth, cD, Q⟩ := g
  obtain ⟨rfl, hx, hb, hml, hown, hts, hr, hlk, hK, hD, hSt, hZ⟩ := ok
  subst hn
  exact fun ls H locs hl hP hS => lv_icmp_gt hx hb hd ht (fun z => h1 z ls H locs hl hP hS) (fun z => h2 z ls H locs hl hP hS)
theorem g_icmp_le (ok : Ok l g o nL cc own ret) {x y : Int32} {off : Int} {t : Nat} {n : Nat} (hd : decode cc pc = .ok (.if_icmp .le off, 3)) (ht : (pc : Int) + off = (t : Int)) (hn : pc + 3 = n) (h1 : x ≤ y → G g o k nL t L st S) (h2 : ¬ x ≤ y → G g o k nL n L st S) : G g o k nL pc L (.int y :: .int x :: st) S := by
  obtain ⟨p, l', e, s, m, args, below, meth, cD, Q⟩ := g
  obtain ⟨rfl, hx, hb, hml, hown, hts, hr, hlk, hK, hD, hSt, hZ⟩ := ok
  subst hn
  exact fun ls H locs hl hP hS => lv_icmp_le hx hb hd ht (fun z => h1 z ls H locs hl hP hS) (fun z => h2 z ls H locs hl hP hS)
theorem g_tsIn (ok : Ok l g o nL cc own ret) {dflt lo hi : Int} {offs : Array Int} {len : Nat} {x : Int32} {off : Int} {t : Nat} (hd : decode cc pc = .ok (.tableswitch dflt lo hi offs, len)) (h1 : ¬ x.toInt < lo) (h2 : ¬ hi < x.toInt) (ho : offs[(x.toInt - lo).toNat]? = some off) (ht : (pc : Int) + off = (t : Int)) (h : G g o k nL t L st S) : G g o k nL pc L (.int x :: st) S := by
  obtain ⟨p, l', e, s, m, args, below, meth, cD, Q⟩ := g
  obtain ⟨rfl, hx, hb, hml, hown, hts, hr, hlk, hK, hD, hSt, hZ⟩ := ok
  exact fun ls H locs hl hP hS => lv_tableIn hx hb hd h1 h2 ho ht (h ls H locs hl hP hS)
theorem g_tsOut (ok : Ok l g o nL cc own ret) {dflt lo hi : Int} {offs : Array Int} {len : Nat} {x : Int32} {t : Nat} (hd : decode cc pc = .ok (.tableswitch dflt lo hi offs, len)) (hrg : x.toInt < lo ∨ hi < x.toInt) (ht : (pc : Int) + dflt = (t : Int)) (h : G g o k nL t L st S) : G g o k nL pc L (.int x :: st) S := by
  obtain ⟨p, l', e, s, m, args, below, meth, cD, Q⟩ := g
  obtain ⟨rfl, hx, hb, hml, hown, hts, hr, hlk, hK, hD, hSt, hZ⟩ := ok
  exact fun ls H locs hl hP hS => lv_tableOut hx hb hd hrg ht (h ls H locs hl hP hS)
theorem g_get (ok : Ok l g o nL cc own ret) {C : String} {T : u_T} {N ci index c fk : Nat} {fs : List Value} {v : Value} {n : Nat} (hc : c < o.1) (hsh : o.2.2.1 c (S c) = .inr (ci, fs)) (hcl : vwCl[ci]? = some (C, T, N)) (hk : fk < N) (hT : (T fk).1 = C) (hwl : WL (u_ws C T N)) (hlink : Cond.fieldLink own index C (T fk).2.1 (T fk).2.2.1 ∈ lw_tbl) (hv : fs[fk]? = some v) (hd : decode cc pc = .ok (.getfield index, 3)) (hn : pc + 3 = n) (h : G g o k nL n L (v :: st) S) : G g o k nL pc L (.ref (o.2.1 c) :: st) S := by
  obtain ⟨p, l', e, s, m, args, below, meth, cD, Q⟩ := g
  obtain ⟨rfl, hx, hb, hml, hown, hts, hr, hlk, hK, hD, hSt, hZ⟩ := ok
  subst hn
  exact fun ls H locs hl hP hS => va_get (Ts := u_ws C T N) hx hb (hwl.use hts) (fun _ z => z) hown hK hP c (gw_at' hc hsh) hcl fk hk (hts _ hlink rfl _) (fun _ z => by rw [← hT]; exact z) hv hd (h ls H locs hl hP hS)
theorem g_getN (ok : Ok l g o nL cc own ret) {host : String} {C : String} {T : u_T} {N ci index c fk : Nat} {fs : List Value} {v : Value} {n : Nat} (hc : c < o.1) (hsh : o.2.2.1 c (S c) = .inr (ci, fs)) (hcl : vwCl[ci]? = some (C, T, N)) (hk : fk < N) (hT : (T fk).1 = C) (hwl : WL (u_ws C T N)) (hlink : Cond.fieldLinkNest own index C (T fk).2.1 (T fk).2.2.1 host ∈ lw_tbl) (hv : fs[fk]? = some v) (hd : decode cc pc = .ok (.getfield index, 3)) (hn : pc + 3 = n) (h : G g o k nL n L (v :: st) S) : G g o k nL pc L (.ref (o.2.1 c) :: st) S := by
  obtain ⟨p, l', e, s, m, args, below, meth, cD, Q⟩ := g
  obtain ⟨rfl, hx, hb, hml, hown, hts, hr, hlk, hK, hD, hSt, hZ⟩ := ok
  subst hn
  exact fun ls H locs hl hP hS => va_getN (Ts := u_ws C T N) hx hb (hwl.use hts) (fun _ z => z) hown hK hP c (gw_at' hc hsh) hcl fk hk (hts _ hlink rfl _) (fun _ z => by rw [← hT]; exact z) hv hd (h ls H locs hl hP hS)
theorem g_put (ok : Ok l g o nL cc own ret) {C : String} {T : u_T} {N ci index c fk : Nat} {fs : List Value} {x : Int32} {n : Nat} {ty0 : Nat → FieldType} {ty : FieldType} (hc : c < o.1) (hsh : o.2.2.1 c (S c) = .inr (ci, fs)) (hcl : vwCl[ci]? = some (C, T, N)) (hk : fk < N) (hT : (T fk).1 = C) (hwl : WL (u_ws C T N)) (hlink : Cond.fieldLink own index C (T fk).2.1 (T fk).2.2.1 ∈ lw_tbl) (hty : ∀ j, j < N → parseFieldDescriptor (T j).2.2.1 = some (ty0 j)) (hnm : ∀ a, a < N → ∀ b, b < N → a ≠ b → (T a).2.1 ≠ (T b).2.1) (hfin : (T fk).2.2.2 = false) (hpd : parseFieldDescriptor (T fk).2.2.1 = some ty) (hnr : narrow ty (.int x) = .int x) (hft : fits ty (.int x) = true) (hl2 : fk < fs.length) (hup : o.2.2.1 c (upd (S c) fk x) = .inr (ci, fs.set fk (.int x))) (hd : decode cc pc = .ok (.putfield index, 3)) (hn : pc + 3 = n) (h : G g o k nL n L st (mset S c (upd (S c) fk x))) : G g o k nL pc L (.int x :: .ref (o.2.1 c) :: st) S := by
  obtain ⟨p, l', e, s, m, args, below, meth, cD, Q⟩ := g
  obtain ⟨rfl, hx, hb, hml, hown, hts, hr, hlk, hK, hD, hSt, hZ⟩ := ok
  subst hn
  intro ls H locs hl hP hS
  refine va_put (Ts := u_ws C T N) hx hb (hwl.use hts) (fun _ z => z) ty0 hty hnm hown hK hP (hD S) hS c (gw_at' hc hsh) hcl fk hk (hts _ hlink rfl _) (fun _ z => by rw [← hT]; exact z) hfin hpd hnr hft hl2 hd (fun H1 locs1 hP1 hD1 hS1 => ?_)
  rw [gw_set' hup] at hP1
  exact h ls H1 locs1 hl hP1 hS1
theorem g_putN (ok : Ok l g o nL cc own ret) {host : String} {C : String} {T : u_T} {N ci index c fk : Nat} {fs : List Value} {x : Int32} {n : Nat} {ty0 : Nat → FieldType} {ty : FieldType} (hc : c < o.1) (hsh : o.2.2.1 c (S c) = .inr (ci, fs)) (hcl : vwCl[ci]? = some (C, T, N)) (hk : fk < N) (hT : (T fk).1 = C) (hwl : WL (u_ws C T N)) (hlink : Cond.fieldLinkNest own index C (T fk).2.1 (T fk).2.2.1 host ∈ lw_tbl) (hty : ∀ j, j < N → parseFieldDescriptor (T j).2.2.1 = some (ty0 j)) (hnm : ∀ a, a < N → ∀ b, b < N → a ≠ b → (T a).2.1 ≠ (T b).2.1) (hfin : (T fk).2.2.2 = false) (hpd : parseFieldDescriptor (T fk).2.2.1 = some ty) (hnr : narrow ty (.int x) = .int x) (hft : fits ty (.int x) = true) (hl2 : fk < fs.length) (hup : o.2.2.1 c (upd (S c) fk x) = .inr (ci, fs.set fk (.int x))) (hd : decode cc pc = .ok (.putfield index, 3)) (hn : pc + 3 = n) (h : G g o k nL n L st (mset S c (upd (S c) fk x))) : G g o k nL pc L (.int x :: .ref (o.2.1 c) :: st) S := by
  obtain ⟨p, l', e, s, m, args, below, meth, cD, Q⟩ := g
  obtain ⟨rfl, hx, hb, hml, hown, hts, hr, hlk, hK, hD, hSt, hZ⟩ := ok
  subst hn
  intro ls H locs hl hP hS
  refine va_putN (Ts := u_ws C T N) hx hb (hwl.use hts) (fun _ z => z) ty0 hty hnm hown hK hP (hD S) hS c (gw_at' hc hsh) hcl fk hk (hts _ hlink rfl _) (fun _ z => by rw [← hT]; exact z) hfin hpd hnr hft hl2 hd (fun H1 locs1 hP1 hD1 hS1 => ?_)
  rw [gw_set' hup] at hP1
  exact h ls H1 locs1 hl hP1 hS1
theorem g_iald (ok : Ok l g o nL cc own ret) {c t0 N : Nat} {cA : ClassId} {i : Int32} {n : Nat} (hc : c < o.1) (hsh : o.2.2.1 c (S c) = .inl (cA, N, .inl (S c))) (ht : o.2.2.2.2.1[t0]? = some (cA, .int)) (hin : vp_in i N) (hd : decode cc pc = .ok (.iaload, 1)) (hn : pc + 1 = n) (h : G g o k nL n L (.int (S c i.toNatClampNeg) :: st) S) : G g o k nL pc L (.int i :: .ref (o.2.1 c) :: st) S := by
  obtain ⟨p, l', e, s, m, args, below, meth, cD, Q⟩ := g
  obtain ⟨rfl, hx, hb, hml, hown, hts, hr, hlk, hK, hD, hSt, hZ⟩ := ok
  subst hn
  exact fun ls H locs hl hP hS => va_iald hx hb hK hP c t0 (gw_at' hc hsh) ht hin hd (h ls H locs hl hP hS)
theorem g_iast (ok : Ok l g o nL cc own ret) {c t0 N : Nat} {cA : ClassId} {i x : Int32} {n : Nat} (hc : c < o.1) (hsh : ∀ f, o.2.2.1 c f = .inl (cA, N, .inl f)) (ht : o.2.2.2.2.1[t0]? = some (cA, .int)) (hin : vp_in i N) (hd : decode cc pc = .ok (.iastore, 1)) (hn : pc + 1 = n) (h : G g o k nL n L st (mset S c (upd (S c) i.toNatClampNeg x))) : G g o k nL pc L (.int x :: .int i :: .ref (o.2.1 c) :: st) S := by
  obtain ⟨p, l', e, s, m, args, below, meth, cD, Q⟩ := g
  obtain ⟨rfl, hx, hb, hml, hown, hts, hr, hlk, hK, hD, hSt, hZ⟩ := ok
  subst hn
  intro ls H locs hl hP hS
  refine va_iast hx hb hK hP (hD S) hS c t0 (gw_at' hc (hsh _)) ht hin hd (fun H1 locs1 hP1 hD1 hS1 => ?_)
  rw [gw_set' (hsh _)] at hP1
  exact h ls H1 locs1 hl hP1 hS1
theorem g_aald (ok : Ok l g o nL cc own ret) {c t0 N a : Nat} {cA : ClassId} {C : String} {f : Nat → Option Nat} {i : Int32} {n : Nat} (hc : c < o.1) (hsh : o.2.2.1 c (S c) = .inl (cA, N, .inr (.inr (.inr (.inr f))))) (ht : o.2.2.2.2.1[t0]? = some (cA, .object C)) (hin : vp_in i N) (hf : f i.toNatClampNeg = some a) (hd : decode cc pc = .ok (.aaload, 1)) (hn : pc + 1 = n) (h : G g o k nL n L (.ref a :: st) S) : G g o k nL pc L (.int i :: .ref (o.2.1 c) :: st) S := by
  obtain ⟨p, l', e, s, m, args, below, meth, cD, Q⟩ := g
  obtain ⟨rfl, hx, hb, hml, hown, hts, hr, hlk, hK, hD, hSt, hZ⟩ := ok
  subst hn
  intro ls H locs hl hP hS
  refine va_aldq hx hb hK hP c t0 (gw_at' hc hsh) ht hin hd ?_
  rw [hf]
  exact h ls H locs hl hP hS
theorem g_alen (ok : Ok l g o nL cc own ret) {c t0 : Nat} {cA : ClassId} {x : vp_A} {ty : FieldType} {v : Int32} {n : Nat} (hc : c < o.1) (hsh : o.2.2.1 c (S c) = .inl (cA, x)) (ht : o.2.2.2.2.1[t0]? = some (cA, ty)) (hv : Int32.ofNat x.1 = v) (hd : decode cc pc = .ok (.arraylength, 1)) (hn : pc + 1 = n) (h : G g o k nL n L (.int v :: st) S) : G g o k nL pc L (.ref (o.2.1 c) :: st) S := by
  obtain ⟨p, l', e, s, m, args, below, meth, cD, Q⟩ := g
  obtain ⟨rfl, hx, hb, hml, hown, hts, hr, hlk, hK, hD, hSt, hZ⟩ := ok
  subst hn
  exact fun ls H locs hl hP hS => va_alen hx hb hK hP c t0 (gw_at' hc hsh) ht hv hd (h ls H locs hl hP hS)
/-- a static that holds a table, and the table -/
theorem g_gets (ok : Ok l g o nL cc own ret) {C nm d : String} {v : Value} {index n : Nat} (hZs : ∀ (U : State) (H : Heap), o.2.2.2.2.2 U H → va_Z C nm d v (AX o) U H) (hlink : Cond.fieldLink own index C nm d ∈ lw_tbl) (hd : decode cc pc = .ok (.getstatic index, 3)) (hn : pc + 3 = n) (h : G g o k nL n L (v :: st) S) : G g o k nL pc L st S := by
  obtain ⟨p, l', e, s, m, args, below, meth, cD, Q⟩ := g
  obtain ⟨rfl, hx, hb, hml, hown, hts, hr, hlk, hK, hD, hSt, hZ⟩ := ok
  subst hn
  exact fun ls H locs hl hP hS => va_gets hx hb (hZs _ _ hZ) hS hown (hts _ hlink rfl _) (fun _ z => z) hd (h ls H locs hl hP hS)
theorem g_ti (ok : Ok l g o nL cc own ret) {t N : Nat} {f : Nat → Int32} {i : Int32} {n : Nat} (hTs : ∀ (U : State) (H : Heap), o.2.2.2.2.2 U H → va_T .int t N (fun j => .int (f j)) (AX o) U H) (hin : vp_in i N) (hd : decode cc pc = .ok (.iaload, 1)) (hn : pc + 1 = n) (h : G g o k nL n L (.int (f i.toNatClampNeg) :: st) S) : G g o k nL pc L (.int i :: .ref t :: st) S := by
  obtain ⟨p, l', e, s, m, args, below, meth, cD, Q⟩ := g
  obtain ⟨rfl, hx, hb, hml, hown, hts, hr, hlk, hK, hD, hSt, hZ⟩ := ok
  subst hn
  exact fun ls H locs hl hP hS => va_ti hx hb (hTs _ _ hZ) hS hin rfl hd (h ls H locs hl hP hS)
theorem g_mmax (ok : Ok l g o nL cc own ret) {x y : Int32} {index n : Nat} (hlink : Cond.methodLink own index Lib.Math.max.name ∈ lw_tbl) (hm1 : Cond.static Lib.Math.max.name ∈ lw_tbl) (hm2 : Cond.initialized "java/lang/Math" ∈ lw_tbl) (hm3 : Cond.code Lib.Math.max.name Lib.Math.max.code 2 (some .int) ∈ lw_tbl) (hk1 : 1 ≤ k) (hr1 : (st.map fun v => v.category).sum ≤ 8) (hd : decode cc pc = .ok (.invokestatic index, 3)) (hn : pc + 3 = n) (h : G g o k nL n L (.int (jmax x y) :: st) S) : G g o k nL pc L (.int y :: .int x :: st) S := by
  obtain ⟨p, l', e, s, m, args, below, meth, cD, Q⟩ := g
  obtain ⟨rfl, hx, hb, hml, hown, hts, hr, hlk, hK, hD, hSt, hZ⟩ := ok
  subst hn
  exact fun ls H locs hl hP hS => va_mmax hx hb (hml.trans hl.1.symm) hown (hts _ hlink rfl _) (hts _ hm1 rfl _) (hts _ hm2 rfl _) (hts _ hm3 rfl _) hk1 (by show _ + 13 ≤ 100 * k; omega) (Nat.zero_le _) (Nat.zero_le _) hd (h ls H locs hl hP hS)
theorem g_mmin (ok : Ok l g o nL cc own ret) {x y : Int32} {index n : Nat} (hlink : Cond.methodLink own index Lib.Math.min.name ∈ lw_tbl) (hm1 : Cond.static Lib.Math.min.name ∈ lw_tbl) (hm2 : Cond.initialized "java/lang/Math" ∈ lw_tbl) (hm3 : Cond.code Lib.Math.min.name Lib.Math.min.code 2 (some .int) ∈ lw_tbl) (hk1 : 1 ≤ k) (hr1 : (st.map fun v => v.category).sum ≤ 8) (hd : decode cc pc = .ok (.invokestatic index, 3)) (hn : pc + 3 = n) (h : G g o k nL n L (.int (jmin x y) :: st) S) : G g o k nL pc L (.int y :: .int x :: st) S := by
  obtain ⟨p, l', e, s, m, args, below, meth, cD, Q⟩ := g
  obtain ⟨rfl, hx, hb, hml, hown, hts, hr, hlk, hK, hD, hSt, hZ⟩ := ok
  subst hn
  exact fun ls H locs hl hP hS => va_mmin hx hb (hml.trans hl.1.symm) hown (hts _ hlink rfl _) (hts _ hm1 rfl _) (hts _ hm2 rfl _) (hts _ hm3 rfl _) hk1 (by show _ + 13 ≤ 100 * k; omega) (Nat.zero_le _) (Nat.zero_le _) hd (h ls H locs hl hP hS)
theorem g_mabs (ok : Ok l g o nL cc own ret) {x : Int32} {index n : Nat} (hlink : Cond.methodLink own index Lib.Math.abs.name ∈ lw_tbl) (hm1 : Cond.static Lib.Math.abs.name ∈ lw_tbl) (hm2 : Cond.initialized "java/lang/Math" ∈ lw_tbl) (hm3 : Cond.code Lib.Math.abs.name Lib.Math.abs.code 1 (some .int) ∈ lw_tbl) (hk1 : 1 ≤ k) (hr1 : (st.map fun v => v.category).sum ≤ 8) (hd : decode cc pc = .ok (.invokestatic index, 3)) (hn : pc + 3 = n) (h : G g o k nL n L (.int (jabs x) :: st) S) : G g o k nL pc L (.int x :: st) S := by
  obtain ⟨p, l', e, s, m, args, below, meth, cD, Q⟩ := g
  obtain ⟨rfl, hx, hb, hml, hown, hts, hr, hlk, hK, hD, hSt, hZ⟩ := ok
  subst hn
  exact fun ls H locs hl hP hS => va_mabs hx hb (hml.trans hl.1.symm) hown (hts _ hlink rfl _) (hts _ hm1 rfl _) (hts _ hm2 rfl _) (hts _ hm3 rfl _) hk1 (by show _ + 13 ≤ 100 * k; omega) (Nat.zero_le _) (Nat.zero_le _) hd (h ls H locs hl hP hS)
def CalC (y : MethodName) (bytes : ByteArray) (maxL : Nat) (rt : Option FieldType) (n : Nat) : Prop := Cond.code y bytes maxL rt ∈ lw_tbl ∧ Cond.initialized y.cls ∈ lw_tbl ∧ (y.cls ≠ "java/lang/invoke/MethodHandle" ∧ y.cls ≠ "java/lang/invoke/VarHandle") ∧ (∀ sig, parseMethodDescriptor y.desc = some sig → n = sig.parameters.length)
theorem calc_of {y : MethodName} {bytes : ByteArray} {maxL : Nat} {rt : Option FieldType} {n : Nat} (h1 : Cond.code y bytes maxL rt ∈ lw_tbl) (h2 : Cond.initialized y.cls ∈ lw_tbl) (h3 : y.cls ≠ "java/lang/invoke/MethodHandle" ∧ y.cls ≠ "java/lang/invoke/VarHandle" ∧ (parseMethodDescriptor y.desc).map (fun d => d.parameters.length) = some n) : CalC y bytes maxL rt n := by
  refine ⟨h1, h2, ⟨h3.1, h3.2.1⟩, fun sig h => ?_⟩
  have e := h3.2.2
  rw [h] at e
  exact (Option.some.inj e).symm
theorem rl_loc {kc k maxL : Nat} (h1 : kc + 1 ≤ k) (h2 : maxL ≤ 80) : 8 + (maxL + 11) + (rl kc).locals ≤ (rl k).locals := by
  show 8 + (maxL + 11) + 100 * kc ≤ 100 * k
  omega
theorem cw_B {s : State} {args : Array Value} {own : String} {index kc k : Nat} {y : MethodName} {bytes : ByteArray} {maxL n : Nat} {rt : Option FieldType} (hW : WD s) (hc : CalC y bytes maxL rt n) (hl : Cond.methodLink own index y ∈ lw_tbl) (hk : kc + 1 ≤ k) (hm : maxL ≤ 80) : CallB (rl k) s args own index y bytes maxL rt [Cond.code y bytes maxL rt] (rl kc) 0 0 n :=
  ⟨rfl, rfl, hk, rl_loc hk hm, fun w hw a' U hU => by
    rw [List.mem_singleton.mp hw]
    exact wd_warm (a := args) rfl hU (hW _ hc.1 rfl _), List.mem_singleton.mpr rfl, hW _ hc.1 rfl _, hW _ hc.2.1 rfl _, hc.2.2.1, hc.2.2.2, hW _ hl rfl _⟩
theorem cw_N {s : State} {args : Array Value} {own host : String} {index kc k : Nat} {y : MethodName} {bytes : ByteArray} {maxL n : Nat} {rt : Option FieldType} (hW : WD s) (hc : CalC y bytes maxL rt n) (hl : Cond.methodLinkNest own index y host ∈ lw_tbl) (hk : kc + 1 ≤ k) (hm : maxL ≤ 80) : va_CN (rl k) s args own index y host bytes maxL rt [Cond.code y bytes maxL rt] (rl kc) 0 0 n :=
  ⟨⟨rfl, rfl, hk, rl_loc hk hm, fun w hw a' U hU => by
    rw [List.mem_singleton.mp hw]
    exact wd_warm (a := args) rfl hU (hW _ hc.1 rfl _), List.mem_singleton.mpr rfl⟩, hW _ hc.1 rfl _, hW _ hc.2.1 rfl _, hc.2.2.1, hc.2.2.2, hW _ hl rfl _⟩
/-- a contract over the cells o: int, long, void -/
def MI (l : Launch) (y : MethodName) (bytes : ByteArray) (maxL : Nat) (rt : Option FieldType) (k : Nat) (o : OmT) (av : List Value) (S : Mem) (post : Int32 → Mem → Prop) : Prop := Met l y [Cond.code y bytes maxL rt] (rl k) (va_Pc av (BX o S)) (va_Qi post (fun S1 t => BX o S1 t) (AX o)) 0 0 (AX o)
def ML (l : Launch) (y : MethodName) (bytes : ByteArray) (maxL : Nat) (rt : Option FieldType) (k : Nat) (o : OmT) (av : List Value) (S : Mem) (post : Int64 → Mem → Prop) : Prop := Met l y [Cond.code y bytes maxL rt] (rl k) (va_Pc av (BX o S)) (va_Ql post (fun S1 t => BX o S1 t) (AX o)) 0 0 (AX o)
def MV (l : Launch) (y : MethodName) (bytes : ByteArray) (maxL : Nat) (rt : Option FieldType) (k : Nat) (o : OmT) (av : List Value) (S : Mem) (post : Mem → Prop) : Prop := Met l y [Cond.code y bytes maxL rt] (rl k) (va_Pc av (BX o S)) (va_Qv post (fun S1 t => BX o S1 t) (AX o)) 0 0 (AX o)
/-- .. and one that answers a cell of o -/
def MR (l : Launch) (y : MethodName) (bytes : ByteArray) (maxL : Nat) (rt : Option FieldType) (k : Nat) (o : OmT) (av : List Value) (S : Mem) (post : Nat → Mem → Prop) : Prop := Met l y [Cond.code y bytes maxL rt] (rl k) (va_Pc av (BX o S)) (va_Qr (fun u : Nat × Mem => post u.1 u.2) (fun u a t => a = o.2.1 u.1 ∧ BX o u.2 t) (AX o)) 0 0 (AX o)
theorem g_callVi (ok : Ok l g o nL cc own ret) {y : MethodName} {bytes : ByteArray} {maxL na index kc n : Nat} {rt : Option FieldType} {As rest : List Value} {post : Int32 → Mem → Prop} {C : String} {T : u_T} {N ci c : Nat} {fs : List Value} (hM : MI l y bytes maxL rt kc o (.ref (o.2.1 c) :: As) S post) (hcal : CalC y bytes maxL rt na) (hlink : Cond.methodLink own index y ∈ lw_tbl) (hinst : Cond.instanceMethod y ∈ lw_tbl) (hsel : Cond.selects C y y ∈ lw_tbl) (hc : c < o.1) (hsh : o.2.2.1 c (S c) = .inr (ci, fs)) (hcl : vwCl[ci]? = some (C, T, N)) (hk : kc + 1 ≤ k) (hmx : maxL ≤ 80) (hna : As.length = na) (hrs : (rest.map fun v => v.category).sum ≤ 8) (hd : decode cc pc = .ok (.invokevirtual index, 3)) (hn : pc + 3 = n) {st : List Value} (hst : st = As.reverse ++ .ref (o.2.1 c) :: rest) (kk : ∀ (r : Int32) (S1 : Mem), post r S1 → G g o k nL n L (.int r :: rest) S1) : G g o k nL pc L st S := by
  obtain ⟨p, l', e, s, m, args, below, meth, cD, Q⟩ := g
  obtain ⟨rfl, hx, hb, hml, hown, hts, hr, hlk, hK, hD, hSt, hZ⟩ := ok
  subst hn
  subst hst
  intro ls H locs hl hP hS
  exact va_calli (va_runV (As := As) (rest := rest) ⟨hx, hb, hml, hown, (fun (w : Cond) (hw : w ∈ ([] : List Cond)) => by cases hw)⟩ hM ⟨cw_B hts hcal hlink hk hmx, hts _ hinst rfl _, hts _ hsel rfl _⟩ ⟨bx_blind _, va_recv hK hP hcl (gw_at' hc hsh), fun U hU hW => ⟨rfl, bx_make hK hD hSt hZ hts hP hS hU hW⟩⟩ rfl hna hl.1 rfl (lv_room hrs) hd ⟨Nat.zero_le _, Nat.zero_le _⟩) hS (fun q _ h => h) (fun q h => h) (fun r S1 t H1 locs1 ht hvm hw hB hz hk1 hS1 => kk r S1 hw ls H1 locs1 hl (by rw [← ht]; exact hB.1) hS1)
theorem g_callVl (ok : Ok l g o nL cc own ret) {y : MethodName} {bytes : ByteArray} {maxL na index kc n : Nat} {rt : Option FieldType} {As rest : List Value} {post : Int64 → Mem → Prop} {C : String} {T : u_T} {N ci c : Nat} {fs : List Value} (hM : ML l y bytes maxL rt kc o (.ref (o.2.1 c) :: As) S post) (hcal : CalC y bytes maxL rt na) (hlink : Cond.methodLink own index y ∈ lw_tbl) (hinst : Cond.instanceMethod y ∈ lw_tbl) (hsel : Cond.selects C y y ∈ lw_tbl) (hc : c < o.1) (hsh : o.2.2.1 c (S c) = .inr (ci, fs)) (hcl : vwCl[ci]? = some (C, T, N)) (hk : kc + 1 ≤ k) (hmx : maxL ≤ 80) (hna : As.length = na) (hrs : (rest.map fun v => v.category).sum ≤ 8) (hd : decode cc pc = .ok (.invokevirtual index, 3)) (hn : pc + 3 = n) {st : List Value} (hst : st = As.reverse ++ .ref (o.2.1 c) :: rest) (kk : ∀ (r : Int64) (S1 : Mem), post r S1 → G g o k nL n L (.long r :: rest) S1) : G g o k nL pc L st S := by
  obtain ⟨p, l', e, s, m, args, below, meth, cD, Q⟩ := g
  obtain ⟨rfl, hx, hb, hml, hown, hts, hr, hlk, hK, hD, hSt, hZ⟩ := ok
  subst hn
  subst hst
  intro ls H locs hl hP hS
  exact va_calll (va_runV (As := As) (rest := rest) ⟨hx, hb, hml, hown, (fun (w : Cond) (hw : w ∈ ([] : List Cond)) => by cases hw)⟩ hM ⟨cw_B hts hcal hlink hk hmx, hts _ hinst rfl _, hts _ hsel rfl _⟩ ⟨bx_blind _, va_recv hK hP hcl (gw_at' hc hsh), fun U hU hW => ⟨rfl, bx_make hK hD hSt hZ hts hP hS hU hW⟩⟩ rfl hna hl.1 rfl (lv_room hrs) hd ⟨Nat.zero_le _, Nat.zero_le _⟩) hS (fun q _ h => h) (fun q h => h) (fun r S1 t H1 locs1 ht hvm hw hB hz hk1 hS1 => kk r S1 hw ls H1 locs1 hl (by rw [← ht]; exact hB.1) hS1)
theorem g_callVv (ok : Ok l g o nL cc own ret) {y : MethodName} {bytes : ByteArray} {maxL na index kc n : Nat} {rt : Option FieldType} {As rest : List Value} {post : Mem → Prop} {C : String} {T : u_T} {N ci c : Nat} {fs : List Value} (hM : MV l y bytes maxL rt kc o (.ref (o.2.1 c) :: As) S post) (hcal : CalC y bytes maxL rt na) (hlink : Cond.methodLink own index y ∈ lw_tbl) (hinst : Cond.instanceMethod y ∈ lw_tbl) (hsel : Cond.selects C y y ∈ lw_tbl) (hc : c < o.1) (hsh : o.2.2.1 c (S c) = .inr (ci, fs)) (hcl : vwCl[ci]? = some (C, T, N)) (hk : kc + 1 ≤ k) (hmx : maxL ≤ 80) (hna : As.length = na) (hrs : (rest.map fun v => v.category).sum ≤ 8) (hd : decode cc pc = .ok (.invokevirtual index, 3)) (hn : pc + 3 = n) {st : List Value} (hst : st = As.reverse ++ .ref (o.2.1 c) :: rest) (kk : ∀ (S1 : Mem), post S1 → G g o k nL n L rest S1) : G g o k nL pc L st S := by
  obtain ⟨p, l', e, s, m, args, below, meth, cD, Q⟩ := g
  obtain ⟨rfl, hx, hb, hml, hown, hts, hr, hlk, hK, hD, hSt, hZ⟩ := ok
  subst hn
  subst hst
  intro ls H locs hl hP hS
  exact va_callv (va_runV (As := As) (rest := rest) ⟨hx, hb, hml, hown, (fun (w : Cond) (hw : w ∈ ([] : List Cond)) => by cases hw)⟩ hM ⟨cw_B hts hcal hlink hk hmx, hts _ hinst rfl _, hts _ hsel rfl _⟩ ⟨bx_blind _, va_recv hK hP hcl (gw_at' hc hsh), fun U hU hW => ⟨rfl, bx_make hK hD hSt hZ hts hP hS hU hW⟩⟩ rfl hna hl.1 rfl (lv_room hrs) hd ⟨Nat.zero_le _, Nat.zero_le _⟩) hS (fun q _ h => h) (fun q h => h) (fun S1 t H1 locs1 ht hvm hw hB hz hk1 hS1 => kk S1 hw ls H1 locs1 hl (by rw [← ht]; exact hB.1) hS1)
theorem g_callVr (ok : Ok l g o nL cc own ret) {y : MethodName} {bytes : ByteArray} {maxL na index kc n : Nat} {rt : Option FieldType} {As rest : List Value} {post : Nat → Mem → Prop} {C : String} {T : u_T} {N ci c : Nat} {fs : List Value} (hM : MR l y bytes maxL rt kc o (.ref (o.2.1 c) :: As) S post) (hcal : CalC y bytes maxL rt na) (hlink : Cond.methodLink own index y ∈ lw_tbl) (hinst : Cond.instanceMethod y ∈ lw_tbl) (hsel : Cond.selects C y y ∈ lw_tbl) (hc : c < o.1) (hsh : o.2.2.1 c (S c) = .inr (ci, fs)) (hcl : vwCl[ci]? = some (C, T, N)) (hk : kc + 1 ≤ k) (hmx : maxL ≤ 80) (hna : As.length = na) (hrs : (rest.map fun v => v.category).sum ≤ 8) (hd : decode cc pc = .ok (.invokevirtual index, 3)) (hn : pc + 3 = n) {st : List Value} (hst : st = As.reverse ++ .ref (o.2.1 c) :: rest) (kk : ∀ (r : Nat) (S1 : Mem), post r S1 → G g o k nL n L (.ref (o.2.1 r) :: rest) S1) : G g o k nL pc L st S := by
  obtain ⟨p, l', e, s, m, args, below, meth, cD, Q⟩ := g
  obtain ⟨rfl, hx, hb, hml, hown, hts, hr, hlk, hK, hD, hSt, hZ⟩ := ok
  subst hn
  subst hst
  intro ls H locs hl hP hS
  exact va_callr (va_runV (As := As) (rest := rest) ⟨hx, hb, hml, hown, (fun (w : Cond) (hw : w ∈ ([] : List Cond)) => by cases hw)⟩ hM ⟨cw_B hts hcal hlink hk hmx, hts _ hinst rfl _, hts _ hsel rfl _⟩ ⟨bx_blind _, va_recv hK hP hcl (gw_at' hc hsh), fun U hU hW => ⟨rfl, bx_make hK hD hSt hZ hts hP hS hU hW⟩⟩ rfl hna hl.1 rfl (lv_room hrs) hd ⟨Nat.zero_le _, Nat.zero_le _⟩) hS (fun q _ h => h) (fun q h => h) (fun u ra t H1 locs1 ht hvm hw hB hz hk1 hS1 => by
    obtain ⟨hB1, hB2⟩ := hB
    subst hB1
    exact kk u.1 u.2 hw ls H1 locs1 hl (by rw [← ht]; exact hB2.1) hS1)
theorem g_callVNi (ok : Ok l g o nL cc own ret) {y : MethodName} {bytes : ByteArray} {maxL na index kc n : Nat} {rt : Option FieldType} {As rest : List Value} {post : Int32 → Mem → Prop} {host : String} {C : String} {T : u_T} {N ci c : Nat} {fs : List Value} (hM : MI l y bytes maxL rt kc o (.ref (o.2.1 c) :: As) S post) (hcal : CalC y bytes maxL rt na) (hlink : Cond.methodLinkNest own index y host ∈ lw_tbl) (hinst : Cond.instanceMethod y ∈ lw_tbl) (hsel : Cond.selects C y y ∈ lw_tbl) (hc : c < o.1) (hsh : o.2.2.1 c (S c) = .inr (ci, fs)) (hcl : vwCl[ci]? = some (C, T, N)) (hk : kc + 1 ≤ k) (hmx : maxL ≤ 80) (hna : As.length = na) (hrs : (rest.map fun v => v.category).sum ≤ 8) (hd : decode cc pc = .ok (.invokevirtual index, 3)) (hn : pc + 3 = n) {st : List Value} (hst : st = As.reverse ++ .ref (o.2.1 c) :: rest) (kk : ∀ (r : Int32) (S1 : Mem), post r S1 → G g o k nL n L (.int r :: rest) S1) : G g o k nL pc L st S := by
  obtain ⟨p, l', e, s, m, args, below, meth, cD, Q⟩ := g
  obtain ⟨rfl, hx, hb, hml, hown, hts, hr, hlk, hK, hD, hSt, hZ⟩ := ok
  subst hn
  subst hst
  intro ls H locs hl hP hS
  exact va_calli (va_runVN (As := As) (rest := rest) ⟨hx, hb, hml, hown, (fun (w : Cond) (hw : w ∈ ([] : List Cond)) => by cases hw)⟩ hM ⟨cw_N hts hcal hlink hk hmx, hts _ hinst rfl _, hts _ hsel rfl _⟩ ⟨bx_blind _, va_recv hK hP hcl (gw_at' hc hsh), fun U hU hW => ⟨rfl, bx_make hK hD hSt hZ hts hP hS hU hW⟩⟩ rfl hna hl.1 rfl (lv_room hrs) hd ⟨Nat.zero_le _, Nat.zero_le _⟩) hS (fun q _ h => h) (fun q h => h) (fun r S1 t H1 locs1 ht hvm hw hB hz hk1 hS1 => kk r S1 hw ls H1 locs1 hl (by rw [← ht]; exact hB.1) hS1)
theorem g_callVNl (ok : Ok l g o nL cc own ret) {y : MethodName} {bytes : ByteArray} {maxL na index kc n : Nat} {rt : Option FieldType} {As rest : List Value} {post : Int64 → Mem → Prop} {host : String} {C : String} {T : u_T} {N ci c : Nat} {fs : List Value} (hM : ML l y bytes maxL rt kc o (.ref (o.2.1 c) :: As) S post) (hcal : CalC y bytes maxL rt na) (hlink : Cond.methodLinkNest own index y host ∈ lw_tbl) (hinst : Cond.instanceMethod y ∈ lw_tbl) (hsel : Cond.selects C y y ∈ lw_tbl) (hc : c < o.1) (hsh : o.2.2.1 c (S c) = .inr (ci, fs)) (hcl : vwCl[ci]? = some (C, T, N)) (hk : kc + 1 ≤ k) (hmx : maxL ≤ 80) (hna : As.length = na) (hrs : (rest.map fun v => v.category).sum ≤ 8) (hd : decode cc pc = .ok (.invokevirtual index, 3)) (hn : pc + 3 = n) {st : List Value} (hst : st = As.reverse ++ .ref (o.2.1 c) :: rest) (kk : ∀ (r : Int64) (S1 : Mem), post r S1 → G g o k nL n L (.long r :: rest) S1) : G g o k nL pc L st S := by
  obtain ⟨p, l', e, s, m, args, below, meth, cD, Q⟩ := g
  obtain ⟨rfl, hx, hb, hml, hown, hts, hr, hlk, hK, hD, hSt, hZ⟩ := ok
  subst hn
  subst hst
  intro ls H locs hl hP hS
  exact va_calll (va_runVN (As := As) (rest := rest) ⟨hx, hb, hml, hown, (fun (w : Cond) (hw : w ∈ ([] : List Cond)) => by cases hw)⟩ hM ⟨cw_N hts hcal hlink hk hmx, hts _ hinst rfl _, hts _ hsel rfl _⟩ ⟨bx_blind _, va_recv hK hP hcl (gw_at' hc hsh), fun U hU hW => ⟨rfl, bx_make hK hD hSt hZ hts hP hS hU hW⟩⟩ rfl hna hl.1 rfl (lv_room hrs) hd ⟨Nat.zero_le _, Nat.zero_le _⟩) hS (fun q _ h => h) (fun q h => h) (fun r S1 t H1 locs1 ht hvm hw hB hz hk1 hS1 => kk r S1 hw ls H1 locs1 hl (by rw [← ht]; exact hB.1) hS1)
theorem g_callVNv (ok : Ok l g o nL cc own ret) {y : MethodName} {bytes : ByteArray} {maxL na index kc n : Nat} {rt : Option FieldType} {As rest : List Value} {post : Mem → Prop} {host : String} {C : String} {T : u_T} {N ci c : Nat} {fs : List Value} (hM : MV l y bytes maxL rt kc o (.ref (o.2.1 c) :: As) S post) (hcal : CalC y bytes maxL rt na) (hlink : Cond.methodLinkNest own index y host ∈ lw_tbl) (hinst : Cond.instanceMethod y ∈ lw_tbl) (hsel : Cond.selects C y y ∈ lw_tbl) (hc : c < o.1) (hsh : o.2.2.1 c (S c) = .inr (ci, fs)) (hcl : vwCl[ci]? = some (C, T, N)) (hk : kc + 1 ≤ k) (hmx : maxL ≤ 80) (hna : As.length = na) (hrs : (rest.map fun v => v.category).sum ≤ 8) (hd : decode cc pc = .ok (.invokevirtual index, 3)) (hn : pc + 3 = n) {st : List Value} (hst : st = As.reverse ++ .ref (o.2.1 c) :: rest) (kk : ∀ (S1 : Mem), post S1 → G g o k nL n L rest S1) : G g o k nL pc L st S := by
  obtain ⟨p, l', e, s, m, args, below, meth, cD, Q⟩ := g
  obtain ⟨rfl, hx, hb, hml, hown, hts, hr, hlk, hK, hD, hSt, hZ⟩ := ok
  subst hn
  subst hst
  intro ls H locs hl hP hS
  exact va_callv (va_runVN (As := As) (rest := rest) ⟨hx, hb, hml, hown, (fun (w : Cond) (hw : w ∈ ([] : List Cond)) => by cases hw)⟩ hM ⟨cw_N hts hcal hlink hk hmx, hts _ hinst rfl _, hts _ hsel rfl _⟩ ⟨bx_blind _, va_recv hK hP hcl (gw_at' hc hsh), fun U hU hW => ⟨rfl, bx_make hK hD hSt hZ hts hP hS hU hW⟩⟩ rfl hna hl.1 rfl (lv_room hrs) hd ⟨Nat.zero_le _, Nat.zero_le _⟩) hS (fun q _ h => h) (fun q h => h) (fun S1 t H1 locs1 ht hvm hw hB hz hk1 hS1 => kk S1 hw ls H1 locs1 hl (by rw [← ht]; exact hB.1) hS1)
theorem g_callVNr (ok : Ok l g o nL cc own ret) {y : MethodName} {bytes : ByteArray} {maxL na index kc n : Nat} {rt : Option FieldType} {As rest : List Value} {post : Nat → Mem → Prop} {host : String} {C : String} {T : u_T} {N ci c : Nat} {fs : List Value} (hM : MR l y bytes maxL rt kc o (.ref (o.2.1 c) :: As) S post) (hcal : CalC y bytes maxL rt na) (hlink : Cond.methodLinkNest own index y host ∈ lw_tbl) (hinst : Cond.instanceMethod y ∈ lw_tbl) (hsel : Cond.selects C y y ∈ lw_tbl) (hc : c < o.1) (hsh : o.2.2.1 c (S c) = .inr (ci, fs)) (hcl : vwCl[ci]? = some (C, T, N)) (hk : kc + 1 ≤ k) (hmx : maxL ≤ 80) (hna : As.length = na) (hrs : (rest.map fun v => v.category).sum ≤ 8) (hd : decode cc pc = .ok (.invokevirtual index, 3)) (hn : pc + 3 = n) {st : List Value} (hst : st = As.reverse ++ .ref (o.2.1 c) :: rest) (kk : ∀ (r : Nat) (S1 : Mem), post r S1 → G g o k nL n L (.ref (o.2.1 r) :: rest) S1) : G g o k nL pc L st S := by
  obtain ⟨p, l', e, s, m, args, below, meth, cD, Q⟩ := g
  obtain ⟨rfl, hx, hb, hml, hown, hts, hr, hlk, hK, hD, hSt, hZ⟩ := ok
  subst hn
  subst hst
  intro ls H locs hl hP hS
  exact va_callr (va_runVN (As := As) (rest := rest) ⟨hx, hb, hml, hown, (fun (w : Cond) (hw : w ∈ ([] : List Cond)) => by cases hw)⟩ hM ⟨cw_N hts hcal hlink hk hmx, hts _ hinst rfl _, hts _ hsel rfl _⟩ ⟨bx_blind _, va_recv hK hP hcl (gw_at' hc hsh), fun U hU hW => ⟨rfl, bx_make hK hD hSt hZ hts hP hS hU hW⟩⟩ rfl hna hl.1 rfl (lv_room hrs) hd ⟨Nat.zero_le _, Nat.zero_le _⟩) hS (fun q _ h => h) (fun q h => h) (fun u ra t H1 locs1 ht hvm hw hB hz hk1 hS1 => by
    obtain ⟨hB1, hB2⟩ := hB
    subst hB1
    exact kk u.1 u.2 hw ls H1 locs1 hl (by rw [← ht]; exact hB2.1) hS1)
theorem g_callSi (ok : Ok l g o nL cc own ret) {y : MethodName} {bytes : ByteArray} {maxL na index kc n : Nat} {rt : Option FieldType} {As rest : List Value} {post : Int32 → Mem → Prop} (hM : MI l y bytes maxL rt kc o As S post) (hcal : CalC y bytes maxL rt na) (hlink : Cond.methodLink own index y ∈ lw_tbl) (hstat : Cond.static y ∈ lw_tbl) (hk : kc + 1 ≤ k) (hmx : maxL ≤ 80) (hna : As.length = na) (hrs : (rest.map fun v => v.category).sum ≤ 8) (hd : decode cc pc = .ok (.invokestatic index, 3)) (hn : pc + 3 = n) {st : List Value} (hst : st = As.reverse ++ rest) (kk : ∀ (r : Int32) (S1 : Mem), post r S1 → G g o k nL n L (.int r :: rest) S1) : G g o k nL pc L st S := by
  obtain ⟨p, l', e, s, m, args, below, meth, cD, Q⟩ := g
  obtain ⟨rfl, hx, hb, hml, hown, hts, hr, hlk, hK, hD, hSt, hZ⟩ := ok
  subst hn
  subst hst
  intro ls H locs hl hP hS
  exact va_calli (va_runS (As := As) (rest := rest) ⟨hx, hb, hml, hown, (fun (w : Cond) (hw : w ∈ ([] : List Cond)) => by cases hw)⟩ hM ⟨cw_B hts hcal hlink hk hmx, hts _ hstat rfl _⟩ ⟨bx_blind _, fun U hU hW => ⟨rfl, bx_make hK hD hSt hZ hts hP hS hU hW⟩⟩ rfl hna hl.1 rfl (lv_room hrs) hd ⟨Nat.zero_le _, Nat.zero_le _⟩) hS (fun q _ h => h) (fun q h => h) (fun r S1 t H1 locs1 ht hvm hw hB hz hk1 hS1 => kk r S1 hw ls H1 locs1 hl (by rw [← ht]; exact hB.1) hS1)
theorem g_callSNi (ok : Ok l g o nL cc own ret) {y : MethodName} {bytes : ByteArray} {maxL na index kc n : Nat} {rt : Option FieldType} {As rest : List Value} {post : Int32 → Mem → Prop} {host : String} (hM : MI l y bytes maxL rt kc o As S post) (hcal : CalC y bytes maxL rt na) (hlink : Cond.methodLinkNest own index y host ∈ lw_tbl) (hstat : Cond.static y ∈ lw_tbl) (hk : kc + 1 ≤ k) (hmx : maxL ≤ 80) (hna : As.length = na) (hrs : (rest.map fun v => v.category).sum ≤ 8) (hd : decode cc pc = .ok (.invokestatic index, 3)) (hn : pc + 3 = n) {st : List Value} (hst : st = As.reverse ++ rest) (kk : ∀ (r : Int32) (S1 : Mem), post r S1 → G g o k nL n L (.int r :: rest) S1) : G g o k nL pc L st S := by
  obtain ⟨p, l', e, s, m, args, below, meth, cD, Q⟩ := g
  obtain ⟨rfl, hx, hb, hml, hown, hts, hr, hlk, hK, hD, hSt, hZ⟩ := ok
  subst hn
  subst hst
  intro ls H locs hl hP hS
  exact va_calli (va_runSN (As := As) (rest := rest) ⟨hx, hb, hml, hown, (fun (w : Cond) (hw : w ∈ ([] : List Cond)) => by cases hw)⟩ hM ⟨cw_N hts hcal hlink hk hmx, hts _ hstat rfl _, trivial⟩ ⟨bx_blind _, fun U hU hW => ⟨rfl, bx_make hK hD hSt hZ hts hP hS hU hW⟩⟩ rfl hna hl.1 rfl (lv_room hrs) hd ⟨Nat.zero_le _, Nat.zero_le _⟩) hS (fun q _ h => h) (fun q h => h) (fun r S1 t H1 locs1 ht hvm hw hB hz hk1 hS1 => kk r S1 hw ls H1 locs1 hl (by rw [← ht]; exact hB.1) hS1)
def EndQ (g : CxT) (o : OmT) (Qc : Array Value → State → Outcome → State → Prop) : Prop := match g with
  | (_, _, _, s, _, args, below, _, _, Q) => Q = MQ below Qc args s 0 0 (AX o)
theorem g_iret (ok : Ok l g o nL cc own (some .int)) {post : Int32 → Mem → Prop} {x : Int32} (he : EndQ g o (va_Qi post (fun S1 t => BX o S1 t) (AX o))) (hp : post x S) (hd : decode cc pc = .ok (.ireturn, 1)) : G g o k nL pc L [.int x] S := by
  obtain ⟨p, l', e, s, m, args, below, meth, cD, Q⟩ := g
  obtain ⟨rfl, hx, hb, hml, hown, hts, hr, hlk, hK, hD, hSt, hZ⟩ := ok
  have he : Q = _ := he
  subst he
  intro ls H locs hl hP hS
  exact W.iret (v := x) hx hb hr (fun t ht hW => ⟨⟨x, S, rfl, hp, bx_make hK hD hSt hZ hts hP hS ht hW⟩, hS.F ht⟩) hS.2.2 hd
theorem g_zret (ok : Ok l g o nL cc own (some .boolean)) {post : Int32 → Mem → Prop} {x : Int32} (he : EndQ g o (va_Qi post (fun S1 t => BX o S1 t) (AX o))) (hz : x = 0 ∨ x = 1) (hp : post x S) (hd : decode cc pc = .ok (.ireturn, 1)) : G g o k nL pc L [.int x] S := by
  obtain ⟨p, l', e, s, m, args, below, meth, cD, Q⟩ := g
  obtain ⟨rfl, hx, hb, hml, hown, hts, hr, hlk, hK, hD, hSt, hZ⟩ := ok
  have he : Q = _ := he
  subst he
  intro ls H locs hl hP hS
  exact W.zret (v := x) hx hb hr (by rcases hz with rfl | rfl <;> decide) (fun t ht hW => ⟨⟨x, S, rfl, hp, bx_make hK hD hSt hZ hts hP hS ht hW⟩, hS.F ht⟩) hS.2.2 hd
theorem g_lret (ok : Ok l g o nL cc own (some .long)) {post : Int64 → Mem → Prop} {x : Int64} (he : EndQ g o (va_Ql post (fun S1 t => BX o S1 t) (AX o))) (hp : post x S) (hd : decode cc pc = .ok (.lreturn, 1)) : G g o k nL pc L [.long x] S := by
  obtain ⟨p, l', e, s, m, args, below, meth, cD, Q⟩ := g
  obtain ⟨rfl, hx, hb, hml, hown, hts, hr, hlk, hK, hD, hSt, hZ⟩ := ok
  have he : Q = _ := he
  subst he
  intro ls H locs hl hP hS
  exact W.lret (v := x) hx hb hr (fun t ht hW => ⟨⟨x, S, rfl, hp, bx_make hK hD hSt hZ hts hP hS ht hW⟩, hS.F ht⟩) hS.2.2 hd
theorem g_vret (ok : Ok l g o nL cc own none) {post : Mem → Prop} (he : EndQ g o (va_Qv post (fun S1 t => BX o S1 t) (AX o))) (hp : post S) (hd : decode cc pc = .ok (.return_, 1)) : G g o k nL pc L [] S := by
  obtain ⟨p, l', e, s, m, args, below, meth, cD, Q⟩ := g
  obtain ⟨rfl, hx, hb, hml, hown, hts, hr, hlk, hK, hD, hSt, hZ⟩ := ok
  have he : Q = _ := he
  subst he
  intro ls H locs hl hP hS
  exact W.vret hx hb hr (fun t ht hW => ⟨⟨S, rfl, hp, bx_make hK hD hSt hZ hts hP hS ht hW⟩, hS.F ht⟩) hS.2.2 hd
theorem g_aret {C : String} (ok : Ok l g o nL cc own (some (.object C))) {post : Nat → Mem → Prop} {c : Nat} (he : EndQ g o (va_Qr (fun u : Nat × Mem => post u.1 u.2) (fun u a t => a = o.2.1 u.1 ∧ BX o u.2 t) (AX o))) (hp : post c S) (hd : decode cc pc = .ok (.areturn, 1)) : G g o k nL pc L [.ref (o.2.1 c)] S := by
  obtain ⟨p, l', e, s, m, args, below, meth, cD, Q⟩ := g
  obtain ⟨rfl, hx, hb, hml, hown, hts, hr, hlk, hK, hD, hSt, hZ⟩ := ok
  have he : Q = _ := he
  subst he
  intro ls H locs hl hP hS
  exact W.aret (v := .ref (o.2.1 c)) hx hb hr (Or.inl ⟨_, rfl⟩) (Or.inr ⟨_, rfl⟩) (fun t ht hW => ⟨⟨(c, S), o.2.1 c, rfl, hp, rfl, bx_make hK hD hSt hZ hts hP hS ht hW⟩, hS.F ht⟩) hS.2.2 hd
end
/-- a method's start: from the cells o holding S, with the arguments av -/
theorem met_start {l : Launch} {y : MethodName} {bytes : ByteArray} {maxL : Nat} {rt : Option FieldType} {k : Nat} {o : OmT} {av : List Value} {S : Mem} {Qc : Array Value → State → Outcome → State → Prop} (hy : plainName y.cls = true) (hlen : (lg_sl av).length ≤ maxL) (body : ∀ g : CxT, Ok l g o maxL bytes y.cls rt → EndQ g o Qc → G g o k maxL 0 (lv_args 0 av) [] S) : Met l y [Cond.code y bytes maxL rt] (rl k) (va_Pc av (BX o S)) Qc 0 0 (AX o) := by
  refine Met.ofW (cc := bytes) (maxL := maxL) (ret := rt) hy rfl ?_
  intro p e s m args below meth c s₁ B hml hv
  obtain ⟨rfl, hP, hK, hD, hSt, hZ, hW⟩ := hv
  have hown : s.vm.findClass y.cls = some m.cls := findClass_of_methodNamed B.named
  have hl := lv_entry av (n := maxL) hlen
  rw [lg_entry_eq]
  exact body (p, l, e, s, m, av.toArray, below, meth, c, _) ⟨rfl, B.exec, B.bytes, hml, hown, hW, B.returns, B.notSynchronized, hK, hD, hSt, hZ⟩ rfl _ _ _ hl hP va_S.rf
end
section
/-! THE TWO WORLDS: 52 cells of a TableRocks, 21 of the model; what each cell is, by its number -/
abbrev VxT : Type := (Nat → Nat) × (ClassId × ClassId × ClassId × ClassId) × va_G × (Nat → Nat) × (Nat → Nat) × (Nat → Nat)
abbrev VmT : Type := (Nat → Nat) × ClassId × va_G
def kdL : List Nat := [0, 1, 2, 3, 4, 4, 4, 4, 1, 2, 3, 4, 4, 4, 4, 5, 6, 7, 6, 8, 9, 7, 6, 8, 7, 6, 8, 7, 6, 8, 7, 6, 8, 7, 6, 8, 7, 6, 8, 10, 11, 12, 6, 13, 14, 15, 14, 15, 14, 15, 14, 15]
def kdX (c : Nat) : Nat := kdL.getD c 99
def exX (v : VxT) (K c : Nat) (f : Nat → Int32) : va_E := match K with
  | 0 => .inr (6, [.ref (v.1 1), .ref (v.1 8), .int (f 2), .ref (v.1 15), .ref (v.1 20), .int (f 5), .ref (v.1 39), .ref (v.1 43)])
  | 1 => .inr (5, [.ref (v.1 (c + 1)), .ref (v.1 (c + 2)), .int (f 2), .int (f 3), .int (f 4), .int (f 5), .int (f 6)])
  | 2 => .inl (v.2.1.1, 64, .inl f)
  | 3 => .inl (v.2.1.2.1, 4, .inr (.inr (.inr (.inr (fun i => some (v.1 (c + 1 + i)))))))
  | 4 => .inr (0, [.int (f 0), .int (f 1), .int (f 2)])
  | 5 => .inr (1, [.ref (v.1 (c + 1)), .ref (v.1 (c + 2)), .int (f 2), .int (f 3), .int (f 4), .int (f 5), .int (f 6), .int (f 7)])
  | 6 => .inl (v.2.1.1, 160, .inl f)
  | 7 => .inr (2, [.ref (v.1 (c + 1)), .ref (v.1 (c + 2)), .int (f 2)])
  | 8 => .inl (v.2.1.1, 3, .inl f)
  | 9 => .inl (v.2.1.2.2.1, 6, .inr (.inr (.inr (.inr (fun i => some (v.1 (c + 1 + 3 * i)))))))
  | 10 => .inr (4, [.ref (v.1 (c + 1)), .ref (v.1 (c + 2)), .ref (v.1 (c + 3)), .int (f 3), .int (f 4), .int (f 5), .int (f 6)])
  | 11 => .inl (v.2.1.1, 4, .inl f)
  | 12 => .inl (v.2.1.1, 6, .inl f)
  | 13 => .inl (v.2.1.2.2.2, 4, .inr (.inr (.inr (.inr (fun i => some (v.1 (c + 1 + 2 * i)))))))
  | 14 => .inr (3, [.int (f 0), .int (f 1), .ref (v.1 (c + 1))])
  | _ => .inl (v.2.1.1, 40, .inl f)
def strL : List (String × Nat × String) := [("TableRocks", 55, "slack 0 ; worth 0 - rock * 9 - lean ; spills lean + rock * 2 ;"), ("TableRocks$Reader", 101, "slack"), ("TableRocks$Reader", 107, "worth"), ("TableRocks$Reader", 109, "spills"), ("TableRocks$Reader", 111, "or"), ("TableRocks$Reader", 113, "and"), ("TableRocks$Reader", 115, "not"), ("TableRocks$Reader", 117, "rock"), ("TableRocks$Reader", 119, "lean"), ("TableRocks$Reader", 121, "turn"), ("TableRocks$Reader", 123, "y"), ("TableRocks$Reader", 125, "x"), ("TableRocks$Reader", 127, "give")]
def strLen : List Nat := [62, 5, 5, 6, 2, 3, 3, 4, 4, 4, 1, 1, 4]
def strByt : List (List Int32) := [[115, 108, 97, 99, 107, 32, 48, 32, 59, 32, 119, 111, 114, 116, 104, 32, 48, 32, 45, 32, 114, 111, 99, 107, 32, 42, 32, 57, 32, 45, 32, 108, 101, 97, 110, 32, 59, 32, 115, 112, 105, 108, 108, 115, 32, 108, 101, 97, 110, 32, 43, 32, 114, 111, 99, 107, 32, 42, 32, 50, 32, 59], [115, 108, 97, 99, 107], [119, 111, 114, 116, 104], [115, 112, 105, 108, 108, 115], [111, 114], [97, 110, 100], [110, 111, 116], [114, 111, 99, 107], [108, 101, 97, 110], [116, 117, 114, 110], [121], [120], [103, 105, 118, 101]]
def tUnder : List Int32 := [-1, 0, 0, 1, 2, 0]
def tWayY : List Int32 := [0, 1, 1, 1, 0, -1, -1, -1]
def tWayX : List Int32 := [1, 1, 0, -1, -1, -1, 0, 1]
def AXq (N : Nat) (q : Nat → Nat) : Nat → Prop := fun a => ∃ c, c < N ∧ a = q c
/-- what stands beside the cells: three static tables, String's flag, the texts (v's last three: where the tables, the texts, their bytes lie) -/
def StX (v : VxT) (U : State) (H : Heap) : Prop :=
  (va_Z "TableRocks$Leg" "UNDER" "[I" (.ref (v.2.2.2.1 0)) (AXq 52 v.1) U H ∧ va_T .int (v.2.2.2.1 0) 6 (fun j => .int (tUnder.getD j 0)) (AXq 52 v.1) U H) ∧
  (va_Z "TableRocks$Table" "WAY_Y" "[I" (.ref (v.2.2.2.1 1)) (AXq 52 v.1) U H ∧ va_T .int (v.2.2.2.1 1) 8 (fun j => .int (tWayY.getD j 0)) (AXq 52 v.1) U H) ∧
  (va_Z "TableRocks$Table" "WAY_X" "[I" (.ref (v.2.2.2.1 2)) (AXq 52 v.1) U H ∧ va_T .int (v.2.2.2.1 2) 8 (fun j => .int (tWayX.getD j 0)) (AXq 52 v.1) U H) ∧
  va_Z "java/lang/String" "COMPACT_STRINGS" "Z" (.int 1) (AXq 52 v.1) U H ∧
  (∀ i : Nat, i < 13 → ∀ x, strL[i]? = some x → vk_R x.1 x.2.1 x.2.2 (v.2.2.2.2.1 i) U) ∧
  vk_S 13 strLen strByt v.2.2.2.2.1 v.2.2.2.2.2 (AXq 52 v.1) U H ∧
  va_Zq "jdk/internal/util/Preconditions" "SIOOBE_FORMATTER" "Ljava/util/function/BiFunction;" (AXq 52 v.1) U H
abbrev oX (v : VxT) : OmT := (52, v.1, (fun c f => exX v (kdX c) c f), v.2.2.1, [(v.2.1.1, .int), (v.2.1.2.1, .object "TableRocks$Leg"), (v.2.1.2.2.1, .object "TableRocks$Rule"), (v.2.1.2.2.2, .object "TableRocks$Sheet")], StX v)
theorem stabX (v : VxT) : Stab (oX v) := by
  intro u U H1 hW hk h
  obtain ⟨⟨a1, a2⟩, ⟨b1, b2⟩, ⟨c1, c2⟩, d, e, f, g⟩ := h
  have hA : ∀ a : Nat, a < u.heap.size → ¬ AXq 52 v.1 a → H1[a]? = u.heap[a]? := hk
  exact ⟨⟨(va_Z.moved hW.alike a1).kept hA, (va_T.moved hW.alike a2).kept hA⟩, ⟨(va_Z.moved hW.alike b1).kept hA, (va_T.moved hW.alike b2).kept hA⟩, ⟨(va_Z.moved hW.alike c1).kept hA, (va_T.moved hW.alike c2).kept hA⟩, (va_Z.moved hW.alike d).kept hA, fun i hi x hx => vk_R.warm hW (e i hi x hx), (vk_S.moved hW.alike f).kept hA, (va_Zq.moved hW.alike g).kept hA⟩
theorem kd_lt {c K : Nat} (h : kdX c = K) (hK : K < 99) : c < 52 := by
  rcases Nat.lt_or_ge c 52 with z | z
  · exact z
  · have e : kdL.getD c 99 = 99 := by
      rw [List.getD_eq_getElem?_getD, List.getElem?_eq_none (by simpa [kdL] using z)]
      rfl
    have e2 : K = 99 := h.symm.trans e
    omega
theorem lt0 {v : VxT} {c : Nat} (h : kdX c = 0) : c < (oX v).1 := kd_lt h (by decide)
theorem sh0 {v : VxT} {c : Nat} (h : kdX c = 0) (f : Nat → Int32) : (oX v).2.2.1 c f = .inr (6, [.ref (v.1 1), .ref (v.1 8), .int (f 2), .ref (v.1 15), .ref (v.1 20), .int (f 5), .ref (v.1 39), .ref (v.1 43)]) := by
  show exX v (kdX c) c f = _
  rw [h]
  rfl
theorem lt1 {v : VxT} {c : Nat} (h : kdX c = 1) : c < (oX v).1 := kd_lt h (by decide)
theorem sh1 {v : VxT} {c : Nat} (h : kdX c = 1) (f : Nat → Int32) : (oX v).2.2.1 c f = .inr (5, [.ref (v.1 (c + 1)), .ref (v.1 (c + 2)), .int (f 2), .int (f 3), .int (f 4), .int (f 5), .int (f 6)]) := by
  show exX v (kdX c) c f = _
  rw [h]
  rfl
theorem lt2 {v : VxT} {c : Nat} (h : kdX c = 2) : c < (oX v).1 := kd_lt h (by decide)
theorem sh2 {v : VxT} {c : Nat} (h : kdX c = 2) (f : Nat → Int32) : (oX v).2.2.1 c f = .inl (v.2.1.1, 64, .inl f) := by
  show exX v (kdX c) c f = _
  rw [h]
  rfl
theorem lt3 {v : VxT} {c : Nat} (h : kdX c = 3) : c < (oX v).1 := kd_lt h (by decide)
theorem sh3 {v : VxT} {c : Nat} (h : kdX c = 3) (f : Nat → Int32) : (oX v).2.2.1 c f = .inl (v.2.1.2.1, 4, .inr (.inr (.inr (.inr (fun (i : Nat) => some (v.1 (c + 1 + i))))))) := by
  show exX v (kdX c) c f = _
  rw [h]
  rfl
theorem lt4 {v : VxT} {c : Nat} (h : kdX c = 4) : c < (oX v).1 := kd_lt h (by decide)
theorem sh4 {v : VxT} {c : Nat} (h : kdX c = 4) (f : Nat → Int32) : (oX v).2.2.1 c f = .inr (0, [.int (f 0), .int (f 1), .int (f 2)]) := by
  show exX v (kdX c) c f = _
  rw [h]
  rfl
theorem lt5 {v : VxT} {c : Nat} (h : kdX c = 5) : c < (oX v).1 := kd_lt h (by decide)
theorem sh5 {v : VxT} {c : Nat} (h : kdX c = 5) (f : Nat → Int32) : (oX v).2.2.1 c f = .inr (1, [.ref (v.1 (c + 1)), .ref (v.1 (c + 2)), .int (f 2), .int (f 3), .int (f 4), .int (f 5), .int (f 6), .int (f 7)]) := by
  show exX v (kdX c) c f = _
  rw [h]
  rfl
theorem lt6 {v : VxT} {c : Nat} (h : kdX c = 6) : c < (oX v).1 := kd_lt h (by decide)
theorem sh6 {v : VxT} {c : Nat} (h : kdX c = 6) (f : Nat → Int32) : (oX v).2.2.1 c f = .inl (v.2.1.1, 160, .inl f) := by
  show exX v (kdX c) c f = _
  rw [h]
  rfl
theorem lt7 {v : VxT} {c : Nat} (h : kdX c = 7) : c < (oX v).1 := kd_lt h (by decide)
theorem sh7 {v : VxT} {c : Nat} (h : kdX c = 7) (f : Nat → Int32) : (oX v).2.2.1 c f = .inr (2, [.ref (v.1 (c + 1)), .ref (v.1 (c + 2)), .int (f 2)]) := by
  show exX v (kdX c) c f = _
  rw [h]
  rfl
theorem lt8 {v : VxT} {c : Nat} (h : kdX c = 8) : c < (oX v).1 := kd_lt h (by decide)
theorem sh8 {v : VxT} {c : Nat} (h : kdX c = 8) (f : Nat → Int32) : (oX v).2.2.1 c f = .inl (v.2.1.1, 3, .inl f) := by
  show exX v (kdX c) c f = _
  rw [h]
  rfl
theorem lt9 {v : VxT} {c : Nat} (h : kdX c = 9) : c < (oX v).1 := kd_lt h (by decide)
theorem sh9 {v : VxT} {c : Nat} (h : kdX c = 9) (f : Nat → Int32) : (oX v).2.2.1 c f = .inl (v.2.1.2.2.1, 6, .inr (.inr (.inr (.inr (fun (i : Nat) => some (v.1 (c + 1 + 3 * i))))))) := by
  show exX v (kdX c) c f = _
  rw [h]
  rfl
theorem lt10 {v : VxT} {c : Nat} (h : kdX c = 10) : c < (oX v).1 := kd_lt h (by decide)
theorem sh10 {v : VxT} {c : Nat} (h : kdX c = 10) (f : Nat → Int32) : (oX v).2.2.1 c f = .inr (4, [.ref (v.1 (c + 1)), .ref (v.1 (c + 2)), .ref (v.1 (c + 3)), .int (f 3), .int (f 4), .int (f 5), .int (f 6)]) := by
  show exX v (kdX c) c f = _
  rw [h]
  rfl
theorem lt11 {v : VxT} {c : Nat} (h : kdX c = 11) : c < (oX v).1 := kd_lt h (by decide)
theorem sh11 {v : VxT} {c : Nat} (h : kdX c = 11) (f : Nat → Int32) : (oX v).2.2.1 c f = .inl (v.2.1.1, 4, .inl f) := by
  show exX v (kdX c) c f = _
  rw [h]
  rfl
theorem lt12 {v : VxT} {c : Nat} (h : kdX c = 12) : c < (oX v).1 := kd_lt h (by decide)
theorem sh12 {v : VxT} {c : Nat} (h : kdX c = 12) (f : Nat → Int32) : (oX v).2.2.1 c f = .inl (v.2.1.1, 6, .inl f) := by
  show exX v (kdX c) c f = _
  rw [h]
  rfl
theorem lt13 {v : VxT} {c : Nat} (h : kdX c = 13) : c < (oX v).1 := kd_lt h (by decide)
theorem sh13 {v : VxT} {c : Nat} (h : kdX c = 13) (f : Nat → Int32) : (oX v).2.2.1 c f = .inl (v.2.1.2.2.2, 4, .inr (.inr (.inr (.inr (fun (i : Nat) => some (v.1 (c + 1 + 2 * i))))))) := by
  show exX v (kdX c) c f = _
  rw [h]
  rfl
theorem lt14 {v : VxT} {c : Nat} (h : kdX c = 14) : c < (oX v).1 := kd_lt h (by decide)
theorem sh14 {v : VxT} {c : Nat} (h : kdX c = 14) (f : Nat → Int32) : (oX v).2.2.1 c f = .inr (3, [.int (f 0), .int (f 1), .ref (v.1 (c + 1))]) := by
  show exX v (kdX c) c f = _
  rw [h]
  rfl
theorem lt15 {v : VxT} {c : Nat} (h : kdX c = 15) : c < (oX v).1 := kd_lt h (by decide)
theorem sh15 {v : VxT} {c : Nat} (h : kdX c = 15) (f : Nat → Int32) : (oX v).2.2.1 c f = .inl (v.2.1.1, 40, .inl f) := by
  show exX v (kdX c) c f = _
  rw [h]
  rfl
theorem kd1_heights {c : Nat} (h : kdX c = 1) : kdX (c + 1) = 2 := (by decide : ∀ c, c < 52 → kdX c = 1 → kdX (c + 1) = 2) c (kd_lt h (by decide)) h
theorem kd1_legs {c : Nat} (h : kdX c = 1) : kdX (c + 2) = 3 := (by decide : ∀ c, c < 52 → kdX c = 1 → kdX (c + 2) = 3) c (kd_lt h (by decide)) h
theorem kd5_tape {c : Nat} (h : kdX c = 5) : kdX (c + 1) = 6 := (by decide : ∀ c, c < 52 → kdX c = 5 → kdX (c + 1) = 6) c (kd_lt h (by decide)) h
theorem kd5_rule {c : Nat} (h : kdX c = 5) : kdX (c + 2) = 7 := (by decide : ∀ c, c < 52 → kdX c = 5 → kdX (c + 2) = 7) c (kd_lt h (by decide)) h
theorem kd7_code {c : Nat} (h : kdX c = 7) : kdX (c + 1) = 6 := (by decide : ∀ c, c < 52 → kdX c = 7 → kdX (c + 1) = 6) c (kd_lt h (by decide)) h
theorem kd7_ends {c : Nat} (h : kdX c = 7) : kdX (c + 2) = 8 := (by decide : ∀ c, c < 52 → kdX c = 7 → kdX (c + 2) = 8) c (kd_lt h (by decide)) h
theorem kd10_at {c : Nat} (h : kdX c = 10) : kdX (c + 1) = 11 := (by decide : ∀ c, c < 52 → kdX c = 10 → kdX (c + 1) = 11) c (kd_lt h (by decide)) h
theorem kd10_names {c : Nat} (h : kdX c = 10) : kdX (c + 2) = 12 := (by decide : ∀ c, c < 52 → kdX c = 10 → kdX (c + 2) = 12) c (kd_lt h (by decide)) h
theorem kd10_stack {c : Nat} (h : kdX c = 10) : kdX (c + 3) = 6 := (by decide : ∀ c, c < 52 → kdX c = 10 → kdX (c + 3) = 6) c (kd_lt h (by decide)) h
theorem kd14_items {c : Nat} (h : kdX c = 14) : kdX (c + 1) = 15 := (by decide : ∀ c, c < 52 → kdX c = 14 → kdX (c + 1) = 15) c (kd_lt h (by decide)) h
theorem kdE3 {c : Nat} {x : Int32} (h : kdX c = 3) (hi : vp_in x 4) : kdX (c + 1 + x.toNatClampNeg) = 4 := (by decide : ∀ c, c < 52 → ∀ i, i < 4 → kdX c = 3 → kdX (c + 1 + i) = 4) c (kd_lt h (by decide)) _ (Nat.not_le.mp fun q => hi (Or.inr q)) h
theorem kdE9 {c : Nat} {x : Int32} (h : kdX c = 9) (hi : vp_in x 6) : kdX (c + 1 + 3 * x.toNatClampNeg) = 7 := (by decide : ∀ c, c < 52 → ∀ i, i < 6 → kdX c = 9 → kdX (c + 1 + 3 * i) = 7) c (kd_lt h (by decide)) _ (Nat.not_le.mp fun q => hi (Or.inr q)) h
theorem kdE13 {c : Nat} {x : Int32} (h : kdX c = 13) (hi : vp_in x 4) : kdX (c + 1 + 2 * x.toNatClampNeg) = 14 := (by decide : ∀ c, c < 52 → ∀ i, i < 4 → kdX c = 13 → kdX (c + 1 + 2 * i) = 14) c (kd_lt h (by decide)) _ (Nat.not_le.mp fun q => hi (Or.inr q)) h
def mLen : List Nat := [0, 64, 4, 4, 4, 56, 42, 13, 160, 960, 24, 170, 6, 170, 4, 4, 77, 4, 4, 160, 40]
def exM (v : VmT) (c : Nat) (f : Nat → Int32) : va_E := match c with
  | 0 => .inr (7, [.ref (v.1 1), .ref (v.1 2), .ref (v.1 3), .ref (v.1 4), .int (f 4), .int (f 5), .int (f 6), .int (f 7), .int (f 8), .ref (v.1 5), .ref (v.1 6), .ref (v.1 7), .ref (v.1 8), .int (f 13), .int (f 14), .int (f 15), .int (f 16), .int (f 17), .int (f 18), .int (f 19), .ref (v.1 9), .ref (v.1 10), .int (f 22), .ref (v.1 11), .int (f 24), .int (f 25), .int (f 26), .int (f 27), .ref (v.1 12), .ref (v.1 13), .ref (v.1 14), .int (f 31), .int (f 32), .int (f 33), .int (f 34), .int (f 35), .int (f 36), .ref (v.1 15), .int (f 38), .ref (v.1 16), .int (f 40), .int (f 41), .ref (v.1 17), .ref (v.1 18), .ref (v.1 19), .ref (v.1 20)])
  | c + 1 => .inl (v.2.1, mLen.getD (c + 1) 0, .inl f)
abbrev oM (v : VmT) : OmT := (21, v.1, (fun c f => exM v c f), v.2.2, [(v.2.1, .int)], fun _ _ => True)
theorem stabM (v : VmT) : Stab (oM v) := fun _ _ _ _ _ _ => trivial
theorem tw_45 : Cond.lays RX0 RX0 "kind" "I" ∈ lw_tbl := tm 45 (by decide +kernel)
theorem tw_47 : Cond.lays RX0 RX0 "length" "I" ∈ lw_tbl := tm 47 (by decide +kernel)
theorem tw_49 : Cond.lays RX0 RX0 "number" "I" ∈ lw_tbl := tm 49 (by decide +kernel)
theorem wlX0 : WL (u_ws RX0 TX0 3) := by
  show WL [u_lay RX0 TX0 0, u_lay RX0 TX0 1, u_lay RX0 TX0 2]
  exact wl_cons tw_45 rfl (wl_cons tw_47 rfl (wl_cons tw_49 rfl (wl_nil)))
theorem tw_116 : Cond.laysFinal RX1 RX1 "tape" "[I" ∈ lw_tbl := tm 116 (by decide +kernel)
theorem tw_118 : Cond.laysFinal RX1 RX1 "rule" "LTableRocks$Rule;" ∈ lw_tbl := tm 118 (by decide +kernel)
theorem tw_120 : Cond.lays RX1 RX1 "size" "I" ∈ lw_tbl := tm 120 (by decide +kernel)
theorem tw_122 : Cond.lays RX1 RX1 "token" "I" ∈ lw_tbl := tm 122 (by decide +kernel)
theorem tw_124 : Cond.lays RX1 RX1 "place" "I" ∈ lw_tbl := tm 124 (by decide +kernel)
theorem tw_126 : Cond.lays RX1 RX1 "behind" "I" ∈ lw_tbl := tm 126 (by decide +kernel)
theorem tw_128 : Cond.lays RX1 RX1 "number" "I" ∈ lw_tbl := tm 128 (by decide +kernel)
theorem tw_130 : Cond.lays RX1 RX1 "fault" "I" ∈ lw_tbl := tm 130 (by decide +kernel)
theorem wlX1 : WL (u_ws RX1 TX1 8) := by
  show WL [u_lay RX1 TX1 0, u_lay RX1 TX1 1, u_lay RX1 TX1 2, u_lay RX1 TX1 3, u_lay RX1 TX1 4, u_lay RX1 TX1 5, u_lay RX1 TX1 6, u_lay RX1 TX1 7]
  exact wl_cons tw_116 rfl (wl_cons tw_118 rfl (wl_cons tw_120 rfl (wl_cons tw_122 rfl (wl_cons tw_124 rfl (wl_cons tw_126 rfl (wl_cons tw_128 rfl (wl_cons tw_130 rfl (wl_nil))))))))
theorem tw_99 : Cond.laysFinal RX2 RX2 "code" "[I" ∈ lw_tbl := tm 99 (by decide +kernel)
theorem tw_101 : Cond.laysFinal RX2 RX2 "ends" "[I" ∈ lw_tbl := tm 101 (by decide +kernel)
theorem tw_103 : Cond.lays RX2 RX2 "size" "I" ∈ lw_tbl := tm 103 (by decide +kernel)
theorem wlX2 : WL (u_ws RX2 TX2 3) := by
  show WL [u_lay RX2 TX2 0, u_lay RX2 TX2 1, u_lay RX2 TX2 2]
  exact wl_cons tw_99 rfl (wl_cons tw_101 rfl (wl_cons tw_103 rfl (wl_nil)))
theorem tw_180 : Cond.lays RX3 RX3 "sort" "I" ∈ lw_tbl := tm 180 (by decide +kernel)
theorem tw_182 : Cond.lays RX3 RX3 "size" "I" ∈ lw_tbl := tm 182 (by decide +kernel)
theorem tw_184 : Cond.laysFinal RX3 RX3 "items" "[I" ∈ lw_tbl := tm 184 (by decide +kernel)
theorem wlX3 : WL (u_ws RX3 TX3 3) := by
  show WL [u_lay RX3 TX3 0, u_lay RX3 TX3 1, u_lay RX3 TX3 2]
  exact wl_cons tw_180 rfl (wl_cons tw_182 rfl (wl_cons tw_184 rfl (wl_nil)))
theorem tw_151 : Cond.laysFinal RX4 RX4 "at" "[I" ∈ lw_tbl := tm 151 (by decide +kernel)
theorem tw_153 : Cond.laysFinal RX4 RX4 "names" "[I" ∈ lw_tbl := tm 153 (by decide +kernel)
theorem tw_155 : Cond.laysFinal RX4 RX4 "stack" "[I" ∈ lw_tbl := tm 155 (by decide +kernel)
theorem tw_157 : Cond.lays RX4 RX4 "gap" "I" ∈ lw_tbl := tm 157 (by decide +kernel)
theorem tw_159 : Cond.lays RX4 RX4 "size" "I" ∈ lw_tbl := tm 159 (by decide +kernel)
theorem tw_161 : Cond.lays RX4 RX4 "rock" "I" ∈ lw_tbl := tm 161 (by decide +kernel)
theorem tw_163 : Cond.lays RX4 RX4 "lean" "I" ∈ lw_tbl := tm 163 (by decide +kernel)
theorem wlX4 : WL (u_ws RX4 TX4 7) := by
  show WL [u_lay RX4 TX4 0, u_lay RX4 TX4 1, u_lay RX4 TX4 2, u_lay RX4 TX4 3, u_lay RX4 TX4 4, u_lay RX4 TX4 5, u_lay RX4 TX4 6]
  exact wl_cons tw_151 rfl (wl_cons tw_153 rfl (wl_cons tw_155 rfl (wl_cons tw_157 rfl (wl_cons tw_159 rfl (wl_cons tw_161 rfl (wl_cons tw_163 rfl (wl_nil)))))))
theorem tw_68 : Cond.laysFinal RX5 RX5 "heights" "[I" ∈ lw_tbl := tm 68 (by decide +kernel)
theorem tw_70 : Cond.laysFinal RX5 RX5 "legs" "[LTableRocks$Leg;" ∈ lw_tbl := tm 70 (by decide +kernel)
theorem tw_72 : Cond.lays RX5 RX5 "place" "I" ∈ lw_tbl := tm 72 (by decide +kernel)
theorem tw_74 : Cond.lays RX5 RX5 "radius" "I" ∈ lw_tbl := tm 74 (by decide +kernel)
theorem tw_76 : Cond.lays RX5 RX5 "turn" "I" ∈ lw_tbl := tm 76 (by decide +kernel)
theorem tw_78 : Cond.lays RX5 RX5 "load" "I" ∈ lw_tbl := tm 78 (by decide +kernel)
theorem tw_80 : Cond.lays RX5 RX5 "rule" "I" ∈ lw_tbl := tm 80 (by decide +kernel)
theorem wlX5 : WL (u_ws RX5 TX5 7) := by
  show WL [u_lay RX5 TX5 0, u_lay RX5 TX5 1, u_lay RX5 TX5 2, u_lay RX5 TX5 3, u_lay RX5 TX5 4, u_lay RX5 TX5 5, u_lay RX5 TX5 6]
  exact wl_cons tw_68 rfl (wl_cons tw_70 rfl (wl_cons tw_72 rfl (wl_cons tw_74 rfl (wl_cons tw_76 rfl (wl_cons tw_78 rfl (wl_cons tw_80 rfl (wl_nil)))))))
theorem tw_351 : Cond.laysFinal RX7 RX7 "table" "LTableRocks$Table;" ∈ lw_tbl := tm 351 (by decide +kernel)
theorem tw_353 : Cond.laysFinal RX7 RX7 "kept" "LTableRocks$Table;" ∈ lw_tbl := tm 353 (by decide +kernel)
theorem tw_355 : Cond.lays RX7 RX7 "keeps" "Z" ∈ lw_tbl := tm 355 (by decide +kernel)
theorem tw_357 : Cond.laysFinal RX7 RX7 "reader" "LTableRocks$Reader;" ∈ lw_tbl := tm 357 (by decide +kernel)
theorem tw_359 : Cond.laysFinal RX7 RX7 "rules" "[LTableRocks$Rule;" ∈ lw_tbl := tm 359 (by decide +kernel)
theorem tw_361 : Cond.lays RX7 RX7 "ruleCount" "I" ∈ lw_tbl := tm 361 (by decide +kernel)
theorem tw_363 : Cond.laysFinal RX7 RX7 "stand" "LTableRocks$Stand;" ∈ lw_tbl := tm 363 (by decide +kernel)
theorem tw_365 : Cond.laysFinal RX7 RX7 "sheets" "[LTableRocks$Sheet;" ∈ lw_tbl := tm 365 (by decide +kernel)
theorem wlX7 : WL (u_ws RX7 TX7 8) := by
  show WL [u_lay RX7 TX7 0, u_lay RX7 TX7 1, u_lay RX7 TX7 2, u_lay RX7 TX7 3, u_lay RX7 TX7 4, u_lay RX7 TX7 5, u_lay RX7 TX7 6, u_lay RX7 TX7 7]
  exact wl_cons tw_351 rfl (wl_cons tw_353 rfl (wl_cons tw_355 rfl (wl_cons tw_357 rfl (wl_cons tw_359 rfl (wl_cons tw_361 rfl (wl_cons tw_363 rfl (wl_cons tw_365 rfl (wl_nil))))))))
theorem tw_885 : Cond.laysFinal RX8 RX8 "heights" "[I" ∈ lw_tbl := tm 885 (by decide +kernel)
theorem tw_887 : Cond.laysFinal RX8 RX8 "kinds" "[I" ∈ lw_tbl := tm 887 (by decide +kernel)
theorem tw_889 : Cond.laysFinal RX8 RX8 "longs" "[I" ∈ lw_tbl := tm 889 (by decide +kernel)
theorem tw_891 : Cond.laysFinal RX8 RX8 "numbers" "[I" ∈ lw_tbl := tm 891 (by decide +kernel)
theorem tw_893 : Cond.lays RX8 RX8 "place" "I" ∈ lw_tbl := tm 893 (by decide +kernel)
theorem tw_895 : Cond.lays RX8 RX8 "radius" "I" ∈ lw_tbl := tm 895 (by decide +kernel)
theorem tw_897 : Cond.lays RX8 RX8 "turned" "I" ∈ lw_tbl := tm 897 (by decide +kernel)
theorem tw_899 : Cond.lays RX8 RX8 "load" "I" ∈ lw_tbl := tm 899 (by decide +kernel)
theorem tw_901 : Cond.lays RX8 RX8 "thrown" "I" ∈ lw_tbl := tm 901 (by decide +kernel)
theorem tw_903 : Cond.laysFinal RX8 RX8 "firstText" "[I" ∈ lw_tbl := tm 903 (by decide +kernel)
theorem tw_905 : Cond.laysFinal RX8 RX8 "letters" "[I" ∈ lw_tbl := tm 905 (by decide +kernel)
theorem tw_907 : Cond.laysFinal RX8 RX8 "wordAt" "[I" ∈ lw_tbl := tm 907 (by decide +kernel)
theorem tw_909 : Cond.laysFinal RX8 RX8 "tape" "[I" ∈ lw_tbl := tm 909 (by decide +kernel)
theorem tw_911 : Cond.lays RX8 RX8 "tapeMany" "I" ∈ lw_tbl := tm 911 (by decide +kernel)
theorem tw_913 : Cond.lays RX8 RX8 "textMany" "I" ∈ lw_tbl := tm 913 (by decide +kernel)
theorem tw_915 : Cond.lays RX8 RX8 "rule" "I" ∈ lw_tbl := tm 915 (by decide +kernel)
theorem tw_917 : Cond.lays RX8 RX8 "token" "I" ∈ lw_tbl := tm 917 (by decide +kernel)
theorem tw_919 : Cond.lays RX8 RX8 "tokenAt" "I" ∈ lw_tbl := tm 919 (by decide +kernel)
theorem tw_921 : Cond.lays RX8 RX8 "tokenValue" "I" ∈ lw_tbl := tm 921 (by decide +kernel)
theorem tw_923 : Cond.lays RX8 RX8 "next" "I" ∈ lw_tbl := tm 923 (by decide +kernel)
theorem tw_925 : Cond.laysFinal RX8 RX8 "steps" "[I" ∈ lw_tbl := tm 925 (by decide +kernel)
theorem tw_927 : Cond.laysFinal RX8 RX8 "bounds" "[I" ∈ lw_tbl := tm 927 (by decide +kernel)
theorem tw_929 : Cond.lays RX8 RX8 "stepMany" "I" ∈ lw_tbl := tm 929 (by decide +kernel)
theorem tw_931 : Cond.laysFinal RX8 RX8 "waiting" "[I" ∈ lw_tbl := tm 931 (by decide +kernel)
theorem tw_933 : Cond.lays RX8 RX8 "waitMany" "I" ∈ lw_tbl := tm 933 (by decide +kernel)
theorem tw_935 : Cond.lays RX8 RX8 "isDone" "Z" ∈ lw_tbl := tm 935 (by decide +kernel)
theorem tw_937 : Cond.lays RX8 RX8 "wantsOne" "Z" ∈ lw_tbl := tm 937 (by decide +kernel)
theorem tw_939 : Cond.lays RX8 RX8 "mayNot" "Z" ∈ lw_tbl := tm 939 (by decide +kernel)
theorem tw_941 : Cond.laysFinal RX8 RX8 "named" "[I" ∈ lw_tbl := tm 941 (by decide +kernel)
theorem tw_943 : Cond.laysFinal RX8 RX8 "stack" "[I" ∈ lw_tbl := tm 943 (by decide +kernel)
theorem tw_945 : Cond.laysFinal RX8 RX8 "at" "[I" ∈ lw_tbl := tm 945 (by decide +kernel)
theorem tw_947 : Cond.lays RX8 RX8 "gap" "I" ∈ lw_tbl := tm 947 (by decide +kernel)
theorem tw_949 : Cond.lays RX8 RX8 "size" "I" ∈ lw_tbl := tm 949 (by decide +kernel)
theorem tw_951 : Cond.lays RX8 RX8 "rock" "I" ∈ lw_tbl := tm 951 (by decide +kernel)
theorem tw_953 : Cond.lays RX8 RX8 "lean" "I" ∈ lw_tbl := tm 953 (by decide +kernel)
theorem tw_955 : Cond.lays RX8 RX8 "bearing" "I" ∈ lw_tbl := tm 955 (by decide +kernel)
theorem tw_957 : Cond.lays RX8 RX8 "loose" "I" ∈ lw_tbl := tm 957 (by decide +kernel)
theorem tw_959 : Cond.laysFinal RX8 RX8 "kept" "[I" ∈ lw_tbl := tm 959 (by decide +kernel)
theorem tw_961 : Cond.lays RX8 RX8 "hasImage" "Z" ∈ lw_tbl := tm 961 (by decide +kernel)
theorem tw_963 : Cond.laysFinal RX8 RX8 "imaged" "[I" ∈ lw_tbl := tm 963 (by decide +kernel)
theorem tw_965 : Cond.lays RX8 RX8 "imageAt" "I" ∈ lw_tbl := tm 965 (by decide +kernel)
theorem tw_967 : Cond.lays RX8 RX8 "isTaking" "Z" ∈ lw_tbl := tm 967 (by decide +kernel)
theorem tw_969 : Cond.laysFinal RX8 RX8 "sheetSort" "[I" ∈ lw_tbl := tm 969 (by decide +kernel)
theorem tw_971 : Cond.laysFinal RX8 RX8 "sheetMany" "[I" ∈ lw_tbl := tm 971 (by decide +kernel)
theorem tw_973 : Cond.laysFinal RX8 RX8 "sheets" "[I" ∈ lw_tbl := tm 973 (by decide +kernel)
theorem tw_975 : Cond.laysFinal RX8 RX8 "between" "[I" ∈ lw_tbl := tm 975 (by decide +kernel)
theorem wlX8 : WL (u_ws RX8 TX8 46) := by
  show WL [u_lay RX8 TX8 0, u_lay RX8 TX8 1, u_lay RX8 TX8 2, u_lay RX8 TX8 3, u_lay RX8 TX8 4, u_lay RX8 TX8 5, u_lay RX8 TX8 6, u_lay RX8 TX8 7, u_lay RX8 TX8 8, u_lay RX8 TX8 9, u_lay RX8 TX8 10, u_lay RX8 TX8 11, u_lay RX8 TX8 12, u_lay RX8 TX8 13, u_lay RX8 TX8 14, u_lay RX8 TX8 15, u_lay RX8 TX8 16, u_lay RX8 TX8 17, u_lay RX8 TX8 18, u_lay RX8 TX8 19, u_lay RX8 TX8 20, u_lay RX8 TX8 21, u_lay RX8 TX8 22, u_lay RX8 TX8 23, u_lay RX8 TX8 24, u_lay RX8 TX8 25, u_lay RX8 TX8 26, u_lay RX8 TX8 27, u_lay RX8 TX8 28, u_lay RX8 TX8 29, u_lay RX8 TX8 30, u_lay RX8 TX8 31, u_lay RX8 TX8 32, u_lay RX8 TX8 33, u_lay RX8 TX8 34, u_lay RX8 TX8 35, u_lay RX8 TX8 36, u_lay RX8 TX8 37, u_lay RX8 TX8 38, u_lay RX8 TX8 39, u_lay RX8 TX8 40, u_lay RX8 TX8 41, u_lay RX8 TX8 42, u_lay RX8 TX8 43, u_lay RX8 TX8 44, u_lay RX8 TX8 45]
  exact wl_cons tw_885 rfl (wl_cons tw_887 rfl (wl_cons tw_889 rfl (wl_cons tw_891 rfl (wl_cons tw_893 rfl (wl_cons tw_895 rfl (wl_cons tw_897 rfl (wl_cons tw_899 rfl (wl_cons tw_901 rfl (wl_cons tw_903 rfl (wl_cons tw_905 rfl (wl_cons tw_907 rfl (wl_cons tw_909 rfl (wl_cons tw_911 rfl (wl_cons tw_913 rfl (wl_cons tw_915 rfl (wl_cons tw_917 rfl (wl_cons tw_919 rfl (wl_cons tw_921 rfl (wl_cons tw_923 rfl (wl_cons tw_925 rfl (wl_cons tw_927 rfl (wl_cons tw_929 rfl (wl_cons tw_931 rfl (wl_cons tw_933 rfl (wl_cons tw_935 rfl (wl_cons tw_937 rfl (wl_cons tw_939 rfl (wl_cons tw_941 rfl (wl_cons tw_943 rfl (wl_cons tw_945 rfl (wl_cons tw_947 rfl (wl_cons tw_949 rfl (wl_cons tw_951 rfl (wl_cons tw_953 rfl (wl_cons tw_955 rfl (wl_cons tw_957 rfl (wl_cons tw_959 rfl (wl_cons tw_961 rfl (wl_cons tw_963 rfl (wl_cons tw_965 rfl (wl_cons tw_967 rfl (wl_cons tw_969 rfl (wl_cons tw_971 rfl (wl_cons tw_973 rfl (wl_cons tw_975 rfl (wl_nil))))))))))))))))))))))))))))))))))))))))))))))
theorem tw_39 : Cond.fieldLink RX0 15 RX0 "length" "I" ∈ lw_tbl := tm 39 (by decide +kernel)
theorem fg_X0_X0_length {v : VxT} {l : Launch} {g : CxT} {k nL pc n : Nat} {cc : ByteArray} {ret : Option FieldType} {L : List (Nat × Value)} {st : List Value} {S : Mem} (c : Nat) (hk : kdX c = 4) (ok : Ok l g (oX v) nL cc RX0 ret) (hd : decode cc pc = .ok (.getfield 15, 3)) (hn : pc + 3 = n) (h : G g (oX v) k nL n L (.int (S c 1) :: st) S) : G g (oX v) k nL pc L (.ref (v.1 c) :: st) S := g_get ok (C := RX0) (T := TX0) (N := 3) (ci := 0) (c := c) (fk := 1) (lt4 hk) (sh4 hk _) rfl (by decide) rfl wlX0 tw_39 rfl hd hn h
theorem tw_37 : Cond.fieldLink RX0 11 RX0 "kind" "I" ∈ lw_tbl := tm 37 (by decide +kernel)
theorem fg_X0_X0_kind {v : VxT} {l : Launch} {g : CxT} {k nL pc n : Nat} {cc : ByteArray} {ret : Option FieldType} {L : List (Nat × Value)} {st : List Value} {S : Mem} (c : Nat) (hk : kdX c = 4) (ok : Ok l g (oX v) nL cc RX0 ret) (hd : decode cc pc = .ok (.getfield 11, 3)) (hn : pc + 3 = n) (h : G g (oX v) k nL n L (.int (S c 0) :: st) S) : G g (oX v) k nL pc L (.ref (v.1 c) :: st) S := g_get ok (C := RX0) (T := TX0) (N := 3) (ci := 0) (c := c) (fk := 0) (lt4 hk) (sh4 hk _) rfl (by decide) rfl wlX0 tw_37 rfl hd hn h
theorem tw_42 : Cond.fieldLink RX0 18 RX0 "number" "I" ∈ lw_tbl := tm 42 (by decide +kernel)
theorem fg_X0_X0_number {v : VxT} {l : Launch} {g : CxT} {k nL pc n : Nat} {cc : ByteArray} {ret : Option FieldType} {L : List (Nat × Value)} {st : List Value} {S : Mem} (c : Nat) (hk : kdX c = 4) (ok : Ok l g (oX v) nL cc RX0 ret) (hd : decode cc pc = .ok (.getfield 18, 3)) (hn : pc + 3 = n) (h : G g (oX v) k nL n L (.int (S c 2) :: st) S) : G g (oX v) k nL pc L (.ref (v.1 c) :: st) S := g_get ok (C := RX0) (T := TX0) (N := 3) (ci := 0) (c := c) (fk := 2) (lt4 hk) (sh4 hk _) rfl (by decide) rfl wlX0 tw_42 rfl hd hn h
theorem fp_X0_X0_length {v : VxT} {l : Launch} {g : CxT} {k nL pc n : Nat} {cc : ByteArray} {ret : Option FieldType} {L : List (Nat × Value)} {st : List Value} {S : Mem} (c : Nat) (hk : kdX c = 4) (ok : Ok l g (oX v) nL cc RX0 ret) {x : Int32} (hd : decode cc pc = .ok (.putfield 15, 3)) (hn : pc + 3 = n) (h : G g (oX v) k nL n L st (mset S c (upd (S c) 1 x))) : G g (oX v) k nL pc L (.int x :: .ref (v.1 c) :: st) S :=
  g_put (ty := .int) ok (C := RX0) (T := TX0) (N := 3) (ci := 0) (c := c) (fk := 1) (lt4 hk) (sh4 hk _) rfl (by decide) rfl wlX0 tw_39 tyX0_ok nmX0 rfl (by decide +kernel) rfl rfl (Nat.le_of_ble_eq_true rfl) (sh4 hk _) hd hn h
theorem tw_109 : Cond.fieldLink RX1 22 RX1 "size" "I" ∈ lw_tbl := tm 109 (by decide +kernel)
theorem fg_X1_X1_size {v : VxT} {l : Launch} {g : CxT} {k nL pc n : Nat} {cc : ByteArray} {ret : Option FieldType} {L : List (Nat × Value)} {st : List Value} {S : Mem} (c : Nat) (hk : kdX c = 5) (ok : Ok l g (oX v) nL cc RX1 ret) (hd : decode cc pc = .ok (.getfield 22, 3)) (hn : pc + 3 = n) (h : G g (oX v) k nL n L (.int (S c 2) :: st) S) : G g (oX v) k nL pc L (.ref (v.1 c) :: st) S := g_get ok (C := RX1) (T := TX1) (N := 8) (ci := 1) (c := c) (fk := 2) (lt5 hk) (sh5 hk _) rfl (by decide) rfl wlX1 tw_109 rfl hd hn h
theorem tw_106 : Cond.fieldLink RX1 9 RX1 "tape" "[I" ∈ lw_tbl := tm 106 (by decide +kernel)
theorem fg_X1_X1_tape {v : VxT} {l : Launch} {g : CxT} {k nL pc n : Nat} {cc : ByteArray} {ret : Option FieldType} {L : List (Nat × Value)} {st : List Value} {S : Mem} (c : Nat) (hk : kdX c = 5) (ok : Ok l g (oX v) nL cc RX1 ret) (hd : decode cc pc = .ok (.getfield 9, 3)) (hn : pc + 3 = n) (h : G g (oX v) k nL n L (.ref (v.1 (c + 1)) :: st) S) : G g (oX v) k nL pc L (.ref (v.1 c) :: st) S := g_get ok (C := RX1) (T := TX1) (N := 8) (ci := 1) (c := c) (fk := 0) (lt5 hk) (sh5 hk _) rfl (by decide) rfl wlX1 tw_106 rfl hd hn h
theorem fp_X1_X1_size {v : VxT} {l : Launch} {g : CxT} {k nL pc n : Nat} {cc : ByteArray} {ret : Option FieldType} {L : List (Nat × Value)} {st : List Value} {S : Mem} (c : Nat) (hk : kdX c = 5) (ok : Ok l g (oX v) nL cc RX1 ret) {x : Int32} (hd : decode cc pc = .ok (.putfield 22, 3)) (hn : pc + 3 = n) (h : G g (oX v) k nL n L st (mset S c (upd (S c) 2 x))) : G g (oX v) k nL pc L (.int x :: .ref (v.1 c) :: st) S :=
  g_put (ty := .int) ok (C := RX1) (T := TX1) (N := 8) (ci := 1) (c := c) (fk := 2) (lt5 hk) (sh5 hk _) rfl (by decide) rfl wlX1 tw_109 tyX1_ok nmX1 rfl (by decide +kernel) rfl rfl (Nat.le_of_ble_eq_true rfl) (sh5 hk _) hd hn h
theorem tw_107 : Cond.fieldLink RX1 18 RX1 "rule" "LTableRocks$Rule;" ∈ lw_tbl := tm 107 (by decide +kernel)
theorem fg_X1_X1_rule {v : VxT} {l : Launch} {g : CxT} {k nL pc n : Nat} {cc : ByteArray} {ret : Option FieldType} {L : List (Nat × Value)} {st : List Value} {S : Mem} (c : Nat) (hk : kdX c = 5) (ok : Ok l g (oX v) nL cc RX1 ret) (hd : decode cc pc = .ok (.getfield 18, 3)) (hn : pc + 3 = n) (h : G g (oX v) k nL n L (.ref (v.1 (c + 2)) :: st) S) : G g (oX v) k nL pc L (.ref (v.1 c) :: st) S := g_get ok (C := RX1) (T := TX1) (N := 8) (ci := 1) (c := c) (fk := 1) (lt5 hk) (sh5 hk _) rfl (by decide) rfl wlX1 tw_107 rfl hd hn h
theorem tw_98 : Cond.fieldLinkNest RX1 43 RX2 "size" "I" RX7 ∈ lw_tbl := tm 98 (by decide +kernel)
theorem fp_X1_X2_size {v : VxT} {l : Launch} {g : CxT} {k nL pc n : Nat} {cc : ByteArray} {ret : Option FieldType} {L : List (Nat × Value)} {st : List Value} {S : Mem} (c : Nat) (hk : kdX c = 7) (ok : Ok l g (oX v) nL cc RX1 ret) {x : Int32} (hd : decode cc pc = .ok (.putfield 43, 3)) (hn : pc + 3 = n) (h : G g (oX v) k nL n L st (mset S c (upd (S c) 2 x))) : G g (oX v) k nL pc L (.int x :: .ref (v.1 c) :: st) S :=
  g_putN (ty := .int) ok (C := RX2) (T := TX2) (N := 3) (ci := 2) (c := c) (fk := 2) (lt7 hk) (sh7 hk _) rfl (by decide) rfl wlX2 tw_98 tyX2_ok nmX2 rfl (by decide +kernel) rfl rfl (Nat.le_of_ble_eq_true rfl) (sh7 hk _) hd hn h
theorem tw_113 : Cond.fieldLink RX1 34 RX1 "behind" "I" ∈ lw_tbl := tm 113 (by decide +kernel)
theorem fp_X1_X1_behind {v : VxT} {l : Launch} {g : CxT} {k nL pc n : Nat} {cc : ByteArray} {ret : Option FieldType} {L : List (Nat × Value)} {st : List Value} {S : Mem} (c : Nat) (hk : kdX c = 5) (ok : Ok l g (oX v) nL cc RX1 ret) {x : Int32} (hd : decode cc pc = .ok (.putfield 34, 3)) (hn : pc + 3 = n) (h : G g (oX v) k nL n L st (mset S c (upd (S c) 5 x))) : G g (oX v) k nL pc L (.int x :: .ref (v.1 c) :: st) S :=
  g_put (ty := .int) ok (C := RX1) (T := TX1) (N := 8) (ci := 1) (c := c) (fk := 5) (lt5 hk) (sh5 hk _) rfl (by decide) rfl wlX1 tw_113 tyX1_ok nmX1 rfl (by decide +kernel) rfl rfl (Nat.le_of_ble_eq_true rfl) (sh5 hk _) hd hn h
theorem tw_115 : Cond.fieldLink RX1 40 RX1 "fault" "I" ∈ lw_tbl := tm 115 (by decide +kernel)
theorem fp_X1_X1_fault {v : VxT} {l : Launch} {g : CxT} {k nL pc n : Nat} {cc : ByteArray} {ret : Option FieldType} {L : List (Nat × Value)} {st : List Value} {S : Mem} (c : Nat) (hk : kdX c = 5) (ok : Ok l g (oX v) nL cc RX1 ret) {x : Int32} (hd : decode cc pc = .ok (.putfield 40, 3)) (hn : pc + 3 = n) (h : G g (oX v) k nL n L st (mset S c (upd (S c) 7 x))) : G g (oX v) k nL pc L (.int x :: .ref (v.1 c) :: st) S :=
  g_put (ty := .int) ok (C := RX1) (T := TX1) (N := 8) (ci := 1) (c := c) (fk := 7) (lt5 hk) (sh5 hk _) rfl (by decide) rfl wlX1 tw_115 tyX1_ok nmX1 rfl (by decide +kernel) rfl rfl (Nat.le_of_ble_eq_true rfl) (sh5 hk _) hd hn h
theorem tw_111 : Cond.fieldLink RX1 28 RX1 "token" "I" ∈ lw_tbl := tm 111 (by decide +kernel)
theorem fg_X1_X1_token {v : VxT} {l : Launch} {g : CxT} {k nL pc n : Nat} {cc : ByteArray} {ret : Option FieldType} {L : List (Nat × Value)} {st : List Value} {S : Mem} (c : Nat) (hk : kdX c = 5) (ok : Ok l g (oX v) nL cc RX1 ret) (hd : decode cc pc = .ok (.getfield 28, 3)) (hn : pc + 3 = n) (h : G g (oX v) k nL n L (.int (S c 3) :: st) S) : G g (oX v) k nL pc L (.ref (v.1 c) :: st) S := g_get ok (C := RX1) (T := TX1) (N := 8) (ci := 1) (c := c) (fk := 3) (lt5 hk) (sh5 hk _) rfl (by decide) rfl wlX1 tw_111 rfl hd hn h
theorem fg_X1_X1_fault {v : VxT} {l : Launch} {g : CxT} {k nL pc n : Nat} {cc : ByteArray} {ret : Option FieldType} {L : List (Nat × Value)} {st : List Value} {S : Mem} (c : Nat) (hk : kdX c = 5) (ok : Ok l g (oX v) nL cc RX1 ret) (hd : decode cc pc = .ok (.getfield 40, 3)) (hn : pc + 3 = n) (h : G g (oX v) k nL n L (.int (S c 7) :: st) S) : G g (oX v) k nL pc L (.ref (v.1 c) :: st) S := g_get ok (C := RX1) (T := TX1) (N := 8) (ci := 1) (c := c) (fk := 7) (lt5 hk) (sh5 hk _) rfl (by decide) rfl wlX1 tw_115 rfl hd hn h
theorem tw_114 : Cond.fieldLink RX1 37 RX1 "number" "I" ∈ lw_tbl := tm 114 (by decide +kernel)
theorem fg_X1_X1_number {v : VxT} {l : Launch} {g : CxT} {k nL pc n : Nat} {cc : ByteArray} {ret : Option FieldType} {L : List (Nat × Value)} {st : List Value} {S : Mem} (c : Nat) (hk : kdX c = 5) (ok : Ok l g (oX v) nL cc RX1 ret) (hd : decode cc pc = .ok (.getfield 37, 3)) (hn : pc + 3 = n) (h : G g (oX v) k nL n L (.int (S c 6) :: st) S) : G g (oX v) k nL pc L (.ref (v.1 c) :: st) S := g_get ok (C := RX1) (T := TX1) (N := 8) (ci := 1) (c := c) (fk := 6) (lt5 hk) (sh5 hk _) rfl (by decide) rfl wlX1 tw_114 rfl hd hn h
theorem tw_112 : Cond.fieldLink RX1 31 RX1 "place" "I" ∈ lw_tbl := tm 112 (by decide +kernel)
theorem fg_X1_X1_place {v : VxT} {l : Launch} {g : CxT} {k nL pc n : Nat} {cc : ByteArray} {ret : Option FieldType} {L : List (Nat × Value)} {st : List Value} {S : Mem} (c : Nat) (hk : kdX c = 5) (ok : Ok l g (oX v) nL cc RX1 ret) (hd : decode cc pc = .ok (.getfield 31, 3)) (hn : pc + 3 = n) (h : G g (oX v) k nL n L (.int (S c 4) :: st) S) : G g (oX v) k nL pc L (.ref (v.1 c) :: st) S := g_get ok (C := RX1) (T := TX1) (N := 8) (ci := 1) (c := c) (fk := 4) (lt5 hk) (sh5 hk _) rfl (by decide) rfl wlX1 tw_112 rfl hd hn h
theorem fp_X1_X1_token {v : VxT} {l : Launch} {g : CxT} {k nL pc n : Nat} {cc : ByteArray} {ret : Option FieldType} {L : List (Nat × Value)} {st : List Value} {S : Mem} (c : Nat) (hk : kdX c = 5) (ok : Ok l g (oX v) nL cc RX1 ret) {x : Int32} (hd : decode cc pc = .ok (.putfield 28, 3)) (hn : pc + 3 = n) (h : G g (oX v) k nL n L st (mset S c (upd (S c) 3 x))) : G g (oX v) k nL pc L (.int x :: .ref (v.1 c) :: st) S :=
  g_put (ty := .int) ok (C := RX1) (T := TX1) (N := 8) (ci := 1) (c := c) (fk := 3) (lt5 hk) (sh5 hk _) rfl (by decide) rfl wlX1 tw_111 tyX1_ok nmX1 rfl (by decide +kernel) rfl rfl (Nat.le_of_ble_eq_true rfl) (sh5 hk _) hd hn h
theorem fg_X1_X1_behind {v : VxT} {l : Launch} {g : CxT} {k nL pc n : Nat} {cc : ByteArray} {ret : Option FieldType} {L : List (Nat × Value)} {st : List Value} {S : Mem} (c : Nat) (hk : kdX c = 5) (ok : Ok l g (oX v) nL cc RX1 ret) (hd : decode cc pc = .ok (.getfield 34, 3)) (hn : pc + 3 = n) (h : G g (oX v) k nL n L (.int (S c 5) :: st) S) : G g (oX v) k nL pc L (.ref (v.1 c) :: st) S := g_get ok (C := RX1) (T := TX1) (N := 8) (ci := 1) (c := c) (fk := 5) (lt5 hk) (sh5 hk _) rfl (by decide) rfl wlX1 tw_113 rfl hd hn h
theorem fp_X1_X1_place {v : VxT} {l : Launch} {g : CxT} {k nL pc n : Nat} {cc : ByteArray} {ret : Option FieldType} {L : List (Nat × Value)} {st : List Value} {S : Mem} (c : Nat) (hk : kdX c = 5) (ok : Ok l g (oX v) nL cc RX1 ret) {x : Int32} (hd : decode cc pc = .ok (.putfield 31, 3)) (hn : pc + 3 = n) (h : G g (oX v) k nL n L st (mset S c (upd (S c) 4 x))) : G g (oX v) k nL pc L (.int x :: .ref (v.1 c) :: st) S :=
  g_put (ty := .int) ok (C := RX1) (T := TX1) (N := 8) (ci := 1) (c := c) (fk := 4) (lt5 hk) (sh5 hk _) rfl (by decide) rfl wlX1 tw_112 tyX1_ok nmX1 rfl (by decide +kernel) rfl rfl (Nat.le_of_ble_eq_true rfl) (sh5 hk _) hd hn h
theorem fp_X1_X1_number {v : VxT} {l : Launch} {g : CxT} {k nL pc n : Nat} {cc : ByteArray} {ret : Option FieldType} {L : List (Nat × Value)} {st : List Value} {S : Mem} (c : Nat) (hk : kdX c = 5) (ok : Ok l g (oX v) nL cc RX1 ret) {x : Int32} (hd : decode cc pc = .ok (.putfield 37, 3)) (hn : pc + 3 = n) (h : G g (oX v) k nL n L st (mset S c (upd (S c) 6 x))) : G g (oX v) k nL pc L (.int x :: .ref (v.1 c) :: st) S :=
  g_put (ty := .int) ok (C := RX1) (T := TX1) (N := 8) (ci := 1) (c := c) (fk := 6) (lt5 hk) (sh5 hk _) rfl (by decide) rfl wlX1 tw_114 tyX1_ok nmX1 rfl (by decide +kernel) rfl rfl (Nat.le_of_ble_eq_true rfl) (sh5 hk _) hd hn h
theorem tw_97 : Cond.fieldLink RX2 18 RX2 "size" "I" ∈ lw_tbl := tm 97 (by decide +kernel)
theorem fg_X2_X2_size {v : VxT} {l : Launch} {g : CxT} {k nL pc n : Nat} {cc : ByteArray} {ret : Option FieldType} {L : List (Nat × Value)} {st : List Value} {S : Mem} (c : Nat) (hk : kdX c = 7) (ok : Ok l g (oX v) nL cc RX2 ret) (hd : decode cc pc = .ok (.getfield 18, 3)) (hn : pc + 3 = n) (h : G g (oX v) k nL n L (.int (S c 2) :: st) S) : G g (oX v) k nL pc L (.ref (v.1 c) :: st) S := g_get ok (C := RX2) (T := TX2) (N := 3) (ci := 2) (c := c) (fk := 2) (lt7 hk) (sh7 hk _) rfl (by decide) rfl wlX2 tw_97 rfl hd hn h
theorem tw_95 : Cond.fieldLink RX2 9 RX2 "code" "[I" ∈ lw_tbl := tm 95 (by decide +kernel)
theorem fg_X2_X2_code {v : VxT} {l : Launch} {g : CxT} {k nL pc n : Nat} {cc : ByteArray} {ret : Option FieldType} {L : List (Nat × Value)} {st : List Value} {S : Mem} (c : Nat) (hk : kdX c = 7) (ok : Ok l g (oX v) nL cc RX2 ret) (hd : decode cc pc = .ok (.getfield 9, 3)) (hn : pc + 3 = n) (h : G g (oX v) k nL n L (.ref (v.1 (c + 1)) :: st) S) : G g (oX v) k nL pc L (.ref (v.1 c) :: st) S := g_get ok (C := RX2) (T := TX2) (N := 3) (ci := 2) (c := c) (fk := 0) (lt7 hk) (sh7 hk _) rfl (by decide) rfl wlX2 tw_95 rfl hd hn h
theorem fp_X2_X2_size {v : VxT} {l : Launch} {g : CxT} {k nL pc n : Nat} {cc : ByteArray} {ret : Option FieldType} {L : List (Nat × Value)} {st : List Value} {S : Mem} (c : Nat) (hk : kdX c = 7) (ok : Ok l g (oX v) nL cc RX2 ret) {x : Int32} (hd : decode cc pc = .ok (.putfield 18, 3)) (hn : pc + 3 = n) (h : G g (oX v) k nL n L st (mset S c (upd (S c) 2 x))) : G g (oX v) k nL pc L (.int x :: .ref (v.1 c) :: st) S :=
  g_put (ty := .int) ok (C := RX2) (T := TX2) (N := 3) (ci := 2) (c := c) (fk := 2) (lt7 hk) (sh7 hk _) rfl (by decide) rfl wlX2 tw_97 tyX2_ok nmX2 rfl (by decide +kernel) rfl rfl (Nat.le_of_ble_eq_true rfl) (sh7 hk _) hd hn h
theorem tw_96 : Cond.fieldLink RX2 15 RX2 "ends" "[I" ∈ lw_tbl := tm 96 (by decide +kernel)
theorem fg_X2_X2_ends {v : VxT} {l : Launch} {g : CxT} {k nL pc n : Nat} {cc : ByteArray} {ret : Option FieldType} {L : List (Nat × Value)} {st : List Value} {S : Mem} (c : Nat) (hk : kdX c = 7) (ok : Ok l g (oX v) nL cc RX2 ret) (hd : decode cc pc = .ok (.getfield 15, 3)) (hn : pc + 3 = n) (h : G g (oX v) k nL n L (.ref (v.1 (c + 2)) :: st) S) : G g (oX v) k nL pc L (.ref (v.1 c) :: st) S := g_get ok (C := RX2) (T := TX2) (N := 3) (ci := 2) (c := c) (fk := 1) (lt7 hk) (sh7 hk _) rfl (by decide) rfl wlX2 tw_96 rfl hd hn h
theorem tw_174 : Cond.fieldLink RX3 9 RX3 "sort" "I" ∈ lw_tbl := tm 174 (by decide +kernel)
theorem fg_X3_X3_sort {v : VxT} {l : Launch} {g : CxT} {k nL pc n : Nat} {cc : ByteArray} {ret : Option FieldType} {L : List (Nat × Value)} {st : List Value} {S : Mem} (c : Nat) (hk : kdX c = 14) (ok : Ok l g (oX v) nL cc RX3 ret) (hd : decode cc pc = .ok (.getfield 9, 3)) (hn : pc + 3 = n) (h : G g (oX v) k nL n L (.int (S c 0) :: st) S) : G g (oX v) k nL pc L (.ref (v.1 c) :: st) S := g_get ok (C := RX3) (T := TX3) (N := 3) (ci := 3) (c := c) (fk := 0) (lt14 hk) (sh14 hk _) rfl (by decide) rfl wlX3 tw_174 rfl hd hn h
theorem fp_X3_X3_sort {v : VxT} {l : Launch} {g : CxT} {k nL pc n : Nat} {cc : ByteArray} {ret : Option FieldType} {L : List (Nat × Value)} {st : List Value} {S : Mem} (c : Nat) (hk : kdX c = 14) (ok : Ok l g (oX v) nL cc RX3 ret) {x : Int32} (hd : decode cc pc = .ok (.putfield 9, 3)) (hn : pc + 3 = n) (h : G g (oX v) k nL n L st (mset S c (upd (S c) 0 x))) : G g (oX v) k nL pc L (.int x :: .ref (v.1 c) :: st) S :=
  g_put (ty := .int) ok (C := RX3) (T := TX3) (N := 3) (ci := 3) (c := c) (fk := 0) (lt14 hk) (sh14 hk _) rfl (by decide) rfl wlX3 tw_174 tyX3_ok nmX3 rfl (by decide +kernel) rfl rfl (Nat.le_of_ble_eq_true rfl) (sh14 hk _) hd hn h
theorem tw_176 : Cond.fieldLink RX3 15 RX3 "size" "I" ∈ lw_tbl := tm 176 (by decide +kernel)
theorem fp_X3_X3_size {v : VxT} {l : Launch} {g : CxT} {k nL pc n : Nat} {cc : ByteArray} {ret : Option FieldType} {L : List (Nat × Value)} {st : List Value} {S : Mem} (c : Nat) (hk : kdX c = 14) (ok : Ok l g (oX v) nL cc RX3 ret) {x : Int32} (hd : decode cc pc = .ok (.putfield 15, 3)) (hn : pc + 3 = n) (h : G g (oX v) k nL n L st (mset S c (upd (S c) 1 x))) : G g (oX v) k nL pc L (.int x :: .ref (v.1 c) :: st) S :=
  g_put (ty := .int) ok (C := RX3) (T := TX3) (N := 3) (ci := 3) (c := c) (fk := 1) (lt14 hk) (sh14 hk _) rfl (by decide) rfl wlX3 tw_176 tyX3_ok nmX3 rfl (by decide +kernel) rfl rfl (Nat.le_of_ble_eq_true rfl) (sh14 hk _) hd hn h
theorem tw_178 : Cond.fieldLink RX3 18 RX3 "items" "[I" ∈ lw_tbl := tm 178 (by decide +kernel)
theorem fg_X3_X3_items {v : VxT} {l : Launch} {g : CxT} {k nL pc n : Nat} {cc : ByteArray} {ret : Option FieldType} {L : List (Nat × Value)} {st : List Value} {S : Mem} (c : Nat) (hk : kdX c = 14) (ok : Ok l g (oX v) nL cc RX3 ret) (hd : decode cc pc = .ok (.getfield 18, 3)) (hn : pc + 3 = n) (h : G g (oX v) k nL n L (.ref (v.1 (c + 1)) :: st) S) : G g (oX v) k nL pc L (.ref (v.1 c) :: st) S := g_get ok (C := RX3) (T := TX3) (N := 3) (ci := 3) (c := c) (fk := 2) (lt14 hk) (sh14 hk _) rfl (by decide) rfl wlX3 tw_178 rfl hd hn h
theorem fg_X3_X3_size {v : VxT} {l : Launch} {g : CxT} {k nL pc n : Nat} {cc : ByteArray} {ret : Option FieldType} {L : List (Nat × Value)} {st : List Value} {S : Mem} (c : Nat) (hk : kdX c = 14) (ok : Ok l g (oX v) nL cc RX3 ret) (hd : decode cc pc = .ok (.getfield 15, 3)) (hn : pc + 3 = n) (h : G g (oX v) k nL n L (.int (S c 1) :: st) S) : G g (oX v) k nL pc L (.ref (v.1 c) :: st) S := g_get ok (C := RX3) (T := TX3) (N := 3) (ci := 3) (c := c) (fk := 1) (lt14 hk) (sh14 hk _) rfl (by decide) rfl wlX3 tw_176 rfl hd hn h
theorem tw_141 : Cond.fieldLink RX4 9 RX4 "at" "[I" ∈ lw_tbl := tm 141 (by decide +kernel)
theorem fg_X4_X4_at {v : VxT} {l : Launch} {g : CxT} {k nL pc n : Nat} {cc : ByteArray} {ret : Option FieldType} {L : List (Nat × Value)} {st : List Value} {S : Mem} (c : Nat) (hk : kdX c = 10) (ok : Ok l g (oX v) nL cc RX4 ret) (hd : decode cc pc = .ok (.getfield 9, 3)) (hn : pc + 3 = n) (h : G g (oX v) k nL n L (.ref (v.1 (c + 1)) :: st) S) : G g (oX v) k nL pc L (.ref (v.1 c) :: st) S := g_get ok (C := RX4) (T := TX4) (N := 7) (ci := 4) (c := c) (fk := 0) (lt10 hk) (sh10 hk _) rfl (by decide) rfl wlX4 tw_141 rfl hd hn h
theorem tw_144 : Cond.fieldLink RX4 23 RX4 "gap" "I" ∈ lw_tbl := tm 144 (by decide +kernel)
theorem fp_X4_X4_gap {v : VxT} {l : Launch} {g : CxT} {k nL pc n : Nat} {cc : ByteArray} {ret : Option FieldType} {L : List (Nat × Value)} {st : List Value} {S : Mem} (c : Nat) (hk : kdX c = 10) (ok : Ok l g (oX v) nL cc RX4 ret) {x : Int32} (hd : decode cc pc = .ok (.putfield 23, 3)) (hn : pc + 3 = n) (h : G g (oX v) k nL n L st (mset S c (upd (S c) 3 x))) : G g (oX v) k nL pc L (.int x :: .ref (v.1 c) :: st) S :=
  g_put (ty := .int) ok (C := RX4) (T := TX4) (N := 7) (ci := 4) (c := c) (fk := 3) (lt10 hk) (sh10 hk _) rfl (by decide) rfl wlX4 tw_144 tyX4_ok nmX4 rfl (by decide +kernel) rfl rfl (Nat.le_of_ble_eq_true rfl) (sh10 hk _) hd hn h
theorem fg_X4_X4_gap {v : VxT} {l : Launch} {g : CxT} {k nL pc n : Nat} {cc : ByteArray} {ret : Option FieldType} {L : List (Nat × Value)} {st : List Value} {S : Mem} (c : Nat) (hk : kdX c = 10) (ok : Ok l g (oX v) nL cc RX4 ret) (hd : decode cc pc = .ok (.getfield 23, 3)) (hn : pc + 3 = n) (h : G g (oX v) k nL n L (.int (S c 3) :: st) S) : G g (oX v) k nL pc L (.ref (v.1 c) :: st) S := g_get ok (C := RX4) (T := TX4) (N := 7) (ci := 4) (c := c) (fk := 3) (lt10 hk) (sh10 hk _) rfl (by decide) rfl wlX4 tw_144 rfl hd hn h
theorem tw_146 : Cond.fieldLink RX4 27 RX4 "size" "I" ∈ lw_tbl := tm 146 (by decide +kernel)
theorem fp_X4_X4_size {v : VxT} {l : Launch} {g : CxT} {k nL pc n : Nat} {cc : ByteArray} {ret : Option FieldType} {L : List (Nat × Value)} {st : List Value} {S : Mem} (c : Nat) (hk : kdX c = 10) (ok : Ok l g (oX v) nL cc RX4 ret) {x : Int32} (hd : decode cc pc = .ok (.putfield 27, 3)) (hn : pc + 3 = n) (h : G g (oX v) k nL n L st (mset S c (upd (S c) 4 x))) : G g (oX v) k nL pc L (.int x :: .ref (v.1 c) :: st) S :=
  g_put (ty := .int) ok (C := RX4) (T := TX4) (N := 7) (ci := 4) (c := c) (fk := 4) (lt10 hk) (sh10 hk _) rfl (by decide) rfl wlX4 tw_146 tyX4_ok nmX4 rfl (by decide +kernel) rfl rfl (Nat.le_of_ble_eq_true rfl) (sh10 hk _) hd hn h
theorem tw_149 : Cond.fieldLink RX4 33 RX4 "lean" "I" ∈ lw_tbl := tm 149 (by decide +kernel)
theorem fp_X4_X4_lean {v : VxT} {l : Launch} {g : CxT} {k nL pc n : Nat} {cc : ByteArray} {ret : Option FieldType} {L : List (Nat × Value)} {st : List Value} {S : Mem} (c : Nat) (hk : kdX c = 10) (ok : Ok l g (oX v) nL cc RX4 ret) {x : Int32} (hd : decode cc pc = .ok (.putfield 33, 3)) (hn : pc + 3 = n) (h : G g (oX v) k nL n L st (mset S c (upd (S c) 6 x))) : G g (oX v) k nL pc L (.int x :: .ref (v.1 c) :: st) S :=
  g_put (ty := .int) ok (C := RX4) (T := TX4) (N := 7) (ci := 4) (c := c) (fk := 6) (lt10 hk) (sh10 hk _) rfl (by decide) rfl wlX4 tw_149 tyX4_ok nmX4 rfl (by decide +kernel) rfl rfl (Nat.le_of_ble_eq_true rfl) (sh10 hk _) hd hn h
theorem fg_X4_X4_size {v : VxT} {l : Launch} {g : CxT} {k nL pc n : Nat} {cc : ByteArray} {ret : Option FieldType} {L : List (Nat × Value)} {st : List Value} {S : Mem} (c : Nat) (hk : kdX c = 10) (ok : Ok l g (oX v) nL cc RX4 ret) (hd : decode cc pc = .ok (.getfield 27, 3)) (hn : pc + 3 = n) (h : G g (oX v) k nL n L (.int (S c 4) :: st) S) : G g (oX v) k nL pc L (.ref (v.1 c) :: st) S := g_get ok (C := RX4) (T := TX4) (N := 7) (ci := 4) (c := c) (fk := 4) (lt10 hk) (sh10 hk _) rfl (by decide) rfl wlX4 tw_146 rfl hd hn h
theorem tw_147 : Cond.fieldLink RX4 30 RX4 "rock" "I" ∈ lw_tbl := tm 147 (by decide +kernel)
theorem fp_X4_X4_rock {v : VxT} {l : Launch} {g : CxT} {k nL pc n : Nat} {cc : ByteArray} {ret : Option FieldType} {L : List (Nat × Value)} {st : List Value} {S : Mem} (c : Nat) (hk : kdX c = 10) (ok : Ok l g (oX v) nL cc RX4 ret) {x : Int32} (hd : decode cc pc = .ok (.putfield 30, 3)) (hn : pc + 3 = n) (h : G g (oX v) k nL n L st (mset S c (upd (S c) 5 x))) : G g (oX v) k nL pc L (.int x :: .ref (v.1 c) :: st) S :=
  g_put (ty := .int) ok (C := RX4) (T := TX4) (N := 7) (ci := 4) (c := c) (fk := 5) (lt10 hk) (sh10 hk _) rfl (by decide) rfl wlX4 tw_147 tyX4_ok nmX4 rfl (by decide +kernel) rfl rfl (Nat.le_of_ble_eq_true rfl) (sh10 hk _) hd hn h
theorem tw_56 : Cond.fieldLinkNest RX4 74 RX5 "legs" "[LTableRocks$Leg;" RX7 ∈ lw_tbl := tm 56 (by decide +kernel)
theorem fg_X4_X5_legs {v : VxT} {l : Launch} {g : CxT} {k nL pc n : Nat} {cc : ByteArray} {ret : Option FieldType} {L : List (Nat × Value)} {st : List Value} {S : Mem} (c : Nat) (hk : kdX c = 1) (ok : Ok l g (oX v) nL cc RX4 ret) (hd : decode cc pc = .ok (.getfield 74, 3)) (hn : pc + 3 = n) (h : G g (oX v) k nL n L (.ref (v.1 (c + 2)) :: st) S) : G g (oX v) k nL pc L (.ref (v.1 c) :: st) S := g_getN ok (C := RX5) (T := TX5) (N := 7) (ci := 5) (c := c) (fk := 1) (lt1 hk) (sh1 hk _) rfl (by decide) rfl wlX5 tw_56 rfl hd hn h
theorem tw_142 : Cond.fieldLink RX4 17 RX4 "names" "[I" ∈ lw_tbl := tm 142 (by decide +kernel)
theorem fg_X4_X4_names {v : VxT} {l : Launch} {g : CxT} {k nL pc n : Nat} {cc : ByteArray} {ret : Option FieldType} {L : List (Nat × Value)} {st : List Value} {S : Mem} (c : Nat) (hk : kdX c = 10) (ok : Ok l g (oX v) nL cc RX4 ret) (hd : decode cc pc = .ok (.getfield 17, 3)) (hn : pc + 3 = n) (h : G g (oX v) k nL n L (.ref (v.1 (c + 2)) :: st) S) : G g (oX v) k nL pc L (.ref (v.1 c) :: st) S := g_get ok (C := RX4) (T := TX4) (N := 7) (ci := 4) (c := c) (fk := 1) (lt10 hk) (sh10 hk _) rfl (by decide) rfl wlX4 tw_142 rfl hd hn h
theorem tw_143 : Cond.fieldLink RX4 20 RX4 "stack" "[I" ∈ lw_tbl := tm 143 (by decide +kernel)
theorem fg_X4_X4_stack {v : VxT} {l : Launch} {g : CxT} {k nL pc n : Nat} {cc : ByteArray} {ret : Option FieldType} {L : List (Nat × Value)} {st : List Value} {S : Mem} (c : Nat) (hk : kdX c = 10) (ok : Ok l g (oX v) nL cc RX4 ret) (hd : decode cc pc = .ok (.getfield 20, 3)) (hn : pc + 3 = n) (h : G g (oX v) k nL n L (.ref (v.1 (c + 3)) :: st) S) : G g (oX v) k nL pc L (.ref (v.1 c) :: st) S := g_get ok (C := RX4) (T := TX4) (N := 7) (ci := 4) (c := c) (fk := 2) (lt10 hk) (sh10 hk _) rfl (by decide) rfl wlX4 tw_143 rfl hd hn h
theorem fg_X4_X4_rock {v : VxT} {l : Launch} {g : CxT} {k nL pc n : Nat} {cc : ByteArray} {ret : Option FieldType} {L : List (Nat × Value)} {st : List Value} {S : Mem} (c : Nat) (hk : kdX c = 10) (ok : Ok l g (oX v) nL cc RX4 ret) (hd : decode cc pc = .ok (.getfield 30, 3)) (hn : pc + 3 = n) (h : G g (oX v) k nL n L (.int (S c 5) :: st) S) : G g (oX v) k nL pc L (.ref (v.1 c) :: st) S := g_get ok (C := RX4) (T := TX4) (N := 7) (ci := 4) (c := c) (fk := 5) (lt10 hk) (sh10 hk _) rfl (by decide) rfl wlX4 tw_147 rfl hd hn h
theorem fg_X4_X4_lean {v : VxT} {l : Launch} {g : CxT} {k nL pc n : Nat} {cc : ByteArray} {ret : Option FieldType} {L : List (Nat × Value)} {st : List Value} {S : Mem} (c : Nat) (hk : kdX c = 10) (ok : Ok l g (oX v) nL cc RX4 ret) (hd : decode cc pc = .ok (.getfield 33, 3)) (hn : pc + 3 = n) (h : G g (oX v) k nL n L (.int (S c 6) :: st) S) : G g (oX v) k nL pc L (.ref (v.1 c) :: st) S := g_get ok (C := RX4) (T := TX4) (N := 7) (ci := 4) (c := c) (fk := 6) (lt10 hk) (sh10 hk _) rfl (by decide) rfl wlX4 tw_149 rfl hd hn h
theorem tw_55 : Cond.fieldLink RX5 17 RX5 "legs" "[LTableRocks$Leg;" ∈ lw_tbl := tm 55 (by decide +kernel)
theorem fg_X5_X5_legs {v : VxT} {l : Launch} {g : CxT} {k nL pc n : Nat} {cc : ByteArray} {ret : Option FieldType} {L : List (Nat × Value)} {st : List Value} {S : Mem} (c : Nat) (hk : kdX c = 1) (ok : Ok l g (oX v) nL cc RX5 ret) (hd : decode cc pc = .ok (.getfield 17, 3)) (hn : pc + 3 = n) (h : G g (oX v) k nL n L (.ref (v.1 (c + 2)) :: st) S) : G g (oX v) k nL pc L (.ref (v.1 c) :: st) S := g_get ok (C := RX5) (T := TX5) (N := 7) (ci := 5) (c := c) (fk := 1) (lt1 hk) (sh1 hk _) rfl (by decide) rfl wlX5 tw_55 rfl hd hn h
theorem tw_60 : Cond.fieldLink RX5 25 RX5 "radius" "I" ∈ lw_tbl := tm 60 (by decide +kernel)
theorem fg_X5_X5_radius {v : VxT} {l : Launch} {g : CxT} {k nL pc n : Nat} {cc : ByteArray} {ret : Option FieldType} {L : List (Nat × Value)} {st : List Value} {S : Mem} (c : Nat) (hk : kdX c = 1) (ok : Ok l g (oX v) nL cc RX5 ret) (hd : decode cc pc = .ok (.getfield 25, 3)) (hn : pc + 3 = n) (h : G g (oX v) k nL n L (.int (S c 3) :: st) S) : G g (oX v) k nL pc L (.ref (v.1 c) :: st) S := g_get ok (C := RX5) (T := TX5) (N := 7) (ci := 5) (c := c) (fk := 3) (lt1 hk) (sh1 hk _) rfl (by decide) rfl wlX5 tw_60 rfl hd hn h
theorem tw_53 : Cond.fieldLink RX5 9 RX5 "heights" "[I" ∈ lw_tbl := tm 53 (by decide +kernel)
theorem fg_X5_X5_heights {v : VxT} {l : Launch} {g : CxT} {k nL pc n : Nat} {cc : ByteArray} {ret : Option FieldType} {L : List (Nat × Value)} {st : List Value} {S : Mem} (c : Nat) (hk : kdX c = 1) (ok : Ok l g (oX v) nL cc RX5 ret) (hd : decode cc pc = .ok (.getfield 9, 3)) (hn : pc + 3 = n) (h : G g (oX v) k nL n L (.ref (v.1 (c + 1)) :: st) S) : G g (oX v) k nL pc L (.ref (v.1 c) :: st) S := g_get ok (C := RX5) (T := TX5) (N := 7) (ci := 5) (c := c) (fk := 0) (lt1 hk) (sh1 hk _) rfl (by decide) rfl wlX5 tw_53 rfl hd hn h
theorem tw_64 : Cond.fieldLink RX5 31 RX5 "load" "I" ∈ lw_tbl := tm 64 (by decide +kernel)
theorem fg_X5_X5_load {v : VxT} {l : Launch} {g : CxT} {k nL pc n : Nat} {cc : ByteArray} {ret : Option FieldType} {L : List (Nat × Value)} {st : List Value} {S : Mem} (c : Nat) (hk : kdX c = 1) (ok : Ok l g (oX v) nL cc RX5 ret) (hd : decode cc pc = .ok (.getfield 31, 3)) (hn : pc + 3 = n) (h : G g (oX v) k nL n L (.int (S c 5) :: st) S) : G g (oX v) k nL pc L (.ref (v.1 c) :: st) S := g_get ok (C := RX5) (T := TX5) (N := 7) (ci := 5) (c := c) (fk := 5) (lt1 hk) (sh1 hk _) rfl (by decide) rfl wlX5 tw_64 rfl hd hn h
theorem tw_40 : Cond.fieldLinkNest RX5 64 RX0 "length" "I" RX7 ∈ lw_tbl := tm 40 (by decide +kernel)
theorem fg_X5_X0_length {v : VxT} {l : Launch} {g : CxT} {k nL pc n : Nat} {cc : ByteArray} {ret : Option FieldType} {L : List (Nat × Value)} {st : List Value} {S : Mem} (c : Nat) (hk : kdX c = 4) (ok : Ok l g (oX v) nL cc RX5 ret) (hd : decode cc pc = .ok (.getfield 64, 3)) (hn : pc + 3 = n) (h : G g (oX v) k nL n L (.int (S c 1) :: st) S) : G g (oX v) k nL pc L (.ref (v.1 c) :: st) S := g_getN ok (C := RX0) (T := TX0) (N := 3) (ci := 0) (c := c) (fk := 1) (lt4 hk) (sh4 hk _) rfl (by decide) rfl wlX0 tw_40 rfl hd hn h
theorem fp_X5_X0_length {v : VxT} {l : Launch} {g : CxT} {k nL pc n : Nat} {cc : ByteArray} {ret : Option FieldType} {L : List (Nat × Value)} {st : List Value} {S : Mem} (c : Nat) (hk : kdX c = 4) (ok : Ok l g (oX v) nL cc RX5 ret) {x : Int32} (hd : decode cc pc = .ok (.putfield 64, 3)) (hn : pc + 3 = n) (h : G g (oX v) k nL n L st (mset S c (upd (S c) 1 x))) : G g (oX v) k nL pc L (.int x :: .ref (v.1 c) :: st) S :=
  g_putN (ty := .int) ok (C := RX0) (T := TX0) (N := 3) (ci := 0) (c := c) (fk := 1) (lt4 hk) (sh4 hk _) rfl (by decide) rfl wlX0 tw_40 tyX0_ok nmX0 rfl (by decide +kernel) rfl rfl (Nat.le_of_ble_eq_true rfl) (sh4 hk _) hd hn h
theorem tw_43 : Cond.fieldLinkNest RX5 67 RX0 "number" "I" RX7 ∈ lw_tbl := tm 43 (by decide +kernel)
theorem fg_X5_X0_number {v : VxT} {l : Launch} {g : CxT} {k nL pc n : Nat} {cc : ByteArray} {ret : Option FieldType} {L : List (Nat × Value)} {st : List Value} {S : Mem} (c : Nat) (hk : kdX c = 4) (ok : Ok l g (oX v) nL cc RX5 ret) (hd : decode cc pc = .ok (.getfield 67, 3)) (hn : pc + 3 = n) (h : G g (oX v) k nL n L (.int (S c 2) :: st) S) : G g (oX v) k nL pc L (.ref (v.1 c) :: st) S := g_getN ok (C := RX0) (T := TX0) (N := 3) (ci := 0) (c := c) (fk := 2) (lt4 hk) (sh4 hk _) rfl (by decide) rfl wlX0 tw_43 rfl hd hn h
theorem fp_X5_X0_number {v : VxT} {l : Launch} {g : CxT} {k nL pc n : Nat} {cc : ByteArray} {ret : Option FieldType} {L : List (Nat × Value)} {st : List Value} {S : Mem} (c : Nat) (hk : kdX c = 4) (ok : Ok l g (oX v) nL cc RX5 ret) {x : Int32} (hd : decode cc pc = .ok (.putfield 67, 3)) (hn : pc + 3 = n) (h : G g (oX v) k nL n L st (mset S c (upd (S c) 2 x))) : G g (oX v) k nL pc L (.int x :: .ref (v.1 c) :: st) S :=
  g_putN (ty := .int) ok (C := RX0) (T := TX0) (N := 3) (ci := 0) (c := c) (fk := 2) (lt4 hk) (sh4 hk _) rfl (by decide) rfl wlX0 tw_43 tyX0_ok nmX0 rfl (by decide +kernel) rfl rfl (Nat.le_of_ble_eq_true rfl) (sh4 hk _) hd hn h
theorem tw_58 : Cond.fieldLink RX5 21 RX5 "place" "I" ∈ lw_tbl := tm 58 (by decide +kernel)
theorem fg_X5_X5_place {v : VxT} {l : Launch} {g : CxT} {k nL pc n : Nat} {cc : ByteArray} {ret : Option FieldType} {L : List (Nat × Value)} {st : List Value} {S : Mem} (c : Nat) (hk : kdX c = 1) (ok : Ok l g (oX v) nL cc RX5 ret) (hd : decode cc pc = .ok (.getfield 21, 3)) (hn : pc + 3 = n) (h : G g (oX v) k nL n L (.int (S c 2) :: st) S) : G g (oX v) k nL pc L (.ref (v.1 c) :: st) S := g_get ok (C := RX5) (T := TX5) (N := 7) (ci := 5) (c := c) (fk := 2) (lt1 hk) (sh1 hk _) rfl (by decide) rfl wlX5 tw_58 rfl hd hn h
theorem fp_X5_X5_place {v : VxT} {l : Launch} {g : CxT} {k nL pc n : Nat} {cc : ByteArray} {ret : Option FieldType} {L : List (Nat × Value)} {st : List Value} {S : Mem} (c : Nat) (hk : kdX c = 1) (ok : Ok l g (oX v) nL cc RX5 ret) {x : Int32} (hd : decode cc pc = .ok (.putfield 21, 3)) (hn : pc + 3 = n) (h : G g (oX v) k nL n L st (mset S c (upd (S c) 2 x))) : G g (oX v) k nL pc L (.int x :: .ref (v.1 c) :: st) S :=
  g_put (ty := .int) ok (C := RX5) (T := TX5) (N := 7) (ci := 5) (c := c) (fk := 2) (lt1 hk) (sh1 hk _) rfl (by decide) rfl wlX5 tw_58 tyX5_ok nmX5 rfl (by decide +kernel) rfl rfl (Nat.le_of_ble_eq_true rfl) (sh1 hk _) hd hn h
theorem fp_X5_X5_radius {v : VxT} {l : Launch} {g : CxT} {k nL pc n : Nat} {cc : ByteArray} {ret : Option FieldType} {L : List (Nat × Value)} {st : List Value} {S : Mem} (c : Nat) (hk : kdX c = 1) (ok : Ok l g (oX v) nL cc RX5 ret) {x : Int32} (hd : decode cc pc = .ok (.putfield 25, 3)) (hn : pc + 3 = n) (h : G g (oX v) k nL n L st (mset S c (upd (S c) 3 x))) : G g (oX v) k nL pc L (.int x :: .ref (v.1 c) :: st) S :=
  g_put (ty := .int) ok (C := RX5) (T := TX5) (N := 7) (ci := 5) (c := c) (fk := 3) (lt1 hk) (sh1 hk _) rfl (by decide) rfl wlX5 tw_60 tyX5_ok nmX5 rfl (by decide +kernel) rfl rfl (Nat.le_of_ble_eq_true rfl) (sh1 hk _) hd hn h
theorem tw_62 : Cond.fieldLink RX5 28 RX5 "turn" "I" ∈ lw_tbl := tm 62 (by decide +kernel)
theorem fg_X5_X5_turn {v : VxT} {l : Launch} {g : CxT} {k nL pc n : Nat} {cc : ByteArray} {ret : Option FieldType} {L : List (Nat × Value)} {st : List Value} {S : Mem} (c : Nat) (hk : kdX c = 1) (ok : Ok l g (oX v) nL cc RX5 ret) (hd : decode cc pc = .ok (.getfield 28, 3)) (hn : pc + 3 = n) (h : G g (oX v) k nL n L (.int (S c 4) :: st) S) : G g (oX v) k nL pc L (.ref (v.1 c) :: st) S := g_get ok (C := RX5) (T := TX5) (N := 7) (ci := 5) (c := c) (fk := 4) (lt1 hk) (sh1 hk _) rfl (by decide) rfl wlX5 tw_62 rfl hd hn h
theorem fp_X5_X5_turn {v : VxT} {l : Launch} {g : CxT} {k nL pc n : Nat} {cc : ByteArray} {ret : Option FieldType} {L : List (Nat × Value)} {st : List Value} {S : Mem} (c : Nat) (hk : kdX c = 1) (ok : Ok l g (oX v) nL cc RX5 ret) {x : Int32} (hd : decode cc pc = .ok (.putfield 28, 3)) (hn : pc + 3 = n) (h : G g (oX v) k nL n L st (mset S c (upd (S c) 4 x))) : G g (oX v) k nL pc L (.int x :: .ref (v.1 c) :: st) S :=
  g_put (ty := .int) ok (C := RX5) (T := TX5) (N := 7) (ci := 5) (c := c) (fk := 4) (lt1 hk) (sh1 hk _) rfl (by decide) rfl wlX5 tw_62 tyX5_ok nmX5 rfl (by decide +kernel) rfl rfl (Nat.le_of_ble_eq_true rfl) (sh1 hk _) hd hn h
theorem fp_X5_X5_load {v : VxT} {l : Launch} {g : CxT} {k nL pc n : Nat} {cc : ByteArray} {ret : Option FieldType} {L : List (Nat × Value)} {st : List Value} {S : Mem} (c : Nat) (hk : kdX c = 1) (ok : Ok l g (oX v) nL cc RX5 ret) {x : Int32} (hd : decode cc pc = .ok (.putfield 31, 3)) (hn : pc + 3 = n) (h : G g (oX v) k nL n L st (mset S c (upd (S c) 5 x))) : G g (oX v) k nL pc L (.int x :: .ref (v.1 c) :: st) S :=
  g_put (ty := .int) ok (C := RX5) (T := TX5) (N := 7) (ci := 5) (c := c) (fk := 5) (lt1 hk) (sh1 hk _) rfl (by decide) rfl wlX5 tw_64 tyX5_ok nmX5 rfl (by decide +kernel) rfl rfl (Nat.le_of_ble_eq_true rfl) (sh1 hk _) hd hn h
theorem tw_66 : Cond.fieldLink RX5 34 RX5 "rule" "I" ∈ lw_tbl := tm 66 (by decide +kernel)
theorem fg_X5_X5_rule {v : VxT} {l : Launch} {g : CxT} {k nL pc n : Nat} {cc : ByteArray} {ret : Option FieldType} {L : List (Nat × Value)} {st : List Value} {S : Mem} (c : Nat) (hk : kdX c = 1) (ok : Ok l g (oX v) nL cc RX5 ret) (hd : decode cc pc = .ok (.getfield 34, 3)) (hn : pc + 3 = n) (h : G g (oX v) k nL n L (.int (S c 6) :: st) S) : G g (oX v) k nL pc L (.ref (v.1 c) :: st) S := g_get ok (C := RX5) (T := TX5) (N := 7) (ci := 5) (c := c) (fk := 6) (lt1 hk) (sh1 hk _) rfl (by decide) rfl wlX5 tw_66 rfl hd hn h
theorem fp_X5_X5_rule {v : VxT} {l : Launch} {g : CxT} {k nL pc n : Nat} {cc : ByteArray} {ret : Option FieldType} {L : List (Nat × Value)} {st : List Value} {S : Mem} (c : Nat) (hk : kdX c = 1) (ok : Ok l g (oX v) nL cc RX5 ret) {x : Int32} (hd : decode cc pc = .ok (.putfield 34, 3)) (hn : pc + 3 = n) (h : G g (oX v) k nL n L st (mset S c (upd (S c) 6 x))) : G g (oX v) k nL pc L (.int x :: .ref (v.1 c) :: st) S :=
  g_put (ty := .int) ok (C := RX5) (T := TX5) (N := 7) (ci := 5) (c := c) (fk := 6) (lt1 hk) (sh1 hk _) rfl (by decide) rfl wlX5 tw_66 tyX5_ok nmX5 rfl (by decide +kernel) rfl rfl (Nat.le_of_ble_eq_true rfl) (sh1 hk _) hd hn h
theorem tw_347 : Cond.fieldLink RX7 32 RX7 "rules" "[LTableRocks$Rule;" ∈ lw_tbl := tm 347 (by decide +kernel)
theorem fg_X7_X7_rules {v : VxT} {l : Launch} {g : CxT} {k nL pc n : Nat} {cc : ByteArray} {ret : Option FieldType} {L : List (Nat × Value)} {st : List Value} {S : Mem} (c : Nat) (hk : kdX c = 0) (ok : Ok l g (oX v) nL cc RX7 ret) (hd : decode cc pc = .ok (.getfield 32, 3)) (hn : pc + 3 = n) (h : G g (oX v) k nL n L (.ref (v.1 20) :: st) S) : G g (oX v) k nL pc L (.ref (v.1 c) :: st) S := g_get ok (C := RX7) (T := TX7) (N := 8) (ci := 6) (c := c) (fk := 4) (lt0 hk) (sh0 hk _) rfl (by decide) rfl wlX7 tw_347 rfl hd hn h
theorem tw_350 : Cond.fieldLink RX7 49 RX7 "sheets" "[LTableRocks$Sheet;" ∈ lw_tbl := tm 350 (by decide +kernel)
theorem fg_X7_X7_sheets {v : VxT} {l : Launch} {g : CxT} {k nL pc n : Nat} {cc : ByteArray} {ret : Option FieldType} {L : List (Nat × Value)} {st : List Value} {S : Mem} (c : Nat) (hk : kdX c = 0) (ok : Ok l g (oX v) nL cc RX7 ret) (hd : decode cc pc = .ok (.getfield 49, 3)) (hn : pc + 3 = n) (h : G g (oX v) k nL n L (.ref (v.1 43) :: st) S) : G g (oX v) k nL pc L (.ref (v.1 c) :: st) S := g_get ok (C := RX7) (T := TX7) (N := 8) (ci := 6) (c := c) (fk := 7) (lt0 hk) (sh0 hk _) rfl (by decide) rfl wlX7 tw_350 rfl hd hn h
theorem tw_346 : Cond.fieldLink RX7 26 RX7 "reader" "LTableRocks$Reader;" ∈ lw_tbl := tm 346 (by decide +kernel)
theorem fg_X7_X7_reader {v : VxT} {l : Launch} {g : CxT} {k nL pc n : Nat} {cc : ByteArray} {ret : Option FieldType} {L : List (Nat × Value)} {st : List Value} {S : Mem} (c : Nat) (hk : kdX c = 0) (ok : Ok l g (oX v) nL cc RX7 ret) (hd : decode cc pc = .ok (.getfield 26, 3)) (hn : pc + 3 = n) (h : G g (oX v) k nL n L (.ref (v.1 15) :: st) S) : G g (oX v) k nL pc L (.ref (v.1 c) :: st) S := g_get ok (C := RX7) (T := TX7) (N := 8) (ci := 6) (c := c) (fk := 3) (lt0 hk) (sh0 hk _) rfl (by decide) rfl wlX7 tw_346 rfl hd hn h
theorem tw_343 : Cond.fieldLink RX7 10 RX7 "table" "LTableRocks$Table;" ∈ lw_tbl := tm 343 (by decide +kernel)
theorem fg_X7_X7_table {v : VxT} {l : Launch} {g : CxT} {k nL pc n : Nat} {cc : ByteArray} {ret : Option FieldType} {L : List (Nat × Value)} {st : List Value} {S : Mem} (c : Nat) (hk : kdX c = 0) (ok : Ok l g (oX v) nL cc RX7 ret) (hd : decode cc pc = .ok (.getfield 10, 3)) (hn : pc + 3 = n) (h : G g (oX v) k nL n L (.ref (v.1 1) :: st) S) : G g (oX v) k nL pc L (.ref (v.1 c) :: st) S := g_get ok (C := RX7) (T := TX7) (N := 8) (ci := 6) (c := c) (fk := 0) (lt0 hk) (sh0 hk _) rfl (by decide) rfl wlX7 tw_343 rfl hd hn h
theorem tw_54 : Cond.fieldLinkNest RX7 78 RX5 "heights" "[I" RX7 ∈ lw_tbl := tm 54 (by decide +kernel)
theorem fg_X7_X5_heights {v : VxT} {l : Launch} {g : CxT} {k nL pc n : Nat} {cc : ByteArray} {ret : Option FieldType} {L : List (Nat × Value)} {st : List Value} {S : Mem} (c : Nat) (hk : kdX c = 1) (ok : Ok l g (oX v) nL cc RX7 ret) (hd : decode cc pc = .ok (.getfield 78, 3)) (hn : pc + 3 = n) (h : G g (oX v) k nL n L (.ref (v.1 (c + 1)) :: st) S) : G g (oX v) k nL pc L (.ref (v.1 c) :: st) S := g_getN ok (C := RX5) (T := TX5) (N := 7) (ci := 5) (c := c) (fk := 0) (lt1 hk) (sh1 hk _) rfl (by decide) rfl wlX5 tw_54 rfl hd hn h
theorem tw_57 : Cond.fieldLinkNest RX7 88 RX5 "legs" "[LTableRocks$Leg;" RX7 ∈ lw_tbl := tm 57 (by decide +kernel)
theorem fg_X7_X5_legs {v : VxT} {l : Launch} {g : CxT} {k nL pc n : Nat} {cc : ByteArray} {ret : Option FieldType} {L : List (Nat × Value)} {st : List Value} {S : Mem} (c : Nat) (hk : kdX c = 1) (ok : Ok l g (oX v) nL cc RX7 ret) (hd : decode cc pc = .ok (.getfield 88, 3)) (hn : pc + 3 = n) (h : G g (oX v) k nL n L (.ref (v.1 (c + 2)) :: st) S) : G g (oX v) k nL pc L (.ref (v.1 c) :: st) S := g_getN ok (C := RX5) (T := TX5) (N := 7) (ci := 5) (c := c) (fk := 1) (lt1 hk) (sh1 hk _) rfl (by decide) rfl wlX5 tw_57 rfl hd hn h
theorem tw_38 : Cond.fieldLinkNest RX7 92 RX0 "kind" "I" RX7 ∈ lw_tbl := tm 38 (by decide +kernel)
theorem fg_X7_X0_kind {v : VxT} {l : Launch} {g : CxT} {k nL pc n : Nat} {cc : ByteArray} {ret : Option FieldType} {L : List (Nat × Value)} {st : List Value} {S : Mem} (c : Nat) (hk : kdX c = 4) (ok : Ok l g (oX v) nL cc RX7 ret) (hd : decode cc pc = .ok (.getfield 92, 3)) (hn : pc + 3 = n) (h : G g (oX v) k nL n L (.int (S c 0) :: st) S) : G g (oX v) k nL pc L (.ref (v.1 c) :: st) S := g_getN ok (C := RX0) (T := TX0) (N := 3) (ci := 0) (c := c) (fk := 0) (lt4 hk) (sh4 hk _) rfl (by decide) rfl wlX0 tw_38 rfl hd hn h
theorem fp_X7_X0_kind {v : VxT} {l : Launch} {g : CxT} {k nL pc n : Nat} {cc : ByteArray} {ret : Option FieldType} {L : List (Nat × Value)} {st : List Value} {S : Mem} (c : Nat) (hk : kdX c = 4) (ok : Ok l g (oX v) nL cc RX7 ret) {x : Int32} (hd : decode cc pc = .ok (.putfield 92, 3)) (hn : pc + 3 = n) (h : G g (oX v) k nL n L st (mset S c (upd (S c) 0 x))) : G g (oX v) k nL pc L (.int x :: .ref (v.1 c) :: st) S :=
  g_putN (ty := .int) ok (C := RX0) (T := TX0) (N := 3) (ci := 0) (c := c) (fk := 0) (lt4 hk) (sh4 hk _) rfl (by decide) rfl wlX0 tw_38 tyX0_ok nmX0 rfl (by decide +kernel) rfl rfl (Nat.le_of_ble_eq_true rfl) (sh4 hk _) hd hn h
theorem tw_44 : Cond.fieldLinkNest RX7 97 RX0 "number" "I" RX7 ∈ lw_tbl := tm 44 (by decide +kernel)
theorem fp_X7_X0_number {v : VxT} {l : Launch} {g : CxT} {k nL pc n : Nat} {cc : ByteArray} {ret : Option FieldType} {L : List (Nat × Value)} {st : List Value} {S : Mem} (c : Nat) (hk : kdX c = 4) (ok : Ok l g (oX v) nL cc RX7 ret) {x : Int32} (hd : decode cc pc = .ok (.putfield 97, 3)) (hn : pc + 3 = n) (h : G g (oX v) k nL n L st (mset S c (upd (S c) 2 x))) : G g (oX v) k nL pc L (.int x :: .ref (v.1 c) :: st) S :=
  g_putN (ty := .int) ok (C := RX0) (T := TX0) (N := 3) (ci := 0) (c := c) (fk := 2) (lt4 hk) (sh4 hk _) rfl (by decide) rfl wlX0 tw_44 tyX0_ok nmX0 rfl (by decide +kernel) rfl rfl (Nat.le_of_ble_eq_true rfl) (sh4 hk _) hd hn h
theorem tw_41 : Cond.fieldLinkNest RX7 108 RX0 "length" "I" RX7 ∈ lw_tbl := tm 41 (by decide +kernel)
theorem fg_X7_X0_length {v : VxT} {l : Launch} {g : CxT} {k nL pc n : Nat} {cc : ByteArray} {ret : Option FieldType} {L : List (Nat × Value)} {st : List Value} {S : Mem} (c : Nat) (hk : kdX c = 4) (ok : Ok l g (oX v) nL cc RX7 ret) (hd : decode cc pc = .ok (.getfield 108, 3)) (hn : pc + 3 = n) (h : G g (oX v) k nL n L (.int (S c 1) :: st) S) : G g (oX v) k nL pc L (.ref (v.1 c) :: st) S := g_getN ok (C := RX0) (T := TX0) (N := 3) (ci := 0) (c := c) (fk := 1) (lt4 hk) (sh4 hk _) rfl (by decide) rfl wlX0 tw_41 rfl hd hn h
theorem fg_X7_X0_number {v : VxT} {l : Launch} {g : CxT} {k nL pc n : Nat} {cc : ByteArray} {ret : Option FieldType} {L : List (Nat × Value)} {st : List Value} {S : Mem} (c : Nat) (hk : kdX c = 4) (ok : Ok l g (oX v) nL cc RX7 ret) (hd : decode cc pc = .ok (.getfield 97, 3)) (hn : pc + 3 = n) (h : G g (oX v) k nL n L (.int (S c 2) :: st) S) : G g (oX v) k nL pc L (.ref (v.1 c) :: st) S := g_getN ok (C := RX0) (T := TX0) (N := 3) (ci := 0) (c := c) (fk := 2) (lt4 hk) (sh4 hk _) rfl (by decide) rfl wlX0 tw_44 rfl hd hn h
theorem tw_65 : Cond.fieldLinkNest RX7 110 RX5 "load" "I" RX7 ∈ lw_tbl := tm 65 (by decide +kernel)
theorem fg_X7_X5_load {v : VxT} {l : Launch} {g : CxT} {k nL pc n : Nat} {cc : ByteArray} {ret : Option FieldType} {L : List (Nat × Value)} {st : List Value} {S : Mem} (c : Nat) (hk : kdX c = 1) (ok : Ok l g (oX v) nL cc RX7 ret) (hd : decode cc pc = .ok (.getfield 110, 3)) (hn : pc + 3 = n) (h : G g (oX v) k nL n L (.int (S c 5) :: st) S) : G g (oX v) k nL pc L (.ref (v.1 c) :: st) S := g_getN ok (C := RX5) (T := TX5) (N := 7) (ci := 5) (c := c) (fk := 5) (lt1 hk) (sh1 hk _) rfl (by decide) rfl wlX5 tw_65 rfl hd hn h
theorem tw_59 : Cond.fieldLinkNest RX7 117 RX5 "place" "I" RX7 ∈ lw_tbl := tm 59 (by decide +kernel)
theorem fg_X7_X5_place {v : VxT} {l : Launch} {g : CxT} {k nL pc n : Nat} {cc : ByteArray} {ret : Option FieldType} {L : List (Nat × Value)} {st : List Value} {S : Mem} (c : Nat) (hk : kdX c = 1) (ok : Ok l g (oX v) nL cc RX7 ret) (hd : decode cc pc = .ok (.getfield 117, 3)) (hn : pc + 3 = n) (h : G g (oX v) k nL n L (.int (S c 2) :: st) S) : G g (oX v) k nL pc L (.ref (v.1 c) :: st) S := g_getN ok (C := RX5) (T := TX5) (N := 7) (ci := 5) (c := c) (fk := 2) (lt1 hk) (sh1 hk _) rfl (by decide) rfl wlX5 tw_59 rfl hd hn h
theorem tw_63 : Cond.fieldLinkNest RX7 120 RX5 "turn" "I" RX7 ∈ lw_tbl := tm 63 (by decide +kernel)
theorem fg_X7_X5_turn {v : VxT} {l : Launch} {g : CxT} {k nL pc n : Nat} {cc : ByteArray} {ret : Option FieldType} {L : List (Nat × Value)} {st : List Value} {S : Mem} (c : Nat) (hk : kdX c = 1) (ok : Ok l g (oX v) nL cc RX7 ret) (hd : decode cc pc = .ok (.getfield 120, 3)) (hn : pc + 3 = n) (h : G g (oX v) k nL n L (.int (S c 4) :: st) S) : G g (oX v) k nL pc L (.ref (v.1 c) :: st) S := g_getN ok (C := RX5) (T := TX5) (N := 7) (ci := 5) (c := c) (fk := 4) (lt1 hk) (sh1 hk _) rfl (by decide) rfl wlX5 tw_63 rfl hd hn h
theorem tw_110 : Cond.fieldLinkNest RX7 129 RX1 "size" "I" RX7 ∈ lw_tbl := tm 110 (by decide +kernel)
theorem fg_X7_X1_size {v : VxT} {l : Launch} {g : CxT} {k nL pc n : Nat} {cc : ByteArray} {ret : Option FieldType} {L : List (Nat × Value)} {st : List Value} {S : Mem} (c : Nat) (hk : kdX c = 5) (ok : Ok l g (oX v) nL cc RX7 ret) (hd : decode cc pc = .ok (.getfield 129, 3)) (hn : pc + 3 = n) (h : G g (oX v) k nL n L (.int (S c 2) :: st) S) : G g (oX v) k nL pc L (.ref (v.1 c) :: st) S := g_getN ok (C := RX1) (T := TX1) (N := 8) (ci := 1) (c := c) (fk := 2) (lt5 hk) (sh5 hk _) rfl (by decide) rfl wlX1 tw_110 rfl hd hn h
theorem tw_348 : Cond.fieldLink RX7 36 RX7 "ruleCount" "I" ∈ lw_tbl := tm 348 (by decide +kernel)
theorem fg_X7_X7_ruleCount {v : VxT} {l : Launch} {g : CxT} {k nL pc n : Nat} {cc : ByteArray} {ret : Option FieldType} {L : List (Nat × Value)} {st : List Value} {S : Mem} (c : Nat) (hk : kdX c = 0) (ok : Ok l g (oX v) nL cc RX7 ret) (hd : decode cc pc = .ok (.getfield 36, 3)) (hn : pc + 3 = n) (h : G g (oX v) k nL n L (.int (S c 5) :: st) S) : G g (oX v) k nL pc L (.ref (v.1 c) :: st) S := g_get ok (C := RX7) (T := TX7) (N := 8) (ci := 6) (c := c) (fk := 5) (lt0 hk) (sh0 hk _) rfl (by decide) rfl wlX7 tw_348 rfl hd hn h
theorem tw_108 : Cond.fieldLinkNest RX7 135 RX1 "rule" "LTableRocks$Rule;" RX7 ∈ lw_tbl := tm 108 (by decide +kernel)
theorem fg_X7_X1_rule {v : VxT} {l : Launch} {g : CxT} {k nL pc n : Nat} {cc : ByteArray} {ret : Option FieldType} {L : List (Nat × Value)} {st : List Value} {S : Mem} (c : Nat) (hk : kdX c = 5) (ok : Ok l g (oX v) nL cc RX7 ret) (hd : decode cc pc = .ok (.getfield 135, 3)) (hn : pc + 3 = n) (h : G g (oX v) k nL n L (.ref (v.1 (c + 2)) :: st) S) : G g (oX v) k nL pc L (.ref (v.1 c) :: st) S := g_getN ok (C := RX1) (T := TX1) (N := 8) (ci := 1) (c := c) (fk := 1) (lt5 hk) (sh5 hk _) rfl (by decide) rfl wlX1 tw_108 rfl hd hn h
theorem fp_X7_X7_ruleCount {v : VxT} {l : Launch} {g : CxT} {k nL pc n : Nat} {cc : ByteArray} {ret : Option FieldType} {L : List (Nat × Value)} {st : List Value} {S : Mem} (c : Nat) (hk : kdX c = 0) (ok : Ok l g (oX v) nL cc RX7 ret) {x : Int32} (hd : decode cc pc = .ok (.putfield 36, 3)) (hn : pc + 3 = n) (h : G g (oX v) k nL n L st (mset S c (upd (S c) 5 x))) : G g (oX v) k nL pc L (.int x :: .ref (v.1 c) :: st) S :=
  g_put (ty := .int) ok (C := RX7) (T := TX7) (N := 8) (ci := 6) (c := c) (fk := 5) (lt0 hk) (sh0 hk _) rfl (by decide) rfl wlX7 tw_348 tyX7_ok nmX7 rfl (by decide +kernel) rfl rfl (Nat.le_of_ble_eq_true rfl) (sh0 hk _) hd hn h
theorem tw_67 : Cond.fieldLinkNest RX7 143 RX5 "rule" "I" RX7 ∈ lw_tbl := tm 67 (by decide +kernel)
theorem fg_X7_X5_rule {v : VxT} {l : Launch} {g : CxT} {k nL pc n : Nat} {cc : ByteArray} {ret : Option FieldType} {L : List (Nat × Value)} {st : List Value} {S : Mem} (c : Nat) (hk : kdX c = 1) (ok : Ok l g (oX v) nL cc RX7 ret) (hd : decode cc pc = .ok (.getfield 143, 3)) (hn : pc + 3 = n) (h : G g (oX v) k nL n L (.int (S c 6) :: st) S) : G g (oX v) k nL pc L (.ref (v.1 c) :: st) S := g_getN ok (C := RX5) (T := TX5) (N := 7) (ci := 5) (c := c) (fk := 6) (lt1 hk) (sh1 hk _) rfl (by decide) rfl wlX5 tw_67 rfl hd hn h
theorem fp_X7_X5_rule {v : VxT} {l : Launch} {g : CxT} {k nL pc n : Nat} {cc : ByteArray} {ret : Option FieldType} {L : List (Nat × Value)} {st : List Value} {S : Mem} (c : Nat) (hk : kdX c = 1) (ok : Ok l g (oX v) nL cc RX7 ret) {x : Int32} (hd : decode cc pc = .ok (.putfield 143, 3)) (hn : pc + 3 = n) (h : G g (oX v) k nL n L st (mset S c (upd (S c) 6 x))) : G g (oX v) k nL pc L (.int x :: .ref (v.1 c) :: st) S :=
  g_putN (ty := .int) ok (C := RX5) (T := TX5) (N := 7) (ci := 5) (c := c) (fk := 6) (lt1 hk) (sh1 hk _) rfl (by decide) rfl wlX5 tw_67 tyX5_ok nmX5 rfl (by decide +kernel) rfl rfl (Nat.le_of_ble_eq_true rfl) (sh1 hk _) hd hn h
theorem tw_349 : Cond.fieldLink RX7 43 RX7 "stand" "LTableRocks$Stand;" ∈ lw_tbl := tm 349 (by decide +kernel)
theorem fg_X7_X7_stand {v : VxT} {l : Launch} {g : CxT} {k nL pc n : Nat} {cc : ByteArray} {ret : Option FieldType} {L : List (Nat × Value)} {st : List Value} {S : Mem} (c : Nat) (hk : kdX c = 0) (ok : Ok l g (oX v) nL cc RX7 ret) (hd : decode cc pc = .ok (.getfield 43, 3)) (hn : pc + 3 = n) (h : G g (oX v) k nL n L (.ref (v.1 39) :: st) S) : G g (oX v) k nL pc L (.ref (v.1 c) :: st) S := g_get ok (C := RX7) (T := TX7) (N := 8) (ci := 6) (c := c) (fk := 6) (lt0 hk) (sh0 hk _) rfl (by decide) rfl wlX7 tw_349 rfl hd hn h
theorem fp_X7_X5_turn {v : VxT} {l : Launch} {g : CxT} {k nL pc n : Nat} {cc : ByteArray} {ret : Option FieldType} {L : List (Nat × Value)} {st : List Value} {S : Mem} (c : Nat) (hk : kdX c = 1) (ok : Ok l g (oX v) nL cc RX7 ret) {x : Int32} (hd : decode cc pc = .ok (.putfield 120, 3)) (hn : pc + 3 = n) (h : G g (oX v) k nL n L st (mset S c (upd (S c) 4 x))) : G g (oX v) k nL pc L (.int x :: .ref (v.1 c) :: st) S :=
  g_putN (ty := .int) ok (C := RX5) (T := TX5) (N := 7) (ci := 5) (c := c) (fk := 4) (lt1 hk) (sh1 hk _) rfl (by decide) rfl wlX5 tw_63 tyX5_ok nmX5 rfl (by decide +kernel) rfl rfl (Nat.le_of_ble_eq_true rfl) (sh1 hk _) hd hn h
theorem fp_X7_X5_load {v : VxT} {l : Launch} {g : CxT} {k nL pc n : Nat} {cc : ByteArray} {ret : Option FieldType} {L : List (Nat × Value)} {st : List Value} {S : Mem} (c : Nat) (hk : kdX c = 1) (ok : Ok l g (oX v) nL cc RX7 ret) {x : Int32} (hd : decode cc pc = .ok (.putfield 110, 3)) (hn : pc + 3 = n) (h : G g (oX v) k nL n L st (mset S c (upd (S c) 5 x))) : G g (oX v) k nL pc L (.int x :: .ref (v.1 c) :: st) S :=
  g_putN (ty := .int) ok (C := RX5) (T := TX5) (N := 7) (ci := 5) (c := c) (fk := 5) (lt1 hk) (sh1 hk _) rfl (by decide) rfl wlX5 tw_65 tyX5_ok nmX5 rfl (by decide +kernel) rfl rfl (Nat.le_of_ble_eq_true rfl) (sh1 hk _) hd hn h
theorem tw_148 : Cond.fieldLinkNest RX7 212 RX4 "rock" "I" RX7 ∈ lw_tbl := tm 148 (by decide +kernel)
theorem fg_X7_X4_rock {v : VxT} {l : Launch} {g : CxT} {k nL pc n : Nat} {cc : ByteArray} {ret : Option FieldType} {L : List (Nat × Value)} {st : List Value} {S : Mem} (c : Nat) (hk : kdX c = 10) (ok : Ok l g (oX v) nL cc RX7 ret) (hd : decode cc pc = .ok (.getfield 212, 3)) (hn : pc + 3 = n) (h : G g (oX v) k nL n L (.int (S c 5) :: st) S) : G g (oX v) k nL pc L (.ref (v.1 c) :: st) S := g_getN ok (C := RX4) (T := TX4) (N := 7) (ci := 4) (c := c) (fk := 5) (lt10 hk) (sh10 hk _) rfl (by decide) rfl wlX4 tw_148 rfl hd hn h
theorem tw_344 : Cond.fieldLink RX7 16 RX7 "kept" "LTableRocks$Table;" ∈ lw_tbl := tm 344 (by decide +kernel)
theorem fg_X7_X7_kept {v : VxT} {l : Launch} {g : CxT} {k nL pc n : Nat} {cc : ByteArray} {ret : Option FieldType} {L : List (Nat × Value)} {st : List Value} {S : Mem} (c : Nat) (hk : kdX c = 0) (ok : Ok l g (oX v) nL cc RX7 ret) (hd : decode cc pc = .ok (.getfield 16, 3)) (hn : pc + 3 = n) (h : G g (oX v) k nL n L (.ref (v.1 8) :: st) S) : G g (oX v) k nL pc L (.ref (v.1 c) :: st) S := g_get ok (C := RX7) (T := TX7) (N := 8) (ci := 6) (c := c) (fk := 1) (lt0 hk) (sh0 hk _) rfl (by decide) rfl wlX7 tw_344 rfl hd hn h
theorem tw_345 : Cond.fieldLink RX7 19 RX7 "keeps" "Z" ∈ lw_tbl := tm 345 (by decide +kernel)
theorem fp_X7_X7_keeps {v : VxT} {l : Launch} {g : CxT} {k nL pc n : Nat} {cc : ByteArray} {ret : Option FieldType} {L : List (Nat × Value)} {st : List Value} {S : Mem} (c : Nat) (hk : kdX c = 0) (ok : Ok l g (oX v) nL cc RX7 ret) {x : Int32} (hz : x = 0 ∨ x = 1) (hd : decode cc pc = .ok (.putfield 19, 3)) (hn : pc + 3 = n) (h : G g (oX v) k nL n L st (mset S c (upd (S c) 2 x))) : G g (oX v) k nL pc L (.int x :: .ref (v.1 c) :: st) S :=
  g_put (ty := .boolean) ok (C := RX7) (T := TX7) (N := 8) (ci := 6) (c := c) (fk := 2) (lt0 hk) (sh0 hk _) rfl (by decide) rfl wlX7 tw_345 tyX7_ok nmX7 rfl (by decide +kernel) (by rcases hz with rfl | rfl <;> decide) (by rcases hz with rfl | rfl <;> decide) (Nat.le_of_ble_eq_true rfl) (sh0 hk _) hd hn h
theorem fg_X7_X7_keeps {v : VxT} {l : Launch} {g : CxT} {k nL pc n : Nat} {cc : ByteArray} {ret : Option FieldType} {L : List (Nat × Value)} {st : List Value} {S : Mem} (c : Nat) (hk : kdX c = 0) (ok : Ok l g (oX v) nL cc RX7 ret) (hd : decode cc pc = .ok (.getfield 19, 3)) (hn : pc + 3 = n) (h : G g (oX v) k nL n L (.int (S c 2) :: st) S) : G g (oX v) k nL pc L (.ref (v.1 c) :: st) S := g_get ok (C := RX7) (T := TX7) (N := 8) (ci := 6) (c := c) (fk := 2) (lt0 hk) (sh0 hk _) rfl (by decide) rfl wlX7 tw_345 rfl hd hn h
theorem tw_61 : Cond.fieldLinkNest RX7 224 RX5 "radius" "I" RX7 ∈ lw_tbl := tm 61 (by decide +kernel)
theorem fg_X7_X5_radius {v : VxT} {l : Launch} {g : CxT} {k nL pc n : Nat} {cc : ByteArray} {ret : Option FieldType} {L : List (Nat × Value)} {st : List Value} {S : Mem} (c : Nat) (hk : kdX c = 1) (ok : Ok l g (oX v) nL cc RX7 ret) (hd : decode cc pc = .ok (.getfield 224, 3)) (hn : pc + 3 = n) (h : G g (oX v) k nL n L (.int (S c 3) :: st) S) : G g (oX v) k nL pc L (.ref (v.1 c) :: st) S := g_getN ok (C := RX5) (T := TX5) (N := 7) (ci := 5) (c := c) (fk := 3) (lt1 hk) (sh1 hk _) rfl (by decide) rfl wlX5 tw_61 rfl hd hn h
theorem tw_175 : Cond.fieldLinkNest RX7 239 RX3 "sort" "I" RX7 ∈ lw_tbl := tm 175 (by decide +kernel)
theorem fg_X7_X3_sort {v : VxT} {l : Launch} {g : CxT} {k nL pc n : Nat} {cc : ByteArray} {ret : Option FieldType} {L : List (Nat × Value)} {st : List Value} {S : Mem} (c : Nat) (hk : kdX c = 14) (ok : Ok l g (oX v) nL cc RX7 ret) (hd : decode cc pc = .ok (.getfield 239, 3)) (hn : pc + 3 = n) (h : G g (oX v) k nL n L (.int (S c 0) :: st) S) : G g (oX v) k nL pc L (.ref (v.1 c) :: st) S := g_getN ok (C := RX3) (T := TX3) (N := 3) (ci := 3) (c := c) (fk := 0) (lt14 hk) (sh14 hk _) rfl (by decide) rfl wlX3 tw_175 rfl hd hn h
theorem tw_179 : Cond.fieldLinkNest RX7 245 RX3 "items" "[I" RX7 ∈ lw_tbl := tm 179 (by decide +kernel)
theorem fg_X7_X3_items {v : VxT} {l : Launch} {g : CxT} {k nL pc n : Nat} {cc : ByteArray} {ret : Option FieldType} {L : List (Nat × Value)} {st : List Value} {S : Mem} (c : Nat) (hk : kdX c = 14) (ok : Ok l g (oX v) nL cc RX7 ret) (hd : decode cc pc = .ok (.getfield 245, 3)) (hn : pc + 3 = n) (h : G g (oX v) k nL n L (.ref (v.1 (c + 1)) :: st) S) : G g (oX v) k nL pc L (.ref (v.1 c) :: st) S := g_getN ok (C := RX3) (T := TX3) (N := 3) (ci := 3) (c := c) (fk := 2) (lt14 hk) (sh14 hk _) rfl (by decide) rfl wlX3 tw_179 rfl hd hn h
theorem fp_X7_X0_length {v : VxT} {l : Launch} {g : CxT} {k nL pc n : Nat} {cc : ByteArray} {ret : Option FieldType} {L : List (Nat × Value)} {st : List Value} {S : Mem} (c : Nat) (hk : kdX c = 4) (ok : Ok l g (oX v) nL cc RX7 ret) {x : Int32} (hd : decode cc pc = .ok (.putfield 108, 3)) (hn : pc + 3 = n) (h : G g (oX v) k nL n L st (mset S c (upd (S c) 1 x))) : G g (oX v) k nL pc L (.int x :: .ref (v.1 c) :: st) S :=
  g_putN (ty := .int) ok (C := RX0) (T := TX0) (N := 3) (ci := 0) (c := c) (fk := 1) (lt4 hk) (sh4 hk _) rfl (by decide) rfl wlX0 tw_41 tyX0_ok nmX0 rfl (by decide +kernel) rfl rfl (Nat.le_of_ble_eq_true rfl) (sh4 hk _) hd hn h
theorem fp_X7_X5_place {v : VxT} {l : Launch} {g : CxT} {k nL pc n : Nat} {cc : ByteArray} {ret : Option FieldType} {L : List (Nat × Value)} {st : List Value} {S : Mem} (c : Nat) (hk : kdX c = 1) (ok : Ok l g (oX v) nL cc RX7 ret) {x : Int32} (hd : decode cc pc = .ok (.putfield 117, 3)) (hn : pc + 3 = n) (h : G g (oX v) k nL n L st (mset S c (upd (S c) 2 x))) : G g (oX v) k nL pc L (.int x :: .ref (v.1 c) :: st) S :=
  g_putN (ty := .int) ok (C := RX5) (T := TX5) (N := 7) (ci := 5) (c := c) (fk := 2) (lt1 hk) (sh1 hk _) rfl (by decide) rfl wlX5 tw_59 tyX5_ok nmX5 rfl (by decide +kernel) rfl rfl (Nat.le_of_ble_eq_true rfl) (sh1 hk _) hd hn h
theorem fp_X7_X5_radius {v : VxT} {l : Launch} {g : CxT} {k nL pc n : Nat} {cc : ByteArray} {ret : Option FieldType} {L : List (Nat × Value)} {st : List Value} {S : Mem} (c : Nat) (hk : kdX c = 1) (ok : Ok l g (oX v) nL cc RX7 ret) {x : Int32} (hd : decode cc pc = .ok (.putfield 224, 3)) (hn : pc + 3 = n) (h : G g (oX v) k nL n L st (mset S c (upd (S c) 3 x))) : G g (oX v) k nL pc L (.int x :: .ref (v.1 c) :: st) S :=
  g_putN (ty := .int) ok (C := RX5) (T := TX5) (N := 7) (ci := 5) (c := c) (fk := 3) (lt1 hk) (sh1 hk _) rfl (by decide) rfl wlX5 tw_61 tyX5_ok nmX5 rfl (by decide +kernel) rfl rfl (Nat.le_of_ble_eq_true rfl) (sh1 hk _) hd hn h
theorem tw_145 : Cond.fieldLinkNest RX7 271 RX4 "gap" "I" RX7 ∈ lw_tbl := tm 145 (by decide +kernel)
theorem fg_X7_X4_gap {v : VxT} {l : Launch} {g : CxT} {k nL pc n : Nat} {cc : ByteArray} {ret : Option FieldType} {L : List (Nat × Value)} {st : List Value} {S : Mem} (c : Nat) (hk : kdX c = 10) (ok : Ok l g (oX v) nL cc RX7 ret) (hd : decode cc pc = .ok (.getfield 271, 3)) (hn : pc + 3 = n) (h : G g (oX v) k nL n L (.int (S c 3) :: st) S) : G g (oX v) k nL pc L (.ref (v.1 c) :: st) S := g_getN ok (C := RX4) (T := TX4) (N := 7) (ci := 4) (c := c) (fk := 3) (lt10 hk) (sh10 hk _) rfl (by decide) rfl wlX4 tw_145 rfl hd hn h
theorem tw_150 : Cond.fieldLinkNest RX7 274 RX4 "lean" "I" RX7 ∈ lw_tbl := tm 150 (by decide +kernel)
theorem fg_X7_X4_lean {v : VxT} {l : Launch} {g : CxT} {k nL pc n : Nat} {cc : ByteArray} {ret : Option FieldType} {L : List (Nat × Value)} {st : List Value} {S : Mem} (c : Nat) (hk : kdX c = 10) (ok : Ok l g (oX v) nL cc RX7 ret) (hd : decode cc pc = .ok (.getfield 274, 3)) (hn : pc + 3 = n) (h : G g (oX v) k nL n L (.int (S c 6) :: st) S) : G g (oX v) k nL pc L (.ref (v.1 c) :: st) S := g_getN ok (C := RX4) (T := TX4) (N := 7) (ci := 4) (c := c) (fk := 6) (lt10 hk) (sh10 hk _) rfl (by decide) rfl wlX4 tw_150 rfl hd hn h
theorem tw_177 : Cond.fieldLinkNest RX7 299 RX3 "size" "I" RX7 ∈ lw_tbl := tm 177 (by decide +kernel)
theorem fg_X7_X3_size {v : VxT} {l : Launch} {g : CxT} {k nL pc n : Nat} {cc : ByteArray} {ret : Option FieldType} {L : List (Nat × Value)} {st : List Value} {S : Mem} (c : Nat) (hk : kdX c = 14) (ok : Ok l g (oX v) nL cc RX7 ret) (hd : decode cc pc = .ok (.getfield 299, 3)) (hn : pc + 3 = n) (h : G g (oX v) k nL n L (.int (S c 1) :: st) S) : G g (oX v) k nL pc L (.ref (v.1 c) :: st) S := g_getN ok (C := RX3) (T := TX3) (N := 3) (ci := 3) (c := c) (fk := 1) (lt14 hk) (sh14 hk _) rfl (by decide) rfl wlX3 tw_177 rfl hd hn h
theorem tw_843 : Cond.fieldLink RX8 22 RX8 "place" "I" ∈ lw_tbl := tm 843 (by decide +kernel)
theorem fp_X8_X8_place {v : VmT} {l : Launch} {g : CxT} {k nL pc n : Nat} {cc : ByteArray} {ret : Option FieldType} {L : List (Nat × Value)} {st : List Value} {S : Mem} (ok : Ok l g (oM v) nL cc RX8 ret) {x : Int32} (hd : decode cc pc = .ok (.putfield 22, 3)) (hn : pc + 3 = n) (h : G g (oM v) k nL n L st (mset S 0 (upd (S 0) 4 x))) : G g (oM v) k nL pc L (.int x :: .ref (v.1 0) :: st) S :=
  g_put (ty := .int) ok (C := RX8) (T := TX8) (N := 46) (ci := 7) (c := 0) (fk := 4) (Nat.le_of_ble_eq_true rfl) rfl rfl (by decide) rfl wlX8 tw_843 tyX8_ok nmX8 rfl (by decide +kernel) rfl rfl (Nat.le_of_ble_eq_true rfl) rfl hd hn h
theorem tw_844 : Cond.fieldLink RX8 26 RX8 "radius" "I" ∈ lw_tbl := tm 844 (by decide +kernel)
theorem fp_X8_X8_radius {v : VmT} {l : Launch} {g : CxT} {k nL pc n : Nat} {cc : ByteArray} {ret : Option FieldType} {L : List (Nat × Value)} {st : List Value} {S : Mem} (ok : Ok l g (oM v) nL cc RX8 ret) {x : Int32} (hd : decode cc pc = .ok (.putfield 26, 3)) (hn : pc + 3 = n) (h : G g (oM v) k nL n L st (mset S 0 (upd (S 0) 5 x))) : G g (oM v) k nL pc L (.int x :: .ref (v.1 0) :: st) S :=
  g_put (ty := .int) ok (C := RX8) (T := TX8) (N := 46) (ci := 7) (c := 0) (fk := 5) (Nat.le_of_ble_eq_true rfl) rfl rfl (by decide) rfl wlX8 tw_844 tyX8_ok nmX8 rfl (by decide +kernel) rfl rfl (Nat.le_of_ble_eq_true rfl) rfl hd hn h
theorem tw_847 : Cond.fieldLink RX8 77 RX8 "thrown" "I" ∈ lw_tbl := tm 847 (by decide +kernel)
theorem fp_X8_X8_thrown {v : VmT} {l : Launch} {g : CxT} {k nL pc n : Nat} {cc : ByteArray} {ret : Option FieldType} {L : List (Nat × Value)} {st : List Value} {S : Mem} (ok : Ok l g (oM v) nL cc RX8 ret) {x : Int32} (hd : decode cc pc = .ok (.putfield 77, 3)) (hn : pc + 3 = n) (h : G g (oM v) k nL n L st (mset S 0 (upd (S 0) 8 x))) : G g (oM v) k nL pc L (.int x :: .ref (v.1 0) :: st) S :=
  g_put (ty := .int) ok (C := RX8) (T := TX8) (N := 46) (ci := 7) (c := 0) (fk := 8) (Nat.le_of_ble_eq_true rfl) rfl rfl (by decide) rfl wlX8 tw_847 tyX8_ok nmX8 rfl (by decide +kernel) rfl rfl (Nat.le_of_ble_eq_true rfl) rfl hd hn h
theorem tw_852 : Cond.fieldLink RX8 80 RX8 "tapeMany" "I" ∈ lw_tbl := tm 852 (by decide +kernel)
theorem fp_X8_X8_tapeMany {v : VmT} {l : Launch} {g : CxT} {k nL pc n : Nat} {cc : ByteArray} {ret : Option FieldType} {L : List (Nat × Value)} {st : List Value} {S : Mem} (ok : Ok l g (oM v) nL cc RX8 ret) {x : Int32} (hd : decode cc pc = .ok (.putfield 80, 3)) (hn : pc + 3 = n) (h : G g (oM v) k nL n L st (mset S 0 (upd (S 0) 13 x))) : G g (oM v) k nL pc L (.int x :: .ref (v.1 0) :: st) S :=
  g_put (ty := .int) ok (C := RX8) (T := TX8) (N := 46) (ci := 7) (c := 0) (fk := 13) (Nat.le_of_ble_eq_true rfl) rfl rfl (by decide) rfl wlX8 tw_852 tyX8_ok nmX8 rfl (by decide +kernel) rfl rfl (Nat.le_of_ble_eq_true rfl) rfl hd hn h
theorem tw_851 : Cond.fieldLink RX8 38 RX8 "tape" "[I" ∈ lw_tbl := tm 851 (by decide +kernel)
theorem fg_X8_X8_tape {v : VmT} {l : Launch} {g : CxT} {k nL pc n : Nat} {cc : ByteArray} {ret : Option FieldType} {L : List (Nat × Value)} {st : List Value} {S : Mem} (ok : Ok l g (oM v) nL cc RX8 ret) (hd : decode cc pc = .ok (.getfield 38, 3)) (hn : pc + 3 = n) (h : G g (oM v) k nL n L (.ref (v.1 8) :: st) S) : G g (oM v) k nL pc L (.ref (v.1 0) :: st) S := g_get ok (C := RX8) (T := TX8) (N := 46) (ci := 7) (c := 0) (fk := 12) (Nat.le_of_ble_eq_true rfl) rfl rfl (by decide) rfl wlX8 tw_851 rfl hd hn h
theorem tw_848 : Cond.fieldLink RX8 29 RX8 "firstText" "[I" ∈ lw_tbl := tm 848 (by decide +kernel)
theorem fg_X8_X8_firstText {v : VmT} {l : Launch} {g : CxT} {k nL pc n : Nat} {cc : ByteArray} {ret : Option FieldType} {L : List (Nat × Value)} {st : List Value} {S : Mem} (ok : Ok l g (oM v) nL cc RX8 ret) (hd : decode cc pc = .ok (.getfield 29, 3)) (hn : pc + 3 = n) (h : G g (oM v) k nL n L (.ref (v.1 5) :: st) S) : G g (oM v) k nL pc L (.ref (v.1 0) :: st) S := g_get ok (C := RX8) (T := TX8) (N := 46) (ci := 7) (c := 0) (fk := 9) (Nat.le_of_ble_eq_true rfl) rfl rfl (by decide) rfl wlX8 tw_848 rfl hd hn h
theorem tw_853 : Cond.fieldLink RX8 87 RX8 "textMany" "I" ∈ lw_tbl := tm 853 (by decide +kernel)
theorem fp_X8_X8_textMany {v : VmT} {l : Launch} {g : CxT} {k nL pc n : Nat} {cc : ByteArray} {ret : Option FieldType} {L : List (Nat × Value)} {st : List Value} {S : Mem} (ok : Ok l g (oM v) nL cc RX8 ret) {x : Int32} (hd : decode cc pc = .ok (.putfield 87, 3)) (hn : pc + 3 = n) (h : G g (oM v) k nL n L st (mset S 0 (upd (S 0) 14 x))) : G g (oM v) k nL pc L (.int x :: .ref (v.1 0) :: st) S :=
  g_put (ty := .int) ok (C := RX8) (T := TX8) (N := 46) (ci := 7) (c := 0) (fk := 14) (Nat.le_of_ble_eq_true rfl) rfl rfl (by decide) rfl wlX8 tw_853 tyX8_ok nmX8 rfl (by decide +kernel) rfl rfl (Nat.le_of_ble_eq_true rfl) rfl hd hn h
theorem tw_850 : Cond.fieldLink RX8 35 RX8 "wordAt" "[I" ∈ lw_tbl := tm 850 (by decide +kernel)
theorem fg_X8_X8_wordAt {v : VmT} {l : Launch} {g : CxT} {k nL pc n : Nat} {cc : ByteArray} {ret : Option FieldType} {L : List (Nat × Value)} {st : List Value} {S : Mem} (ok : Ok l g (oM v) nL cc RX8 ret) (hd : decode cc pc = .ok (.getfield 35, 3)) (hn : pc + 3 = n) (h : G g (oM v) k nL n L (.ref (v.1 7) :: st) S) : G g (oM v) k nL pc L (.ref (v.1 0) :: st) S := g_get ok (C := RX8) (T := TX8) (N := 46) (ci := 7) (c := 0) (fk := 11) (Nat.le_of_ble_eq_true rfl) rfl rfl (by decide) rfl wlX8 tw_850 rfl hd hn h
theorem tw_849 : Cond.fieldLink RX8 32 RX8 "letters" "[I" ∈ lw_tbl := tm 849 (by decide +kernel)
theorem fg_X8_X8_letters {v : VmT} {l : Launch} {g : CxT} {k nL pc n : Nat} {cc : ByteArray} {ret : Option FieldType} {L : List (Nat × Value)} {st : List Value} {S : Mem} (ok : Ok l g (oM v) nL cc RX8 ret) (hd : decode cc pc = .ok (.getfield 32, 3)) (hn : pc + 3 = n) (h : G g (oM v) k nL n L (.ref (v.1 6) :: st) S) : G g (oM v) k nL pc L (.ref (v.1 0) :: st) S := g_get ok (C := RX8) (T := TX8) (N := 46) (ci := 7) (c := 0) (fk := 10) (Nat.le_of_ble_eq_true rfl) rfl rfl (by decide) rfl wlX8 tw_849 rfl hd hn h
theorem tw_858 : Cond.fieldLink RX8 90 RX8 "next" "I" ∈ lw_tbl := tm 858 (by decide +kernel)
theorem fg_X8_X8_next {v : VmT} {l : Launch} {g : CxT} {k nL pc n : Nat} {cc : ByteArray} {ret : Option FieldType} {L : List (Nat × Value)} {st : List Value} {S : Mem} (ok : Ok l g (oM v) nL cc RX8 ret) (hd : decode cc pc = .ok (.getfield 90, 3)) (hn : pc + 3 = n) (h : G g (oM v) k nL n L (.int (S 0 19) :: st) S) : G g (oM v) k nL pc L (.ref (v.1 0) :: st) S := g_get ok (C := RX8) (T := TX8) (N := 46) (ci := 7) (c := 0) (fk := 19) (Nat.le_of_ble_eq_true rfl) rfl rfl (by decide) rfl wlX8 tw_858 rfl hd hn h
theorem fg_X8_X8_tapeMany {v : VmT} {l : Launch} {g : CxT} {k nL pc n : Nat} {cc : ByteArray} {ret : Option FieldType} {L : List (Nat × Value)} {st : List Value} {S : Mem} (ok : Ok l g (oM v) nL cc RX8 ret) (hd : decode cc pc = .ok (.getfield 80, 3)) (hn : pc + 3 = n) (h : G g (oM v) k nL n L (.int (S 0 13) :: st) S) : G g (oM v) k nL pc L (.ref (v.1 0) :: st) S := g_get ok (C := RX8) (T := TX8) (N := 46) (ci := 7) (c := 0) (fk := 13) (Nat.le_of_ble_eq_true rfl) rfl rfl (by decide) rfl wlX8 tw_852 rfl hd hn h
theorem fp_X8_X8_next {v : VmT} {l : Launch} {g : CxT} {k nL pc n : Nat} {cc : ByteArray} {ret : Option FieldType} {L : List (Nat × Value)} {st : List Value} {S : Mem} (ok : Ok l g (oM v) nL cc RX8 ret) {x : Int32} (hd : decode cc pc = .ok (.putfield 90, 3)) (hn : pc + 3 = n) (h : G g (oM v) k nL n L st (mset S 0 (upd (S 0) 19 x))) : G g (oM v) k nL pc L (.int x :: .ref (v.1 0) :: st) S :=
  g_put (ty := .int) ok (C := RX8) (T := TX8) (N := 46) (ci := 7) (c := 0) (fk := 19) (Nat.le_of_ble_eq_true rfl) rfl rfl (by decide) rfl wlX8 tw_858 tyX8_ok nmX8 rfl (by decide +kernel) rfl rfl (Nat.le_of_ble_eq_true rfl) rfl hd hn h
theorem tw_855 : Cond.fieldLink RX8 101 RX8 "token" "I" ∈ lw_tbl := tm 855 (by decide +kernel)
theorem fp_X8_X8_token {v : VmT} {l : Launch} {g : CxT} {k nL pc n : Nat} {cc : ByteArray} {ret : Option FieldType} {L : List (Nat × Value)} {st : List Value} {S : Mem} (ok : Ok l g (oM v) nL cc RX8 ret) {x : Int32} (hd : decode cc pc = .ok (.putfield 101, 3)) (hn : pc + 3 = n) (h : G g (oM v) k nL n L st (mset S 0 (upd (S 0) 16 x))) : G g (oM v) k nL pc L (.int x :: .ref (v.1 0) :: st) S :=
  g_put (ty := .int) ok (C := RX8) (T := TX8) (N := 46) (ci := 7) (c := 0) (fk := 16) (Nat.le_of_ble_eq_true rfl) rfl rfl (by decide) rfl wlX8 tw_855 tyX8_ok nmX8 rfl (by decide +kernel) rfl rfl (Nat.le_of_ble_eq_true rfl) rfl hd hn h
theorem tw_856 : Cond.fieldLink RX8 104 RX8 "tokenAt" "I" ∈ lw_tbl := tm 856 (by decide +kernel)
theorem fg_X8_X8_tokenAt {v : VmT} {l : Launch} {g : CxT} {k nL pc n : Nat} {cc : ByteArray} {ret : Option FieldType} {L : List (Nat × Value)} {st : List Value} {S : Mem} (ok : Ok l g (oM v) nL cc RX8 ret) (hd : decode cc pc = .ok (.getfield 104, 3)) (hn : pc + 3 = n) (h : G g (oM v) k nL n L (.int (S 0 17) :: st) S) : G g (oM v) k nL pc L (.ref (v.1 0) :: st) S := g_get ok (C := RX8) (T := TX8) (N := 46) (ci := 7) (c := 0) (fk := 17) (Nat.le_of_ble_eq_true rfl) rfl rfl (by decide) rfl wlX8 tw_856 rfl hd hn h
theorem tw_857 : Cond.fieldLink RX8 111 RX8 "tokenValue" "I" ∈ lw_tbl := tm 857 (by decide +kernel)
theorem fp_X8_X8_tokenValue {v : VmT} {l : Launch} {g : CxT} {k nL pc n : Nat} {cc : ByteArray} {ret : Option FieldType} {L : List (Nat × Value)} {st : List Value} {S : Mem} (ok : Ok l g (oM v) nL cc RX8 ret) {x : Int32} (hd : decode cc pc = .ok (.putfield 111, 3)) (hn : pc + 3 = n) (h : G g (oM v) k nL n L st (mset S 0 (upd (S 0) 18 x))) : G g (oM v) k nL pc L (.int x :: .ref (v.1 0) :: st) S :=
  g_put (ty := .int) ok (C := RX8) (T := TX8) (N := 46) (ci := 7) (c := 0) (fk := 18) (Nat.le_of_ble_eq_true rfl) rfl rfl (by decide) rfl wlX8 tw_857 tyX8_ok nmX8 rfl (by decide +kernel) rfl rfl (Nat.le_of_ble_eq_true rfl) rfl hd hn h
theorem fg_X8_X8_tokenValue {v : VmT} {l : Launch} {g : CxT} {k nL pc n : Nat} {cc : ByteArray} {ret : Option FieldType} {L : List (Nat × Value)} {st : List Value} {S : Mem} (ok : Ok l g (oM v) nL cc RX8 ret) (hd : decode cc pc = .ok (.getfield 111, 3)) (hn : pc + 3 = n) (h : G g (oM v) k nL n L (.int (S 0 18) :: st) S) : G g (oM v) k nL pc L (.ref (v.1 0) :: st) S := g_get ok (C := RX8) (T := TX8) (N := 46) (ci := 7) (c := 0) (fk := 18) (Nat.le_of_ble_eq_true rfl) rfl rfl (by decide) rfl wlX8 tw_857 rfl hd hn h
theorem fp_X8_X8_tokenAt {v : VmT} {l : Launch} {g : CxT} {k nL pc n : Nat} {cc : ByteArray} {ret : Option FieldType} {L : List (Nat × Value)} {st : List Value} {S : Mem} (ok : Ok l g (oM v) nL cc RX8 ret) {x : Int32} (hd : decode cc pc = .ok (.putfield 104, 3)) (hn : pc + 3 = n) (h : G g (oM v) k nL n L st (mset S 0 (upd (S 0) 17 x))) : G g (oM v) k nL pc L (.int x :: .ref (v.1 0) :: st) S :=
  g_put (ty := .int) ok (C := RX8) (T := TX8) (N := 46) (ci := 7) (c := 0) (fk := 17) (Nat.le_of_ble_eq_true rfl) rfl rfl (by decide) rfl wlX8 tw_856 tyX8_ok nmX8 rfl (by decide +kernel) rfl rfl (Nat.le_of_ble_eq_true rfl) rfl hd hn h
theorem fg_X8_X8_token {v : VmT} {l : Launch} {g : CxT} {k nL pc n : Nat} {cc : ByteArray} {ret : Option FieldType} {L : List (Nat × Value)} {st : List Value} {S : Mem} (ok : Ok l g (oM v) nL cc RX8 ret) (hd : decode cc pc = .ok (.getfield 101, 3)) (hn : pc + 3 = n) (h : G g (oM v) k nL n L (.int (S 0 16) :: st) S) : G g (oM v) k nL pc L (.ref (v.1 0) :: st) S := g_get ok (C := RX8) (T := TX8) (N := 46) (ci := 7) (c := 0) (fk := 16) (Nat.le_of_ble_eq_true rfl) rfl rfl (by decide) rfl wlX8 tw_855 rfl hd hn h
theorem tw_859 : Cond.fieldLink RX8 41 RX8 "steps" "[I" ∈ lw_tbl := tm 859 (by decide +kernel)
theorem fg_X8_X8_steps {v : VmT} {l : Launch} {g : CxT} {k nL pc n : Nat} {cc : ByteArray} {ret : Option FieldType} {L : List (Nat × Value)} {st : List Value} {S : Mem} (ok : Ok l g (oM v) nL cc RX8 ret) (hd : decode cc pc = .ok (.getfield 41, 3)) (hn : pc + 3 = n) (h : G g (oM v) k nL n L (.ref (v.1 9) :: st) S) : G g (oM v) k nL pc L (.ref (v.1 0) :: st) S := g_get ok (C := RX8) (T := TX8) (N := 46) (ci := 7) (c := 0) (fk := 20) (Nat.le_of_ble_eq_true rfl) rfl rfl (by decide) rfl wlX8 tw_859 rfl hd hn h
theorem fg_X8_X8_textMany {v : VmT} {l : Launch} {g : CxT} {k nL pc n : Nat} {cc : ByteArray} {ret : Option FieldType} {L : List (Nat × Value)} {st : List Value} {S : Mem} (ok : Ok l g (oM v) nL cc RX8 ret) (hd : decode cc pc = .ok (.getfield 87, 3)) (hn : pc + 3 = n) (h : G g (oM v) k nL n L (.int (S 0 14) :: st) S) : G g (oM v) k nL pc L (.ref (v.1 0) :: st) S := g_get ok (C := RX8) (T := TX8) (N := 46) (ci := 7) (c := 0) (fk := 14) (Nat.le_of_ble_eq_true rfl) rfl rfl (by decide) rfl wlX8 tw_853 rfl hd hn h
theorem tw_861 : Cond.fieldLink RX8 128 RX8 "stepMany" "I" ∈ lw_tbl := tm 861 (by decide +kernel)
theorem fg_X8_X8_stepMany {v : VmT} {l : Launch} {g : CxT} {k nL pc n : Nat} {cc : ByteArray} {ret : Option FieldType} {L : List (Nat × Value)} {st : List Value} {S : Mem} (ok : Ok l g (oM v) nL cc RX8 ret) (hd : decode cc pc = .ok (.getfield 128, 3)) (hn : pc + 3 = n) (h : G g (oM v) k nL n L (.int (S 0 22) :: st) S) : G g (oM v) k nL pc L (.ref (v.1 0) :: st) S := g_get ok (C := RX8) (T := TX8) (N := 46) (ci := 7) (c := 0) (fk := 22) (Nat.le_of_ble_eq_true rfl) rfl rfl (by decide) rfl wlX8 tw_861 rfl hd hn h
theorem fp_X8_X8_stepMany {v : VmT} {l : Launch} {g : CxT} {k nL pc n : Nat} {cc : ByteArray} {ret : Option FieldType} {L : List (Nat × Value)} {st : List Value} {S : Mem} (ok : Ok l g (oM v) nL cc RX8 ret) {x : Int32} (hd : decode cc pc = .ok (.putfield 128, 3)) (hn : pc + 3 = n) (h : G g (oM v) k nL n L st (mset S 0 (upd (S 0) 22 x))) : G g (oM v) k nL pc L (.int x :: .ref (v.1 0) :: st) S :=
  g_put (ty := .int) ok (C := RX8) (T := TX8) (N := 46) (ci := 7) (c := 0) (fk := 22) (Nat.le_of_ble_eq_true rfl) rfl rfl (by decide) rfl wlX8 tw_861 tyX8_ok nmX8 rfl (by decide +kernel) rfl rfl (Nat.le_of_ble_eq_true rfl) rfl hd hn h
theorem tw_863 : Cond.fieldLink RX8 131 RX8 "waitMany" "I" ∈ lw_tbl := tm 863 (by decide +kernel)
theorem fg_X8_X8_waitMany {v : VmT} {l : Launch} {g : CxT} {k nL pc n : Nat} {cc : ByteArray} {ret : Option FieldType} {L : List (Nat × Value)} {st : List Value} {S : Mem} (ok : Ok l g (oM v) nL cc RX8 ret) (hd : decode cc pc = .ok (.getfield 131, 3)) (hn : pc + 3 = n) (h : G g (oM v) k nL n L (.int (S 0 24) :: st) S) : G g (oM v) k nL pc L (.ref (v.1 0) :: st) S := g_get ok (C := RX8) (T := TX8) (N := 46) (ci := 7) (c := 0) (fk := 24) (Nat.le_of_ble_eq_true rfl) rfl rfl (by decide) rfl wlX8 tw_863 rfl hd hn h
theorem tw_862 : Cond.fieldLink RX8 47 RX8 "waiting" "[I" ∈ lw_tbl := tm 862 (by decide +kernel)
theorem fg_X8_X8_waiting {v : VmT} {l : Launch} {g : CxT} {k nL pc n : Nat} {cc : ByteArray} {ret : Option FieldType} {L : List (Nat × Value)} {st : List Value} {S : Mem} (ok : Ok l g (oM v) nL cc RX8 ret) (hd : decode cc pc = .ok (.getfield 47, 3)) (hn : pc + 3 = n) (h : G g (oM v) k nL n L (.ref (v.1 11) :: st) S) : G g (oM v) k nL pc L (.ref (v.1 0) :: st) S := g_get ok (C := RX8) (T := TX8) (N := 46) (ci := 7) (c := 0) (fk := 23) (Nat.le_of_ble_eq_true rfl) rfl rfl (by decide) rfl wlX8 tw_862 rfl hd hn h
theorem fp_X8_X8_waitMany {v : VmT} {l : Launch} {g : CxT} {k nL pc n : Nat} {cc : ByteArray} {ret : Option FieldType} {L : List (Nat × Value)} {st : List Value} {S : Mem} (ok : Ok l g (oM v) nL cc RX8 ret) {x : Int32} (hd : decode cc pc = .ok (.putfield 131, 3)) (hn : pc + 3 = n) (h : G g (oM v) k nL n L st (mset S 0 (upd (S 0) 24 x))) : G g (oM v) k nL pc L (.int x :: .ref (v.1 0) :: st) S :=
  g_put (ty := .int) ok (C := RX8) (T := TX8) (N := 46) (ci := 7) (c := 0) (fk := 24) (Nat.le_of_ble_eq_true rfl) rfl rfl (by decide) rfl wlX8 tw_863 tyX8_ok nmX8 rfl (by decide +kernel) rfl rfl (Nat.le_of_ble_eq_true rfl) rfl hd hn h
theorem tw_865 : Cond.fieldLink RX8 145 RX8 "wantsOne" "Z" ∈ lw_tbl := tm 865 (by decide +kernel)
theorem fp_X8_X8_wantsOne {v : VmT} {l : Launch} {g : CxT} {k nL pc n : Nat} {cc : ByteArray} {ret : Option FieldType} {L : List (Nat × Value)} {st : List Value} {S : Mem} (ok : Ok l g (oM v) nL cc RX8 ret) {x : Int32} (hz : x = 0 ∨ x = 1) (hd : decode cc pc = .ok (.putfield 145, 3)) (hn : pc + 3 = n) (h : G g (oM v) k nL n L st (mset S 0 (upd (S 0) 26 x))) : G g (oM v) k nL pc L (.int x :: .ref (v.1 0) :: st) S :=
  g_put (ty := .boolean) ok (C := RX8) (T := TX8) (N := 46) (ci := 7) (c := 0) (fk := 26) (Nat.le_of_ble_eq_true rfl) rfl rfl (by decide) rfl wlX8 tw_865 tyX8_ok nmX8 rfl (by decide +kernel) (by rcases hz with rfl | rfl <;> decide) (by rcases hz with rfl | rfl <;> decide) (Nat.le_of_ble_eq_true rfl) rfl hd hn h
theorem tw_866 : Cond.fieldLink RX8 152 RX8 "mayNot" "Z" ∈ lw_tbl := tm 866 (by decide +kernel)
theorem fg_X8_X8_mayNot {v : VmT} {l : Launch} {g : CxT} {k nL pc n : Nat} {cc : ByteArray} {ret : Option FieldType} {L : List (Nat × Value)} {st : List Value} {S : Mem} (ok : Ok l g (oM v) nL cc RX8 ret) (hd : decode cc pc = .ok (.getfield 152, 3)) (hn : pc + 3 = n) (h : G g (oM v) k nL n L (.int (S 0 27) :: st) S) : G g (oM v) k nL pc L (.ref (v.1 0) :: st) S := g_get ok (C := RX8) (T := TX8) (N := 46) (ci := 7) (c := 0) (fk := 27) (Nat.le_of_ble_eq_true rfl) rfl rfl (by decide) rfl wlX8 tw_866 rfl hd hn h
theorem fp_X8_X8_mayNot {v : VmT} {l : Launch} {g : CxT} {k nL pc n : Nat} {cc : ByteArray} {ret : Option FieldType} {L : List (Nat × Value)} {st : List Value} {S : Mem} (ok : Ok l g (oM v) nL cc RX8 ret) {x : Int32} (hz : x = 0 ∨ x = 1) (hd : decode cc pc = .ok (.putfield 152, 3)) (hn : pc + 3 = n) (h : G g (oM v) k nL n L st (mset S 0 (upd (S 0) 27 x))) : G g (oM v) k nL pc L (.int x :: .ref (v.1 0) :: st) S :=
  g_put (ty := .boolean) ok (C := RX8) (T := TX8) (N := 46) (ci := 7) (c := 0) (fk := 27) (Nat.le_of_ble_eq_true rfl) rfl rfl (by decide) rfl wlX8 tw_866 tyX8_ok nmX8 rfl (by decide +kernel) (by rcases hz with rfl | rfl <;> decide) (by rcases hz with rfl | rfl <;> decide) (Nat.le_of_ble_eq_true rfl) rfl hd hn h
theorem tw_864 : Cond.fieldLink RX8 174 RX8 "isDone" "Z" ∈ lw_tbl := tm 864 (by decide +kernel)
theorem fp_X8_X8_isDone {v : VmT} {l : Launch} {g : CxT} {k nL pc n : Nat} {cc : ByteArray} {ret : Option FieldType} {L : List (Nat × Value)} {st : List Value} {S : Mem} (ok : Ok l g (oM v) nL cc RX8 ret) {x : Int32} (hz : x = 0 ∨ x = 1) (hd : decode cc pc = .ok (.putfield 174, 3)) (hn : pc + 3 = n) (h : G g (oM v) k nL n L st (mset S 0 (upd (S 0) 25 x))) : G g (oM v) k nL pc L (.int x :: .ref (v.1 0) :: st) S :=
  g_put (ty := .boolean) ok (C := RX8) (T := TX8) (N := 46) (ci := 7) (c := 0) (fk := 25) (Nat.le_of_ble_eq_true rfl) rfl rfl (by decide) rfl wlX8 tw_864 tyX8_ok nmX8 rfl (by decide +kernel) (by rcases hz with rfl | rfl <;> decide) (by rcases hz with rfl | rfl <;> decide) (Nat.le_of_ble_eq_true rfl) rfl hd hn h
theorem fg_X8_X8_isDone {v : VmT} {l : Launch} {g : CxT} {k nL pc n : Nat} {cc : ByteArray} {ret : Option FieldType} {L : List (Nat × Value)} {st : List Value} {S : Mem} (ok : Ok l g (oM v) nL cc RX8 ret) (hd : decode cc pc = .ok (.getfield 174, 3)) (hn : pc + 3 = n) (h : G g (oM v) k nL n L (.int (S 0 25) :: st) S) : G g (oM v) k nL pc L (.ref (v.1 0) :: st) S := g_get ok (C := RX8) (T := TX8) (N := 46) (ci := 7) (c := 0) (fk := 25) (Nat.le_of_ble_eq_true rfl) rfl rfl (by decide) rfl wlX8 tw_864 rfl hd hn h
theorem fg_X8_X8_wantsOne {v : VmT} {l : Launch} {g : CxT} {k nL pc n : Nat} {cc : ByteArray} {ret : Option FieldType} {L : List (Nat × Value)} {st : List Value} {S : Mem} (ok : Ok l g (oM v) nL cc RX8 ret) (hd : decode cc pc = .ok (.getfield 145, 3)) (hn : pc + 3 = n) (h : G g (oM v) k nL n L (.int (S 0 26) :: st) S) : G g (oM v) k nL pc L (.ref (v.1 0) :: st) S := g_get ok (C := RX8) (T := TX8) (N := 46) (ci := 7) (c := 0) (fk := 26) (Nat.le_of_ble_eq_true rfl) rfl rfl (by decide) rfl wlX8 tw_865 rfl hd hn h
theorem tw_860 : Cond.fieldLink RX8 44 RX8 "bounds" "[I" ∈ lw_tbl := tm 860 (by decide +kernel)
theorem fg_X8_X8_bounds {v : VmT} {l : Launch} {g : CxT} {k nL pc n : Nat} {cc : ByteArray} {ret : Option FieldType} {L : List (Nat × Value)} {st : List Value} {S : Mem} (ok : Ok l g (oM v) nL cc RX8 ret) (hd : decode cc pc = .ok (.getfield 44, 3)) (hn : pc + 3 = n) (h : G g (oM v) k nL n L (.ref (v.1 10) :: st) S) : G g (oM v) k nL pc L (.ref (v.1 0) :: st) S := g_get ok (C := RX8) (T := TX8) (N := 46) (ci := 7) (c := 0) (fk := 21) (Nat.le_of_ble_eq_true rfl) rfl rfl (by decide) rfl wlX8 tw_860 rfl hd hn h
theorem tw_854 : Cond.fieldLink RX8 189 RX8 "rule" "I" ∈ lw_tbl := tm 854 (by decide +kernel)
theorem fg_X8_X8_rule {v : VmT} {l : Launch} {g : CxT} {k nL pc n : Nat} {cc : ByteArray} {ret : Option FieldType} {L : List (Nat × Value)} {st : List Value} {S : Mem} (ok : Ok l g (oM v) nL cc RX8 ret) (hd : decode cc pc = .ok (.getfield 189, 3)) (hn : pc + 3 = n) (h : G g (oM v) k nL n L (.int (S 0 15) :: st) S) : G g (oM v) k nL pc L (.ref (v.1 0) :: st) S := g_get ok (C := RX8) (T := TX8) (N := 46) (ci := 7) (c := 0) (fk := 15) (Nat.le_of_ble_eq_true rfl) rfl rfl (by decide) rfl wlX8 tw_854 rfl hd hn h
theorem tw_868 : Cond.fieldLink RX8 53 RX8 "stack" "[I" ∈ lw_tbl := tm 868 (by decide +kernel)
theorem fg_X8_X8_stack {v : VmT} {l : Launch} {g : CxT} {k nL pc n : Nat} {cc : ByteArray} {ret : Option FieldType} {L : List (Nat × Value)} {st : List Value} {S : Mem} (ok : Ok l g (oM v) nL cc RX8 ret) (hd : decode cc pc = .ok (.getfield 53, 3)) (hn : pc + 3 = n) (h : G g (oM v) k nL n L (.ref (v.1 13) :: st) S) : G g (oM v) k nL pc L (.ref (v.1 0) :: st) S := g_get ok (C := RX8) (T := TX8) (N := 46) (ci := 7) (c := 0) (fk := 29) (Nat.le_of_ble_eq_true rfl) rfl rfl (by decide) rfl wlX8 tw_868 rfl hd hn h
theorem tw_867 : Cond.fieldLink RX8 50 RX8 "named" "[I" ∈ lw_tbl := tm 867 (by decide +kernel)
theorem fg_X8_X8_named {v : VmT} {l : Launch} {g : CxT} {k nL pc n : Nat} {cc : ByteArray} {ret : Option FieldType} {L : List (Nat × Value)} {st : List Value} {S : Mem} (ok : Ok l g (oM v) nL cc RX8 ret) (hd : decode cc pc = .ok (.getfield 50, 3)) (hn : pc + 3 = n) (h : G g (oM v) k nL n L (.ref (v.1 12) :: st) S) : G g (oM v) k nL pc L (.ref (v.1 0) :: st) S := g_get ok (C := RX8) (T := TX8) (N := 46) (ci := 7) (c := 0) (fk := 28) (Nat.le_of_ble_eq_true rfl) rfl rfl (by decide) rfl wlX8 tw_867 rfl hd hn h
theorem fp_X8_X8_rule {v : VmT} {l : Launch} {g : CxT} {k nL pc n : Nat} {cc : ByteArray} {ret : Option FieldType} {L : List (Nat × Value)} {st : List Value} {S : Mem} (ok : Ok l g (oM v) nL cc RX8 ret) {x : Int32} (hd : decode cc pc = .ok (.putfield 189, 3)) (hn : pc + 3 = n) (h : G g (oM v) k nL n L st (mset S 0 (upd (S 0) 15 x))) : G g (oM v) k nL pc L (.int x :: .ref (v.1 0) :: st) S :=
  g_put (ty := .int) ok (C := RX8) (T := TX8) (N := 46) (ci := 7) (c := 0) (fk := 15) (Nat.le_of_ble_eq_true rfl) rfl rfl (by decide) rfl wlX8 tw_854 tyX8_ok nmX8 rfl (by decide +kernel) rfl rfl (Nat.le_of_ble_eq_true rfl) rfl hd hn h
theorem tw_841 : Cond.fieldLink RX8 16 RX8 "longs" "[I" ∈ lw_tbl := tm 841 (by decide +kernel)
theorem fg_X8_X8_longs {v : VmT} {l : Launch} {g : CxT} {k nL pc n : Nat} {cc : ByteArray} {ret : Option FieldType} {L : List (Nat × Value)} {st : List Value} {S : Mem} (ok : Ok l g (oM v) nL cc RX8 ret) (hd : decode cc pc = .ok (.getfield 16, 3)) (hn : pc + 3 = n) (h : G g (oM v) k nL n L (.ref (v.1 3) :: st) S) : G g (oM v) k nL pc L (.ref (v.1 0) :: st) S := g_get ok (C := RX8) (T := TX8) (N := 46) (ci := 7) (c := 0) (fk := 2) (Nat.le_of_ble_eq_true rfl) rfl rfl (by decide) rfl wlX8 tw_841 rfl hd hn h
theorem tw_842 : Cond.fieldLink RX8 19 RX8 "numbers" "[I" ∈ lw_tbl := tm 842 (by decide +kernel)
theorem fg_X8_X8_numbers {v : VmT} {l : Launch} {g : CxT} {k nL pc n : Nat} {cc : ByteArray} {ret : Option FieldType} {L : List (Nat × Value)} {st : List Value} {S : Mem} (ok : Ok l g (oM v) nL cc RX8 ret) (hd : decode cc pc = .ok (.getfield 19, 3)) (hn : pc + 3 = n) (h : G g (oM v) k nL n L (.ref (v.1 4) :: st) S) : G g (oM v) k nL pc L (.ref (v.1 0) :: st) S := g_get ok (C := RX8) (T := TX8) (N := 46) (ci := 7) (c := 0) (fk := 3) (Nat.le_of_ble_eq_true rfl) rfl rfl (by decide) rfl wlX8 tw_842 rfl hd hn h
theorem tw_840 : Cond.fieldLink RX8 13 RX8 "kinds" "[I" ∈ lw_tbl := tm 840 (by decide +kernel)
theorem fg_X8_X8_kinds {v : VmT} {l : Launch} {g : CxT} {k nL pc n : Nat} {cc : ByteArray} {ret : Option FieldType} {L : List (Nat × Value)} {st : List Value} {S : Mem} (ok : Ok l g (oM v) nL cc RX8 ret) (hd : decode cc pc = .ok (.getfield 13, 3)) (hn : pc + 3 = n) (h : G g (oM v) k nL n L (.ref (v.1 2) :: st) S) : G g (oM v) k nL pc L (.ref (v.1 0) :: st) S := g_get ok (C := RX8) (T := TX8) (N := 46) (ci := 7) (c := 0) (fk := 1) (Nat.le_of_ble_eq_true rfl) rfl rfl (by decide) rfl wlX8 tw_840 rfl hd hn h
theorem fg_X8_X8_radius {v : VmT} {l : Launch} {g : CxT} {k nL pc n : Nat} {cc : ByteArray} {ret : Option FieldType} {L : List (Nat × Value)} {st : List Value} {S : Mem} (ok : Ok l g (oM v) nL cc RX8 ret) (hd : decode cc pc = .ok (.getfield 26, 3)) (hn : pc + 3 = n) (h : G g (oM v) k nL n L (.int (S 0 5) :: st) S) : G g (oM v) k nL pc L (.ref (v.1 0) :: st) S := g_get ok (C := RX8) (T := TX8) (N := 46) (ci := 7) (c := 0) (fk := 5) (Nat.le_of_ble_eq_true rfl) rfl rfl (by decide) rfl wlX8 tw_844 rfl hd hn h
theorem tw_869 : Cond.fieldLink RX8 56 RX8 "at" "[I" ∈ lw_tbl := tm 869 (by decide +kernel)
theorem fg_X8_X8_at {v : VmT} {l : Launch} {g : CxT} {k nL pc n : Nat} {cc : ByteArray} {ret : Option FieldType} {L : List (Nat × Value)} {st : List Value} {S : Mem} (ok : Ok l g (oM v) nL cc RX8 ret) (hd : decode cc pc = .ok (.getfield 56, 3)) (hn : pc + 3 = n) (h : G g (oM v) k nL n L (.ref (v.1 14) :: st) S) : G g (oM v) k nL pc L (.ref (v.1 0) :: st) S := g_get ok (C := RX8) (T := TX8) (N := 46) (ci := 7) (c := 0) (fk := 30) (Nat.le_of_ble_eq_true rfl) rfl rfl (by decide) rfl wlX8 tw_869 rfl hd hn h
theorem tw_839 : Cond.fieldLink RX8 7 RX8 "heights" "[I" ∈ lw_tbl := tm 839 (by decide +kernel)
theorem fg_X8_X8_heights {v : VmT} {l : Launch} {g : CxT} {k nL pc n : Nat} {cc : ByteArray} {ret : Option FieldType} {L : List (Nat × Value)} {st : List Value} {S : Mem} (ok : Ok l g (oM v) nL cc RX8 ret) (hd : decode cc pc = .ok (.getfield 7, 3)) (hn : pc + 3 = n) (h : G g (oM v) k nL n L (.ref (v.1 1) :: st) S) : G g (oM v) k nL pc L (.ref (v.1 0) :: st) S := g_get ok (C := RX8) (T := TX8) (N := 46) (ci := 7) (c := 0) (fk := 0) (Nat.le_of_ble_eq_true rfl) rfl rfl (by decide) rfl wlX8 tw_839 rfl hd hn h
theorem tw_846 : Cond.fieldLink RX8 204 RX8 "load" "I" ∈ lw_tbl := tm 846 (by decide +kernel)
theorem fg_X8_X8_load {v : VmT} {l : Launch} {g : CxT} {k nL pc n : Nat} {cc : ByteArray} {ret : Option FieldType} {L : List (Nat × Value)} {st : List Value} {S : Mem} (ok : Ok l g (oM v) nL cc RX8 ret) (hd : decode cc pc = .ok (.getfield 204, 3)) (hn : pc + 3 = n) (h : G g (oM v) k nL n L (.int (S 0 7) :: st) S) : G g (oM v) k nL pc L (.ref (v.1 0) :: st) S := g_get ok (C := RX8) (T := TX8) (N := 46) (ci := 7) (c := 0) (fk := 7) (Nat.le_of_ble_eq_true rfl) rfl rfl (by decide) rfl wlX8 tw_846 rfl hd hn h
theorem tw_870 : Cond.fieldLink RX8 211 RX8 "gap" "I" ∈ lw_tbl := tm 870 (by decide +kernel)
theorem fp_X8_X8_gap {v : VmT} {l : Launch} {g : CxT} {k nL pc n : Nat} {cc : ByteArray} {ret : Option FieldType} {L : List (Nat × Value)} {st : List Value} {S : Mem} (ok : Ok l g (oM v) nL cc RX8 ret) {x : Int32} (hd : decode cc pc = .ok (.putfield 211, 3)) (hn : pc + 3 = n) (h : G g (oM v) k nL n L st (mset S 0 (upd (S 0) 31 x))) : G g (oM v) k nL pc L (.int x :: .ref (v.1 0) :: st) S :=
  g_put (ty := .int) ok (C := RX8) (T := TX8) (N := 46) (ci := 7) (c := 0) (fk := 31) (Nat.le_of_ble_eq_true rfl) rfl rfl (by decide) rfl wlX8 tw_870 tyX8_ok nmX8 rfl (by decide +kernel) rfl rfl (Nat.le_of_ble_eq_true rfl) rfl hd hn h
theorem fg_X8_X8_gap {v : VmT} {l : Launch} {g : CxT} {k nL pc n : Nat} {cc : ByteArray} {ret : Option FieldType} {L : List (Nat × Value)} {st : List Value} {S : Mem} (ok : Ok l g (oM v) nL cc RX8 ret) (hd : decode cc pc = .ok (.getfield 211, 3)) (hn : pc + 3 = n) (h : G g (oM v) k nL n L (.int (S 0 31) :: st) S) : G g (oM v) k nL pc L (.ref (v.1 0) :: st) S := g_get ok (C := RX8) (T := TX8) (N := 46) (ci := 7) (c := 0) (fk := 31) (Nat.le_of_ble_eq_true rfl) rfl rfl (by decide) rfl wlX8 tw_870 rfl hd hn h
theorem tw_871 : Cond.fieldLink RX8 214 RX8 "size" "I" ∈ lw_tbl := tm 871 (by decide +kernel)
theorem fp_X8_X8_size {v : VmT} {l : Launch} {g : CxT} {k nL pc n : Nat} {cc : ByteArray} {ret : Option FieldType} {L : List (Nat × Value)} {st : List Value} {S : Mem} (ok : Ok l g (oM v) nL cc RX8 ret) {x : Int32} (hd : decode cc pc = .ok (.putfield 214, 3)) (hn : pc + 3 = n) (h : G g (oM v) k nL n L st (mset S 0 (upd (S 0) 32 x))) : G g (oM v) k nL pc L (.int x :: .ref (v.1 0) :: st) S :=
  g_put (ty := .int) ok (C := RX8) (T := TX8) (N := 46) (ci := 7) (c := 0) (fk := 32) (Nat.le_of_ble_eq_true rfl) rfl rfl (by decide) rfl wlX8 tw_871 tyX8_ok nmX8 rfl (by decide +kernel) rfl rfl (Nat.le_of_ble_eq_true rfl) rfl hd hn h
theorem tw_874 : Cond.fieldLink RX8 217 RX8 "bearing" "I" ∈ lw_tbl := tm 874 (by decide +kernel)
theorem fp_X8_X8_bearing {v : VmT} {l : Launch} {g : CxT} {k nL pc n : Nat} {cc : ByteArray} {ret : Option FieldType} {L : List (Nat × Value)} {st : List Value} {S : Mem} (ok : Ok l g (oM v) nL cc RX8 ret) {x : Int32} (hd : decode cc pc = .ok (.putfield 217, 3)) (hn : pc + 3 = n) (h : G g (oM v) k nL n L st (mset S 0 (upd (S 0) 35 x))) : G g (oM v) k nL pc L (.int x :: .ref (v.1 0) :: st) S :=
  g_put (ty := .int) ok (C := RX8) (T := TX8) (N := 46) (ci := 7) (c := 0) (fk := 35) (Nat.le_of_ble_eq_true rfl) rfl rfl (by decide) rfl wlX8 tw_874 tyX8_ok nmX8 rfl (by decide +kernel) rfl rfl (Nat.le_of_ble_eq_true rfl) rfl hd hn h
theorem fg_X8_X8_bearing {v : VmT} {l : Launch} {g : CxT} {k nL pc n : Nat} {cc : ByteArray} {ret : Option FieldType} {L : List (Nat × Value)} {st : List Value} {S : Mem} (ok : Ok l g (oM v) nL cc RX8 ret) (hd : decode cc pc = .ok (.getfield 217, 3)) (hn : pc + 3 = n) (h : G g (oM v) k nL n L (.int (S 0 35) :: st) S) : G g (oM v) k nL pc L (.ref (v.1 0) :: st) S := g_get ok (C := RX8) (T := TX8) (N := 46) (ci := 7) (c := 0) (fk := 35) (Nat.le_of_ble_eq_true rfl) rfl rfl (by decide) rfl wlX8 tw_874 rfl hd hn h
theorem tw_875 : Cond.fieldLink RX8 220 RX8 "loose" "I" ∈ lw_tbl := tm 875 (by decide +kernel)
theorem fp_X8_X8_loose {v : VmT} {l : Launch} {g : CxT} {k nL pc n : Nat} {cc : ByteArray} {ret : Option FieldType} {L : List (Nat × Value)} {st : List Value} {S : Mem} (ok : Ok l g (oM v) nL cc RX8 ret) {x : Int32} (hd : decode cc pc = .ok (.putfield 220, 3)) (hn : pc + 3 = n) (h : G g (oM v) k nL n L st (mset S 0 (upd (S 0) 36 x))) : G g (oM v) k nL pc L (.int x :: .ref (v.1 0) :: st) S :=
  g_put (ty := .int) ok (C := RX8) (T := TX8) (N := 46) (ci := 7) (c := 0) (fk := 36) (Nat.le_of_ble_eq_true rfl) rfl rfl (by decide) rfl wlX8 tw_875 tyX8_ok nmX8 rfl (by decide +kernel) rfl rfl (Nat.le_of_ble_eq_true rfl) rfl hd hn h
theorem fg_X8_X8_loose {v : VmT} {l : Launch} {g : CxT} {k nL pc n : Nat} {cc : ByteArray} {ret : Option FieldType} {L : List (Nat × Value)} {st : List Value} {S : Mem} (ok : Ok l g (oM v) nL cc RX8 ret) (hd : decode cc pc = .ok (.getfield 220, 3)) (hn : pc + 3 = n) (h : G g (oM v) k nL n L (.int (S 0 36) :: st) S) : G g (oM v) k nL pc L (.ref (v.1 0) :: st) S := g_get ok (C := RX8) (T := TX8) (N := 46) (ci := 7) (c := 0) (fk := 36) (Nat.le_of_ble_eq_true rfl) rfl rfl (by decide) rfl wlX8 tw_875 rfl hd hn h
theorem fg_X8_X8_size {v : VmT} {l : Launch} {g : CxT} {k nL pc n : Nat} {cc : ByteArray} {ret : Option FieldType} {L : List (Nat × Value)} {st : List Value} {S : Mem} (ok : Ok l g (oM v) nL cc RX8 ret) (hd : decode cc pc = .ok (.getfield 214, 3)) (hn : pc + 3 = n) (h : G g (oM v) k nL n L (.int (S 0 32) :: st) S) : G g (oM v) k nL pc L (.ref (v.1 0) :: st) S := g_get ok (C := RX8) (T := TX8) (N := 46) (ci := 7) (c := 0) (fk := 32) (Nat.le_of_ble_eq_true rfl) rfl rfl (by decide) rfl wlX8 tw_871 rfl hd hn h
theorem tw_872 : Cond.fieldLink RX8 229 RX8 "rock" "I" ∈ lw_tbl := tm 872 (by decide +kernel)
theorem fp_X8_X8_rock {v : VmT} {l : Launch} {g : CxT} {k nL pc n : Nat} {cc : ByteArray} {ret : Option FieldType} {L : List (Nat × Value)} {st : List Value} {S : Mem} (ok : Ok l g (oM v) nL cc RX8 ret) {x : Int32} (hd : decode cc pc = .ok (.putfield 229, 3)) (hn : pc + 3 = n) (h : G g (oM v) k nL n L st (mset S 0 (upd (S 0) 33 x))) : G g (oM v) k nL pc L (.int x :: .ref (v.1 0) :: st) S :=
  g_put (ty := .int) ok (C := RX8) (T := TX8) (N := 46) (ci := 7) (c := 0) (fk := 33) (Nat.le_of_ble_eq_true rfl) rfl rfl (by decide) rfl wlX8 tw_872 tyX8_ok nmX8 rfl (by decide +kernel) rfl rfl (Nat.le_of_ble_eq_true rfl) rfl hd hn h
theorem fg_X8_X8_rock {v : VmT} {l : Launch} {g : CxT} {k nL pc n : Nat} {cc : ByteArray} {ret : Option FieldType} {L : List (Nat × Value)} {st : List Value} {S : Mem} (ok : Ok l g (oM v) nL cc RX8 ret) (hd : decode cc pc = .ok (.getfield 229, 3)) (hn : pc + 3 = n) (h : G g (oM v) k nL n L (.int (S 0 33) :: st) S) : G g (oM v) k nL pc L (.ref (v.1 0) :: st) S := g_get ok (C := RX8) (T := TX8) (N := 46) (ci := 7) (c := 0) (fk := 33) (Nat.le_of_ble_eq_true rfl) rfl rfl (by decide) rfl wlX8 tw_872 rfl hd hn h
theorem tw_873 : Cond.fieldLink RX8 235 RX8 "lean" "I" ∈ lw_tbl := tm 873 (by decide +kernel)
theorem fg_X8_X8_lean {v : VmT} {l : Launch} {g : CxT} {k nL pc n : Nat} {cc : ByteArray} {ret : Option FieldType} {L : List (Nat × Value)} {st : List Value} {S : Mem} (ok : Ok l g (oM v) nL cc RX8 ret) (hd : decode cc pc = .ok (.getfield 235, 3)) (hn : pc + 3 = n) (h : G g (oM v) k nL n L (.int (S 0 34) :: st) S) : G g (oM v) k nL pc L (.ref (v.1 0) :: st) S := g_get ok (C := RX8) (T := TX8) (N := 46) (ci := 7) (c := 0) (fk := 34) (Nat.le_of_ble_eq_true rfl) rfl rfl (by decide) rfl wlX8 tw_873 rfl hd hn h
theorem fp_X8_X8_lean {v : VmT} {l : Launch} {g : CxT} {k nL pc n : Nat} {cc : ByteArray} {ret : Option FieldType} {L : List (Nat × Value)} {st : List Value} {S : Mem} (ok : Ok l g (oM v) nL cc RX8 ret) {x : Int32} (hd : decode cc pc = .ok (.putfield 235, 3)) (hn : pc + 3 = n) (h : G g (oM v) k nL n L st (mset S 0 (upd (S 0) 34 x))) : G g (oM v) k nL pc L (.int x :: .ref (v.1 0) :: st) S :=
  g_put (ty := .int) ok (C := RX8) (T := TX8) (N := 46) (ci := 7) (c := 0) (fk := 34) (Nat.le_of_ble_eq_true rfl) rfl rfl (by decide) rfl wlX8 tw_873 tyX8_ok nmX8 rfl (by decide +kernel) rfl rfl (Nat.le_of_ble_eq_true rfl) rfl hd hn h
theorem fg_X8_X8_place {v : VmT} {l : Launch} {g : CxT} {k nL pc n : Nat} {cc : ByteArray} {ret : Option FieldType} {L : List (Nat × Value)} {st : List Value} {S : Mem} (ok : Ok l g (oM v) nL cc RX8 ret) (hd : decode cc pc = .ok (.getfield 22, 3)) (hn : pc + 3 = n) (h : G g (oM v) k nL n L (.int (S 0 4) :: st) S) : G g (oM v) k nL pc L (.ref (v.1 0) :: st) S := g_get ok (C := RX8) (T := TX8) (N := 46) (ci := 7) (c := 0) (fk := 4) (Nat.le_of_ble_eq_true rfl) rfl rfl (by decide) rfl wlX8 tw_843 rfl hd hn h
theorem tw_845 : Cond.fieldLink RX8 238 RX8 "turned" "I" ∈ lw_tbl := tm 845 (by decide +kernel)
theorem fg_X8_X8_turned {v : VmT} {l : Launch} {g : CxT} {k nL pc n : Nat} {cc : ByteArray} {ret : Option FieldType} {L : List (Nat × Value)} {st : List Value} {S : Mem} (ok : Ok l g (oM v) nL cc RX8 ret) (hd : decode cc pc = .ok (.getfield 238, 3)) (hn : pc + 3 = n) (h : G g (oM v) k nL n L (.int (S 0 6) :: st) S) : G g (oM v) k nL pc L (.ref (v.1 0) :: st) S := g_get ok (C := RX8) (T := TX8) (N := 46) (ci := 7) (c := 0) (fk := 6) (Nat.le_of_ble_eq_true rfl) rfl rfl (by decide) rfl wlX8 tw_845 rfl hd hn h
theorem fp_X8_X8_turned {v : VmT} {l : Launch} {g : CxT} {k nL pc n : Nat} {cc : ByteArray} {ret : Option FieldType} {L : List (Nat × Value)} {st : List Value} {S : Mem} (ok : Ok l g (oM v) nL cc RX8 ret) {x : Int32} (hd : decode cc pc = .ok (.putfield 238, 3)) (hn : pc + 3 = n) (h : G g (oM v) k nL n L st (mset S 0 (upd (S 0) 6 x))) : G g (oM v) k nL pc L (.int x :: .ref (v.1 0) :: st) S :=
  g_put (ty := .int) ok (C := RX8) (T := TX8) (N := 46) (ci := 7) (c := 0) (fk := 6) (Nat.le_of_ble_eq_true rfl) rfl rfl (by decide) rfl wlX8 tw_845 tyX8_ok nmX8 rfl (by decide +kernel) rfl rfl (Nat.le_of_ble_eq_true rfl) rfl hd hn h
theorem tw_876 : Cond.fieldLink RX8 59 RX8 "kept" "[I" ∈ lw_tbl := tm 876 (by decide +kernel)
theorem fg_X8_X8_kept {v : VmT} {l : Launch} {g : CxT} {k nL pc n : Nat} {cc : ByteArray} {ret : Option FieldType} {L : List (Nat × Value)} {st : List Value} {S : Mem} (ok : Ok l g (oM v) nL cc RX8 ret) (hd : decode cc pc = .ok (.getfield 59, 3)) (hn : pc + 3 = n) (h : G g (oM v) k nL n L (.ref (v.1 15) :: st) S) : G g (oM v) k nL pc L (.ref (v.1 0) :: st) S := g_get ok (C := RX8) (T := TX8) (N := 46) (ci := 7) (c := 0) (fk := 37) (Nat.le_of_ble_eq_true rfl) rfl rfl (by decide) rfl wlX8 tw_876 rfl hd hn h
theorem fp_X8_X8_load {v : VmT} {l : Launch} {g : CxT} {k nL pc n : Nat} {cc : ByteArray} {ret : Option FieldType} {L : List (Nat × Value)} {st : List Value} {S : Mem} (ok : Ok l g (oM v) nL cc RX8 ret) {x : Int32} (hd : decode cc pc = .ok (.putfield 204, 3)) (hn : pc + 3 = n) (h : G g (oM v) k nL n L st (mset S 0 (upd (S 0) 7 x))) : G g (oM v) k nL pc L (.int x :: .ref (v.1 0) :: st) S :=
  g_put (ty := .int) ok (C := RX8) (T := TX8) (N := 46) (ci := 7) (c := 0) (fk := 7) (Nat.le_of_ble_eq_true rfl) rfl rfl (by decide) rfl wlX8 tw_846 tyX8_ok nmX8 rfl (by decide +kernel) rfl rfl (Nat.le_of_ble_eq_true rfl) rfl hd hn h
theorem tw_882 : Cond.fieldLink RX8 68 RX8 "sheetMany" "[I" ∈ lw_tbl := tm 882 (by decide +kernel)
theorem fg_X8_X8_sheetMany {v : VmT} {l : Launch} {g : CxT} {k nL pc n : Nat} {cc : ByteArray} {ret : Option FieldType} {L : List (Nat × Value)} {st : List Value} {S : Mem} (ok : Ok l g (oM v) nL cc RX8 ret) (hd : decode cc pc = .ok (.getfield 68, 3)) (hn : pc + 3 = n) (h : G g (oM v) k nL n L (.ref (v.1 18) :: st) S) : G g (oM v) k nL pc L (.ref (v.1 0) :: st) S := g_get ok (C := RX8) (T := TX8) (N := 46) (ci := 7) (c := 0) (fk := 43) (Nat.le_of_ble_eq_true rfl) rfl rfl (by decide) rfl wlX8 tw_882 rfl hd hn h
theorem tw_883 : Cond.fieldLink RX8 71 RX8 "sheets" "[I" ∈ lw_tbl := tm 883 (by decide +kernel)
theorem fg_X8_X8_sheets {v : VmT} {l : Launch} {g : CxT} {k nL pc n : Nat} {cc : ByteArray} {ret : Option FieldType} {L : List (Nat × Value)} {st : List Value} {S : Mem} (ok : Ok l g (oM v) nL cc RX8 ret) (hd : decode cc pc = .ok (.getfield 71, 3)) (hn : pc + 3 = n) (h : G g (oM v) k nL n L (.ref (v.1 19) :: st) S) : G g (oM v) k nL pc L (.ref (v.1 0) :: st) S := g_get ok (C := RX8) (T := TX8) (N := 46) (ci := 7) (c := 0) (fk := 44) (Nat.le_of_ble_eq_true rfl) rfl rfl (by decide) rfl wlX8 tw_883 rfl hd hn h
theorem tw_881 : Cond.fieldLink RX8 65 RX8 "sheetSort" "[I" ∈ lw_tbl := tm 881 (by decide +kernel)
theorem fg_X8_X8_sheetSort {v : VmT} {l : Launch} {g : CxT} {k nL pc n : Nat} {cc : ByteArray} {ret : Option FieldType} {L : List (Nat × Value)} {st : List Value} {S : Mem} (ok : Ok l g (oM v) nL cc RX8 ret) (hd : decode cc pc = .ok (.getfield 65, 3)) (hn : pc + 3 = n) (h : G g (oM v) k nL n L (.ref (v.1 17) :: st) S) : G g (oM v) k nL pc L (.ref (v.1 0) :: st) S := g_get ok (C := RX8) (T := TX8) (N := 46) (ci := 7) (c := 0) (fk := 42) (Nat.le_of_ble_eq_true rfl) rfl rfl (by decide) rfl wlX8 tw_881 rfl hd hn h
theorem tw_880 : Cond.fieldLink RX8 300 RX8 "isTaking" "Z" ∈ lw_tbl := tm 880 (by decide +kernel)
theorem fg_X8_X8_isTaking {v : VmT} {l : Launch} {g : CxT} {k nL pc n : Nat} {cc : ByteArray} {ret : Option FieldType} {L : List (Nat × Value)} {st : List Value} {S : Mem} (ok : Ok l g (oM v) nL cc RX8 ret) (hd : decode cc pc = .ok (.getfield 300, 3)) (hn : pc + 3 = n) (h : G g (oM v) k nL n L (.int (S 0 41) :: st) S) : G g (oM v) k nL pc L (.ref (v.1 0) :: st) S := g_get ok (C := RX8) (T := TX8) (N := 46) (ci := 7) (c := 0) (fk := 41) (Nat.le_of_ble_eq_true rfl) rfl rfl (by decide) rfl wlX8 tw_880 rfl hd hn h
theorem tw_878 : Cond.fieldLink RX8 62 RX8 "imaged" "[I" ∈ lw_tbl := tm 878 (by decide +kernel)
theorem fg_X8_X8_imaged {v : VmT} {l : Launch} {g : CxT} {k nL pc n : Nat} {cc : ByteArray} {ret : Option FieldType} {L : List (Nat × Value)} {st : List Value} {S : Mem} (ok : Ok l g (oM v) nL cc RX8 ret) (hd : decode cc pc = .ok (.getfield 62, 3)) (hn : pc + 3 = n) (h : G g (oM v) k nL n L (.ref (v.1 16) :: st) S) : G g (oM v) k nL pc L (.ref (v.1 0) :: st) S := g_get ok (C := RX8) (T := TX8) (N := 46) (ci := 7) (c := 0) (fk := 39) (Nat.le_of_ble_eq_true rfl) rfl rfl (by decide) rfl wlX8 tw_878 rfl hd hn h
theorem tw_879 : Cond.fieldLink RX8 303 RX8 "imageAt" "I" ∈ lw_tbl := tm 879 (by decide +kernel)
theorem fg_X8_X8_imageAt {v : VmT} {l : Launch} {g : CxT} {k nL pc n : Nat} {cc : ByteArray} {ret : Option FieldType} {L : List (Nat × Value)} {st : List Value} {S : Mem} (ok : Ok l g (oM v) nL cc RX8 ret) (hd : decode cc pc = .ok (.getfield 303, 3)) (hn : pc + 3 = n) (h : G g (oM v) k nL n L (.int (S 0 40) :: st) S) : G g (oM v) k nL pc L (.ref (v.1 0) :: st) S := g_get ok (C := RX8) (T := TX8) (N := 46) (ci := 7) (c := 0) (fk := 40) (Nat.le_of_ble_eq_true rfl) rfl rfl (by decide) rfl wlX8 tw_879 rfl hd hn h
theorem fp_X8_X8_imageAt {v : VmT} {l : Launch} {g : CxT} {k nL pc n : Nat} {cc : ByteArray} {ret : Option FieldType} {L : List (Nat × Value)} {st : List Value} {S : Mem} (ok : Ok l g (oM v) nL cc RX8 ret) {x : Int32} (hd : decode cc pc = .ok (.putfield 303, 3)) (hn : pc + 3 = n) (h : G g (oM v) k nL n L st (mset S 0 (upd (S 0) 40 x))) : G g (oM v) k nL pc L (.int x :: .ref (v.1 0) :: st) S :=
  g_put (ty := .int) ok (C := RX8) (T := TX8) (N := 46) (ci := 7) (c := 0) (fk := 40) (Nat.le_of_ble_eq_true rfl) rfl rfl (by decide) rfl wlX8 tw_879 tyX8_ok nmX8 rfl (by decide +kernel) rfl rfl (Nat.le_of_ble_eq_true rfl) rfl hd hn h
theorem tw_877 : Cond.fieldLink RX8 309 RX8 "hasImage" "Z" ∈ lw_tbl := tm 877 (by decide +kernel)
theorem fp_X8_X8_hasImage {v : VmT} {l : Launch} {g : CxT} {k nL pc n : Nat} {cc : ByteArray} {ret : Option FieldType} {L : List (Nat × Value)} {st : List Value} {S : Mem} (ok : Ok l g (oM v) nL cc RX8 ret) {x : Int32} (hz : x = 0 ∨ x = 1) (hd : decode cc pc = .ok (.putfield 309, 3)) (hn : pc + 3 = n) (h : G g (oM v) k nL n L st (mset S 0 (upd (S 0) 38 x))) : G g (oM v) k nL pc L (.int x :: .ref (v.1 0) :: st) S :=
  g_put (ty := .boolean) ok (C := RX8) (T := TX8) (N := 46) (ci := 7) (c := 0) (fk := 38) (Nat.le_of_ble_eq_true rfl) rfl rfl (by decide) rfl wlX8 tw_877 tyX8_ok nmX8 rfl (by decide +kernel) (by rcases hz with rfl | rfl <;> decide) (by rcases hz with rfl | rfl <;> decide) (Nat.le_of_ble_eq_true rfl) rfl hd hn h
theorem fp_X8_X8_isTaking {v : VmT} {l : Launch} {g : CxT} {k nL pc n : Nat} {cc : ByteArray} {ret : Option FieldType} {L : List (Nat × Value)} {st : List Value} {S : Mem} (ok : Ok l g (oM v) nL cc RX8 ret) {x : Int32} (hz : x = 0 ∨ x = 1) (hd : decode cc pc = .ok (.putfield 300, 3)) (hn : pc + 3 = n) (h : G g (oM v) k nL n L st (mset S 0 (upd (S 0) 41 x))) : G g (oM v) k nL pc L (.int x :: .ref (v.1 0) :: st) S :=
  g_put (ty := .boolean) ok (C := RX8) (T := TX8) (N := 46) (ci := 7) (c := 0) (fk := 41) (Nat.le_of_ble_eq_true rfl) rfl rfl (by decide) rfl wlX8 tw_880 tyX8_ok nmX8 rfl (by decide +kernel) (by rcases hz with rfl | rfl <;> decide) (by rcases hz with rfl | rfl <;> decide) (Nat.le_of_ble_eq_true rfl) rfl hd hn h
theorem fg_X8_X8_hasImage {v : VmT} {l : Launch} {g : CxT} {k nL pc n : Nat} {cc : ByteArray} {ret : Option FieldType} {L : List (Nat × Value)} {st : List Value} {S : Mem} (ok : Ok l g (oM v) nL cc RX8 ret) (hd : decode cc pc = .ok (.getfield 309, 3)) (hn : pc + 3 = n) (h : G g (oM v) k nL n L (.int (S 0 38) :: st) S) : G g (oM v) k nL pc L (.ref (v.1 0) :: st) S := g_get ok (C := RX8) (T := TX8) (N := 46) (ci := 7) (c := 0) (fk := 38) (Nat.le_of_ble_eq_true rfl) rfl rfl (by decide) rfl wlX8 tw_877 rfl hd hn h
theorem tw_884 : Cond.fieldLink RX8 74 RX8 "between" "[I" ∈ lw_tbl := tm 884 (by decide +kernel)
theorem fg_X8_X8_between {v : VmT} {l : Launch} {g : CxT} {k nL pc n : Nat} {cc : ByteArray} {ret : Option FieldType} {L : List (Nat × Value)} {st : List Value} {S : Mem} (ok : Ok l g (oM v) nL cc RX8 ret) (hd : decode cc pc = .ok (.getfield 74, 3)) (hn : pc + 3 = n) (h : G g (oM v) k nL n L (.ref (v.1 20) :: st) S) : G g (oM v) k nL pc L (.ref (v.1 0) :: st) S := g_get ok (C := RX8) (T := TX8) (N := 46) (ci := 7) (c := 0) (fk := 45) (Nat.le_of_ble_eq_true rfl) rfl rfl (by decide) rfl wlX8 tw_884 rfl hd hn h
end
