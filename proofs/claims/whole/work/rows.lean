section
-- ===== PART A: goes FIRST, ahead of the names: the tables' words, and 'selects' of the private methods out of them =====
/-- a private method of a class that the tables say can be made, by its rows of tables_1 -/
def lw_okq (q : MethodName × Nat) : Prop := (q.1.cls ≠ "java/lang/invoke/MethodHandle" ∧ q.1.cls ≠ "java/lang/invoke/VarHandle") ∧ Cond.instantiable q.1.cls q.2 ∈ tables_1 ∧ Cond.privateMethod q.1 ∈ tables_1 ∧ Cond.instanceMethod q.1 ∈ tables_1
theorem lw_p0 : lw_okq (⟨"CutoffSheet$Checker", "formula", "(I)Z"⟩, 1) := ⟨⟨by decide +kernel, by decide +kernel⟩, List.mem_of_getElem? (i := 152) (by decide +kernel), List.mem_of_getElem? (i := 283) (by decide +kernel), List.mem_of_getElem? (i := 284) (by decide +kernel)⟩
theorem lw_p1 : lw_okq (⟨"CutoffSheet$Checker", "product", "(I)Z"⟩, 1) := ⟨⟨by decide +kernel, by decide +kernel⟩, List.mem_of_getElem? (i := 152) (by decide +kernel), List.mem_of_getElem? (i := 287) (by decide +kernel), List.mem_of_getElem? (i := 288) (by decide +kernel)⟩
theorem lw_p2 : lw_okq (⟨"CutoffSheet$Checker", "factor", "(I)Z"⟩, 1) := ⟨⟨by decide +kernel, by decide +kernel⟩, List.mem_of_getElem? (i := 152) (by decide +kernel), List.mem_of_getElem? (i := 291) (by decide +kernel), List.mem_of_getElem? (i := 292) (by decide +kernel)⟩
theorem lw_p3 : lw_okq (⟨"CutoffSheet$Checker", "passNumber", "()V"⟩, 1) := ⟨⟨by decide +kernel, by decide +kernel⟩, List.mem_of_getElem? (i := 152) (by decide +kernel), List.mem_of_getElem? (i := 307) (by decide +kernel), List.mem_of_getElem? (i := 308) (by decide +kernel)⟩
theorem lw_p4 : lw_okq (⟨"CutoffSheet$Checker", "call", "(I)Z"⟩, 1) := ⟨⟨by decide +kernel, by decide +kernel⟩, List.mem_of_getElem? (i := 152) (by decide +kernel), List.mem_of_getElem? (i := 321) (by decide +kernel), List.mem_of_getElem? (i := 322) (by decide +kernel)⟩
theorem lw_p5 : lw_okq (⟨"CutoffSheet$Checker", "parts", "(II)Z"⟩, 1) := ⟨⟨by decide +kernel, by decide +kernel⟩, List.mem_of_getElem? (i := 152) (by decide +kernel), List.mem_of_getElem? (i := 391) (by decide +kernel), List.mem_of_getElem? (i := 392) (by decide +kernel)⟩
theorem lw_p6 : lw_okq (⟨"CutoffSheet$Checker", "isAtArea", "(I)Z"⟩, 1) := ⟨⟨by decide +kernel, by decide +kernel⟩, List.mem_of_getElem? (i := 152) (by decide +kernel), List.mem_of_getElem? (i := 397) (by decide +kernel), List.mem_of_getElem? (i := 398) (by decide +kernel)⟩
theorem lw_p7 : lw_okq (⟨"CutoffSheet$Checker", "area", "()Z"⟩, 1) := ⟨⟨by decide +kernel, by decide +kernel⟩, List.mem_of_getElem? (i := 152) (by decide +kernel), List.mem_of_getElem? (i := 401) (by decide +kernel), List.mem_of_getElem? (i := 402) (by decide +kernel)⟩
theorem lw_p8 : lw_okq (⟨"CutoffSheet$Checker", "passCell", "(II)Z"⟩, 1) := ⟨⟨by decide +kernel, by decide +kernel⟩, List.mem_of_getElem? (i := 152) (by decide +kernel), List.mem_of_getElem? (i := 405) (by decide +kernel), List.mem_of_getElem? (i := 406) (by decide +kernel)⟩
theorem lw_p9 : lw_okq (⟨"CutoffSheet", "letWait", "(ILCutoffSheet$Text;)I"⟩, 8) := ⟨⟨by decide +kernel, by decide +kernel⟩, List.mem_of_getElem? (i := 18) (by decide +kernel), List.mem_of_getElem? (i := 429) (by decide +kernel), List.mem_of_getElem? (i := 430) (by decide +kernel)⟩
theorem lw_p10 : lw_okq (⟨"CutoffSheet$History", "dropOldest", "()V"⟩, 2) := ⟨⟨by decide +kernel, by decide +kernel⟩, List.mem_of_getElem? (i := 135) (by decide +kernel), List.mem_of_getElem? (i := 446) (by decide +kernel), List.mem_of_getElem? (i := 447) (by decide +kernel)⟩
theorem lw_p11 : lw_okq (⟨"CutoffSheet", "draftShifted", "(III)Z"⟩, 8) := ⟨⟨by decide +kernel, by decide +kernel⟩, List.mem_of_getElem? (i := 18) (by decide +kernel), List.mem_of_getElem? (i := 470) (by decide +kernel), List.mem_of_getElem? (i := 471) (by decide +kernel)⟩
theorem lw_p12 : lw_okq (⟨"CutoffSheet", "shiftedLetter", "(IIII)I"⟩, 8) := ⟨⟨by decide +kernel, by decide +kernel⟩, List.mem_of_getElem? (i := 18) (by decide +kernel), List.mem_of_getElem? (i := 474) (by decide +kernel), List.mem_of_getElem? (i := 475) (by decide +kernel)⟩
theorem lw_p13 : lw_okq (⟨"CutoffSheet", "bringUpToDate", "(LCutoffSheet$State;Z)I"⟩, 8) := ⟨⟨by decide +kernel, by decide +kernel⟩, List.mem_of_getElem? (i := 18) (by decide +kernel), List.mem_of_getElem? (i := 504) (by decide +kernel), List.mem_of_getElem? (i := 505) (by decide +kernel)⟩
theorem lw_p14 : lw_okq (⟨"CutoffSheet$Calculator", "forget", "(LCutoffSheet$State;)V"⟩, 2) := ⟨⟨by decide +kernel, by decide +kernel⟩, List.mem_of_getElem? (i := 183) (by decide +kernel), List.mem_of_getElem? (i := 512) (by decide +kernel), List.mem_of_getElem? (i := 513) (by decide +kernel)⟩
theorem lw_p15 : lw_okq (⟨"CutoffSheet$Calculator", "opened", "(II)I"⟩, 2) := ⟨⟨by decide +kernel, by decide +kernel⟩, List.mem_of_getElem? (i := 183) (by decide +kernel), List.mem_of_getElem? (i := 520) (by decide +kernel), List.mem_of_getElem? (i := 521) (by decide +kernel)⟩
def lw_privs_1 : List (MethodName × Nat) := [(⟨"CutoffSheet$Checker", "formula", "(I)Z"⟩, 1), (⟨"CutoffSheet$Checker", "product", "(I)Z"⟩, 1), (⟨"CutoffSheet$Checker", "factor", "(I)Z"⟩, 1), (⟨"CutoffSheet$Checker", "passNumber", "()V"⟩, 1), (⟨"CutoffSheet$Checker", "call", "(I)Z"⟩, 1), (⟨"CutoffSheet$Checker", "parts", "(II)Z"⟩, 1), (⟨"CutoffSheet$Checker", "isAtArea", "(I)Z"⟩, 1), (⟨"CutoffSheet$Checker", "area", "()Z"⟩, 1), (⟨"CutoffSheet$Checker", "passCell", "(II)Z"⟩, 1), (⟨"CutoffSheet", "letWait", "(ILCutoffSheet$Text;)I"⟩, 8), (⟨"CutoffSheet$History", "dropOldest", "()V"⟩, 2), (⟨"CutoffSheet", "draftShifted", "(III)Z"⟩, 8), (⟨"CutoffSheet", "shiftedLetter", "(IIII)I"⟩, 8), (⟨"CutoffSheet", "bringUpToDate", "(LCutoffSheet$State;Z)I"⟩, 8), (⟨"CutoffSheet$Calculator", "forget", "(LCutoffSheet$State;)V"⟩, 2), (⟨"CutoffSheet$Calculator", "opened", "(II)I"⟩, 2)]
theorem lw_r1 : ∀ q ∈ lw_privs_1, lw_okq q := List.forall_mem_cons.mpr ⟨lw_p0, List.forall_mem_cons.mpr ⟨lw_p1, List.forall_mem_cons.mpr ⟨lw_p2, List.forall_mem_cons.mpr ⟨lw_p3, List.forall_mem_cons.mpr ⟨lw_p4, List.forall_mem_cons.mpr ⟨lw_p5, List.forall_mem_cons.mpr ⟨lw_p6, List.forall_mem_cons.mpr ⟨lw_p7, List.forall_mem_cons.mpr ⟨lw_p8, List.forall_mem_cons.mpr ⟨lw_p9, List.forall_mem_cons.mpr ⟨lw_p10, List.forall_mem_cons.mpr ⟨lw_p11, List.forall_mem_cons.mpr ⟨lw_p12, List.forall_mem_cons.mpr ⟨lw_p13, List.forall_mem_cons.mpr ⟨lw_p14, List.forall_mem_cons.mpr ⟨lw_p15, fun _ h => absurd h List.not_mem_nil⟩⟩⟩⟩⟩⟩⟩⟩⟩⟩⟩⟩⟩⟩⟩⟩
theorem lw_p16 : lw_okq (⟨"CutoffSheet$Evaluator", "formula", "(I)J"⟩, 8) := ⟨⟨by decide +kernel, by decide +kernel⟩, List.mem_of_getElem? (i := 189) (by decide +kernel), List.mem_of_getElem? (i := 529) (by decide +kernel), List.mem_of_getElem? (i := 530) (by decide +kernel)⟩
theorem lw_p17 : lw_okq (⟨"CutoffSheet$Evaluator", "product", "(I)J"⟩, 8) := ⟨⟨by decide +kernel, by decide +kernel⟩, List.mem_of_getElem? (i := 189) (by decide +kernel), List.mem_of_getElem? (i := 533) (by decide +kernel), List.mem_of_getElem? (i := 534) (by decide +kernel)⟩
theorem lw_p18 : lw_okq (⟨"CutoffSheet$Evaluator", "factor", "(I)J"⟩, 8) := ⟨⟨by decide +kernel, by decide +kernel⟩, List.mem_of_getElem? (i := 189) (by decide +kernel), List.mem_of_getElem? (i := 537) (by decide +kernel), List.mem_of_getElem? (i := 538) (by decide +kernel)⟩
theorem lw_p19 : lw_okq (⟨"CutoffSheet$Evaluator", "fail", "(I)J"⟩, 8) := ⟨⟨by decide +kernel, by decide +kernel⟩, List.mem_of_getElem? (i := 189) (by decide +kernel), List.mem_of_getElem? (i := 541) (by decide +kernel), List.mem_of_getElem? (i := 542) (by decide +kernel)⟩
theorem lw_p20 : lw_okq (⟨"CutoffSheet$Evaluator", "passNumber", "()J"⟩, 8) := ⟨⟨by decide +kernel, by decide +kernel⟩, List.mem_of_getElem? (i := 189) (by decide +kernel), List.mem_of_getElem? (i := 548) (by decide +kernel), List.mem_of_getElem? (i := 549) (by decide +kernel)⟩
theorem lw_p21 : lw_okq (⟨"CutoffSheet$Evaluator", "passCell", "()I"⟩, 8) := ⟨⟨by decide +kernel, by decide +kernel⟩, List.mem_of_getElem? (i := 189) (by decide +kernel), List.mem_of_getElem? (i := 555) (by decide +kernel), List.mem_of_getElem? (i := 556) (by decide +kernel)⟩
theorem lw_p22 : lw_okq (⟨"CutoffSheet$Evaluator", "readCell", "(I)J"⟩, 8) := ⟨⟨by decide +kernel, by decide +kernel⟩, List.mem_of_getElem? (i := 189) (by decide +kernel), List.mem_of_getElem? (i := 559) (by decide +kernel), List.mem_of_getElem? (i := 560) (by decide +kernel)⟩
theorem lw_p23 : lw_okq (⟨"CutoffSheet$Evaluator", "call", "(I)J"⟩, 8) := ⟨⟨by decide +kernel, by decide +kernel⟩, List.mem_of_getElem? (i := 189) (by decide +kernel), List.mem_of_getElem? (i := 564) (by decide +kernel), List.mem_of_getElem? (i := 565) (by decide +kernel)⟩
theorem lw_p24 : lw_okq (⟨"CutoffSheet$Evaluator", "choose", "(II)J"⟩, 8) := ⟨⟨by decide +kernel, by decide +kernel⟩, List.mem_of_getElem? (i := 189) (by decide +kernel), List.mem_of_getElem? (i := 571) (by decide +kernel), List.mem_of_getElem? (i := 572) (by decide +kernel)⟩
theorem lw_p25 : lw_okq (⟨"CutoffSheet$Evaluator", "skipPart", "()V"⟩, 8) := ⟨⟨by decide +kernel, by decide +kernel⟩, List.mem_of_getElem? (i := 189) (by decide +kernel), List.mem_of_getElem? (i := 577) (by decide +kernel), List.mem_of_getElem? (i := 578) (by decide +kernel)⟩
theorem lw_p26 : lw_okq (⟨"CutoffSheet$Evaluator", "combine", "(II)J"⟩, 8) := ⟨⟨by decide +kernel, by decide +kernel⟩, List.mem_of_getElem? (i := 189) (by decide +kernel), List.mem_of_getElem? (i := 581) (by decide +kernel), List.mem_of_getElem? (i := 582) (by decide +kernel)⟩
theorem lw_p27 : lw_okq (⟨"CutoffSheet$Evaluator", "gather", "(II)J"⟩, 8) := ⟨⟨by decide +kernel, by decide +kernel⟩, List.mem_of_getElem? (i := 189) (by decide +kernel), List.mem_of_getElem? (i := 593) (by decide +kernel), List.mem_of_getElem? (i := 594) (by decide +kernel)⟩
theorem lw_p28 : lw_okq (⟨"CutoffSheet$Evaluator", "isAtArea", "()Z"⟩, 8) := ⟨⟨by decide +kernel, by decide +kernel⟩, List.mem_of_getElem? (i := 189) (by decide +kernel), List.mem_of_getElem? (i := 598) (by decide +kernel), List.mem_of_getElem? (i := 599) (by decide +kernel)⟩
theorem lw_p29 : lw_okq (⟨"CutoffSheet$Evaluator", "gatherArea", "(IJ)J"⟩, 8) := ⟨⟨by decide +kernel, by decide +kernel⟩, List.mem_of_getElem? (i := 189) (by decide +kernel), List.mem_of_getElem? (i := 602) (by decide +kernel), List.mem_of_getElem? (i := 603) (by decide +kernel)⟩
theorem lw_p30 : lw_okq (⟨"CutoffSheet$Evaluator", "joined", "(IJJ)J"⟩, 8) := ⟨⟨by decide +kernel, by decide +kernel⟩, List.mem_of_getElem? (i := 189) (by decide +kernel), List.mem_of_getElem? (i := 607) (by decide +kernel), List.mem_of_getElem? (i := 608) (by decide +kernel)⟩
theorem lw_p31 : lw_okq (⟨"CutoffSheet$Evaluator", "bounded", "(J)J"⟩, 8) := ⟨⟨by decide +kernel, by decide +kernel⟩, List.mem_of_getElem? (i := 189) (by decide +kernel), List.mem_of_getElem? (i := 617) (by decide +kernel), List.mem_of_getElem? (i := 618) (by decide +kernel)⟩
def lw_privs_2 : List (MethodName × Nat) := [(⟨"CutoffSheet$Evaluator", "formula", "(I)J"⟩, 8), (⟨"CutoffSheet$Evaluator", "product", "(I)J"⟩, 8), (⟨"CutoffSheet$Evaluator", "factor", "(I)J"⟩, 8), (⟨"CutoffSheet$Evaluator", "fail", "(I)J"⟩, 8), (⟨"CutoffSheet$Evaluator", "passNumber", "()J"⟩, 8), (⟨"CutoffSheet$Evaluator", "passCell", "()I"⟩, 8), (⟨"CutoffSheet$Evaluator", "readCell", "(I)J"⟩, 8), (⟨"CutoffSheet$Evaluator", "call", "(I)J"⟩, 8), (⟨"CutoffSheet$Evaluator", "choose", "(II)J"⟩, 8), (⟨"CutoffSheet$Evaluator", "skipPart", "()V"⟩, 8), (⟨"CutoffSheet$Evaluator", "combine", "(II)J"⟩, 8), (⟨"CutoffSheet$Evaluator", "gather", "(II)J"⟩, 8), (⟨"CutoffSheet$Evaluator", "isAtArea", "()Z"⟩, 8), (⟨"CutoffSheet$Evaluator", "gatherArea", "(IJ)J"⟩, 8), (⟨"CutoffSheet$Evaluator", "joined", "(IJJ)J"⟩, 8), (⟨"CutoffSheet$Evaluator", "bounded", "(J)J"⟩, 8)]
theorem lw_r2 : ∀ q ∈ lw_privs_2, lw_okq q := List.forall_mem_cons.mpr ⟨lw_p16, List.forall_mem_cons.mpr ⟨lw_p17, List.forall_mem_cons.mpr ⟨lw_p18, List.forall_mem_cons.mpr ⟨lw_p19, List.forall_mem_cons.mpr ⟨lw_p20, List.forall_mem_cons.mpr ⟨lw_p21, List.forall_mem_cons.mpr ⟨lw_p22, List.forall_mem_cons.mpr ⟨lw_p23, List.forall_mem_cons.mpr ⟨lw_p24, List.forall_mem_cons.mpr ⟨lw_p25, List.forall_mem_cons.mpr ⟨lw_p26, List.forall_mem_cons.mpr ⟨lw_p27, List.forall_mem_cons.mpr ⟨lw_p28, List.forall_mem_cons.mpr ⟨lw_p29, List.forall_mem_cons.mpr ⟨lw_p30, List.forall_mem_cons.mpr ⟨lw_p31, fun _ h => absurd h List.not_mem_nil⟩⟩⟩⟩⟩⟩⟩⟩⟩⟩⟩⟩⟩⟩⟩⟩
theorem lw_p32 : lw_okq (⟨"CutoffSheet$Calculator", "learn", "(LCutoffSheet$State;II)V"⟩, 2) := ⟨⟨by decide +kernel, by decide +kernel⟩, List.mem_of_getElem? (i := 183) (by decide +kernel), List.mem_of_getElem? (i := 623) (by decide +kernel), List.mem_of_getElem? (i := 624) (by decide +kernel)⟩
theorem lw_p33 : lw_okq (⟨"CutoffSheet$Calculator", "markCycle", "(LCutoffSheet$State;I)V"⟩, 2) := ⟨⟨by decide +kernel, by decide +kernel⟩, List.mem_of_getElem? (i := 183) (by decide +kernel), List.mem_of_getElem? (i := 632) (by decide +kernel), List.mem_of_getElem? (i := 633) (by decide +kernel)⟩
theorem lw_p34 : lw_okq (⟨"CutoffSheet$Calculator", "isStill", "(LCutoffSheet$State;II)Z"⟩, 2) := ⟨⟨by decide +kernel, by decide +kernel⟩, List.mem_of_getElem? (i := 183) (by decide +kernel), List.mem_of_getElem? (i := 640) (by decide +kernel), List.mem_of_getElem? (i := 641) (by decide +kernel)⟩
theorem lw_p35 : lw_okq (⟨"CutoffSheet", "followCauses", "(I)I"⟩, 8) := ⟨⟨by decide +kernel, by decide +kernel⟩, List.mem_of_getElem? (i := 18) (by decide +kernel), List.mem_of_getElem? (i := 708) (by decide +kernel), List.mem_of_getElem? (i := 709) (by decide +kernel)⟩
theorem lw_p36 : lw_okq (⟨"CutoffSheet", "draftNumber", "(I)V"⟩, 8) := ⟨⟨by decide +kernel, by decide +kernel⟩, List.mem_of_getElem? (i := 18) (by decide +kernel), List.mem_of_getElem? (i := 718) (by decide +kernel), List.mem_of_getElem? (i := 719) (by decide +kernel)⟩
theorem lw_p37 : lw_okq (⟨"CutoffSheet", "sumOfFacts", "(I)I"⟩, 8) := ⟨⟨by decide +kernel, by decide +kernel⟩, List.mem_of_getElem? (i := 18) (by decide +kernel), List.mem_of_getElem? (i := 731) (by decide +kernel), List.mem_of_getElem? (i := 732) (by decide +kernel)⟩
theorem lw_p38 : lw_okq (⟨"CutoffSheetModel", "faultOf", "()I"⟩, 45) := ⟨⟨by decide +kernel, by decide +kernel⟩, List.mem_of_getElem? (i := 752) (by decide +kernel), List.mem_of_getElem? (i := 913) (by decide +kernel), List.mem_of_getElem? (i := 914) (by decide +kernel)⟩
theorem lw_p39 : lw_okq (⟨"CutoffSheetModel", "readFactor", "()Z"⟩, 45) := ⟨⟨by decide +kernel, by decide +kernel⟩, List.mem_of_getElem? (i := 752) (by decide +kernel), List.mem_of_getElem? (i := 917) (by decide +kernel), List.mem_of_getElem? (i := 918) (by decide +kernel)⟩
theorem lw_p40 : lw_okq (⟨"CutoffSheetModel", "readArea", "()Z"⟩, 45) := ⟨⟨by decide +kernel, by decide +kernel⟩, List.mem_of_getElem? (i := 752) (by decide +kernel), List.mem_of_getElem? (i := 921) (by decide +kernel), List.mem_of_getElem? (i := 922) (by decide +kernel)⟩
theorem lw_p41 : lw_okq (⟨"CutoffSheetModel", "here", "()I"⟩, 45) := ⟨⟨by decide +kernel, by decide +kernel⟩, List.mem_of_getElem? (i := 752) (by decide +kernel), List.mem_of_getElem? (i := 925) (by decide +kernel), List.mem_of_getElem? (i := 926) (by decide +kernel)⟩
theorem lw_p42 : lw_okq (⟨"CutoffSheetModel", "readCell", "(II)Z"⟩, 45) := ⟨⟨by decide +kernel, by decide +kernel⟩, List.mem_of_getElem? (i := 752) (by decide +kernel), List.mem_of_getElem? (i := 929) (by decide +kernel), List.mem_of_getElem? (i := 930) (by decide +kernel)⟩
theorem lw_p43 : lw_okq (⟨"CutoffSheetModel", "opens", "(I)V"⟩, 45) := ⟨⟨by decide +kernel, by decide +kernel⟩, List.mem_of_getElem? (i := 752) (by decide +kernel), List.mem_of_getElem? (i := 939) (by decide +kernel), List.mem_of_getElem? (i := 940) (by decide +kernel)⟩
theorem lw_p44 : lw_okq (⟨"CutoffSheetModel", "readName", "()Z"⟩, 45) := ⟨⟨by decide +kernel, by decide +kernel⟩, List.mem_of_getElem? (i := 752) (by decide +kernel), List.mem_of_getElem? (i := 943) (by decide +kernel), List.mem_of_getElem? (i := 944) (by decide +kernel)⟩
theorem lw_p45 : lw_okq (⟨"CutoffSheetModel", "matches", "(I)I"⟩, 45) := ⟨⟨by decide +kernel, by decide +kernel⟩, List.mem_of_getElem? (i := 752) (by decide +kernel), List.mem_of_getElem? (i := 947) (by decide +kernel), List.mem_of_getElem? (i := 948) (by decide +kernel)⟩
theorem lw_p46 : lw_okq (⟨"CutoffSheetModel", "readBehind", "()Z"⟩, 45) := ⟨⟨by decide +kernel, by decide +kernel⟩, List.mem_of_getElem? (i := 752) (by decide +kernel), List.mem_of_getElem? (i := 970) (by decide +kernel), List.mem_of_getElem? (i := 971) (by decide +kernel)⟩
theorem lw_p47 : lw_okq (⟨"CutoffSheetModel", "isFull", "(I)Z"⟩, 45) := ⟨⟨by decide +kernel, by decide +kernel⟩, List.mem_of_getElem? (i := 752) (by decide +kernel), List.mem_of_getElem? (i := 989) (by decide +kernel), List.mem_of_getElem? (i := 990) (by decide +kernel)⟩
def lw_privs_3 : List (MethodName × Nat) := [(⟨"CutoffSheet$Calculator", "learn", "(LCutoffSheet$State;II)V"⟩, 2), (⟨"CutoffSheet$Calculator", "markCycle", "(LCutoffSheet$State;I)V"⟩, 2), (⟨"CutoffSheet$Calculator", "isStill", "(LCutoffSheet$State;II)Z"⟩, 2), (⟨"CutoffSheet", "followCauses", "(I)I"⟩, 8), (⟨"CutoffSheet", "draftNumber", "(I)V"⟩, 8), (⟨"CutoffSheet", "sumOfFacts", "(I)I"⟩, 8), (⟨"CutoffSheetModel", "faultOf", "()I"⟩, 45), (⟨"CutoffSheetModel", "readFactor", "()Z"⟩, 45), (⟨"CutoffSheetModel", "readArea", "()Z"⟩, 45), (⟨"CutoffSheetModel", "here", "()I"⟩, 45), (⟨"CutoffSheetModel", "readCell", "(II)Z"⟩, 45), (⟨"CutoffSheetModel", "opens", "(I)V"⟩, 45), (⟨"CutoffSheetModel", "readName", "()Z"⟩, 45), (⟨"CutoffSheetModel", "matches", "(I)I"⟩, 45), (⟨"CutoffSheetModel", "readBehind", "()Z"⟩, 45), (⟨"CutoffSheetModel", "isFull", "(I)Z"⟩, 45)]
theorem lw_r3 : ∀ q ∈ lw_privs_3, lw_okq q := List.forall_mem_cons.mpr ⟨lw_p32, List.forall_mem_cons.mpr ⟨lw_p33, List.forall_mem_cons.mpr ⟨lw_p34, List.forall_mem_cons.mpr ⟨lw_p35, List.forall_mem_cons.mpr ⟨lw_p36, List.forall_mem_cons.mpr ⟨lw_p37, List.forall_mem_cons.mpr ⟨lw_p38, List.forall_mem_cons.mpr ⟨lw_p39, List.forall_mem_cons.mpr ⟨lw_p40, List.forall_mem_cons.mpr ⟨lw_p41, List.forall_mem_cons.mpr ⟨lw_p42, List.forall_mem_cons.mpr ⟨lw_p43, List.forall_mem_cons.mpr ⟨lw_p44, List.forall_mem_cons.mpr ⟨lw_p45, List.forall_mem_cons.mpr ⟨lw_p46, List.forall_mem_cons.mpr ⟨lw_p47, fun _ h => absurd h List.not_mem_nil⟩⟩⟩⟩⟩⟩⟩⟩⟩⟩⟩⟩⟩⟩⟩⟩
theorem lw_p48 : lw_okq (⟨"CutoffSheetModel", "slotOf", "(I)I"⟩, 45) := ⟨⟨by decide +kernel, by decide +kernel⟩, List.mem_of_getElem? (i := 752) (by decide +kernel), List.mem_of_getElem? (i := 993) (by decide +kernel), List.mem_of_getElem? (i := 994) (by decide +kernel)⟩
theorem lw_p49 : lw_okq (⟨"CutoffSheetModel", "save", "()V"⟩, 45) := ⟨⟨by decide +kernel, by decide +kernel⟩, List.mem_of_getElem? (i := 752) (by decide +kernel), List.mem_of_getElem? (i := 997) (by decide +kernel), List.mem_of_getElem? (i := 998) (by decide +kernel)⟩
theorem lw_p50 : lw_okq (⟨"CutoffSheetModel", "waits", "(II)I"⟩, 45) := ⟨⟨by decide +kernel, by decide +kernel⟩, List.mem_of_getElem? (i := 752) (by decide +kernel), List.mem_of_getElem? (i := 1001) (by decide +kernel), List.mem_of_getElem? (i := 1002) (by decide +kernel)⟩
theorem lw_p51 : lw_okq (⟨"CutoffSheetModel", "canShift", "(III)Z"⟩, 45) := ⟨⟨by decide +kernel, by decide +kernel⟩, List.mem_of_getElem? (i := 752) (by decide +kernel), List.mem_of_getElem? (i := 1009) (by decide +kernel), List.mem_of_getElem? (i := 1010) (by decide +kernel)⟩
theorem lw_p52 : lw_okq (⟨"CutoffSheetModel", "isName", "(II)Z"⟩, 45) := ⟨⟨by decide +kernel, by decide +kernel⟩, List.mem_of_getElem? (i := 752) (by decide +kernel), List.mem_of_getElem? (i := 1013) (by decide +kernel), List.mem_of_getElem? (i := 1014) (by decide +kernel)⟩
theorem lw_p53 : lw_okq (⟨"CutoffSheetModel", "letter", "(II)I"⟩, 45) := ⟨⟨by decide +kernel, by decide +kernel⟩, List.mem_of_getElem? (i := 752) (by decide +kernel), List.mem_of_getElem? (i := 1017) (by decide +kernel), List.mem_of_getElem? (i := 1018) (by decide +kernel)⟩
theorem lw_p54 : lw_okq (⟨"CutoffSheetModel", "remembers", "()V"⟩, 45) := ⟨⟨by decide +kernel, by decide +kernel⟩, List.mem_of_getElem? (i := 752) (by decide +kernel), List.mem_of_getElem? (i := 1033) (by decide +kernel), List.mem_of_getElem? (i := 1034) (by decide +kernel)⟩
theorem lw_p55 : lw_okq (⟨"CutoffSheetModel", "isEmpty", "(I)Z"⟩, 45) := ⟨⟨by decide +kernel, by decide +kernel⟩, List.mem_of_getElem? (i := 752) (by decide +kernel), List.mem_of_getElem? (i := 1037) (by decide +kernel), List.mem_of_getElem? (i := 1038) (by decide +kernel)⟩
theorem lw_p56 : lw_okq (⟨"CutoffSheetModel", "bringsUp", "()I"⟩, 45) := ⟨⟨by decide +kernel, by decide +kernel⟩, List.mem_of_getElem? (i := 752) (by decide +kernel), List.mem_of_getElem? (i := 1041) (by decide +kernel), List.mem_of_getElem? (i := 1042) (by decide +kernel)⟩
theorem lw_p57 : lw_okq (⟨"CutoffSheetModel", "settles", "()V"⟩, 45) := ⟨⟨by decide +kernel, by decide +kernel⟩, List.mem_of_getElem? (i := 752) (by decide +kernel), List.mem_of_getElem? (i := 1045) (by decide +kernel), List.mem_of_getElem? (i := 1046) (by decide +kernel)⟩
theorem lw_p58 : lw_okq (⟨"CutoffSheetModel", "passes", "()V"⟩, 45) := ⟨⟨by decide +kernel, by decide +kernel⟩, List.mem_of_getElem? (i := 752) (by decide +kernel), List.mem_of_getElem? (i := 1049) (by decide +kernel), List.mem_of_getElem? (i := 1050) (by decide +kernel)⟩
theorem lw_p59 : lw_okq (⟨"CutoffSheetModel", "works", "(I)V"⟩, 45) := ⟨⟨by decide +kernel, by decide +kernel⟩, List.mem_of_getElem? (i := 752) (by decide +kernel), List.mem_of_getElem? (i := 1053) (by decide +kernel), List.mem_of_getElem? (i := 1054) (by decide +kernel)⟩
theorem lw_p60 : lw_okq (⟨"CutoffSheetModel", "frame", "()V"⟩, 45) := ⟨⟨by decide +kernel, by decide +kernel⟩, List.mem_of_getElem? (i := 752) (by decide +kernel), List.mem_of_getElem? (i := 1057) (by decide +kernel), List.mem_of_getElem? (i := 1058) (by decide +kernel)⟩
theorem lw_p61 : lw_okq (⟨"CutoffSheetModel", "goesOn", "()Z"⟩, 45) := ⟨⟨by decide +kernel, by decide +kernel⟩, List.mem_of_getElem? (i := 752) (by decide +kernel), List.mem_of_getElem? (i := 1061) (by decide +kernel), List.mem_of_getElem? (i := 1062) (by decide +kernel)⟩
theorem lw_p62 : lw_okq (⟨"CutoffSheetModel", "factor", "()V"⟩, 45) := ⟨⟨by decide +kernel, by decide +kernel⟩, List.mem_of_getElem? (i := 752) (by decide +kernel), List.mem_of_getElem? (i := 1065) (by decide +kernel), List.mem_of_getElem? (i := 1066) (by decide +kernel)⟩
theorem lw_p63 : lw_okq (⟨"CutoffSheetModel", "sign", "()I"⟩, 45) := ⟨⟨by decide +kernel, by decide +kernel⟩, List.mem_of_getElem? (i := 752) (by decide +kernel), List.mem_of_getElem? (i := 1069) (by decide +kernel), List.mem_of_getElem? (i := 1070) (by decide +kernel)⟩
def lw_privs_4 : List (MethodName × Nat) := [(⟨"CutoffSheetModel", "slotOf", "(I)I"⟩, 45), (⟨"CutoffSheetModel", "save", "()V"⟩, 45), (⟨"CutoffSheetModel", "waits", "(II)I"⟩, 45), (⟨"CutoffSheetModel", "canShift", "(III)Z"⟩, 45), (⟨"CutoffSheetModel", "isName", "(II)Z"⟩, 45), (⟨"CutoffSheetModel", "letter", "(II)I"⟩, 45), (⟨"CutoffSheetModel", "remembers", "()V"⟩, 45), (⟨"CutoffSheetModel", "isEmpty", "(I)Z"⟩, 45), (⟨"CutoffSheetModel", "bringsUp", "()I"⟩, 45), (⟨"CutoffSheetModel", "settles", "()V"⟩, 45), (⟨"CutoffSheetModel", "passes", "()V"⟩, 45), (⟨"CutoffSheetModel", "works", "(I)V"⟩, 45), (⟨"CutoffSheetModel", "frame", "()V"⟩, 45), (⟨"CutoffSheetModel", "goesOn", "()Z"⟩, 45), (⟨"CutoffSheetModel", "factor", "()V"⟩, 45), (⟨"CutoffSheetModel", "sign", "()I"⟩, 45)]
theorem lw_r4 : ∀ q ∈ lw_privs_4, lw_okq q := List.forall_mem_cons.mpr ⟨lw_p48, List.forall_mem_cons.mpr ⟨lw_p49, List.forall_mem_cons.mpr ⟨lw_p50, List.forall_mem_cons.mpr ⟨lw_p51, List.forall_mem_cons.mpr ⟨lw_p52, List.forall_mem_cons.mpr ⟨lw_p53, List.forall_mem_cons.mpr ⟨lw_p54, List.forall_mem_cons.mpr ⟨lw_p55, List.forall_mem_cons.mpr ⟨lw_p56, List.forall_mem_cons.mpr ⟨lw_p57, List.forall_mem_cons.mpr ⟨lw_p58, List.forall_mem_cons.mpr ⟨lw_p59, List.forall_mem_cons.mpr ⟨lw_p60, List.forall_mem_cons.mpr ⟨lw_p61, List.forall_mem_cons.mpr ⟨lw_p62, List.forall_mem_cons.mpr ⟨lw_p63, fun _ h => absurd h List.not_mem_nil⟩⟩⟩⟩⟩⟩⟩⟩⟩⟩⟩⟩⟩⟩⟩⟩
theorem lw_p64 : lw_okq (⟨"CutoffSheetModel", "isAreaHere", "()Z"⟩, 45) := ⟨⟨by decide +kernel, by decide +kernel⟩, List.mem_of_getElem? (i := 752) (by decide +kernel), List.mem_of_getElem? (i := 1073) (by decide +kernel), List.mem_of_getElem? (i := 1074) (by decide +kernel)⟩
theorem lw_p65 : lw_okq (⟨"CutoffSheetModel", "behind", "(I)I"⟩, 45) := ⟨⟨by decide +kernel, by decide +kernel⟩, List.mem_of_getElem? (i := 752) (by decide +kernel), List.mem_of_getElem? (i := 1077) (by decide +kernel), List.mem_of_getElem? (i := 1078) (by decide +kernel)⟩
theorem lw_p66 : lw_okq (⟨"CutoffSheetModel", "readsArea", "()V"⟩, 45) := ⟨⟨by decide +kernel, by decide +kernel⟩, List.mem_of_getElem? (i := 752) (by decide +kernel), List.mem_of_getElem? (i := 1081) (by decide +kernel), List.mem_of_getElem? (i := 1082) (by decide +kernel)⟩
theorem lw_p67 : lw_okq (⟨"CutoffSheetModel", "cellHere", "()I"⟩, 45) := ⟨⟨by decide +kernel, by decide +kernel⟩, List.mem_of_getElem? (i := 752) (by decide +kernel), List.mem_of_getElem? (i := 1085) (by decide +kernel), List.mem_of_getElem? (i := 1086) (by decide +kernel)⟩
theorem lw_p68 : lw_okq (⟨"CutoffSheetModel", "reading", "(I)J"⟩, 45) := ⟨⟨by decide +kernel, by decide +kernel⟩, List.mem_of_getElem? (i := 752) (by decide +kernel), List.mem_of_getElem? (i := 1089) (by decide +kernel), List.mem_of_getElem? (i := 1090) (by decide +kernel)⟩
theorem lw_p69 : lw_okq (⟨"CutoffSheetModel", "fails", "(I)V"⟩, 45) := ⟨⟨by decide +kernel, by decide +kernel⟩, List.mem_of_getElem? (i := 752) (by decide +kernel), List.mem_of_getElem? (i := 1093) (by decide +kernel), List.mem_of_getElem? (i := 1094) (by decide +kernel)⟩
theorem lw_p70 : lw_okq (⟨"CutoffSheetModel", "takes", "(J)V"⟩, 45) := ⟨⟨by decide +kernel, by decide +kernel⟩, List.mem_of_getElem? (i := 752) (by decide +kernel), List.mem_of_getElem? (i := 1097) (by decide +kernel), List.mem_of_getElem? (i := 1098) (by decide +kernel)⟩
theorem lw_p71 : lw_okq (⟨"CutoffSheetModel", "bound", "(J)J"⟩, 45) := ⟨⟨by decide +kernel, by decide +kernel⟩, List.mem_of_getElem? (i := 752) (by decide +kernel), List.mem_of_getElem? (i := 1101) (by decide +kernel), List.mem_of_getElem? (i := 1102) (by decide +kernel)⟩
theorem lw_p72 : lw_okq (⟨"CutoffSheetModel", "nextPart", "()V"⟩, 45) := ⟨⟨by decide +kernel, by decide +kernel⟩, List.mem_of_getElem? (i := 752) (by decide +kernel), List.mem_of_getElem? (i := 1107) (by decide +kernel), List.mem_of_getElem? (i := 1108) (by decide +kernel)⟩
theorem lw_p73 : lw_okq (⟨"CutoffSheetModel", "leaves", "(J)V"⟩, 45) := ⟨⟨by decide +kernel, by decide +kernel⟩, List.mem_of_getElem? (i := 752) (by decide +kernel), List.mem_of_getElem? (i := 1111) (by decide +kernel), List.mem_of_getElem? (i := 1112) (by decide +kernel)⟩
theorem lw_p74 : lw_okq (⟨"CutoffSheetModel", "gives", "(J)V"⟩, 45) := ⟨⟨by decide +kernel, by decide +kernel⟩, List.mem_of_getElem? (i := 752) (by decide +kernel), List.mem_of_getElem? (i := 1115) (by decide +kernel), List.mem_of_getElem? (i := 1116) (by decide +kernel)⟩
theorem lw_p75 : lw_okq (⟨"CutoffSheetModel", "enters", "(I)V"⟩, 45) := ⟨⟨by decide +kernel, by decide +kernel⟩, List.mem_of_getElem? (i := 752) (by decide +kernel), List.mem_of_getElem? (i := 1121) (by decide +kernel), List.mem_of_getElem? (i := 1122) (by decide +kernel)⟩
theorem lw_p76 : lw_okq (⟨"CutoffSheetModel", "function", "()I"⟩, 45) := ⟨⟨by decide +kernel, by decide +kernel⟩, List.mem_of_getElem? (i := 752) (by decide +kernel), List.mem_of_getElem? (i := 1125) (by decide +kernel), List.mem_of_getElem? (i := 1126) (by decide +kernel)⟩
theorem lw_p77 : lw_okq (⟨"CutoffSheetModel", "closes", "()V"⟩, 45) := ⟨⟨by decide +kernel, by decide +kernel⟩, List.mem_of_getElem? (i := 752) (by decide +kernel), List.mem_of_getElem? (i := 1129) (by decide +kernel), List.mem_of_getElem? (i := 1130) (by decide +kernel)⟩
theorem lw_p78 : lw_okq (⟨"CutoffSheetModel", "folds", "()V"⟩, 45) := ⟨⟨by decide +kernel, by decide +kernel⟩, List.mem_of_getElem? (i := 752) (by decide +kernel), List.mem_of_getElem? (i := 1133) (by decide +kernel), List.mem_of_getElem? (i := 1134) (by decide +kernel)⟩
theorem lw_p79 : lw_okq (⟨"CutoffSheetModel", "ifs", "(J)V"⟩, 45) := ⟨⟨by decide +kernel, by decide +kernel⟩, List.mem_of_getElem? (i := 752) (by decide +kernel), List.mem_of_getElem? (i := 1137) (by decide +kernel), List.mem_of_getElem? (i := 1138) (by decide +kernel)⟩
def lw_privs_5 : List (MethodName × Nat) := [(⟨"CutoffSheetModel", "isAreaHere", "()Z"⟩, 45), (⟨"CutoffSheetModel", "behind", "(I)I"⟩, 45), (⟨"CutoffSheetModel", "readsArea", "()V"⟩, 45), (⟨"CutoffSheetModel", "cellHere", "()I"⟩, 45), (⟨"CutoffSheetModel", "reading", "(I)J"⟩, 45), (⟨"CutoffSheetModel", "fails", "(I)V"⟩, 45), (⟨"CutoffSheetModel", "takes", "(J)V"⟩, 45), (⟨"CutoffSheetModel", "bound", "(J)J"⟩, 45), (⟨"CutoffSheetModel", "nextPart", "()V"⟩, 45), (⟨"CutoffSheetModel", "leaves", "(J)V"⟩, 45), (⟨"CutoffSheetModel", "gives", "(J)V"⟩, 45), (⟨"CutoffSheetModel", "enters", "(I)V"⟩, 45), (⟨"CutoffSheetModel", "function", "()I"⟩, 45), (⟨"CutoffSheetModel", "closes", "()V"⟩, 45), (⟨"CutoffSheetModel", "folds", "()V"⟩, 45), (⟨"CutoffSheetModel", "ifs", "(J)V"⟩, 45)]
theorem lw_r5 : ∀ q ∈ lw_privs_5, lw_okq q := List.forall_mem_cons.mpr ⟨lw_p64, List.forall_mem_cons.mpr ⟨lw_p65, List.forall_mem_cons.mpr ⟨lw_p66, List.forall_mem_cons.mpr ⟨lw_p67, List.forall_mem_cons.mpr ⟨lw_p68, List.forall_mem_cons.mpr ⟨lw_p69, List.forall_mem_cons.mpr ⟨lw_p70, List.forall_mem_cons.mpr ⟨lw_p71, List.forall_mem_cons.mpr ⟨lw_p72, List.forall_mem_cons.mpr ⟨lw_p73, List.forall_mem_cons.mpr ⟨lw_p74, List.forall_mem_cons.mpr ⟨lw_p75, List.forall_mem_cons.mpr ⟨lw_p76, List.forall_mem_cons.mpr ⟨lw_p77, List.forall_mem_cons.mpr ⟨lw_p78, List.forall_mem_cons.mpr ⟨lw_p79, fun _ h => absurd h List.not_mem_nil⟩⟩⟩⟩⟩⟩⟩⟩⟩⟩⟩⟩⟩⟩⟩⟩
theorem lw_p80 : lw_okq (⟨"CutoffSheetModel", "skip", "()V"⟩, 45) := ⟨⟨by decide +kernel, by decide +kernel⟩, List.mem_of_getElem? (i := 752) (by decide +kernel), List.mem_of_getElem? (i := 1141) (by decide +kernel), List.mem_of_getElem? (i := 1142) (by decide +kernel)⟩
theorem lw_p81 : lw_okq (⟨"CutoffSheetModel", "picks", "(J)V"⟩, 45) := ⟨⟨by decide +kernel, by decide +kernel⟩, List.mem_of_getElem? (i := 752) (by decide +kernel), List.mem_of_getElem? (i := 1145) (by decide +kernel), List.mem_of_getElem? (i := 1146) (by decide +kernel)⟩
theorem lw_p82 : lw_okq (⟨"CutoffSheetModel", "others", "()I"⟩, 45) := ⟨⟨by decide +kernel, by decide +kernel⟩, List.mem_of_getElem? (i := 752) (by decide +kernel), List.mem_of_getElem? (i := 1149) (by decide +kernel), List.mem_of_getElem? (i := 1150) (by decide +kernel)⟩
theorem lw_p83 : lw_okq (⟨"CutoffSheetModel", "twos", "(J)V"⟩, 45) := ⟨⟨by decide +kernel, by decide +kernel⟩, List.mem_of_getElem? (i := 752) (by decide +kernel), List.mem_of_getElem? (i := 1153) (by decide +kernel), List.mem_of_getElem? (i := 1154) (by decide +kernel)⟩
theorem lw_p84 : lw_okq (⟨"CutoffSheetModel", "lays", "(I)V"⟩, 45) := ⟨⟨by decide +kernel, by decide +kernel⟩, List.mem_of_getElem? (i := 752) (by decide +kernel), List.mem_of_getElem? (i := 1162) (by decide +kernel), List.mem_of_getElem? (i := 1163) (by decide +kernel)⟩
theorem lw_p85 : lw_okq (⟨"CutoffSheetModel", "heightOf", "(I)I"⟩, 45) := ⟨⟨by decide +kernel, by decide +kernel⟩, List.mem_of_getElem? (i := 752) (by decide +kernel), List.mem_of_getElem? (i := 1166) (by decide +kernel), List.mem_of_getElem? (i := 1167) (by decide +kernel)⟩
theorem lw_p86 : lw_okq (⟨"CutoffSheetModel", "cyclic", "()I"⟩, 45) := ⟨⟨by decide +kernel, by decide +kernel⟩, List.mem_of_getElem? (i := 752) (by decide +kernel), List.mem_of_getElem? (i := 1170) (by decide +kernel), List.mem_of_getElem? (i := 1171) (by decide +kernel)⟩
theorem lw_p87 : lw_okq (⟨"CutoffSheetModel", "round", "()Z"⟩, 45) := ⟨⟨by decide +kernel, by decide +kernel⟩, List.mem_of_getElem? (i := 752) (by decide +kernel), List.mem_of_getElem? (i := 1174) (by decide +kernel), List.mem_of_getElem? (i := 1175) (by decide +kernel)⟩
theorem lw_p88 : lw_okq (⟨"CutoffSheetModel", "changedRead", "(I)I"⟩, 45) := ⟨⟨by decide +kernel, by decide +kernel⟩, List.mem_of_getElem? (i := 752) (by decide +kernel), List.mem_of_getElem? (i := 1178) (by decide +kernel), List.mem_of_getElem? (i := 1179) (by decide +kernel)⟩
theorem lw_p89 : lw_okq (⟨"CutoffSheetModel", "doesRead", "(II)Z"⟩, 45) := ⟨⟨by decide +kernel, by decide +kernel⟩, List.mem_of_getElem? (i := 752) (by decide +kernel), List.mem_of_getElem? (i := 1206) (by decide +kernel), List.mem_of_getElem? (i := 1207) (by decide +kernel)⟩
theorem lw_p90 : lw_okq (⟨"CutoffSheetModel", "rank", "(I)I"⟩, 45) := ⟨⟨by decide +kernel, by decide +kernel⟩, List.mem_of_getElem? (i := 752) (by decide +kernel), List.mem_of_getElem? (i := 1214) (by decide +kernel), List.mem_of_getElem? (i := 1215) (by decide +kernel)⟩
theorem lw_p91 : lw_okq (⟨"CutoffSheetModel", "formulas", "()I"⟩, 45) := ⟨⟨by decide +kernel, by decide +kernel⟩, List.mem_of_getElem? (i := 752) (by decide +kernel), List.mem_of_getElem? (i := 1240) (by decide +kernel), List.mem_of_getElem? (i := 1241) (by decide +kernel)⟩
theorem lw_p92 : lw_okq (⟨"CutoffSheetModel", "inAll", "(I)I"⟩, 45) := ⟨⟨by decide +kernel, by decide +kernel⟩, List.mem_of_getElem? (i := 752) (by decide +kernel), List.mem_of_getElem? (i := 1244) (by decide +kernel), List.mem_of_getElem? (i := 1245) (by decide +kernel)⟩
theorem lw_p93 : lw_okq (⟨"CutoffSheetModel", "errors", "()I"⟩, 45) := ⟨⟨by decide +kernel, by decide +kernel⟩, List.mem_of_getElem? (i := 752) (by decide +kernel), List.mem_of_getElem? (i := 1248) (by decide +kernel), List.mem_of_getElem? (i := 1249) (by decide +kernel)⟩
theorem lw_p94 : lw_okq (⟨"CutoffSheetModel", "highest", "()I"⟩, 45) := ⟨⟨by decide +kernel, by decide +kernel⟩, List.mem_of_getElem? (i := 752) (by decide +kernel), List.mem_of_getElem? (i := 1252) (by decide +kernel), List.mem_of_getElem? (i := 1253) (by decide +kernel)⟩
def lw_privs_6 : List (MethodName × Nat) := [(⟨"CutoffSheetModel", "skip", "()V"⟩, 45), (⟨"CutoffSheetModel", "picks", "(J)V"⟩, 45), (⟨"CutoffSheetModel", "others", "()I"⟩, 45), (⟨"CutoffSheetModel", "twos", "(J)V"⟩, 45), (⟨"CutoffSheetModel", "lays", "(I)V"⟩, 45), (⟨"CutoffSheetModel", "heightOf", "(I)I"⟩, 45), (⟨"CutoffSheetModel", "cyclic", "()I"⟩, 45), (⟨"CutoffSheetModel", "round", "()Z"⟩, 45), (⟨"CutoffSheetModel", "changedRead", "(I)I"⟩, 45), (⟨"CutoffSheetModel", "doesRead", "(II)Z"⟩, 45), (⟨"CutoffSheetModel", "rank", "(I)I"⟩, 45), (⟨"CutoffSheetModel", "formulas", "()I"⟩, 45), (⟨"CutoffSheetModel", "inAll", "(I)I"⟩, 45), (⟨"CutoffSheetModel", "errors", "()I"⟩, 45), (⟨"CutoffSheetModel", "highest", "()I"⟩, 45)]
theorem lw_r6 : ∀ q ∈ lw_privs_6, lw_okq q := List.forall_mem_cons.mpr ⟨lw_p80, List.forall_mem_cons.mpr ⟨lw_p81, List.forall_mem_cons.mpr ⟨lw_p82, List.forall_mem_cons.mpr ⟨lw_p83, List.forall_mem_cons.mpr ⟨lw_p84, List.forall_mem_cons.mpr ⟨lw_p85, List.forall_mem_cons.mpr ⟨lw_p86, List.forall_mem_cons.mpr ⟨lw_p87, List.forall_mem_cons.mpr ⟨lw_p88, List.forall_mem_cons.mpr ⟨lw_p89, List.forall_mem_cons.mpr ⟨lw_p90, List.forall_mem_cons.mpr ⟨lw_p91, List.forall_mem_cons.mpr ⟨lw_p92, List.forall_mem_cons.mpr ⟨lw_p93, List.forall_mem_cons.mpr ⟨lw_p94, fun _ h => absurd h List.not_mem_nil⟩⟩⟩⟩⟩⟩⟩⟩⟩⟩⟩⟩⟩⟩⟩
def lw_privs : List (MethodName × Nat) := lw_privs_1 ++ (lw_privs_2 ++ (lw_privs_3 ++ (lw_privs_4 ++ (lw_privs_5 ++ (lw_privs_6)))))
def lw_tbl : List Cond := k2_sels lw_privs ++ tables_1
theorem lw_privs_ok : ∀ q ∈ lw_privs, lw_okq q := by
  show ∀ q ∈ lw_privs_1 ++ (lw_privs_2 ++ (lw_privs_3 ++ (lw_privs_4 ++ (lw_privs_5 ++ (lw_privs_6))))), lw_okq q
  exact List.forall_mem_append.mpr ⟨lw_r1, List.forall_mem_append.mpr ⟨lw_r2, List.forall_mem_append.mpr ⟨lw_r3, List.forall_mem_append.mpr ⟨lw_r4, List.forall_mem_append.mpr ⟨lw_r5, lw_r6⟩⟩⟩⟩⟩
end
section
/-! ===== BEGIN words of one list among another's, by their places ===== -/
theorem goodIn_r {big : List Cond} (ws : List Cond) (ps : List Nat) (hp : ws = ps.filterMap (fun i => big[i]?)) (h : ws.all goodWord = true) : GoodIn big ws := by
  intro w hw
  have h1 := List.all_eq_true.mp h w hw
  rw [hp] at hw
  obtain ⟨i, -, hi⟩ := List.mem_filterMap.mp hw
  have hm : w ∈ big := by first | exact List.mem_of_getElem? hi | exact List.getElem?_mem hi
  exact ⟨hm, good_of_word h1⟩
theorem goodIn_app {big a b : List Cond} (ha : GoodIn big a) (hb : GoodIn big b) : GoodIn big (a ++ b) := fun w h => (List.mem_append.mp h).elim (ha w) (hb w)
theorem goodIn_ca {big a b : List Cond} {c : Cond} (ha : GoodIn big (c :: a)) (hb : GoodIn big b) : GoodIn big (c :: (a ++ b)) := fun w h => (List.mem_cons.mp h).elim (fun e => ha w (List.mem_cons.mpr (Or.inl e))) (fun h => (List.mem_append.mp h).elim (fun h => ha w (List.mem_cons.mpr (Or.inr h))) (hb w))
theorem goodIn_sub {big ws : List Cond} (hm : ∀ w ∈ ws, w ∈ big) (h : ws.all goodWord = true) : GoodIn big ws := fun w hw => ⟨hm w hw, good_of_word (List.all_eq_true.mp h w hw)⟩
/-! ===== END ===== -/

/-! ===== BEGIN printed: names, fields, word lists, decode rows ===== -/
def RX0 : String := "CutoffSheet$Calculator"
def TX0 : u_T := fun k => match k with
  | 0 => ("CutoffSheet$Calculator", "evaluator", "LCutoffSheet$Evaluator;", true)
  | _ => ("CutoffSheet$Calculator", "open", "[I", true)
def tyX0 : Nat → FieldType := fun k => match k with
  | 0 => .object "CutoffSheet$Evaluator"
  | _ => .array .int
abbrev wsX00 : List Cond := u_ws RX0 TX0 2
theorem nmX0 : ∀ a, a < 2 → ∀ b, b < 2 → a ≠ b → (TX0 a).2.1 ≠ (TX0 b).2.1 := by decide +kernel
theorem tyX0_ok : ∀ k, k < 2 → parseFieldDescriptor (TX0 k).2.2.1 = some (tyX0 k) := by decide +kernel
abbrev cX0_init : ByteArray := prog_2_method_1_code
def yX0_init : MethodName := ⟨RX0, "<init>", "(LCutoffSheet$State;)V"⟩
abbrev cX0_workOut : ByteArray := prog_2_method_2_code
def yX0_workOut : MethodName := ⟨RX0, "workOut", "(LCutoffSheet$State;)V"⟩
abbrev cX0_goOver : ByteArray := prog_2_method_3_code
def yX0_goOver : MethodName := ⟨RX0, "goOver", "(LCutoffSheet$State;)V"⟩
abbrev cX0_isStill : ByteArray := prog_2_method_4_code
def yX0_isStill : MethodName := ⟨RX0, "isStill", "(LCutoffSheet$State;II)Z"⟩
abbrev cX0_forget : ByteArray := prog_2_method_5_code
def yX0_forget : MethodName := ⟨RX0, "forget", "(LCutoffSheet$State;)V"⟩
abbrev cX0_opened : ByteArray := prog_2_method_6_code
def yX0_opened : MethodName := ⟨RX0, "opened", "(II)I"⟩
abbrev cX0_learn : ByteArray := prog_2_method_7_code
def yX0_learn : MethodName := ⟨RX0, "learn", "(LCutoffSheet$State;II)V"⟩
abbrev cX0_markCycle : ByteArray := prog_2_method_8_code
def yX0_markCycle : MethodName := ⟨RX0, "markCycle", "(LCutoffSheet$State;I)V"⟩
def RX1 : String := "CutoffSheet$Checker"
def TX1 : u_T := fun k => match k with
  | _ => ("CutoffSheet$Checker", "cursor", "LCutoffSheet$Cursor;", true)
def tyX1 : Nat → FieldType := fun k => match k with
  | _ => .object "CutoffSheet$Cursor"
abbrev wsX10 : List Cond := u_ws RX1 TX1 1
theorem nmX1 : ∀ a, a < 1 → ∀ b, b < 1 → a ≠ b → (TX1 a).2.1 ≠ (TX1 b).2.1 := by decide +kernel
theorem tyX1_ok : ∀ k, k < 1 → parseFieldDescriptor (TX1 k).2.2.1 = some (tyX1 k) := by decide +kernel
abbrev cX1_init : ByteArray := prog_3_method_1_code
def yX1_init : MethodName := ⟨RX1, "<init>", "()V"⟩
abbrev cX1_firstFault : ByteArray := prog_3_method_2_code
def yX1_firstFault : MethodName := ⟨RX1, "firstFault", "(LCutoffSheet$Text;)I"⟩
abbrev cX1_formula : ByteArray := prog_3_method_3_code
def yX1_formula : MethodName := ⟨RX1, "formula", "(I)Z"⟩
abbrev cX1_product : ByteArray := prog_3_method_4_code
def yX1_product : MethodName := ⟨RX1, "product", "(I)Z"⟩
abbrev cX1_factor : ByteArray := prog_3_method_5_code
def yX1_factor : MethodName := ⟨RX1, "factor", "(I)Z"⟩
abbrev cX1_passNumber : ByteArray := prog_3_method_6_code
def yX1_passNumber : MethodName := ⟨RX1, "passNumber", "()V"⟩
abbrev cX1_call : ByteArray := prog_3_method_7_code
def yX1_call : MethodName := ⟨RX1, "call", "(I)Z"⟩
abbrev cX1_parts : ByteArray := prog_3_method_8_code
def yX1_parts : MethodName := ⟨RX1, "parts", "(II)Z"⟩
abbrev cX1_isAtArea : ByteArray := prog_3_method_9_code
def yX1_isAtArea : MethodName := ⟨RX1, "isAtArea", "(I)Z"⟩
abbrev cX1_area : ByteArray := prog_3_method_10_code
def yX1_area : MethodName := ⟨RX1, "area", "()Z"⟩
abbrev cX1_passCell : ByteArray := prog_3_method_11_code
def yX1_passCell : MethodName := ⟨RX1, "passCell", "(II)Z"⟩
def RX2 : String := "CutoffSheet$Cursor"
def TX2 : u_T := fun k => match k with
  | 0 => ("CutoffSheet$Cursor", "letters", "[I", false)
  | 1 => ("CutoffSheet$Cursor", "start", "I", false)
  | 2 => ("CutoffSheet$Cursor", "length", "I", false)
  | _ => ("CutoffSheet$Cursor", "position", "I", false)
def tyX2 : Nat → FieldType := fun k => match k with
  | 0 => .array .int
  | 1 => .int
  | 2 => .int
  | _ => .int
abbrev wsX20 : List Cond := u_ws RX2 TX2 4
theorem nmX2 : ∀ a, a < 4 → ∀ b, b < 4 → a ≠ b → (TX2 a).2.1 ≠ (TX2 b).2.1 := by decide +kernel
theorem tyX2_ok : ∀ k, k < 4 → parseFieldDescriptor (TX2 k).2.2.1 = some (tyX2 k) := by decide +kernel
abbrev cX2_init : ByteArray := prog_4_method_1_code
def yX2_init : MethodName := ⟨RX2, "<init>", "()V"⟩
abbrev cX2_enter : ByteArray := prog_4_method_2_code
def yX2_enter : MethodName := ⟨RX2, "enter", "([III)V"⟩
abbrev cX2_look : ByteArray := prog_4_method_3_code
def yX2_look : MethodName := ⟨RX2, "look", "(I)I"⟩
abbrev cX2_isAtEnd : ByteArray := prog_4_method_4_code
def yX2_isAtEnd : MethodName := ⟨RX2, "isAtEnd", "()Z"⟩
abbrev cX2_pass : ByteArray := prog_4_method_5_code
def yX2_pass : MethodName := ⟨RX2, "pass", "(I)Z"⟩
abbrev cX2_isAtCell : ByteArray := prog_4_method_6_code
def yX2_isAtCell : MethodName := ⟨RX2, "isAtCell", "()Z"⟩
abbrev cX2_matching : ByteArray := prog_4_method_7_code
def yX2_matching : MethodName := ⟨RX2, "matching", "(Ljava/lang/String;)I"⟩
def RX3 : String := "CutoffSheet$Evaluator"
def TX3 : u_T := fun k => match k with
  | 0 => ("CutoffSheet$Evaluator", "cursor", "LCutoffSheet$Cursor;", true)
  | 1 => ("CutoffSheet$Evaluator", "marks", "[I", true)
  | 2 => ("CutoffSheet$Evaluator", "readBy", "[I", true)
  | 3 => ("CutoffSheet$Evaluator", "evaluation", "I", false)
  | 4 => ("CutoffSheet$Evaluator", "state", "LCutoffSheet$State;", false)
  | 5 => ("CutoffSheet$Evaluator", "target", "I", false)
  | 6 => ("CutoffSheet$Evaluator", "error", "I", false)
  | _ => ("CutoffSheet$Evaluator", "blocker", "I", false)
def tyX3 : Nat → FieldType := fun k => match k with
  | 0 => .object "CutoffSheet$Cursor"
  | 1 => .array .int
  | 2 => .array .int
  | 3 => .int
  | 4 => .object "CutoffSheet$State"
  | 5 => .int
  | 6 => .int
  | _ => .int
abbrev wsX30 : List Cond := u_ws RX3 TX3 8
theorem nmX3 : ∀ a, a < 8 → ∀ b, b < 8 → a ≠ b → (TX3 a).2.1 ≠ (TX3 b).2.1 := by decide +kernel
theorem tyX3_ok : ∀ k, k < 8 → parseFieldDescriptor (TX3 k).2.2.1 = some (tyX3 k) := by decide +kernel
abbrev cX3_init : ByteArray := prog_5_method_1_code
def yX3_init : MethodName := ⟨RX3, "<init>", "(LCutoffSheet$State;)V"⟩
abbrev cX3_evaluate : ByteArray := prog_5_method_2_code
def yX3_evaluate : MethodName := ⟨RX3, "evaluate", "(LCutoffSheet$State;I)I"⟩
abbrev cX3_formula : ByteArray := prog_5_method_3_code
def yX3_formula : MethodName := ⟨RX3, "formula", "(I)J"⟩
abbrev cX3_product : ByteArray := prog_5_method_4_code
def yX3_product : MethodName := ⟨RX3, "product", "(I)J"⟩
abbrev cX3_bounded : ByteArray := prog_5_method_5_code
def yX3_bounded : MethodName := ⟨RX3, "bounded", "(J)J"⟩
abbrev cX3_fail : ByteArray := prog_5_method_6_code
def yX3_fail : MethodName := ⟨RX3, "fail", "(I)J"⟩
abbrev cX3_factor : ByteArray := prog_5_method_7_code
def yX3_factor : MethodName := ⟨RX3, "factor", "(I)J"⟩
abbrev cX3_passNumber : ByteArray := prog_5_method_8_code
def yX3_passNumber : MethodName := ⟨RX3, "passNumber", "()J"⟩
abbrev cX3_passCell : ByteArray := prog_5_method_9_code
def yX3_passCell : MethodName := ⟨RX3, "passCell", "()I"⟩
abbrev cX3_readCell : ByteArray := prog_5_method_10_code
def yX3_readCell : MethodName := ⟨RX3, "readCell", "(I)J"⟩
abbrev cX3_call : ByteArray := prog_5_method_11_code
def yX3_call : MethodName := ⟨RX3, "call", "(I)J"⟩
abbrev cX3_choose : ByteArray := prog_5_method_12_code
def yX3_choose : MethodName := ⟨RX3, "choose", "(II)J"⟩
abbrev cX3_skipPart : ByteArray := prog_5_method_13_code
def yX3_skipPart : MethodName := ⟨RX3, "skipPart", "()V"⟩
abbrev cX3_combine : ByteArray := prog_5_method_14_code
def yX3_combine : MethodName := ⟨RX3, "combine", "(II)J"⟩
abbrev cX3_gather : ByteArray := prog_5_method_15_code
def yX3_gather : MethodName := ⟨RX3, "gather", "(II)J"⟩
abbrev cX3_isAtArea : ByteArray := prog_5_method_16_code
def yX3_isAtArea : MethodName := ⟨RX3, "isAtArea", "()Z"⟩
abbrev cX3_gatherArea : ByteArray := prog_5_method_17_code
def yX3_gatherArea : MethodName := ⟨RX3, "gatherArea", "(IJ)J"⟩
abbrev cX3_joined : ByteArray := prog_5_method_18_code
def yX3_joined : MethodName := ⟨RX3, "joined", "(IJJ)J"⟩
def RX4 : String := "CutoffSheet$History"
def TX4 : u_T := fun k => match k with
  | 0 => ("CutoffSheet$History", "states", "[LCutoffSheet$State;", true)
  | _ => ("CutoffSheet$History", "size", "I", false)
def tyX4 : Nat → FieldType := fun k => match k with
  | 0 => .array (.object "CutoffSheet$State")
  | _ => .int
abbrev wsX40 : List Cond := u_ws RX4 TX4 2
theorem nmX4 : ∀ a, a < 2 → ∀ b, b < 2 → a ≠ b → (TX4 a).2.1 ≠ (TX4 b).2.1 := by decide +kernel
theorem tyX4_ok : ∀ k, k < 2 → parseFieldDescriptor (TX4 k).2.2.1 = some (tyX4 k) := by decide +kernel
abbrev cX4_init : ByteArray := prog_6_method_1_code
def yX4_init : MethodName := ⟨RX4, "<init>", "()V"⟩
abbrev cX4_keep : ByteArray := prog_6_method_2_code
def yX4_keep : MethodName := ⟨RX4, "keep", "(LCutoffSheet$State;)LCutoffSheet$State;"⟩
abbrev cX4_giveBack : ByteArray := prog_6_method_3_code
def yX4_giveBack : MethodName := ⟨RX4, "giveBack", "(LCutoffSheet$State;)V"⟩
abbrev cX4_dropOldest : ByteArray := prog_6_method_4_code
def yX4_dropOldest : MethodName := ⟨RX4, "dropOldest", "()V"⟩
def RX5 : String := "CutoffSheet$State"
def TX5 : u_T := fun k => match k with
  | 0 => ("CutoffSheet$State", "formulas", "LCutoffSheet$Texts;", true)
  | 1 => ("CutoffSheet$State", "waiting", "LCutoffSheet$Texts;", true)
  | 2 => ("CutoffSheet$State", "values", "[I", true)
  | 3 => ("CutoffSheet$State", "errors", "[I", true)
  | 4 => ("CutoffSheet$State", "heights", "[I", true)
  | 5 => ("CutoffSheet$State", "cycles", "[I", true)
  | 6 => ("CutoffSheet$State", "readCounts", "[I", true)
  | 7 => ("CutoffSheet$State", "reads", "[I", true)
  | 8 => ("CutoffSheet$State", "runCounts", "[I", true)
  | 9 => ("CutoffSheet$State", "changes", "[I", true)
  | 10 => ("CutoffSheet$State", "causes", "[I", true)
  | 11 => ("CutoffSheet$State", "roundsSet", "I", false)
  | 12 => ("CutoffSheet$State", "roundsGone", "I", false)
  | _ => ("CutoffSheet$State", "settled", "Z", false)
def tyX5 : Nat → FieldType := fun k => match k with
  | 0 => .object "CutoffSheet$Texts"
  | 1 => .object "CutoffSheet$Texts"
  | 2 => .array .int
  | 3 => .array .int
  | 4 => .array .int
  | 5 => .array .int
  | 6 => .array .int
  | 7 => .array .int
  | 8 => .array .int
  | 9 => .array .int
  | 10 => .array .int
  | 11 => .int
  | 12 => .int
  | _ => .boolean
abbrev wsX50 : List Cond := u_ws RX5 TX5 14
theorem nmX5 : ∀ a, a < 14 → ∀ b, b < 14 → a ≠ b → (TX5 a).2.1 ≠ (TX5 b).2.1 := by decide +kernel
theorem tyX5_ok : ∀ k, k < 14 → parseFieldDescriptor (TX5 k).2.2.1 = some (tyX5 k) := by decide +kernel
abbrev cX5_init : ByteArray := prog_7_method_1_code
def yX5_init : MethodName := ⟨RX5, "<init>", "()V"⟩
abbrev cX5_takeAll : ByteArray := prog_7_method_2_code
def yX5_takeAll : MethodName := ⟨RX5, "takeAll", "(LCutoffSheet$State;)V"⟩
abbrev cX5_isEmpty : ByteArray := prog_7_method_3_code
def yX5_isEmpty : MethodName := ⟨RX5, "isEmpty", "(I)Z"⟩
abbrev cX5_waits : ByteArray := prog_7_method_4_code
def yX5_waits : MethodName := ⟨RX5, "waits", "(I)Z"⟩
abbrev cX5_waitingEdits : ByteArray := prog_7_method_5_code
def yX5_waitingEdits : MethodName := ⟨RX5, "waitingEdits", "()I"⟩
abbrev cX5_readOf : ByteArray := prog_7_method_6_code
def yX5_readOf : MethodName := ⟨RX5, "readOf", "(II)I"⟩
abbrev cX5_hasRead : ByteArray := prog_7_method_7_code
def yX5_hasRead : MethodName := ⟨RX5, "hasRead", "(II)Z"⟩
abbrev cX5_fact : ByteArray := prog_7_method_8_code
def yX5_fact : MethodName := ⟨RX5, "fact", "(II)I"⟩
abbrev cX5_cellsWithErrors : ByteArray := prog_7_method_9_code
def yX5_cellsWithErrors : MethodName := ⟨RX5, "cellsWithErrors", "()I"⟩
abbrev cX5_greatestHeight : ByteArray := prog_7_method_10_code
def yX5_greatestHeight : MethodName := ⟨RX5, "greatestHeight", "()I"⟩
abbrev cX5_rankOf : ByteArray := prog_7_method_11_code
def yX5_rankOf : MethodName := ⟨RX5, "rankOf", "(I)I"⟩
abbrev cX5_markChanges : ByteArray := prog_7_method_12_code
def yX5_markChanges : MethodName := ⟨RX5, "markChanges", "(LCutoffSheet$State;)V"⟩
abbrev cX5_causeOf : ByteArray := prog_7_method_13_code
def yX5_causeOf : MethodName := ⟨RX5, "causeOf", "(ILCutoffSheet$State;Z)I"⟩
def RX6 : String := "CutoffSheet$Text"
def TX6 : u_T := fun k => match k with
  | 0 => ("CutoffSheet$Text", "letters", "[I", true)
  | _ => ("CutoffSheet$Text", "length", "I", false)
def tyX6 : Nat → FieldType := fun k => match k with
  | 0 => .array .int
  | _ => .int
abbrev wsX60 : List Cond := u_ws RX6 TX6 2
theorem nmX6 : ∀ a, a < 2 → ∀ b, b < 2 → a ≠ b → (TX6 a).2.1 ≠ (TX6 b).2.1 := by decide +kernel
theorem tyX6_ok : ∀ k, k < 2 → parseFieldDescriptor (TX6 k).2.2.1 = some (tyX6 k) := by decide +kernel
abbrev cX6_init : ByteArray := prog_8_method_1_code
def yX6_init : MethodName := ⟨RX6, "<init>", "()V"⟩
abbrev cX6_add : ByteArray := prog_8_method_2_code
def yX6_add : MethodName := ⟨RX6, "add", "(I)V"⟩
def RX7 : String := "CutoffSheet$Texts"
def TX7 : u_T := fun k => match k with
  | 0 => ("CutoffSheet$Texts", "letters", "[I", true)
  | _ => ("CutoffSheet$Texts", "lengths", "[I", true)
def tyX7 : Nat → FieldType := fun k => match k with
  | 0 => .array .int
  | _ => .array .int
abbrev wsX70 : List Cond := u_ws RX7 TX7 2
theorem nmX7 : ∀ a, a < 2 → ∀ b, b < 2 → a ≠ b → (TX7 a).2.1 ≠ (TX7 b).2.1 := by decide +kernel
theorem tyX7_ok : ∀ k, k < 2 → parseFieldDescriptor (TX7 k).2.2.1 = some (tyX7 k) := by decide +kernel
abbrev cX7_init : ByteArray := prog_9_method_1_code
def yX7_init : MethodName := ⟨RX7, "<init>", "()V"⟩
abbrev cX7_letter : ByteArray := prog_9_method_2_code
def yX7_letter : MethodName := ⟨RX7, "letter", "(II)I"⟩
abbrev cX7_take : ByteArray := prog_9_method_3_code
def yX7_take : MethodName := ⟨RX7, "take", "(ILCutoffSheet$Text;)V"⟩
abbrev cX7_takeSame : ByteArray := prog_9_method_4_code
def yX7_takeSame : MethodName := ⟨RX7, "takeSame", "(ILCutoffSheet$Texts;)V"⟩
abbrev cX7_takeAll : ByteArray := prog_9_method_5_code
def yX7_takeAll : MethodName := ⟨RX7, "takeAll", "(LCutoffSheet$Texts;)V"⟩
abbrev cX7_clearAll : ByteArray := prog_9_method_6_code
def yX7_clearAll : MethodName := ⟨RX7, "clearAll", "(I)V"⟩
def RX8 : String := "CutoffSheet"
def TX8 : u_T := fun k => match k with
  | 0 => ("CutoffSheet", "typed", "LCutoffSheet$Text;", true)
  | 1 => ("CutoffSheet", "draft", "LCutoffSheet$Text;", true)
  | 2 => ("CutoffSheet", "current", "LCutoffSheet$State;", true)
  | 3 => ("CutoffSheet", "guess", "LCutoffSheet$State;", true)
  | 4 => ("CutoffSheet", "history", "LCutoffSheet$History;", true)
  | 5 => ("CutoffSheet", "checker", "LCutoffSheet$Checker;", true)
  | 6 => ("CutoffSheet", "calculator", "LCutoffSheet$Calculator;", true)
  | _ => ("CutoffSheet", "chain", "[I", true)
def tyX8 : Nat → FieldType := fun k => match k with
  | 0 => .object "CutoffSheet$Text"
  | 1 => .object "CutoffSheet$Text"
  | 2 => .object "CutoffSheet$State"
  | 3 => .object "CutoffSheet$State"
  | 4 => .object "CutoffSheet$History"
  | 5 => .object "CutoffSheet$Checker"
  | 6 => .object "CutoffSheet$Calculator"
  | _ => .array .int
abbrev wsX80 : List Cond := u_ws RX8 TX8 8
theorem nmX8 : ∀ a, a < 8 → ∀ b, b < 8 → a ≠ b → (TX8 a).2.1 ≠ (TX8 b).2.1 := by decide +kernel
theorem tyX8_ok : ∀ k, k < 8 → parseFieldDescriptor (TX8 k).2.2.1 = some (tyX8 k) := by decide +kernel
abbrev cX8_init : ByteArray := prog_1_method_1_code
def yX8_init : MethodName := ⟨RX8, "<init>", "()V"⟩
abbrev cX8_type : ByteArray := prog_1_method_2_code
def yX8_type : MethodName := ⟨RX8, "type", "(I)I"⟩
abbrev cX8_clearText : ByteArray := prog_1_method_3_code
def yX8_clearText : MethodName := ⟨RX8, "clearText", "()I"⟩
abbrev cX8_fault : ByteArray := prog_1_method_4_code
def yX8_fault : MethodName := ⟨RX8, "fault", "()I"⟩
abbrev cX8_put : ByteArray := prog_1_method_5_code
def yX8_put : MethodName := ⟨RX8, "put", "(I)I"⟩
abbrev cX8_copy : ByteArray := prog_1_method_6_code
def yX8_copy : MethodName := ⟨RX8, "copy", "(II)I"⟩
abbrev cX8_drop : ByteArray := prog_1_method_7_code
def yX8_drop : MethodName := ⟨RX8, "drop", "()I"⟩
abbrev cX8_waitingAt : ByteArray := prog_1_method_8_code
def yX8_waitingAt : MethodName := ⟨RX8, "waitingAt", "(I)I"⟩
abbrev cX8_update : ByteArray := prog_1_method_9_code
def yX8_update : MethodName := ⟨RX8, "update", "()I"⟩
abbrev cX8_rounds : ByteArray := prog_1_method_10_code
def yX8_rounds : MethodName := ⟨RX8, "rounds", "(I)I"⟩
abbrev cX8_value : ByteArray := prog_1_method_11_code
def yX8_value : MethodName := ⟨RX8, "value", "(I)I"⟩
abbrev cX8_cellOf : ByteArray := prog_1_method_12_code
def yX8_cellOf : MethodName := ⟨RX8, "cellOf", "(II)I"⟩
abbrev cX8_letterAt : ByteArray := prog_1_method_13_code
def yX8_letterAt : MethodName := ⟨RX8, "letterAt", "(II)I"⟩
abbrev cX8_readAt : ByteArray := prog_1_method_14_code
def yX8_readAt : MethodName := ⟨RX8, "readAt", "(II)I"⟩
abbrev cX8_readerAt : ByteArray := prog_1_method_15_code
def yX8_readerAt : MethodName := ⟨RX8, "readerAt", "(II)I"⟩
abbrev cX8_ranAt : ByteArray := prog_1_method_16_code
def yX8_ranAt : MethodName := ⟨RX8, "ranAt", "(I)I"⟩
abbrev cX8_changedAt : ByteArray := prog_1_method_17_code
def yX8_changedAt : MethodName := ⟨RX8, "changedAt", "(I)I"⟩
abbrev cX8_cause : ByteArray := prog_1_method_18_code
def yX8_cause : MethodName := ⟨RX8, "cause", "(I)I"⟩
abbrev cX8_chainAt : ByteArray := prog_1_method_19_code
def yX8_chainAt : MethodName := ⟨RX8, "chainAt", "(II)I"⟩
abbrev cX8_whatIf : ByteArray := prog_1_method_20_code
def yX8_whatIf : MethodName := ⟨RX8, "whatIf", "(III)I"⟩
abbrev cX8_count : ByteArray := prog_1_method_21_code
def yX8_count : MethodName := ⟨RX8, "count", "(I)I"⟩
abbrev cX8_undo : ByteArray := prog_1_method_22_code
def yX8_undo : MethodName := ⟨RX8, "undo", "()I"⟩
abbrev cX8_letWait : ByteArray := prog_1_method_23_code
def yX8_letWait : MethodName := ⟨RX8, "letWait", "(ILCutoffSheet$Text;)I"⟩
abbrev cX8_draftShifted : ByteArray := prog_1_method_24_code
def yX8_draftShifted : MethodName := ⟨RX8, "draftShifted", "(III)Z"⟩
abbrev cX8_shiftedLetter : ByteArray := prog_1_method_25_code
def yX8_shiftedLetter : MethodName := ⟨RX8, "shiftedLetter", "(IIII)I"⟩
abbrev cX8_draftNumber : ByteArray := prog_1_method_26_code
def yX8_draftNumber : MethodName := ⟨RX8, "draftNumber", "(I)V"⟩
abbrev cX8_bringUpToDate : ByteArray := prog_1_method_27_code
def yX8_bringUpToDate : MethodName := ⟨RX8, "bringUpToDate", "(LCutoffSheet$State;Z)I"⟩
abbrev cX8_followCauses : ByteArray := prog_1_method_28_code
def yX8_followCauses : MethodName := ⟨RX8, "followCauses", "(I)I"⟩
abbrev cX8_sumOfFacts : ByteArray := prog_1_method_29_code
def yX8_sumOfFacts : MethodName := ⟨RX8, "sumOfFacts", "(I)I"⟩
abbrev cX8_isCell : ByteArray := prog_1_method_30_code
def yX8_isCell : MethodName := ⟨RX8, "isCell", "(I)Z"⟩
abbrev cX8_isColumnLetter : ByteArray := prog_1_method_31_code
def yX8_isColumnLetter : MethodName := ⟨RX8, "isColumnLetter", "(I)Z"⟩
abbrev cX8_isRowDigit : ByteArray := prog_1_method_32_code
def yX8_isRowDigit : MethodName := ⟨RX8, "isRowDigit", "(I)Z"⟩
abbrev cX8_isDigit : ByteArray := prog_1_method_33_code
def yX8_isDigit : MethodName := ⟨RX8, "isDigit", "(I)Z"⟩
abbrev cX8_nameOf : ByteArray := prog_1_method_34_code
def yX8_nameOf : MethodName := ⟨RX8, "nameOf", "(I)Ljava/lang/String;"⟩
def RX9 : String := "CutoffSheetModel"
def TX9 : u_T := fun k => match k with
  | 0 => ("CutoffSheetModel", "p", "[I", true)
  | 1 => ("CutoffSheetModel", "saved", "[I", true)
  | 2 => ("CutoffSheetModel", "states", "I", false)
  | 3 => ("CutoffSheetModel", "text", "[I", true)
  | 4 => ("CutoffSheetModel", "typed", "I", false)
  | 5 => ("CutoffSheetModel", "value", "[I", true)
  | 6 => ("CutoffSheetModel", "error", "[I", true)
  | 7 => ("CutoffSheetModel", "isCyclic", "[Z", true)
  | 8 => ("CutoffSheetModel", "height", "[I", true)
  | 9 => ("CutoffSheetModel", "many", "[I", true)
  | 10 => ("CutoffSheetModel", "reads", "[I", true)
  | 11 => ("CutoffSheetModel", "oldValue", "[I", true)
  | 12 => ("CutoffSheetModel", "oldError", "[I", true)
  | 13 => ("CutoffSheetModel", "wasCyclic", "[Z", true)
  | 14 => ("CutoffSheetModel", "wasEmpty", "[Z", true)
  | 15 => ("CutoffSheetModel", "oldMany", "[I", true)
  | 16 => ("CutoffSheetModel", "oldReads", "[I", true)
  | 17 => ("CutoffSheetModel", "isKnown", "[Z", true)
  | 18 => ("CutoffSheetModel", "isEdited", "[Z", true)
  | 19 => ("CutoffSheetModel", "gone", "I", false)
  | 20 => ("CutoffSheetModel", "isSettled", "Z", false)
  | 21 => ("CutoffSheetModel", "kind", "[I", true)
  | 22 => ("CutoffSheetModel", "part", "[I", true)
  | 23 => ("CutoffSheetModel", "depth", "I", false)
  | 24 => ("CutoffSheetModel", "at", "I", false)
  | 25 => ("CutoffSheetModel", "isArea", "Z", false)
  | 26 => ("CutoffSheetModel", "wants", "Z", false)
  | 27 => ("CutoffSheetModel", "isStart", "Z", false)
  | 28 => ("CutoffSheetModel", "isMinus", "[Z", true)
  | 29 => ("CutoffSheetModel", "hasProduct", "[Z", true)
  | 30 => ("CutoffSheetModel", "product", "[J", true)
  | 31 => ("CutoffSheetModel", "sum", "[J", true)
  | 32 => ("CutoffSheetModel", "plus", "[I", true)
  | 33 => ("CutoffSheetModel", "first", "[J", true)
  | 34 => ("CutoffSheetModel", "hasAny", "[Z", true)
  | 35 => ("CutoffSheetModel", "whole", "[J", true)
  | 36 => ("CutoffSheetModel", "cell", "I", false)
  | 37 => ("CutoffSheetModel", "end", "I", false)
  | 38 => ("CutoffSheetModel", "isDone", "Z", false)
  | 39 => ("CutoffSheetModel", "isBlocked", "Z", false)
  | 40 => ("CutoffSheetModel", "wrong", "I", false)
  | 41 => ("CutoffSheetModel", "result", "J", false)
  | 42 => ("CutoffSheetModel", "given", "I", false)
  | 43 => ("CutoffSheetModel", "number", "I", false)
  | _ => ("CutoffSheetModel", "isMet", "[Z", true)
def tyX9 : Nat → FieldType := fun k => match k with
  | 0 => .array .int
  | 1 => .array .int
  | 2 => .int
  | 3 => .array .int
  | 4 => .int
  | 5 => .array .int
  | 6 => .array .int
  | 7 => .array .boolean
  | 8 => .array .int
  | 9 => .array .int
  | 10 => .array .int
  | 11 => .array .int
  | 12 => .array .int
  | 13 => .array .boolean
  | 14 => .array .boolean
  | 15 => .array .int
  | 16 => .array .int
  | 17 => .array .boolean
  | 18 => .array .boolean
  | 19 => .int
  | 20 => .boolean
  | 21 => .array .int
  | 22 => .array .int
  | 23 => .int
  | 24 => .int
  | 25 => .boolean
  | 26 => .boolean
  | 27 => .boolean
  | 28 => .array .boolean
  | 29 => .array .boolean
  | 30 => .array .long
  | 31 => .array .long
  | 32 => .array .int
  | 33 => .array .long
  | 34 => .array .boolean
  | 35 => .array .long
  | 36 => .int
  | 37 => .int
  | 38 => .boolean
  | 39 => .boolean
  | 40 => .int
  | 41 => .long
  | 42 => .int
  | 43 => .int
  | _ => .array .boolean
abbrev wsX90 : List Cond := u_ws RX9 TX9 45
theorem nmX9 : ∀ a, a < 45 → ∀ b, b < 45 → a ≠ b → (TX9 a).2.1 ≠ (TX9 b).2.1 := by decide +kernel
theorem tyX9_ok : ∀ k, k < 45 → parseFieldDescriptor (TX9 k).2.2.1 = some (tyX9 k) := by decide +kernel
abbrev cX9_init : ByteArray := prog_11_method_1_code
def yX9_init : MethodName := ⟨RX9, "<init>", "()V"⟩
abbrev cX9_in : ByteArray := prog_11_method_3_code
def yX9_in : MethodName := ⟨RX9, "in", "(III)Z"⟩
abbrev cX9_isCell : ByteArray := prog_11_method_4_code
def yX9_isCell : MethodName := ⟨RX9, "isCell", "(I)Z"⟩
abbrev cX9_isFigure : ByteArray := prog_11_method_5_code
def yX9_isFigure : MethodName := ⟨RX9, "isFigure", "(I)Z"⟩
abbrev cX9_isColumn : ByteArray := prog_11_method_6_code
def yX9_isColumn : MethodName := ⟨RX9, "isColumn", "(I)Z"⟩
abbrev cX9_save : ByteArray := prog_11_method_7_code
def yX9_save : MethodName := ⟨RX9, "save", "()V"⟩
abbrev cX9_type : ByteArray := prog_11_method_8_code
def yX9_type : MethodName := ⟨RX9, "type", "(I)I"⟩
abbrev cX9_clearText : ByteArray := prog_11_method_9_code
def yX9_clearText : MethodName := ⟨RX9, "clearText", "()I"⟩
abbrev cX9_here : ByteArray := prog_11_method_10_code
def yX9_here : MethodName := ⟨RX9, "here", "()I"⟩
abbrev cX9_opens : ByteArray := prog_11_method_11_code
def yX9_opens : MethodName := ⟨RX9, "opens", "(I)V"⟩
abbrev cX9_hasParts : ByteArray := prog_11_method_12_code
def yX9_hasParts : MethodName := ⟨RX9, "hasParts", "(I)Z"⟩
abbrev cX9_readCell : ByteArray := prog_11_method_13_code
def yX9_readCell : MethodName := ⟨RX9, "readCell", "(II)Z"⟩
abbrev cX9_readArea : ByteArray := prog_11_method_14_code
def yX9_readArea : MethodName := ⟨RX9, "readArea", "()Z"⟩
abbrev cX9_nameOf : ByteArray := prog_11_method_15_code
def yX9_nameOf : MethodName := ⟨RX9, "nameOf", "(I)J"⟩
abbrev cX9_sizeOf : ByteArray := prog_11_method_16_code
def yX9_sizeOf : MethodName := ⟨RX9, "sizeOf", "(I)I"⟩
abbrev cX9_matches : ByteArray := prog_11_method_17_code
def yX9_matches : MethodName := ⟨RX9, "matches", "(I)I"⟩
abbrev cX9_readName : ByteArray := prog_11_method_18_code
def yX9_readName : MethodName := ⟨RX9, "readName", "()Z"⟩
abbrev cX9_readFactor : ByteArray := prog_11_method_19_code
def yX9_readFactor : MethodName := ⟨RX9, "readFactor", "()Z"⟩
abbrev cX9_mostParts : ByteArray := prog_11_method_20_code
def yX9_mostParts : MethodName := ⟨RX9, "mostParts", "(I)I"⟩
abbrev cX9_mayClose : ByteArray := prog_11_method_21_code
def yX9_mayClose : MethodName := ⟨RX9, "mayClose", "(II)Z"⟩
abbrev cX9_readBehind : ByteArray := prog_11_method_22_code
def yX9_readBehind : MethodName := ⟨RX9, "readBehind", "()Z"⟩
abbrev cX9_faultOf : ByteArray := prog_11_method_23_code
def yX9_faultOf : MethodName := ⟨RX9, "faultOf", "()I"⟩
abbrev cX9_fault : ByteArray := prog_11_method_24_code
def yX9_fault : MethodName := ⟨RX9, "fault", "()I"⟩
abbrev cX9_slotOf : ByteArray := prog_11_method_25_code
def yX9_slotOf : MethodName := ⟨RX9, "slotOf", "(I)I"⟩
abbrev cX9_isFull : ByteArray := prog_11_method_26_code
def yX9_isFull : MethodName := ⟨RX9, "isFull", "(I)Z"⟩
abbrev cX9_waits : ByteArray := prog_11_method_27_code
def yX9_waits : MethodName := ⟨RX9, "waits", "(II)I"⟩
abbrev cX9_put : ByteArray := prog_11_method_28_code
def yX9_put : MethodName := ⟨RX9, "put", "(I)I"⟩
abbrev cX9_letter : ByteArray := prog_11_method_29_code
def yX9_letter : MethodName := ⟨RX9, "letter", "(II)I"⟩
abbrev cX9_isName : ByteArray := prog_11_method_30_code
def yX9_isName : MethodName := ⟨RX9, "isName", "(II)Z"⟩
abbrev cX9_canShift : ByteArray := prog_11_method_31_code
def yX9_canShift : MethodName := ⟨RX9, "canShift", "(III)Z"⟩
abbrev cX9_copy : ByteArray := prog_11_method_32_code
def yX9_copy : MethodName := ⟨RX9, "copy", "(II)I"⟩
abbrev cX9_drop : ByteArray := prog_11_method_33_code
def yX9_drop : MethodName := ⟨RX9, "drop", "()I"⟩
abbrev cX9_waitingAt : ByteArray := prog_11_method_34_code
def yX9_waitingAt : MethodName := ⟨RX9, "waitingAt", "(I)I"⟩
abbrev cX9_sign : ByteArray := prog_11_method_35_code
def yX9_sign : MethodName := ⟨RX9, "sign", "()I"⟩
abbrev cX9_behind : ByteArray := prog_11_method_36_code
def yX9_behind : MethodName := ⟨RX9, "behind", "(I)I"⟩
abbrev cX9_fails : ByteArray := prog_11_method_37_code
def yX9_fails : MethodName := ⟨RX9, "fails", "(I)V"⟩
abbrev cX9_bound : ByteArray := prog_11_method_38_code
def yX9_bound : MethodName := ⟨RX9, "bound", "(J)J"⟩
abbrev cX9_frame : ByteArray := prog_11_method_39_code
def yX9_frame : MethodName := ⟨RX9, "frame", "()V"⟩
abbrev cX9_enters : ByteArray := prog_11_method_40_code
def yX9_enters : MethodName := ⟨RX9, "enters", "(I)V"⟩
abbrev cX9_isEmpty : ByteArray := prog_11_method_41_code
def yX9_isEmpty : MethodName := ⟨RX9, "isEmpty", "(I)Z"⟩
abbrev cX9_reading : ByteArray := prog_11_method_42_code
def yX9_reading : MethodName := ⟨RX9, "reading", "(I)J"⟩
abbrev cX9_goesOn : ByteArray := prog_11_method_43_code
def yX9_goesOn : MethodName := ⟨RX9, "goesOn", "()Z"⟩
abbrev cX9_gives : ByteArray := prog_11_method_44_code
def yX9_gives : MethodName := ⟨RX9, "gives", "(J)V"⟩
abbrev cX9_leaves : ByteArray := prog_11_method_45_code
def yX9_leaves : MethodName := ⟨RX9, "leaves", "(J)V"⟩
abbrev cX9_folds : ByteArray := prog_11_method_46_code
def yX9_folds : MethodName := ⟨RX9, "folds", "()V"⟩
abbrev cX9_cellHere : ByteArray := prog_11_method_47_code
def yX9_cellHere : MethodName := ⟨RX9, "cellHere", "()I"⟩
abbrev cX9_isAreaHere : ByteArray := prog_11_method_48_code
def yX9_isAreaHere : MethodName := ⟨RX9, "isAreaHere", "()Z"⟩
abbrev cX9_takes : ByteArray := prog_11_method_49_code
def yX9_takes : MethodName := ⟨RX9, "takes", "(J)V"⟩
abbrev cX9_nextPart : ByteArray := prog_11_method_50_code
def yX9_nextPart : MethodName := ⟨RX9, "nextPart", "()V"⟩
abbrev cX9_readsArea : ByteArray := prog_11_method_51_code
def yX9_readsArea : MethodName := ⟨RX9, "readsArea", "()V"⟩
abbrev cX9_function : ByteArray := prog_11_method_52_code
def yX9_function : MethodName := ⟨RX9, "function", "()I"⟩
abbrev cX9_factor : ByteArray := prog_11_method_53_code
def yX9_factor : MethodName := ⟨RX9, "factor", "()V"⟩
abbrev cX9_skip : ByteArray := prog_11_method_54_code
def yX9_skip : MethodName := ⟨RX9, "skip", "()V"⟩
abbrev cX9_ifs : ByteArray := prog_11_method_55_code
def yX9_ifs : MethodName := ⟨RX9, "ifs", "(J)V"⟩
abbrev cX9_others : ByteArray := prog_11_method_56_code
def yX9_others : MethodName := ⟨RX9, "others", "()I"⟩
abbrev cX9_picks : ByteArray := prog_11_method_57_code
def yX9_picks : MethodName := ⟨RX9, "picks", "(J)V"⟩
abbrev cX9_floor : ByteArray := prog_11_method_58_code
def yX9_floor : MethodName := ⟨RX9, "floor", "(JJ)J"⟩
abbrev cX9_twos : ByteArray := prog_11_method_59_code
def yX9_twos : MethodName := ⟨RX9, "twos", "(J)V"⟩
abbrev cX9_closes : ByteArray := prog_11_method_60_code
def yX9_closes : MethodName := ⟨RX9, "closes", "()V"⟩
abbrev cX9_works : ByteArray := prog_11_method_61_code
def yX9_works : MethodName := ⟨RX9, "works", "(I)V"⟩
abbrev cX9_lays : ByteArray := prog_11_method_62_code
def yX9_lays : MethodName := ⟨RX9, "lays", "(I)V"⟩
abbrev cX9_heightOf : ByteArray := prog_11_method_63_code
def yX9_heightOf : MethodName := ⟨RX9, "heightOf", "(I)I"⟩
abbrev cX9_passes : ByteArray := prog_11_method_64_code
def yX9_passes : MethodName := ⟨RX9, "passes", "()V"⟩
abbrev cX9_cyclic : ByteArray := prog_11_method_65_code
def yX9_cyclic : MethodName := ⟨RX9, "cyclic", "()I"⟩
abbrev cX9_round : ByteArray := prog_11_method_66_code
def yX9_round : MethodName := ⟨RX9, "round", "()Z"⟩
abbrev cX9_settles : ByteArray := prog_11_method_67_code
def yX9_settles : MethodName := ⟨RX9, "settles", "()V"⟩
abbrev cX9_remembers : ByteArray := prog_11_method_68_code
def yX9_remembers : MethodName := ⟨RX9, "remembers", "()V"⟩
abbrev cX9_changedRead : ByteArray := prog_11_method_69_code
def yX9_changedRead : MethodName := ⟨RX9, "changedRead", "(I)I"⟩
abbrev cX9_bringsUp : ByteArray := prog_11_method_70_code
def yX9_bringsUp : MethodName := ⟨RX9, "bringsUp", "()I"⟩
abbrev cX9_update : ByteArray := prog_11_method_71_code
def yX9_update : MethodName := ⟨RX9, "update", "()I"⟩
abbrev cX9_rounds : ByteArray := prog_11_method_72_code
def yX9_rounds : MethodName := ⟨RX9, "rounds", "(I)I"⟩
abbrev cX9_value : ByteArray := prog_11_method_73_code
def yX9_value : MethodName := ⟨RX9, "value", "(I)I"⟩
abbrev cX9_cellOf : ByteArray := prog_11_method_74_code
def yX9_cellOf : MethodName := ⟨RX9, "cellOf", "(II)I"⟩
abbrev cX9_letterAt : ByteArray := prog_11_method_75_code
def yX9_letterAt : MethodName := ⟨RX9, "letterAt", "(II)I"⟩
abbrev cX9_readAt : ByteArray := prog_11_method_76_code
def yX9_readAt : MethodName := ⟨RX9, "readAt", "(II)I"⟩
abbrev cX9_doesRead : ByteArray := prog_11_method_77_code
def yX9_doesRead : MethodName := ⟨RX9, "doesRead", "(II)Z"⟩
abbrev cX9_readerAt : ByteArray := prog_11_method_78_code
def yX9_readerAt : MethodName := ⟨RX9, "readerAt", "(II)I"⟩
abbrev cX9_rank : ByteArray := prog_11_method_79_code
def yX9_rank : MethodName := ⟨RX9, "rank", "(I)I"⟩
abbrev cX9_ranAt : ByteArray := prog_11_method_80_code
def yX9_ranAt : MethodName := ⟨RX9, "ranAt", "(I)I"⟩
abbrev cX9_changedAt : ByteArray := prog_11_method_81_code
def yX9_changedAt : MethodName := ⟨RX9, "changedAt", "(I)I"⟩
abbrev cX9_cause : ByteArray := prog_11_method_82_code
def yX9_cause : MethodName := ⟨RX9, "cause", "(I)I"⟩
abbrev cX9_chainAt : ByteArray := prog_11_method_83_code
def yX9_chainAt : MethodName := ⟨RX9, "chainAt", "(II)I"⟩
abbrev cX9_whatIf : ByteArray := prog_11_method_84_code
def yX9_whatIf : MethodName := ⟨RX9, "whatIf", "(III)I"⟩
abbrev cX9_inAll : ByteArray := prog_11_method_85_code
def yX9_inAll : MethodName := ⟨RX9, "inAll", "(I)I"⟩
abbrev cX9_formulas : ByteArray := prog_11_method_86_code
def yX9_formulas : MethodName := ⟨RX9, "formulas", "()I"⟩
abbrev cX9_errors : ByteArray := prog_11_method_87_code
def yX9_errors : MethodName := ⟨RX9, "errors", "()I"⟩
abbrev cX9_highest : ByteArray := prog_11_method_88_code
def yX9_highest : MethodName := ⟨RX9, "highest", "()I"⟩
abbrev cX9_count : ByteArray := prog_11_method_89_code
def yX9_count : MethodName := ⟨RX9, "count", "(I)I"⟩
abbrev cX9_undo : ByteArray := prog_11_method_90_code
def yX9_undo : MethodName := ⟨RX9, "undo", "()I"⟩
def RJ9 : String := "java/lang/Math"
def TJ9 : u_T := fun k => match k with
  | _ => ("", "", "", false)
def tyJ9 : Nat → FieldType := fun k => match k with
  | _ => .int
abbrev wsJ90 : List Cond := u_ws RJ9 TJ9 0
theorem nmJ9 : ∀ a, a < 0 → ∀ b, b < 0 → a ≠ b → (TJ9 a).2.1 ≠ (TJ9 b).2.1 := by decide +kernel
theorem tyJ9_ok : ∀ k, k < 0 → parseFieldDescriptor (TJ9 k).2.2.1 = some (tyJ9 k) := by decide +kernel
abbrev cJ9_floorDiv_f86c9 : ByteArray := prog_12_method_49_code
def yJ9_floorDiv_f86c9 : MethodName := ⟨RJ9, "floorDiv", "(JJ)J"⟩
abbrev cJ9_floorMod_f86c9 : ByteArray := prog_12_method_52_code
def yJ9_floorMod_f86c9 : MethodName := ⟨RJ9, "floorMod", "(JJ)J"⟩
abbrev cJ9_abs_0f7a4 : ByteArray := prog_12_method_59_code
def yJ9_abs_0f7a4 : MethodName := ⟨RJ9, "abs", "(I)I"⟩
abbrev cJ9_max_7cf53 : ByteArray := prog_12_method_65_code
def yJ9_max_7cf53 : MethodName := ⟨RJ9, "max", "(II)I"⟩
abbrev cJ9_max_f86c9 : ByteArray := prog_12_method_66_code
def yJ9_max_f86c9 : MethodName := ⟨RJ9, "max", "(JJ)J"⟩
abbrev cJ9_min_f86c9 : ByteArray := prog_12_method_70_code
def yJ9_min_f86c9 : MethodName := ⟨RJ9, "min", "(JJ)J"⟩
def RJ0 : String := "java/lang/String"
def TJ0 : u_T := fun k => match k with
  | _ => ("", "", "", false)
def tyJ0 : Nat → FieldType := fun k => match k with
  | _ => .int
abbrev wsJ00 : List Cond := u_ws RJ0 TJ0 0
theorem nmJ0 : ∀ a, a < 0 → ∀ b, b < 0 → a ≠ b → (TJ0 a).2.1 ≠ (TJ0 b).2.1 := by decide +kernel
theorem tyJ0_ok : ∀ k, k < 0 → parseFieldDescriptor (TJ0 k).2.2.1 = some (tyJ0 k) := by decide +kernel
abbrev cJ0_length_8abf5 : ByteArray := prog_13_method_54_code
def yJ0_length_8abf5 : MethodName := ⟨RJ0, "length", "()I"⟩
abbrev cJ0_charAt_5068e : ByteArray := prog_13_method_56_code
def yJ0_charAt_5068e : MethodName := ⟨RJ0, "charAt", "(I)C"⟩
abbrev cJ0_coder_7d493 : ByteArray := prog_13_method_152_code
def yJ0_coder_7d493 : MethodName := ⟨RJ0, "coder", "()B"⟩
abbrev cJ0_isLatin1_aae02 : ByteArray := prog_13_method_154_code
def yJ0_isLatin1_aae02 : MethodName := ⟨RJ0, "isLatin1", "()Z"⟩
abbrev cJ0_checkIndex_df160 : ByteArray := prog_13_method_155_code
def yJ0_checkIndex_df160 : MethodName := ⟨RJ0, "checkIndex", "(II)V"⟩
def RJ1 : String := "java/lang/StringLatin1"
def TJ1 : u_T := fun k => match k with
  | _ => ("", "", "", false)
def tyJ1 : Nat → FieldType := fun k => match k with
  | _ => .int
abbrev wsJ10 : List Cond := u_ws RJ1 TJ1 0
theorem nmJ1 : ∀ a, a < 0 → ∀ b, b < 0 → a ≠ b → (TJ1 a).2.1 ≠ (TJ1 b).2.1 := by decide +kernel
theorem tyJ1_ok : ∀ k, k < 0 → parseFieldDescriptor (TJ1 k).2.2.1 = some (tyJ1 k) := by decide +kernel
abbrev cJ1_charAt_3b067 : ByteArray := prog_14_method_2_code
def yJ1_charAt_3b067 : MethodName := ⟨RJ1, "charAt", "([BI)C"⟩
def RJ2 : String := "java/lang/StringUTF16"
def TJ2 : u_T := fun k => match k with
  | _ => ("", "", "", false)
def tyJ2 : Nat → FieldType := fun k => match k with
  | _ => .int
abbrev wsJ20 : List Cond := u_ws RJ2 TJ2 0
theorem nmJ2 : ∀ a, a < 0 → ∀ b, b < 0 → a ≠ b → (TJ2 a).2.1 ≠ (TJ2 b).2.1 := by decide +kernel
theorem tyJ2_ok : ∀ k, k < 0 → parseFieldDescriptor (TJ2 k).2.2.1 = some (tyJ2 k) := by decide +kernel
abbrev cJ2_getChar_3b067 : ByteArray := prog_15_method_5_code
def yJ2_getChar_3b067 : MethodName := ⟨RJ2, "getChar", "([BI)C"⟩
abbrev cJ2_length_9d52b : ByteArray := prog_15_method_6_code
def yJ2_length_9d52b : MethodName := ⟨RJ2, "length", "([B)I"⟩
abbrev cJ2_charAt_3b067 : ByteArray := prog_15_method_83_code
def yJ2_charAt_3b067 : MethodName := ⟨RJ2, "charAt", "([BI)C"⟩
abbrev cJ2_checkIndex_2214a : ByteArray := prog_15_method_91_code
def yJ2_checkIndex_2214a : MethodName := ⟨RJ2, "checkIndex", "(I[B)V"⟩
def RJ10 : String := "java/lang/System"
def TJ10 : u_T := fun k => match k with
  | _ => ("", "", "", false)
def tyJ10 : Nat → FieldType := fun k => match k with
  | _ => .int
abbrev wsJ100 : List Cond := u_ws RJ10 TJ10 0
theorem nmJ10 : ∀ a, a < 0 → ∀ b, b < 0 → a ≠ b → (TJ10 a).2.1 ≠ (TJ10 b).2.1 := by decide +kernel
theorem tyJ10_ok : ∀ k, k < 0 → parseFieldDescriptor (TJ10 k).2.2.1 = some (tyJ10 k) := by decide +kernel
def RJ3 : String := "jdk/internal/util/Preconditions"
def TJ3 : u_T := fun k => match k with
  | _ => ("", "", "", false)
def tyJ3 : Nat → FieldType := fun k => match k with
  | _ => .int
abbrev wsJ30 : List Cond := u_ws RJ3 TJ3 0
theorem nmJ3 : ∀ a, a < 0 → ∀ b, b < 0 → a ≠ b → (TJ3 a).2.1 ≠ (TJ3 b).2.1 := by decide +kernel
theorem tyJ3_ok : ∀ k, k < 0 → parseFieldDescriptor (TJ3 k).2.2.1 = some (tyJ3 k) := by decide +kernel
abbrev cJ3_checkIndex_8e157 : ByteArray := prog_17_method_11_code
def yJ3_checkIndex_8e157 : MethodName := ⟨RJ3, "checkIndex", "(IILjava/util/function/BiFunction;)I"⟩
def RL : String := "CutoffSheetLaw"
abbrev cL_law : ByteArray := code
def yL_law : MethodName := ⟨RL, "law", "([I)Z"⟩
theorem inX0 : ∀ w ∈ wsX00, w ∈ lw_tbl := by decide +kernel
theorem inX1 : ∀ w ∈ wsX10, w ∈ lw_tbl := by decide +kernel
theorem inX2 : ∀ w ∈ wsX20, w ∈ lw_tbl := by decide +kernel
theorem inX3 : ∀ w ∈ wsX30, w ∈ lw_tbl := by decide +kernel
theorem inX4 : ∀ w ∈ wsX40, w ∈ lw_tbl := by decide +kernel
theorem inX5 : ∀ w ∈ wsX50, w ∈ lw_tbl := by decide +kernel
theorem inX6 : ∀ w ∈ wsX60, w ∈ lw_tbl := by decide +kernel
theorem inX7 : ∀ w ∈ wsX70, w ∈ lw_tbl := by decide +kernel
theorem inX8 : ∀ w ∈ wsX80, w ∈ lw_tbl := by decide +kernel
theorem inX9 : ∀ w ∈ wsX90, w ∈ lw_tbl := by decide +kernel
theorem inJ9 : ∀ w ∈ wsJ90, w ∈ lw_tbl := by decide +kernel
theorem inJ0 : ∀ w ∈ wsJ00, w ∈ lw_tbl := by decide +kernel
theorem inJ1 : ∀ w ∈ wsJ10, w ∈ lw_tbl := by decide +kernel
theorem inJ2 : ∀ w ∈ wsJ20, w ∈ lw_tbl := by decide +kernel
theorem inJ10 : ∀ w ∈ wsJ100, w ∈ lw_tbl := by decide +kernel
theorem inJ3 : ∀ w ∈ wsJ30, w ∈ lw_tbl := by decide +kernel
end
section
theorem dX0_init_0 : decode cX0_init 0 = .ok (.aload_n 0, 1) := by decide +kernel
theorem dX0_init_1 : decode cX0_init 1 = .ok (.invokespecial 3, 3) := by decide +kernel
theorem dX0_init_4 : decode cX0_init 4 = .ok (.aload_n 0, 1) := by decide +kernel
theorem dX0_init_5 : decode cX0_init 5 = .ok (.bipush 72, 2) := by decide +kernel
theorem dX0_init_7 : decode cX0_init 7 = .ok (.newarray .int, 2) := by decide +kernel
theorem dX0_init_9 : decode cX0_init 9 = .ok (.putfield 9, 3) := by decide +kernel
theorem dX0_init_12 : decode cX0_init 12 = .ok (.aload_n 0, 1) := by decide +kernel
theorem dX0_init_13 : decode cX0_init 13 = .ok (.new 15, 3) := by decide +kernel
theorem dX0_init_16 : decode cX0_init 16 = .ok (.dup, 1) := by decide +kernel
theorem dX0_init_17 : decode cX0_init 17 = .ok (.aload_n 1, 1) := by decide +kernel
theorem dX0_init_18 : decode cX0_init 18 = .ok (.invokespecial 17, 3) := by decide +kernel
theorem dX0_init_21 : decode cX0_init 21 = .ok (.putfield 20, 3) := by decide +kernel
theorem dX0_init_24 : decode cX0_init 24 = .ok (.return_, 1) := by decide +kernel
theorem dX0_workOut_0 : decode cX0_workOut 0 = .ok (.aload_n 0, 1) := by decide +kernel
theorem dX0_workOut_1 : decode cX0_workOut 1 = .ok (.aload_n 1, 1) := by decide +kernel
theorem dX0_workOut_2 : decode cX0_workOut 2 = .ok (.invokevirtual 24, 3) := by decide +kernel
theorem dX0_workOut_5 : decode cX0_workOut 5 = .ok (.iconst 0, 1) := by decide +kernel
theorem dX0_workOut_6 : decode cX0_workOut 6 = .ok (.istore_n 2, 1) := by decide +kernel
theorem dX0_workOut_7 : decode cX0_workOut 7 = .ok (.iload_n 2, 1) := by decide +kernel
theorem dX0_workOut_8 : decode cX0_workOut 8 = .ok (.bipush 72, 2) := by decide +kernel
theorem dX0_workOut_10 : decode cX0_workOut 10 = .ok (.if_icmp .ge 145, 3) := by decide +kernel
theorem dX0_workOut_13 : decode cX0_workOut 13 = .ok (.aload_n 0, 1) := by decide +kernel
theorem dX0_workOut_14 : decode cX0_workOut 14 = .ok (.getfield 20, 3) := by decide +kernel
theorem dX0_workOut_17 : decode cX0_workOut 17 = .ok (.getfield 27, 3) := by decide +kernel
theorem dX0_workOut_20 : decode cX0_workOut 20 = .ok (.iload_n 2, 1) := by decide +kernel
theorem dX0_workOut_21 : decode cX0_workOut 21 = .ok (.iaload, 1) := by decide +kernel
theorem dX0_workOut_22 : decode cX0_workOut 22 = .ok (.iconst 1, 1) := by decide +kernel
theorem dX0_workOut_23 : decode cX0_workOut 23 = .ok (.if_icmp .ne 12, 3) := by decide +kernel
theorem dX0_workOut_26 : decode cX0_workOut 26 = .ok (.aload_n 0, 1) := by decide +kernel
theorem dX0_workOut_27 : decode cX0_workOut 27 = .ok (.iconst 0, 1) := by decide +kernel
theorem dX0_workOut_28 : decode cX0_workOut 28 = .ok (.iload_n 2, 1) := by decide +kernel
theorem dX0_workOut_29 : decode cX0_workOut 29 = .ok (.invokevirtual 30, 3) := by decide +kernel
theorem dX0_workOut_32 : decode cX0_workOut 32 = .ok (.goto 4, 3) := by decide +kernel
theorem dX0_workOut_35 : decode cX0_workOut 35 = .ok (.iconst 0, 1) := by decide +kernel
theorem dX0_workOut_36 : decode cX0_workOut 36 = .ok (.istore_n 3, 1) := by decide +kernel
theorem dX0_workOut_37 : decode cX0_workOut 37 = .ok (.iconst 0, 1) := by decide +kernel
theorem dX0_workOut_38 : decode cX0_workOut 38 = .ok (.istore 4, 2) := by decide +kernel
theorem dX0_workOut_40 : decode cX0_workOut 40 = .ok (.iload 4, 2) := by decide +kernel
theorem dX0_workOut_42 : decode cX0_workOut 42 = .ok (.sipush 1000, 3) := by decide +kernel
theorem dX0_workOut_45 : decode cX0_workOut 45 = .ok (.if_icmp .ge 104, 3) := by decide +kernel
theorem dX0_workOut_48 : decode cX0_workOut 48 = .ok (.iload_n 3, 1) := by decide +kernel
theorem dX0_workOut_49 : decode cX0_workOut 49 = .ok (.ifCond .le 100, 3) := by decide +kernel
theorem dX0_workOut_52 : decode cX0_workOut 52 = .ok (.aload_n 0, 1) := by decide +kernel
theorem dX0_workOut_53 : decode cX0_workOut 53 = .ok (.getfield 9, 3) := by decide +kernel
theorem dX0_workOut_56 : decode cX0_workOut 56 = .ok (.iload_n 3, 1) := by decide +kernel
theorem dX0_workOut_57 : decode cX0_workOut 57 = .ok (.iconst 1, 1) := by decide +kernel
theorem dX0_workOut_58 : decode cX0_workOut 58 = .ok (.isub, 1) := by decide +kernel
theorem dX0_workOut_59 : decode cX0_workOut 59 = .ok (.iaload, 1) := by decide +kernel
theorem dX0_workOut_60 : decode cX0_workOut 60 = .ok (.istore 5, 2) := by decide +kernel
theorem dX0_workOut_62 : decode cX0_workOut 62 = .ok (.aload_n 0, 1) := by decide +kernel
theorem dX0_workOut_63 : decode cX0_workOut 63 = .ok (.getfield 20, 3) := by decide +kernel
theorem dX0_workOut_66 : decode cX0_workOut 66 = .ok (.aload_n 1, 1) := by decide +kernel
theorem dX0_workOut_67 : decode cX0_workOut 67 = .ok (.iload 5, 2) := by decide +kernel
theorem dX0_workOut_69 : decode cX0_workOut 69 = .ok (.invokevirtual 34, 3) := by decide +kernel
theorem dX0_workOut_72 : decode cX0_workOut 72 = .ok (.istore 6, 2) := by decide +kernel
theorem dX0_workOut_74 : decode cX0_workOut 74 = .ok (.aload_n 0, 1) := by decide +kernel
theorem dX0_workOut_75 : decode cX0_workOut 75 = .ok (.getfield 20, 3) := by decide +kernel
theorem dX0_workOut_78 : decode cX0_workOut 78 = .ok (.getfield 38, 3) := by decide +kernel
theorem dX0_workOut_81 : decode cX0_workOut 81 = .ok (.iconst (-1), 1) := by decide +kernel
theorem dX0_workOut_82 : decode cX0_workOut 82 = .ok (.if_icmp .ne 18, 3) := by decide +kernel
theorem dX0_workOut_85 : decode cX0_workOut 85 = .ok (.aload_n 0, 1) := by decide +kernel
theorem dX0_workOut_86 : decode cX0_workOut 86 = .ok (.aload_n 1, 1) := by decide +kernel
theorem dX0_workOut_87 : decode cX0_workOut 87 = .ok (.iload 5, 2) := by decide +kernel
theorem dX0_workOut_89 : decode cX0_workOut 89 = .ok (.iload 6, 2) := by decide +kernel
theorem dX0_workOut_91 : decode cX0_workOut 91 = .ok (.invokevirtual 42, 3) := by decide +kernel
theorem dX0_workOut_94 : decode cX0_workOut 94 = .ok (.iinc 3 (-1), 3) := by decide +kernel
theorem dX0_workOut_97 : decode cX0_workOut 97 = .ok (.goto 46, 3) := by decide +kernel
theorem dX0_workOut_100 : decode cX0_workOut 100 = .ok (.aload_n 0, 1) := by decide +kernel
theorem dX0_workOut_101 : decode cX0_workOut 101 = .ok (.getfield 20, 3) := by decide +kernel
theorem dX0_workOut_104 : decode cX0_workOut 104 = .ok (.getfield 27, 3) := by decide +kernel
theorem dX0_workOut_107 : decode cX0_workOut 107 = .ok (.aload_n 0, 1) := by decide +kernel
theorem dX0_workOut_108 : decode cX0_workOut 108 = .ok (.getfield 20, 3) := by decide +kernel
theorem dX0_workOut_111 : decode cX0_workOut 111 = .ok (.getfield 38, 3) := by decide +kernel
theorem dX0_workOut_114 : decode cX0_workOut 114 = .ok (.iaload, 1) := by decide +kernel
theorem dX0_workOut_115 : decode cX0_workOut 115 = .ok (.iconst 1, 1) := by decide +kernel
theorem dX0_workOut_116 : decode cX0_workOut 116 = .ok (.if_icmp .ne 19, 3) := by decide +kernel
theorem dX0_workOut_119 : decode cX0_workOut 119 = .ok (.aload_n 0, 1) := by decide +kernel
theorem dX0_workOut_120 : decode cX0_workOut 120 = .ok (.iload_n 3, 1) := by decide +kernel
theorem dX0_workOut_121 : decode cX0_workOut 121 = .ok (.aload_n 0, 1) := by decide +kernel
theorem dX0_workOut_122 : decode cX0_workOut 122 = .ok (.getfield 20, 3) := by decide +kernel
theorem dX0_workOut_125 : decode cX0_workOut 125 = .ok (.getfield 38, 3) := by decide +kernel
theorem dX0_workOut_128 : decode cX0_workOut 128 = .ok (.invokevirtual 30, 3) := by decide +kernel
theorem dX0_workOut_131 : decode cX0_workOut 131 = .ok (.istore_n 3, 1) := by decide +kernel
theorem dX0_workOut_132 : decode cX0_workOut 132 = .ok (.goto 11, 3) := by decide +kernel
theorem dX0_workOut_135 : decode cX0_workOut 135 = .ok (.aload_n 0, 1) := by decide +kernel
theorem dX0_workOut_136 : decode cX0_workOut 136 = .ok (.aload_n 1, 1) := by decide +kernel
theorem dX0_workOut_137 : decode cX0_workOut 137 = .ok (.iload_n 3, 1) := by decide +kernel
theorem dX0_workOut_138 : decode cX0_workOut 138 = .ok (.invokevirtual 46, 3) := by decide +kernel
theorem dX0_workOut_141 : decode cX0_workOut 141 = .ok (.iconst 0, 1) := by decide +kernel
theorem dX0_workOut_142 : decode cX0_workOut 142 = .ok (.istore_n 3, 1) := by decide +kernel
theorem dX0_workOut_143 : decode cX0_workOut 143 = .ok (.iinc 4 1, 3) := by decide +kernel
theorem dX0_workOut_146 : decode cX0_workOut 146 = .ok (.goto (-106), 3) := by decide +kernel
theorem dX0_workOut_149 : decode cX0_workOut 149 = .ok (.iinc 2 1, 3) := by decide +kernel
theorem dX0_workOut_152 : decode cX0_workOut 152 = .ok (.goto (-145), 3) := by decide +kernel
theorem dX0_workOut_155 : decode cX0_workOut 155 = .ok (.return_, 1) := by decide +kernel
theorem dX0_goOver_0 : decode cX0_goOver 0 = .ok (.iconst 0, 1) := by decide +kernel
theorem dX0_goOver_1 : decode cX0_goOver 1 = .ok (.istore_n 2, 1) := by decide +kernel
theorem dX0_goOver_2 : decode cX0_goOver 2 = .ok (.iconst 0, 1) := by decide +kernel
theorem dX0_goOver_3 : decode cX0_goOver 3 = .ok (.istore_n 3, 1) := by decide +kernel
theorem dX0_goOver_4 : decode cX0_goOver 4 = .ok (.iload_n 3, 1) := by decide +kernel
theorem dX0_goOver_5 : decode cX0_goOver 5 = .ok (.bipush 72, 2) := by decide +kernel
theorem dX0_goOver_7 : decode cX0_goOver 7 = .ok (.if_icmp .ge 49, 3) := by decide +kernel
theorem dX0_goOver_10 : decode cX0_goOver 10 = .ok (.aload_n 1, 1) := by decide +kernel
theorem dX0_goOver_11 : decode cX0_goOver 11 = .ok (.getfield 50, 3) := by decide +kernel
theorem dX0_goOver_14 : decode cX0_goOver 14 = .ok (.iload_n 3, 1) := by decide +kernel
theorem dX0_goOver_15 : decode cX0_goOver 15 = .ok (.iaload, 1) := by decide +kernel
theorem dX0_goOver_16 : decode cX0_goOver 16 = .ok (.iconst 1, 1) := by decide +kernel
theorem dX0_goOver_17 : decode cX0_goOver 17 = .ok (.if_icmp .ne 33, 3) := by decide +kernel
theorem dX0_goOver_20 : decode cX0_goOver 20 = .ok (.iconst 1, 1) := by decide +kernel
theorem dX0_goOver_21 : decode cX0_goOver 21 = .ok (.istore_n 2, 1) := by decide +kernel
theorem dX0_goOver_22 : decode cX0_goOver 22 = .ok (.aload_n 1, 1) := by decide +kernel
theorem dX0_goOver_23 : decode cX0_goOver 23 = .ok (.getfield 55, 3) := by decide +kernel
theorem dX0_goOver_26 : decode cX0_goOver 26 = .ok (.iload_n 3, 1) := by decide +kernel
theorem dX0_goOver_27 : decode cX0_goOver 27 = .ok (.aload_n 1, 1) := by decide +kernel
theorem dX0_goOver_28 : decode cX0_goOver 28 = .ok (.getfield 58, 3) := by decide +kernel
theorem dX0_goOver_31 : decode cX0_goOver 31 = .ok (.ifCond .ne 7, 3) := by decide +kernel
theorem dX0_goOver_34 : decode cX0_goOver 34 = .ok (.iconst 4, 1) := by decide +kernel
theorem dX0_goOver_35 : decode cX0_goOver 35 = .ok (.goto 4, 3) := by decide +kernel
theorem dX0_goOver_38 : decode cX0_goOver 38 = .ok (.iconst 0, 1) := by decide +kernel
theorem dX0_goOver_39 : decode cX0_goOver 39 = .ok (.iastore, 1) := by decide +kernel
theorem dX0_goOver_40 : decode cX0_goOver 40 = .ok (.aload_n 0, 1) := by decide +kernel
theorem dX0_goOver_41 : decode cX0_goOver 41 = .ok (.getfield 20, 3) := by decide +kernel
theorem dX0_goOver_44 : decode cX0_goOver 44 = .ok (.getfield 27, 3) := by decide +kernel
theorem dX0_goOver_47 : decode cX0_goOver 47 = .ok (.iload_n 3, 1) := by decide +kernel
theorem dX0_goOver_48 : decode cX0_goOver 48 = .ok (.iconst 0, 1) := by decide +kernel
theorem dX0_goOver_49 : decode cX0_goOver 49 = .ok (.iastore, 1) := by decide +kernel
theorem dX0_goOver_50 : decode cX0_goOver 50 = .ok (.iinc 3 1, 3) := by decide +kernel
theorem dX0_goOver_53 : decode cX0_goOver 53 = .ok (.goto (-49), 3) := by decide +kernel
theorem dX0_goOver_56 : decode cX0_goOver 56 = .ok (.aload_n 1, 1) := by decide +kernel
theorem dX0_goOver_57 : decode cX0_goOver 57 = .ok (.iconst 0, 1) := by decide +kernel
theorem dX0_goOver_58 : decode cX0_goOver 58 = .ok (.putfield 61, 3) := by decide +kernel
theorem dX0_goOver_61 : decode cX0_goOver 61 = .ok (.aload_n 1, 1) := by decide +kernel
theorem dX0_goOver_62 : decode cX0_goOver 62 = .ok (.iload_n 2, 1) := by decide +kernel
theorem dX0_goOver_63 : decode cX0_goOver 63 = .ok (.ifCond .ne 7, 3) := by decide +kernel
theorem dX0_goOver_66 : decode cX0_goOver 66 = .ok (.iconst 1, 1) := by decide +kernel
theorem dX0_goOver_67 : decode cX0_goOver 67 = .ok (.goto 4, 3) := by decide +kernel
theorem dX0_goOver_70 : decode cX0_goOver 70 = .ok (.iconst 0, 1) := by decide +kernel
theorem dX0_goOver_71 : decode cX0_goOver 71 = .ok (.putfield 64, 3) := by decide +kernel
theorem dX0_goOver_74 : decode cX0_goOver 74 = .ok (.iconst 0, 1) := by decide +kernel
theorem dX0_goOver_75 : decode cX0_goOver 75 = .ok (.istore_n 3, 1) := by decide +kernel
theorem dX0_goOver_76 : decode cX0_goOver 76 = .ok (.iload_n 3, 1) := by decide +kernel
theorem dX0_goOver_77 : decode cX0_goOver 77 = .ok (.aload_n 1, 1) := by decide +kernel
theorem dX0_goOver_78 : decode cX0_goOver 78 = .ok (.getfield 58, 3) := by decide +kernel
theorem dX0_goOver_81 : decode cX0_goOver 81 = .ok (.if_icmp .ge 121, 3) := by decide +kernel
theorem dX0_goOver_84 : decode cX0_goOver 84 = .ok (.aload_n 1, 1) := by decide +kernel
theorem dX0_goOver_85 : decode cX0_goOver 85 = .ok (.getfield 64, 3) := by decide +kernel
theorem dX0_goOver_88 : decode cX0_goOver 88 = .ok (.ifCond .ne 114, 3) := by decide +kernel
theorem dX0_goOver_91 : decode cX0_goOver 91 = .ok (.iconst 1, 1) := by decide +kernel
theorem dX0_goOver_92 : decode cX0_goOver 92 = .ok (.istore 4, 2) := by decide +kernel
theorem dX0_goOver_94 : decode cX0_goOver 94 = .ok (.iconst 0, 1) := by decide +kernel
theorem dX0_goOver_95 : decode cX0_goOver 95 = .ok (.istore 5, 2) := by decide +kernel
theorem dX0_goOver_97 : decode cX0_goOver 97 = .ok (.iload 5, 2) := by decide +kernel
theorem dX0_goOver_99 : decode cX0_goOver 99 = .ok (.bipush 72, 2) := by decide +kernel
theorem dX0_goOver_101 : decode cX0_goOver 101 = .ok (.if_icmp .ge 79, 3) := by decide +kernel
theorem dX0_goOver_104 : decode cX0_goOver 104 = .ok (.aload_n 1, 1) := by decide +kernel
theorem dX0_goOver_105 : decode cX0_goOver 105 = .ok (.getfield 50, 3) := by decide +kernel
theorem dX0_goOver_108 : decode cX0_goOver 108 = .ok (.iload 5, 2) := by decide +kernel
theorem dX0_goOver_110 : decode cX0_goOver 110 = .ok (.iaload, 1) := by decide +kernel
theorem dX0_goOver_111 : decode cX0_goOver 111 = .ok (.iconst 1, 1) := by decide +kernel
theorem dX0_goOver_112 : decode cX0_goOver 112 = .ok (.if_icmp .ne 62, 3) := by decide +kernel
theorem dX0_goOver_115 : decode cX0_goOver 115 = .ok (.aload_n 0, 1) := by decide +kernel
theorem dX0_goOver_116 : decode cX0_goOver 116 = .ok (.getfield 20, 3) := by decide +kernel
theorem dX0_goOver_119 : decode cX0_goOver 119 = .ok (.aload_n 1, 1) := by decide +kernel
theorem dX0_goOver_120 : decode cX0_goOver 120 = .ok (.iload 5, 2) := by decide +kernel
theorem dX0_goOver_122 : decode cX0_goOver 122 = .ok (.invokevirtual 34, 3) := by decide +kernel
theorem dX0_goOver_125 : decode cX0_goOver 125 = .ok (.istore 6, 2) := by decide +kernel
theorem dX0_goOver_127 : decode cX0_goOver 127 = .ok (.iload 4, 2) := by decide +kernel
theorem dX0_goOver_129 : decode cX0_goOver 129 = .ok (.ifCond .eq 19, 3) := by decide +kernel
theorem dX0_goOver_132 : decode cX0_goOver 132 = .ok (.aload_n 0, 1) := by decide +kernel
theorem dX0_goOver_133 : decode cX0_goOver 133 = .ok (.aload_n 1, 1) := by decide +kernel
theorem dX0_goOver_134 : decode cX0_goOver 134 = .ok (.iload 5, 2) := by decide +kernel
theorem dX0_goOver_136 : decode cX0_goOver 136 = .ok (.iload 6, 2) := by decide +kernel
theorem dX0_goOver_138 : decode cX0_goOver 138 = .ok (.invokevirtual 68, 3) := by decide +kernel
theorem dX0_goOver_141 : decode cX0_goOver 141 = .ok (.ifCond .eq 7, 3) := by decide +kernel
theorem dX0_goOver_144 : decode cX0_goOver 144 = .ok (.iconst 1, 1) := by decide +kernel
theorem dX0_goOver_145 : decode cX0_goOver 145 = .ok (.goto 4, 3) := by decide +kernel
theorem dX0_goOver_148 : decode cX0_goOver 148 = .ok (.iconst 0, 1) := by decide +kernel
theorem dX0_goOver_149 : decode cX0_goOver 149 = .ok (.istore 4, 2) := by decide +kernel
theorem dX0_goOver_151 : decode cX0_goOver 151 = .ok (.aload_n 1, 1) := by decide +kernel
theorem dX0_goOver_152 : decode cX0_goOver 152 = .ok (.getfield 72, 3) := by decide +kernel
theorem dX0_goOver_155 : decode cX0_goOver 155 = .ok (.iload 5, 2) := by decide +kernel
theorem dX0_goOver_157 : decode cX0_goOver 157 = .ok (.iload 6, 2) := by decide +kernel
theorem dX0_goOver_159 : decode cX0_goOver 159 = .ok (.iastore, 1) := by decide +kernel
theorem dX0_goOver_160 : decode cX0_goOver 160 = .ok (.aload_n 1, 1) := by decide +kernel
theorem dX0_goOver_161 : decode cX0_goOver 161 = .ok (.getfield 55, 3) := by decide +kernel
theorem dX0_goOver_164 : decode cX0_goOver 164 = .ok (.iload 5, 2) := by decide +kernel
theorem dX0_goOver_166 : decode cX0_goOver 166 = .ok (.aload_n 0, 1) := by decide +kernel
theorem dX0_goOver_167 : decode cX0_goOver 167 = .ok (.getfield 20, 3) := by decide +kernel
theorem dX0_goOver_170 : decode cX0_goOver 170 = .ok (.getfield 75, 3) := by decide +kernel
theorem dX0_goOver_173 : decode cX0_goOver 173 = .ok (.iastore, 1) := by decide +kernel
theorem dX0_goOver_174 : decode cX0_goOver 174 = .ok (.iinc 5 1, 3) := by decide +kernel
theorem dX0_goOver_177 : decode cX0_goOver 177 = .ok (.goto (-80), 3) := by decide +kernel
theorem dX0_goOver_180 : decode cX0_goOver 180 = .ok (.aload_n 1, 1) := by decide +kernel
theorem dX0_goOver_181 : decode cX0_goOver 181 = .ok (.iload 4, 2) := by decide +kernel
theorem dX0_goOver_183 : decode cX0_goOver 183 = .ok (.putfield 64, 3) := by decide +kernel
theorem dX0_goOver_186 : decode cX0_goOver 186 = .ok (.aload_n 1, 1) := by decide +kernel
theorem dX0_goOver_187 : decode cX0_goOver 187 = .ok (.dup, 1) := by decide +kernel
theorem dX0_goOver_188 : decode cX0_goOver 188 = .ok (.getfield 61, 3) := by decide +kernel
theorem dX0_goOver_191 : decode cX0_goOver 191 = .ok (.iconst 1, 1) := by decide +kernel
theorem dX0_goOver_192 : decode cX0_goOver 192 = .ok (.iadd, 1) := by decide +kernel
theorem dX0_goOver_193 : decode cX0_goOver 193 = .ok (.putfield 61, 3) := by decide +kernel
theorem dX0_goOver_196 : decode cX0_goOver 196 = .ok (.iinc 3 1, 3) := by decide +kernel
theorem dX0_goOver_199 : decode cX0_goOver 199 = .ok (.goto (-123), 3) := by decide +kernel
theorem dX0_goOver_202 : decode cX0_goOver 202 = .ok (.return_, 1) := by decide +kernel
theorem dX0_isStill_0 : decode cX0_isStill 0 = .ok (.aload_n 1, 1) := by decide +kernel
theorem dX0_isStill_1 : decode cX0_isStill 1 = .ok (.getfield 72, 3) := by decide +kernel
theorem dX0_isStill_4 : decode cX0_isStill 4 = .ok (.iload_n 2, 1) := by decide +kernel
theorem dX0_isStill_5 : decode cX0_isStill 5 = .ok (.iaload, 1) := by decide +kernel
theorem dX0_isStill_6 : decode cX0_isStill 6 = .ok (.iload_n 3, 1) := by decide +kernel
theorem dX0_isStill_7 : decode cX0_isStill 7 = .ok (.if_icmp .ne 23, 3) := by decide +kernel
theorem dX0_isStill_10 : decode cX0_isStill 10 = .ok (.aload_n 1, 1) := by decide +kernel
theorem dX0_isStill_11 : decode cX0_isStill 11 = .ok (.getfield 55, 3) := by decide +kernel
theorem dX0_isStill_14 : decode cX0_isStill 14 = .ok (.iload_n 2, 1) := by decide +kernel
theorem dX0_isStill_15 : decode cX0_isStill 15 = .ok (.iaload, 1) := by decide +kernel
theorem dX0_isStill_16 : decode cX0_isStill 16 = .ok (.aload_n 0, 1) := by decide +kernel
theorem dX0_isStill_17 : decode cX0_isStill 17 = .ok (.getfield 20, 3) := by decide +kernel
theorem dX0_isStill_20 : decode cX0_isStill 20 = .ok (.getfield 75, 3) := by decide +kernel
theorem dX0_isStill_23 : decode cX0_isStill 23 = .ok (.if_icmp .ne 7, 3) := by decide +kernel
theorem dX0_isStill_26 : decode cX0_isStill 26 = .ok (.iconst 1, 1) := by decide +kernel
theorem dX0_isStill_27 : decode cX0_isStill 27 = .ok (.goto 4, 3) := by decide +kernel
theorem dX0_isStill_30 : decode cX0_isStill 30 = .ok (.iconst 0, 1) := by decide +kernel
theorem dX0_isStill_31 : decode cX0_isStill 31 = .ok (.ireturn, 1) := by decide +kernel
theorem dX0_forget_0 : decode cX0_forget 0 = .ok (.iconst 0, 1) := by decide +kernel
theorem dX0_forget_1 : decode cX0_forget 1 = .ok (.istore_n 2, 1) := by decide +kernel
theorem dX0_forget_2 : decode cX0_forget 2 = .ok (.iload_n 2, 1) := by decide +kernel
theorem dX0_forget_3 : decode cX0_forget 3 = .ok (.bipush 72, 2) := by decide +kernel
theorem dX0_forget_5 : decode cX0_forget 5 = .ok (.if_icmp .ge 66, 3) := by decide +kernel
theorem dX0_forget_8 : decode cX0_forget 8 = .ok (.aload_n 1, 1) := by decide +kernel
theorem dX0_forget_9 : decode cX0_forget 9 = .ok (.getfield 72, 3) := by decide +kernel
theorem dX0_forget_12 : decode cX0_forget 12 = .ok (.iload_n 2, 1) := by decide +kernel
theorem dX0_forget_13 : decode cX0_forget 13 = .ok (.iconst 0, 1) := by decide +kernel
theorem dX0_forget_14 : decode cX0_forget 14 = .ok (.iastore, 1) := by decide +kernel
theorem dX0_forget_15 : decode cX0_forget 15 = .ok (.aload_n 1, 1) := by decide +kernel
theorem dX0_forget_16 : decode cX0_forget 16 = .ok (.getfield 55, 3) := by decide +kernel
theorem dX0_forget_19 : decode cX0_forget 19 = .ok (.iload_n 2, 1) := by decide +kernel
theorem dX0_forget_20 : decode cX0_forget 20 = .ok (.iconst 0, 1) := by decide +kernel
theorem dX0_forget_21 : decode cX0_forget 21 = .ok (.iastore, 1) := by decide +kernel
theorem dX0_forget_22 : decode cX0_forget 22 = .ok (.aload_n 1, 1) := by decide +kernel
theorem dX0_forget_23 : decode cX0_forget 23 = .ok (.getfield 78, 3) := by decide +kernel
theorem dX0_forget_26 : decode cX0_forget 26 = .ok (.iload_n 2, 1) := by decide +kernel
theorem dX0_forget_27 : decode cX0_forget 27 = .ok (.iconst 0, 1) := by decide +kernel
theorem dX0_forget_28 : decode cX0_forget 28 = .ok (.iastore, 1) := by decide +kernel
theorem dX0_forget_29 : decode cX0_forget 29 = .ok (.aload_n 1, 1) := by decide +kernel
theorem dX0_forget_30 : decode cX0_forget 30 = .ok (.getfield 50, 3) := by decide +kernel
theorem dX0_forget_33 : decode cX0_forget 33 = .ok (.iload_n 2, 1) := by decide +kernel
theorem dX0_forget_34 : decode cX0_forget 34 = .ok (.iconst 0, 1) := by decide +kernel
theorem dX0_forget_35 : decode cX0_forget 35 = .ok (.iastore, 1) := by decide +kernel
theorem dX0_forget_36 : decode cX0_forget 36 = .ok (.aload_n 1, 1) := by decide +kernel
theorem dX0_forget_37 : decode cX0_forget 37 = .ok (.getfield 81, 3) := by decide +kernel
theorem dX0_forget_40 : decode cX0_forget 40 = .ok (.iload_n 2, 1) := by decide +kernel
theorem dX0_forget_41 : decode cX0_forget 41 = .ok (.iconst 0, 1) := by decide +kernel
theorem dX0_forget_42 : decode cX0_forget 42 = .ok (.iastore, 1) := by decide +kernel
theorem dX0_forget_43 : decode cX0_forget 43 = .ok (.aload_n 0, 1) := by decide +kernel
theorem dX0_forget_44 : decode cX0_forget 44 = .ok (.getfield 20, 3) := by decide +kernel
theorem dX0_forget_47 : decode cX0_forget 47 = .ok (.getfield 27, 3) := by decide +kernel
theorem dX0_forget_50 : decode cX0_forget 50 = .ok (.iload_n 2, 1) := by decide +kernel
theorem dX0_forget_51 : decode cX0_forget 51 = .ok (.aload_n 1, 1) := by decide +kernel
theorem dX0_forget_52 : decode cX0_forget 52 = .ok (.iload_n 2, 1) := by decide +kernel
theorem dX0_forget_53 : decode cX0_forget 53 = .ok (.invokevirtual 84, 3) := by decide +kernel
theorem dX0_forget_56 : decode cX0_forget 56 = .ok (.ifCond .eq 7, 3) := by decide +kernel
theorem dX0_forget_59 : decode cX0_forget 59 = .ok (.iconst 0, 1) := by decide +kernel
theorem dX0_forget_60 : decode cX0_forget 60 = .ok (.goto 4, 3) := by decide +kernel
theorem dX0_forget_63 : decode cX0_forget 63 = .ok (.iconst 1, 1) := by decide +kernel
theorem dX0_forget_64 : decode cX0_forget 64 = .ok (.iastore, 1) := by decide +kernel
theorem dX0_forget_65 : decode cX0_forget 65 = .ok (.iinc 2 1, 3) := by decide +kernel
theorem dX0_forget_68 : decode cX0_forget 68 = .ok (.goto (-66), 3) := by decide +kernel
theorem dX0_forget_71 : decode cX0_forget 71 = .ok (.return_, 1) := by decide +kernel
theorem dX0_opened_0 : decode cX0_opened 0 = .ok (.iload_n 1, 1) := by decide +kernel
theorem dX0_opened_1 : decode cX0_opened 1 = .ok (.bipush 72, 2) := by decide +kernel
theorem dX0_opened_3 : decode cX0_opened 3 = .ok (.if_icmp .lt 5, 3) := by decide +kernel
theorem dX0_opened_6 : decode cX0_opened 6 = .ok (.iload_n 1, 1) := by decide +kernel
theorem dX0_opened_7 : decode cX0_opened 7 = .ok (.ireturn, 1) := by decide +kernel
theorem dX0_opened_8 : decode cX0_opened 8 = .ok (.aload_n 0, 1) := by decide +kernel
theorem dX0_opened_9 : decode cX0_opened 9 = .ok (.getfield 20, 3) := by decide +kernel
theorem dX0_opened_12 : decode cX0_opened 12 = .ok (.getfield 27, 3) := by decide +kernel
theorem dX0_opened_15 : decode cX0_opened 15 = .ok (.iload_n 2, 1) := by decide +kernel
theorem dX0_opened_16 : decode cX0_opened 16 = .ok (.iconst 2, 1) := by decide +kernel
theorem dX0_opened_17 : decode cX0_opened 17 = .ok (.iastore, 1) := by decide +kernel
theorem dX0_opened_18 : decode cX0_opened 18 = .ok (.aload_n 0, 1) := by decide +kernel
theorem dX0_opened_19 : decode cX0_opened 19 = .ok (.getfield 9, 3) := by decide +kernel
theorem dX0_opened_22 : decode cX0_opened 22 = .ok (.iload_n 1, 1) := by decide +kernel
theorem dX0_opened_23 : decode cX0_opened 23 = .ok (.iload_n 2, 1) := by decide +kernel
theorem dX0_opened_24 : decode cX0_opened 24 = .ok (.iastore, 1) := by decide +kernel
theorem dX0_opened_25 : decode cX0_opened 25 = .ok (.iload_n 1, 1) := by decide +kernel
theorem dX0_opened_26 : decode cX0_opened 26 = .ok (.iconst 1, 1) := by decide +kernel
theorem dX0_opened_27 : decode cX0_opened 27 = .ok (.iadd, 1) := by decide +kernel
theorem dX0_opened_28 : decode cX0_opened 28 = .ok (.ireturn, 1) := by decide +kernel
theorem dX0_learn_0 : decode cX0_learn 0 = .ok (.aload_n 1, 1) := by decide +kernel
theorem dX0_learn_1 : decode cX0_learn 1 = .ok (.getfield 72, 3) := by decide +kernel
theorem dX0_learn_4 : decode cX0_learn 4 = .ok (.iload_n 2, 1) := by decide +kernel
theorem dX0_learn_5 : decode cX0_learn 5 = .ok (.iload_n 3, 1) := by decide +kernel
theorem dX0_learn_6 : decode cX0_learn 6 = .ok (.iastore, 1) := by decide +kernel
theorem dX0_learn_7 : decode cX0_learn 7 = .ok (.aload_n 1, 1) := by decide +kernel
theorem dX0_learn_8 : decode cX0_learn 8 = .ok (.getfield 55, 3) := by decide +kernel
theorem dX0_learn_11 : decode cX0_learn 11 = .ok (.iload_n 2, 1) := by decide +kernel
theorem dX0_learn_12 : decode cX0_learn 12 = .ok (.aload_n 0, 1) := by decide +kernel
theorem dX0_learn_13 : decode cX0_learn 13 = .ok (.getfield 20, 3) := by decide +kernel
theorem dX0_learn_16 : decode cX0_learn 16 = .ok (.getfield 75, 3) := by decide +kernel
theorem dX0_learn_19 : decode cX0_learn 19 = .ok (.iastore, 1) := by decide +kernel
theorem dX0_learn_20 : decode cX0_learn 20 = .ok (.iconst 0, 1) := by decide +kernel
theorem dX0_learn_21 : decode cX0_learn 21 = .ok (.istore 4, 2) := by decide +kernel
theorem dX0_learn_23 : decode cX0_learn 23 = .ok (.iconst 0, 1) := by decide +kernel
theorem dX0_learn_24 : decode cX0_learn 24 = .ok (.istore 5, 2) := by decide +kernel
theorem dX0_learn_26 : decode cX0_learn 26 = .ok (.iload 5, 2) := by decide +kernel
theorem dX0_learn_28 : decode cX0_learn 28 = .ok (.aload_n 1, 1) := by decide +kernel
theorem dX0_learn_29 : decode cX0_learn 29 = .ok (.getfield 81, 3) := by decide +kernel
theorem dX0_learn_32 : decode cX0_learn 32 = .ok (.iload_n 2, 1) := by decide +kernel
theorem dX0_learn_33 : decode cX0_learn 33 = .ok (.iaload, 1) := by decide +kernel
theorem dX0_learn_34 : decode cX0_learn 34 = .ok (.if_icmp .ge 30, 3) := by decide +kernel
theorem dX0_learn_37 : decode cX0_learn 37 = .ok (.iload 4, 2) := by decide +kernel
theorem dX0_learn_39 : decode cX0_learn 39 = .ok (.aload_n 1, 1) := by decide +kernel
theorem dX0_learn_40 : decode cX0_learn 40 = .ok (.getfield 78, 3) := by decide +kernel
theorem dX0_learn_43 : decode cX0_learn 43 = .ok (.aload_n 1, 1) := by decide +kernel
theorem dX0_learn_44 : decode cX0_learn 44 = .ok (.iload_n 2, 1) := by decide +kernel
theorem dX0_learn_45 : decode cX0_learn 45 = .ok (.iload 5, 2) := by decide +kernel
theorem dX0_learn_47 : decode cX0_learn 47 = .ok (.invokevirtual 88, 3) := by decide +kernel
theorem dX0_learn_50 : decode cX0_learn 50 = .ok (.iaload, 1) := by decide +kernel
theorem dX0_learn_51 : decode cX0_learn 51 = .ok (.iconst 1, 1) := by decide +kernel
theorem dX0_learn_52 : decode cX0_learn 52 = .ok (.iadd, 1) := by decide +kernel
theorem dX0_learn_53 : decode cX0_learn 53 = .ok (.invokestatic 91, 3) := by decide +kernel
theorem dX0_learn_56 : decode cX0_learn 56 = .ok (.istore 4, 2) := by decide +kernel
theorem dX0_learn_58 : decode cX0_learn 58 = .ok (.iinc 5 1, 3) := by decide +kernel
theorem dX0_learn_61 : decode cX0_learn 61 = .ok (.goto (-35), 3) := by decide +kernel
theorem dX0_learn_64 : decode cX0_learn 64 = .ok (.aload_n 1, 1) := by decide +kernel
theorem dX0_learn_65 : decode cX0_learn 65 = .ok (.getfield 78, 3) := by decide +kernel
theorem dX0_learn_68 : decode cX0_learn 68 = .ok (.iload_n 2, 1) := by decide +kernel
theorem dX0_learn_69 : decode cX0_learn 69 = .ok (.iload 4, 2) := by decide +kernel
theorem dX0_learn_71 : decode cX0_learn 71 = .ok (.iastore, 1) := by decide +kernel
theorem dX0_learn_72 : decode cX0_learn 72 = .ok (.aload_n 0, 1) := by decide +kernel
theorem dX0_learn_73 : decode cX0_learn 73 = .ok (.getfield 20, 3) := by decide +kernel
theorem dX0_learn_76 : decode cX0_learn 76 = .ok (.getfield 27, 3) := by decide +kernel
theorem dX0_learn_79 : decode cX0_learn 79 = .ok (.iload_n 2, 1) := by decide +kernel
theorem dX0_learn_80 : decode cX0_learn 80 = .ok (.iconst 0, 1) := by decide +kernel
theorem dX0_learn_81 : decode cX0_learn 81 = .ok (.iastore, 1) := by decide +kernel
theorem dX0_learn_82 : decode cX0_learn 82 = .ok (.return_, 1) := by decide +kernel
theorem dX0_markCycle_0 : decode cX0_markCycle 0 = .ok (.iconst 0, 1) := by decide +kernel
theorem dX0_markCycle_1 : decode cX0_markCycle 1 = .ok (.istore_n 3, 1) := by decide +kernel
theorem dX0_markCycle_2 : decode cX0_markCycle 2 = .ok (.iload_n 3, 1) := by decide +kernel
theorem dX0_markCycle_3 : decode cX0_markCycle 3 = .ok (.iload_n 2, 1) := by decide +kernel
theorem dX0_markCycle_4 : decode cX0_markCycle 4 = .ok (.if_icmp .ge 21, 3) := by decide +kernel
theorem dX0_markCycle_7 : decode cX0_markCycle 7 = .ok (.aload_n 1, 1) := by decide +kernel
theorem dX0_markCycle_8 : decode cX0_markCycle 8 = .ok (.getfield 50, 3) := by decide +kernel
theorem dX0_markCycle_11 : decode cX0_markCycle 11 = .ok (.aload_n 0, 1) := by decide +kernel
theorem dX0_markCycle_12 : decode cX0_markCycle 12 = .ok (.getfield 9, 3) := by decide +kernel
theorem dX0_markCycle_15 : decode cX0_markCycle 15 = .ok (.iload_n 3, 1) := by decide +kernel
theorem dX0_markCycle_16 : decode cX0_markCycle 16 = .ok (.iaload, 1) := by decide +kernel
theorem dX0_markCycle_17 : decode cX0_markCycle 17 = .ok (.iconst 1, 1) := by decide +kernel
theorem dX0_markCycle_18 : decode cX0_markCycle 18 = .ok (.iastore, 1) := by decide +kernel
theorem dX0_markCycle_19 : decode cX0_markCycle 19 = .ok (.iinc 3 1, 3) := by decide +kernel
theorem dX0_markCycle_22 : decode cX0_markCycle 22 = .ok (.goto (-20), 3) := by decide +kernel
theorem dX0_markCycle_25 : decode cX0_markCycle 25 = .ok (.return_, 1) := by decide +kernel
theorem dX1_init_0 : decode cX1_init 0 = .ok (.aload_n 0, 1) := by decide +kernel
theorem dX1_init_1 : decode cX1_init 1 = .ok (.invokespecial 3, 3) := by decide +kernel
theorem dX1_init_4 : decode cX1_init 4 = .ok (.aload_n 0, 1) := by decide +kernel
theorem dX1_init_5 : decode cX1_init 5 = .ok (.new 9, 3) := by decide +kernel
theorem dX1_init_8 : decode cX1_init 8 = .ok (.dup, 1) := by decide +kernel
theorem dX1_init_9 : decode cX1_init 9 = .ok (.invokespecial 11, 3) := by decide +kernel
theorem dX1_init_12 : decode cX1_init 12 = .ok (.putfield 12, 3) := by decide +kernel
theorem dX1_init_15 : decode cX1_init 15 = .ok (.return_, 1) := by decide +kernel
theorem dX1_firstFault_0 : decode cX1_firstFault 0 = .ok (.aload_n 1, 1) := by decide +kernel
theorem dX1_firstFault_1 : decode cX1_firstFault 1 = .ok (.getfield 18, 3) := by decide +kernel
theorem dX1_firstFault_4 : decode cX1_firstFault 4 = .ok (.ifCond .ne 5, 3) := by decide +kernel
theorem dX1_firstFault_7 : decode cX1_firstFault 7 = .ok (.iconst (-1), 1) := by decide +kernel
theorem dX1_firstFault_8 : decode cX1_firstFault 8 = .ok (.ireturn, 1) := by decide +kernel
theorem dX1_firstFault_9 : decode cX1_firstFault 9 = .ok (.aload_n 0, 1) := by decide +kernel
theorem dX1_firstFault_10 : decode cX1_firstFault 10 = .ok (.getfield 12, 3) := by decide +kernel
theorem dX1_firstFault_13 : decode cX1_firstFault 13 = .ok (.aload_n 1, 1) := by decide +kernel
theorem dX1_firstFault_14 : decode cX1_firstFault 14 = .ok (.getfield 24, 3) := by decide +kernel
theorem dX1_firstFault_17 : decode cX1_firstFault 17 = .ok (.iconst 0, 1) := by decide +kernel
theorem dX1_firstFault_18 : decode cX1_firstFault 18 = .ok (.aload_n 1, 1) := by decide +kernel
theorem dX1_firstFault_19 : decode cX1_firstFault 19 = .ok (.getfield 18, 3) := by decide +kernel
theorem dX1_firstFault_22 : decode cX1_firstFault 22 = .ok (.invokevirtual 28, 3) := by decide +kernel
theorem dX1_firstFault_25 : decode cX1_firstFault 25 = .ok (.aload_n 0, 1) := by decide +kernel
theorem dX1_firstFault_26 : decode cX1_firstFault 26 = .ok (.iconst 0, 1) := by decide +kernel
theorem dX1_firstFault_27 : decode cX1_firstFault 27 = .ok (.invokevirtual 32, 3) := by decide +kernel
theorem dX1_firstFault_30 : decode cX1_firstFault 30 = .ok (.ifCond .eq 17, 3) := by decide +kernel
theorem dX1_firstFault_33 : decode cX1_firstFault 33 = .ok (.aload_n 0, 1) := by decide +kernel
theorem dX1_firstFault_34 : decode cX1_firstFault 34 = .ok (.getfield 12, 3) := by decide +kernel
theorem dX1_firstFault_37 : decode cX1_firstFault 37 = .ok (.invokevirtual 36, 3) := by decide +kernel
theorem dX1_firstFault_40 : decode cX1_firstFault 40 = .ok (.ifCond .eq 7, 3) := by decide +kernel
theorem dX1_firstFault_43 : decode cX1_firstFault 43 = .ok (.iconst (-1), 1) := by decide +kernel
theorem dX1_firstFault_44 : decode cX1_firstFault 44 = .ok (.goto 10, 3) := by decide +kernel
theorem dX1_firstFault_47 : decode cX1_firstFault 47 = .ok (.aload_n 0, 1) := by decide +kernel
theorem dX1_firstFault_48 : decode cX1_firstFault 48 = .ok (.getfield 12, 3) := by decide +kernel
theorem dX1_firstFault_51 : decode cX1_firstFault 51 = .ok (.getfield 40, 3) := by decide +kernel
theorem dX1_firstFault_54 : decode cX1_firstFault 54 = .ok (.ireturn, 1) := by decide +kernel
theorem dX1_formula_0 : decode cX1_formula 0 = .ok (.iconst 1, 1) := by decide +kernel
theorem dX1_formula_1 : decode cX1_formula 1 = .ok (.istore_n 2, 1) := by decide +kernel
theorem dX1_formula_2 : decode cX1_formula 2 = .ok (.iconst 0, 1) := by decide +kernel
theorem dX1_formula_3 : decode cX1_formula 3 = .ok (.istore_n 3, 1) := by decide +kernel
theorem dX1_formula_4 : decode cX1_formula 4 = .ok (.iload_n 3, 1) := by decide +kernel
theorem dX1_formula_5 : decode cX1_formula 5 = .ok (.bipush 30, 2) := by decide +kernel
theorem dX1_formula_7 : decode cX1_formula 7 = .ok (.if_icmp .ge 53, 3) := by decide +kernel
theorem dX1_formula_10 : decode cX1_formula 10 = .ok (.iload_n 2, 1) := by decide +kernel
theorem dX1_formula_11 : decode cX1_formula 11 = .ok (.ifCond .eq 49, 3) := by decide +kernel
theorem dX1_formula_14 : decode cX1_formula 14 = .ok (.aload_n 0, 1) := by decide +kernel
theorem dX1_formula_15 : decode cX1_formula 15 = .ok (.iload_n 1, 1) := by decide +kernel
theorem dX1_formula_16 : decode cX1_formula 16 = .ok (.invokevirtual 43, 3) := by decide +kernel
theorem dX1_formula_19 : decode cX1_formula 19 = .ok (.ifCond .ne 5, 3) := by decide +kernel
theorem dX1_formula_22 : decode cX1_formula 22 = .ok (.iconst 0, 1) := by decide +kernel
theorem dX1_formula_23 : decode cX1_formula 23 = .ok (.ireturn, 1) := by decide +kernel
theorem dX1_formula_24 : decode cX1_formula 24 = .ok (.aload_n 0, 1) := by decide +kernel
theorem dX1_formula_25 : decode cX1_formula 25 = .ok (.getfield 12, 3) := by decide +kernel
theorem dX1_formula_28 : decode cX1_formula 28 = .ok (.bipush 43, 2) := by decide +kernel
theorem dX1_formula_30 : decode cX1_formula 30 = .ok (.invokevirtual 46, 3) := by decide +kernel
theorem dX1_formula_33 : decode cX1_formula 33 = .ok (.ifCond .ne 15, 3) := by decide +kernel
theorem dX1_formula_36 : decode cX1_formula 36 = .ok (.aload_n 0, 1) := by decide +kernel
theorem dX1_formula_37 : decode cX1_formula 37 = .ok (.getfield 12, 3) := by decide +kernel
theorem dX1_formula_40 : decode cX1_formula 40 = .ok (.bipush 45, 2) := by decide +kernel
theorem dX1_formula_42 : decode cX1_formula 42 = .ok (.invokevirtual 46, 3) := by decide +kernel
theorem dX1_formula_45 : decode cX1_formula 45 = .ok (.ifCond .eq 7, 3) := by decide +kernel
theorem dX1_formula_48 : decode cX1_formula 48 = .ok (.iconst 1, 1) := by decide +kernel
theorem dX1_formula_49 : decode cX1_formula 49 = .ok (.goto 4, 3) := by decide +kernel
theorem dX1_formula_52 : decode cX1_formula 52 = .ok (.iconst 0, 1) := by decide +kernel
theorem dX1_formula_53 : decode cX1_formula 53 = .ok (.istore_n 2, 1) := by decide +kernel
theorem dX1_formula_54 : decode cX1_formula 54 = .ok (.iinc 3 1, 3) := by decide +kernel
theorem dX1_formula_57 : decode cX1_formula 57 = .ok (.goto (-53), 3) := by decide +kernel
theorem dX1_formula_60 : decode cX1_formula 60 = .ok (.iconst 1, 1) := by decide +kernel
theorem dX1_formula_61 : decode cX1_formula 61 = .ok (.ireturn, 1) := by decide +kernel
theorem dX1_product_0 : decode cX1_product 0 = .ok (.iconst 1, 1) := by decide +kernel
theorem dX1_product_1 : decode cX1_product 1 = .ok (.istore_n 2, 1) := by decide +kernel
theorem dX1_product_2 : decode cX1_product 2 = .ok (.iconst 0, 1) := by decide +kernel
theorem dX1_product_3 : decode cX1_product 3 = .ok (.istore_n 3, 1) := by decide +kernel
theorem dX1_product_4 : decode cX1_product 4 = .ok (.iload_n 3, 1) := by decide +kernel
theorem dX1_product_5 : decode cX1_product 5 = .ok (.bipush 30, 2) := by decide +kernel
theorem dX1_product_7 : decode cX1_product 7 = .ok (.if_icmp .ge 33, 3) := by decide +kernel
theorem dX1_product_10 : decode cX1_product 10 = .ok (.iload_n 2, 1) := by decide +kernel
theorem dX1_product_11 : decode cX1_product 11 = .ok (.ifCond .eq 29, 3) := by decide +kernel
theorem dX1_product_14 : decode cX1_product 14 = .ok (.aload_n 0, 1) := by decide +kernel
theorem dX1_product_15 : decode cX1_product 15 = .ok (.iload_n 1, 1) := by decide +kernel
theorem dX1_product_16 : decode cX1_product 16 = .ok (.invokevirtual 49, 3) := by decide +kernel
theorem dX1_product_19 : decode cX1_product 19 = .ok (.ifCond .ne 5, 3) := by decide +kernel
theorem dX1_product_22 : decode cX1_product 22 = .ok (.iconst 0, 1) := by decide +kernel
theorem dX1_product_23 : decode cX1_product 23 = .ok (.ireturn, 1) := by decide +kernel
theorem dX1_product_24 : decode cX1_product 24 = .ok (.aload_n 0, 1) := by decide +kernel
theorem dX1_product_25 : decode cX1_product 25 = .ok (.getfield 12, 3) := by decide +kernel
theorem dX1_product_28 : decode cX1_product 28 = .ok (.bipush 42, 2) := by decide +kernel
theorem dX1_product_30 : decode cX1_product 30 = .ok (.invokevirtual 46, 3) := by decide +kernel
theorem dX1_product_33 : decode cX1_product 33 = .ok (.istore_n 2, 1) := by decide +kernel
theorem dX1_product_34 : decode cX1_product 34 = .ok (.iinc 3 1, 3) := by decide +kernel
theorem dX1_product_37 : decode cX1_product 37 = .ok (.goto (-33), 3) := by decide +kernel
theorem dX1_product_40 : decode cX1_product 40 = .ok (.iconst 1, 1) := by decide +kernel
theorem dX1_product_41 : decode cX1_product 41 = .ok (.ireturn, 1) := by decide +kernel
theorem dX1_factor_0 : decode cX1_factor 0 = .ok (.iload_n 1, 1) := by decide +kernel
theorem dX1_factor_1 : decode cX1_factor 1 = .ok (.bipush 40, 2) := by decide +kernel
theorem dX1_factor_3 : decode cX1_factor 3 = .ok (.if_icmp .le 5, 3) := by decide +kernel
theorem dX1_factor_6 : decode cX1_factor 6 = .ok (.iconst 0, 1) := by decide +kernel
theorem dX1_factor_7 : decode cX1_factor 7 = .ok (.ireturn, 1) := by decide +kernel
theorem dX1_factor_8 : decode cX1_factor 8 = .ok (.aload_n 0, 1) := by decide +kernel
theorem dX1_factor_9 : decode cX1_factor 9 = .ok (.getfield 12, 3) := by decide +kernel
theorem dX1_factor_12 : decode cX1_factor 12 = .ok (.bipush 45, 2) := by decide +kernel
theorem dX1_factor_14 : decode cX1_factor 14 = .ok (.invokevirtual 46, 3) := by decide +kernel
theorem dX1_factor_17 : decode cX1_factor 17 = .ok (.ifCond .eq 11, 3) := by decide +kernel
theorem dX1_factor_20 : decode cX1_factor 20 = .ok (.aload_n 0, 1) := by decide +kernel
theorem dX1_factor_21 : decode cX1_factor 21 = .ok (.iload_n 1, 1) := by decide +kernel
theorem dX1_factor_22 : decode cX1_factor 22 = .ok (.iconst 1, 1) := by decide +kernel
theorem dX1_factor_23 : decode cX1_factor 23 = .ok (.iadd, 1) := by decide +kernel
theorem dX1_factor_24 : decode cX1_factor 24 = .ok (.invokevirtual 49, 3) := by decide +kernel
theorem dX1_factor_27 : decode cX1_factor 27 = .ok (.ireturn, 1) := by decide +kernel
theorem dX1_factor_28 : decode cX1_factor 28 = .ok (.aload_n 0, 1) := by decide +kernel
theorem dX1_factor_29 : decode cX1_factor 29 = .ok (.getfield 12, 3) := by decide +kernel
theorem dX1_factor_32 : decode cX1_factor 32 = .ok (.bipush 40, 2) := by decide +kernel
theorem dX1_factor_34 : decode cX1_factor 34 = .ok (.invokevirtual 46, 3) := by decide +kernel
theorem dX1_factor_37 : decode cX1_factor 37 = .ok (.ifCond .eq 31, 3) := by decide +kernel
theorem dX1_factor_40 : decode cX1_factor 40 = .ok (.aload_n 0, 1) := by decide +kernel
theorem dX1_factor_41 : decode cX1_factor 41 = .ok (.iload_n 1, 1) := by decide +kernel
theorem dX1_factor_42 : decode cX1_factor 42 = .ok (.iconst 1, 1) := by decide +kernel
theorem dX1_factor_43 : decode cX1_factor 43 = .ok (.iadd, 1) := by decide +kernel
theorem dX1_factor_44 : decode cX1_factor 44 = .ok (.invokevirtual 32, 3) := by decide +kernel
theorem dX1_factor_47 : decode cX1_factor 47 = .ok (.ifCond .eq 19, 3) := by decide +kernel
theorem dX1_factor_50 : decode cX1_factor 50 = .ok (.aload_n 0, 1) := by decide +kernel
theorem dX1_factor_51 : decode cX1_factor 51 = .ok (.getfield 12, 3) := by decide +kernel
theorem dX1_factor_54 : decode cX1_factor 54 = .ok (.bipush 41, 2) := by decide +kernel
theorem dX1_factor_56 : decode cX1_factor 56 = .ok (.invokevirtual 46, 3) := by decide +kernel
theorem dX1_factor_59 : decode cX1_factor 59 = .ok (.ifCond .eq 7, 3) := by decide +kernel
theorem dX1_factor_62 : decode cX1_factor 62 = .ok (.iconst 1, 1) := by decide +kernel
theorem dX1_factor_63 : decode cX1_factor 63 = .ok (.goto 4, 3) := by decide +kernel
theorem dX1_factor_66 : decode cX1_factor 66 = .ok (.iconst 0, 1) := by decide +kernel
theorem dX1_factor_67 : decode cX1_factor 67 = .ok (.ireturn, 1) := by decide +kernel
theorem dX1_factor_68 : decode cX1_factor 68 = .ok (.aload_n 0, 1) := by decide +kernel
theorem dX1_factor_69 : decode cX1_factor 69 = .ok (.getfield 12, 3) := by decide +kernel
theorem dX1_factor_72 : decode cX1_factor 72 = .ok (.iconst 0, 1) := by decide +kernel
theorem dX1_factor_73 : decode cX1_factor 73 = .ok (.invokevirtual 52, 3) := by decide +kernel
theorem dX1_factor_76 : decode cX1_factor 76 = .ok (.invokestatic 56, 3) := by decide +kernel
theorem dX1_factor_79 : decode cX1_factor 79 = .ok (.ifCond .eq 9, 3) := by decide +kernel
theorem dX1_factor_82 : decode cX1_factor 82 = .ok (.aload_n 0, 1) := by decide +kernel
theorem dX1_factor_83 : decode cX1_factor 83 = .ok (.invokevirtual 59, 3) := by decide +kernel
theorem dX1_factor_86 : decode cX1_factor 86 = .ok (.iconst 1, 1) := by decide +kernel
theorem dX1_factor_87 : decode cX1_factor 87 = .ok (.ireturn, 1) := by decide +kernel
theorem dX1_factor_88 : decode cX1_factor 88 = .ok (.aload_n 0, 1) := by decide +kernel
theorem dX1_factor_89 : decode cX1_factor 89 = .ok (.getfield 12, 3) := by decide +kernel
theorem dX1_factor_92 : decode cX1_factor 92 = .ok (.invokevirtual 62, 3) := by decide +kernel
theorem dX1_factor_95 : decode cX1_factor 95 = .ok (.ifCond .eq 18, 3) := by decide +kernel
theorem dX1_factor_98 : decode cX1_factor 98 = .ok (.aload_n 0, 1) := by decide +kernel
theorem dX1_factor_99 : decode cX1_factor 99 = .ok (.getfield 12, 3) := by decide +kernel
theorem dX1_factor_102 : decode cX1_factor 102 = .ok (.dup, 1) := by decide +kernel
theorem dX1_factor_103 : decode cX1_factor 103 = .ok (.getfield 40, 3) := by decide +kernel
theorem dX1_factor_106 : decode cX1_factor 106 = .ok (.iconst 2, 1) := by decide +kernel
theorem dX1_factor_107 : decode cX1_factor 107 = .ok (.iadd, 1) := by decide +kernel
theorem dX1_factor_108 : decode cX1_factor 108 = .ok (.putfield 40, 3) := by decide +kernel
theorem dX1_factor_111 : decode cX1_factor 111 = .ok (.iconst 1, 1) := by decide +kernel
theorem dX1_factor_112 : decode cX1_factor 112 = .ok (.ireturn, 1) := by decide +kernel
theorem dX1_factor_113 : decode cX1_factor 113 = .ok (.aload_n 0, 1) := by decide +kernel
theorem dX1_factor_114 : decode cX1_factor 114 = .ok (.iload_n 1, 1) := by decide +kernel
theorem dX1_factor_115 : decode cX1_factor 115 = .ok (.iconst 1, 1) := by decide +kernel
theorem dX1_factor_116 : decode cX1_factor 116 = .ok (.iadd, 1) := by decide +kernel
theorem dX1_factor_117 : decode cX1_factor 117 = .ok (.invokevirtual 65, 3) := by decide +kernel
theorem dX1_factor_120 : decode cX1_factor 120 = .ok (.ireturn, 1) := by decide +kernel
theorem dX1_passNumber_0 : decode cX1_passNumber 0 = .ok (.iconst 0, 1) := by decide +kernel
theorem dX1_passNumber_1 : decode cX1_passNumber 1 = .ok (.istore_n 1, 1) := by decide +kernel
theorem dX1_passNumber_2 : decode cX1_passNumber 2 = .ok (.iload_n 1, 1) := by decide +kernel
theorem dX1_passNumber_3 : decode cX1_passNumber 3 = .ok (.bipush 6, 2) := by decide +kernel
theorem dX1_passNumber_5 : decode cX1_passNumber 5 = .ok (.if_icmp .ge 36, 3) := by decide +kernel
theorem dX1_passNumber_8 : decode cX1_passNumber 8 = .ok (.aload_n 0, 1) := by decide +kernel
theorem dX1_passNumber_9 : decode cX1_passNumber 9 = .ok (.getfield 12, 3) := by decide +kernel
theorem dX1_passNumber_12 : decode cX1_passNumber 12 = .ok (.iconst 0, 1) := by decide +kernel
theorem dX1_passNumber_13 : decode cX1_passNumber 13 = .ok (.invokevirtual 52, 3) := by decide +kernel
theorem dX1_passNumber_16 : decode cX1_passNumber 16 = .ok (.invokestatic 56, 3) := by decide +kernel
theorem dX1_passNumber_19 : decode cX1_passNumber 19 = .ok (.ifCond .eq 22, 3) := by decide +kernel
theorem dX1_passNumber_22 : decode cX1_passNumber 22 = .ok (.aload_n 0, 1) := by decide +kernel
theorem dX1_passNumber_23 : decode cX1_passNumber 23 = .ok (.getfield 12, 3) := by decide +kernel
theorem dX1_passNumber_26 : decode cX1_passNumber 26 = .ok (.dup, 1) := by decide +kernel
theorem dX1_passNumber_27 : decode cX1_passNumber 27 = .ok (.getfield 40, 3) := by decide +kernel
theorem dX1_passNumber_30 : decode cX1_passNumber 30 = .ok (.iconst 1, 1) := by decide +kernel
theorem dX1_passNumber_31 : decode cX1_passNumber 31 = .ok (.iadd, 1) := by decide +kernel
theorem dX1_passNumber_32 : decode cX1_passNumber 32 = .ok (.putfield 40, 3) := by decide +kernel
theorem dX1_passNumber_35 : decode cX1_passNumber 35 = .ok (.iinc 1 1, 3) := by decide +kernel
theorem dX1_passNumber_38 : decode cX1_passNumber 38 = .ok (.goto (-36), 3) := by decide +kernel
theorem dX1_passNumber_41 : decode cX1_passNumber 41 = .ok (.return_, 1) := by decide +kernel
theorem dX1_call_0 : decode cX1_call 0 = .ok (.aload_n 0, 1) := by decide +kernel
theorem dX1_call_1 : decode cX1_call 1 = .ok (.getfield 12, 3) := by decide +kernel
theorem dX1_call_4 : decode cX1_call 4 = .ok (.iconst 0, 1) := by decide +kernel
theorem dX1_call_5 : decode cX1_call 5 = .ok (.invokevirtual 52, 3) := by decide +kernel
theorem dX1_call_8 : decode cX1_call 8 = .ok (.invokestatic 68, 3) := by decide +kernel
theorem dX1_call_11 : decode cX1_call 11 = .ok (.ifCond .eq 7, 3) := by decide +kernel
theorem dX1_call_14 : decode cX1_call 14 = .ok (.iconst 1, 1) := by decide +kernel
theorem dX1_call_15 : decode cX1_call 15 = .ok (.goto 4, 3) := by decide +kernel
theorem dX1_call_18 : decode cX1_call 18 = .ok (.iconst 0, 1) := by decide +kernel
theorem dX1_call_19 : decode cX1_call 19 = .ok (.istore_n 2, 1) := by decide +kernel
theorem dX1_call_20 : decode cX1_call 20 = .ok (.iconst 0, 1) := by decide +kernel
theorem dX1_call_21 : decode cX1_call 21 = .ok (.istore_n 3, 1) := by decide +kernel
theorem dX1_call_22 : decode cX1_call 22 = .ok (.iload_n 3, 1) := by decide +kernel
theorem dX1_call_23 : decode cX1_call 23 = .ok (.bipush 9, 2) := by decide +kernel
theorem dX1_call_25 : decode cX1_call 25 = .ok (.if_icmp .ge 62, 3) := by decide +kernel
theorem dX1_call_28 : decode cX1_call 28 = .ok (.aload_n 0, 1) := by decide +kernel
theorem dX1_call_29 : decode cX1_call 29 = .ok (.getfield 12, 3) := by decide +kernel
theorem dX1_call_32 : decode cX1_call 32 = .ok (.iload_n 3, 1) := by decide +kernel
theorem dX1_call_33 : decode cX1_call 33 = .ok (.invokestatic 71, 3) := by decide +kernel
theorem dX1_call_36 : decode cX1_call 36 = .ok (.invokevirtual 75, 3) := by decide +kernel
theorem dX1_call_39 : decode cX1_call 39 = .ok (.istore 4, 2) := by decide +kernel
theorem dX1_call_41 : decode cX1_call 41 = .ok (.iload 4, 2) := by decide +kernel
theorem dX1_call_43 : decode cX1_call 43 = .ok (.iload_n 3, 1) := by decide +kernel
theorem dX1_call_44 : decode cX1_call 44 = .ok (.invokestatic 71, 3) := by decide +kernel
theorem dX1_call_47 : decode cX1_call 47 = .ok (.invokevirtual 79, 3) := by decide +kernel
theorem dX1_call_50 : decode cX1_call 50 = .ok (.if_icmp .ne 24, 3) := by decide +kernel
theorem dX1_call_53 : decode cX1_call 53 = .ok (.aload_n 0, 1) := by decide +kernel
theorem dX1_call_54 : decode cX1_call 54 = .ok (.getfield 12, 3) := by decide +kernel
theorem dX1_call_57 : decode cX1_call 57 = .ok (.dup, 1) := by decide +kernel
theorem dX1_call_58 : decode cX1_call 58 = .ok (.getfield 40, 3) := by decide +kernel
theorem dX1_call_61 : decode cX1_call 61 = .ok (.iload 4, 2) := by decide +kernel
theorem dX1_call_63 : decode cX1_call 63 = .ok (.iadd, 1) := by decide +kernel
theorem dX1_call_64 : decode cX1_call 64 = .ok (.putfield 40, 3) := by decide +kernel
theorem dX1_call_67 : decode cX1_call 67 = .ok (.aload_n 0, 1) := by decide +kernel
theorem dX1_call_68 : decode cX1_call 68 = .ok (.iload_n 3, 1) := by decide +kernel
theorem dX1_call_69 : decode cX1_call 69 = .ok (.iload_n 1, 1) := by decide +kernel
theorem dX1_call_70 : decode cX1_call 70 = .ok (.invokevirtual 84, 3) := by decide +kernel
theorem dX1_call_73 : decode cX1_call 73 = .ok (.ireturn, 1) := by decide +kernel
theorem dX1_call_74 : decode cX1_call 74 = .ok (.iload_n 2, 1) := by decide +kernel
theorem dX1_call_75 : decode cX1_call 75 = .ok (.iload 4, 2) := by decide +kernel
theorem dX1_call_77 : decode cX1_call 77 = .ok (.invokestatic 88, 3) := by decide +kernel
theorem dX1_call_80 : decode cX1_call 80 = .ok (.istore_n 2, 1) := by decide +kernel
theorem dX1_call_81 : decode cX1_call 81 = .ok (.iinc 3 1, 3) := by decide +kernel
theorem dX1_call_84 : decode cX1_call 84 = .ok (.goto (-62), 3) := by decide +kernel
theorem dX1_call_87 : decode cX1_call 87 = .ok (.aload_n 0, 1) := by decide +kernel
theorem dX1_call_88 : decode cX1_call 88 = .ok (.getfield 12, 3) := by decide +kernel
theorem dX1_call_91 : decode cX1_call 91 = .ok (.dup, 1) := by decide +kernel
theorem dX1_call_92 : decode cX1_call 92 = .ok (.getfield 40, 3) := by decide +kernel
theorem dX1_call_95 : decode cX1_call 95 = .ok (.iload_n 2, 1) := by decide +kernel
theorem dX1_call_96 : decode cX1_call 96 = .ok (.iadd, 1) := by decide +kernel
theorem dX1_call_97 : decode cX1_call 97 = .ok (.putfield 40, 3) := by decide +kernel
theorem dX1_call_100 : decode cX1_call 100 = .ok (.iconst 0, 1) := by decide +kernel
theorem dX1_call_101 : decode cX1_call 101 = .ok (.ireturn, 1) := by decide +kernel
theorem dX1_parts_0 : decode cX1_parts 0 = .ok (.iconst 1, 1) := by decide +kernel
theorem dX1_parts_1 : decode cX1_parts 1 = .ok (.istore_n 3, 1) := by decide +kernel
theorem dX1_parts_2 : decode cX1_parts 2 = .ok (.iload_n 3, 1) := by decide +kernel
theorem dX1_parts_3 : decode cX1_parts 3 = .ok (.getstatic 94, 3) := by decide +kernel
theorem dX1_parts_6 : decode cX1_parts 6 = .ok (.iload_n 1, 1) := by decide +kernel
theorem dX1_parts_7 : decode cX1_parts 7 = .ok (.iaload, 1) := by decide +kernel
theorem dX1_parts_8 : decode cX1_parts 8 = .ok (.if_icmp .gt 84, 3) := by decide +kernel
theorem dX1_parts_11 : decode cX1_parts 11 = .ok (.aload_n 0, 1) := by decide +kernel
theorem dX1_parts_12 : decode cX1_parts 12 = .ok (.iload_n 1, 1) := by decide +kernel
theorem dX1_parts_13 : decode cX1_parts 13 = .ok (.invokevirtual 97, 3) := by decide +kernel
theorem dX1_parts_16 : decode cX1_parts 16 = .ok (.ifCond .eq 10, 3) := by decide +kernel
theorem dX1_parts_19 : decode cX1_parts 19 = .ok (.aload_n 0, 1) := by decide +kernel
theorem dX1_parts_20 : decode cX1_parts 20 = .ok (.invokevirtual 100, 3) := by decide +kernel
theorem dX1_parts_23 : decode cX1_parts 23 = .ok (.goto 8, 3) := by decide +kernel
theorem dX1_parts_26 : decode cX1_parts 26 = .ok (.aload_n 0, 1) := by decide +kernel
theorem dX1_parts_27 : decode cX1_parts 27 = .ok (.iload_n 2, 1) := by decide +kernel
theorem dX1_parts_28 : decode cX1_parts 28 = .ok (.invokevirtual 32, 3) := by decide +kernel
theorem dX1_parts_31 : decode cX1_parts 31 = .ok (.istore 4, 2) := by decide +kernel
theorem dX1_parts_33 : decode cX1_parts 33 = .ok (.iload 4, 2) := by decide +kernel
theorem dX1_parts_35 : decode cX1_parts 35 = .ok (.ifCond .ne 5, 3) := by decide +kernel
theorem dX1_parts_38 : decode cX1_parts 38 = .ok (.iconst 0, 1) := by decide +kernel
theorem dX1_parts_39 : decode cX1_parts 39 = .ok (.ireturn, 1) := by decide +kernel
theorem dX1_parts_40 : decode cX1_parts 40 = .ok (.iload_n 3, 1) := by decide +kernel
theorem dX1_parts_41 : decode cX1_parts 41 = .ok (.getstatic 103, 3) := by decide +kernel
theorem dX1_parts_44 : decode cX1_parts 44 = .ok (.iload_n 1, 1) := by decide +kernel
theorem dX1_parts_45 : decode cX1_parts 45 = .ok (.iaload, 1) := by decide +kernel
theorem dX1_parts_46 : decode cX1_parts 46 = .ok (.if_icmp .lt 17, 3) := by decide +kernel
theorem dX1_parts_49 : decode cX1_parts 49 = .ok (.aload_n 0, 1) := by decide +kernel
theorem dX1_parts_50 : decode cX1_parts 50 = .ok (.getfield 12, 3) := by decide +kernel
theorem dX1_parts_53 : decode cX1_parts 53 = .ok (.bipush 41, 2) := by decide +kernel
theorem dX1_parts_55 : decode cX1_parts 55 = .ok (.invokevirtual 46, 3) := by decide +kernel
theorem dX1_parts_58 : decode cX1_parts 58 = .ok (.ifCond .eq 5, 3) := by decide +kernel
theorem dX1_parts_61 : decode cX1_parts 61 = .ok (.iconst 1, 1) := by decide +kernel
theorem dX1_parts_62 : decode cX1_parts 62 = .ok (.ireturn, 1) := by decide +kernel
theorem dX1_parts_63 : decode cX1_parts 63 = .ok (.iload_n 3, 1) := by decide +kernel
theorem dX1_parts_64 : decode cX1_parts 64 = .ok (.getstatic 94, 3) := by decide +kernel
theorem dX1_parts_67 : decode cX1_parts 67 = .ok (.iload_n 1, 1) := by decide +kernel
theorem dX1_parts_68 : decode cX1_parts 68 = .ok (.iaload, 1) := by decide +kernel
theorem dX1_parts_69 : decode cX1_parts 69 = .ok (.if_icmp .eq 15, 3) := by decide +kernel
theorem dX1_parts_72 : decode cX1_parts 72 = .ok (.aload_n 0, 1) := by decide +kernel
theorem dX1_parts_73 : decode cX1_parts 73 = .ok (.getfield 12, 3) := by decide +kernel
theorem dX1_parts_76 : decode cX1_parts 76 = .ok (.bipush 44, 2) := by decide +kernel
theorem dX1_parts_78 : decode cX1_parts 78 = .ok (.invokevirtual 46, 3) := by decide +kernel
theorem dX1_parts_81 : decode cX1_parts 81 = .ok (.ifCond .ne 5, 3) := by decide +kernel
theorem dX1_parts_84 : decode cX1_parts 84 = .ok (.iconst 0, 1) := by decide +kernel
theorem dX1_parts_85 : decode cX1_parts 85 = .ok (.ireturn, 1) := by decide +kernel
theorem dX1_parts_86 : decode cX1_parts 86 = .ok (.iinc 3 1, 3) := by decide +kernel
theorem dX1_parts_89 : decode cX1_parts 89 = .ok (.goto (-87), 3) := by decide +kernel
theorem dX1_parts_92 : decode cX1_parts 92 = .ok (.iconst 0, 1) := by decide +kernel
theorem dX1_parts_93 : decode cX1_parts 93 = .ok (.ireturn, 1) := by decide +kernel
theorem dX1_isAtArea_0 : decode cX1_isAtArea 0 = .ok (.aload_n 0, 1) := by decide +kernel
theorem dX1_isAtArea_1 : decode cX1_isAtArea 1 = .ok (.getfield 12, 3) := by decide +kernel
theorem dX1_isAtArea_4 : decode cX1_isAtArea 4 = .ok (.invokevirtual 62, 3) := by decide +kernel
theorem dX1_isAtArea_7 : decode cX1_isAtArea 7 = .ok (.ifCond .eq 20, 3) := by decide +kernel
theorem dX1_isAtArea_10 : decode cX1_isAtArea 10 = .ok (.aload_n 0, 1) := by decide +kernel
theorem dX1_isAtArea_11 : decode cX1_isAtArea 11 = .ok (.getfield 12, 3) := by decide +kernel
theorem dX1_isAtArea_14 : decode cX1_isAtArea 14 = .ok (.iconst 2, 1) := by decide +kernel
theorem dX1_isAtArea_15 : decode cX1_isAtArea 15 = .ok (.invokevirtual 52, 3) := by decide +kernel
theorem dX1_isAtArea_18 : decode cX1_isAtArea 18 = .ok (.bipush 58, 2) := by decide +kernel
theorem dX1_isAtArea_20 : decode cX1_isAtArea 20 = .ok (.if_icmp .ne 7, 3) := by decide +kernel
theorem dX1_isAtArea_23 : decode cX1_isAtArea 23 = .ok (.iconst 1, 1) := by decide +kernel
theorem dX1_isAtArea_24 : decode cX1_isAtArea 24 = .ok (.goto 4, 3) := by decide +kernel
theorem dX1_isAtArea_27 : decode cX1_isAtArea 27 = .ok (.iconst 0, 1) := by decide +kernel
theorem dX1_isAtArea_28 : decode cX1_isAtArea 28 = .ok (.istore_n 2, 1) := by decide +kernel
theorem dX1_isAtArea_29 : decode cX1_isAtArea 29 = .ok (.iload_n 1, 1) := by decide +kernel
theorem dX1_isAtArea_30 : decode cX1_isAtArea 30 = .ok (.bipush 8, 2) := by decide +kernel
theorem dX1_isAtArea_32 : decode cX1_isAtArea 32 = .ok (.if_icmp .eq 12, 3) := by decide +kernel
theorem dX1_isAtArea_35 : decode cX1_isAtArea 35 = .ok (.iload_n 1, 1) := by decide +kernel
theorem dX1_isAtArea_36 : decode cX1_isAtArea 36 = .ok (.iconst 5, 1) := by decide +kernel
theorem dX1_isAtArea_37 : decode cX1_isAtArea 37 = .ok (.if_icmp .lt 11, 3) := by decide +kernel
theorem dX1_isAtArea_40 : decode cX1_isAtArea 40 = .ok (.iload_n 2, 1) := by decide +kernel
theorem dX1_isAtArea_41 : decode cX1_isAtArea 41 = .ok (.ifCond .eq 7, 3) := by decide +kernel
theorem dX1_isAtArea_44 : decode cX1_isAtArea 44 = .ok (.iconst 1, 1) := by decide +kernel
theorem dX1_isAtArea_45 : decode cX1_isAtArea 45 = .ok (.goto 4, 3) := by decide +kernel
theorem dX1_isAtArea_48 : decode cX1_isAtArea 48 = .ok (.iconst 0, 1) := by decide +kernel
theorem dX1_isAtArea_49 : decode cX1_isAtArea 49 = .ok (.ireturn, 1) := by decide +kernel
theorem dX1_area_0 : decode cX1_area 0 = .ok (.aload_n 0, 1) := by decide +kernel
theorem dX1_area_1 : decode cX1_area 1 = .ok (.getfield 12, 3) := by decide +kernel
theorem dX1_area_4 : decode cX1_area 4 = .ok (.iconst 0, 1) := by decide +kernel
theorem dX1_area_5 : decode cX1_area 5 = .ok (.invokevirtual 52, 3) := by decide +kernel
theorem dX1_area_8 : decode cX1_area 8 = .ok (.istore_n 1, 1) := by decide +kernel
theorem dX1_area_9 : decode cX1_area 9 = .ok (.aload_n 0, 1) := by decide +kernel
theorem dX1_area_10 : decode cX1_area 10 = .ok (.getfield 12, 3) := by decide +kernel
theorem dX1_area_13 : decode cX1_area 13 = .ok (.iconst 1, 1) := by decide +kernel
theorem dX1_area_14 : decode cX1_area 14 = .ok (.invokevirtual 52, 3) := by decide +kernel
theorem dX1_area_17 : decode cX1_area 17 = .ok (.istore_n 2, 1) := by decide +kernel
theorem dX1_area_18 : decode cX1_area 18 = .ok (.aload_n 0, 1) := by decide +kernel
theorem dX1_area_19 : decode cX1_area 19 = .ok (.bipush 97, 2) := by decide +kernel
theorem dX1_area_21 : decode cX1_area 21 = .ok (.bipush 49, 2) := by decide +kernel
theorem dX1_area_23 : decode cX1_area 23 = .ok (.invokevirtual 106, 3) := by decide +kernel
theorem dX1_area_26 : decode cX1_area 26 = .ok (.ifCond .ne 5, 3) := by decide +kernel
theorem dX1_area_29 : decode cX1_area 29 = .ok (.iconst 0, 1) := by decide +kernel
theorem dX1_area_30 : decode cX1_area 30 = .ok (.ireturn, 1) := by decide +kernel
theorem dX1_area_31 : decode cX1_area 31 = .ok (.aload_n 0, 1) := by decide +kernel
theorem dX1_area_32 : decode cX1_area 32 = .ok (.getfield 12, 3) := by decide +kernel
theorem dX1_area_35 : decode cX1_area 35 = .ok (.bipush 58, 2) := by decide +kernel
theorem dX1_area_37 : decode cX1_area 37 = .ok (.invokevirtual 46, 3) := by decide +kernel
theorem dX1_area_40 : decode cX1_area 40 = .ok (.ifCond .eq 12, 3) := by decide +kernel
theorem dX1_area_43 : decode cX1_area 43 = .ok (.aload_n 0, 1) := by decide +kernel
theorem dX1_area_44 : decode cX1_area 44 = .ok (.iload_n 1, 1) := by decide +kernel
theorem dX1_area_45 : decode cX1_area 45 = .ok (.iload_n 2, 1) := by decide +kernel
theorem dX1_area_46 : decode cX1_area 46 = .ok (.invokevirtual 106, 3) := by decide +kernel
theorem dX1_area_49 : decode cX1_area 49 = .ok (.ifCond .eq 7, 3) := by decide +kernel
theorem dX1_area_52 : decode cX1_area 52 = .ok (.iconst 1, 1) := by decide +kernel
theorem dX1_area_53 : decode cX1_area 53 = .ok (.goto 4, 3) := by decide +kernel
theorem dX1_area_56 : decode cX1_area 56 = .ok (.iconst 0, 1) := by decide +kernel
theorem dX1_area_57 : decode cX1_area 57 = .ok (.ireturn, 1) := by decide +kernel
theorem dX1_passCell_0 : decode cX1_passCell 0 = .ok (.aload_n 0, 1) := by decide +kernel
theorem dX1_passCell_1 : decode cX1_passCell 1 = .ok (.getfield 12, 3) := by decide +kernel
theorem dX1_passCell_4 : decode cX1_passCell 4 = .ok (.iconst 0, 1) := by decide +kernel
theorem dX1_passCell_5 : decode cX1_passCell 5 = .ok (.invokevirtual 52, 3) := by decide +kernel
theorem dX1_passCell_8 : decode cX1_passCell 8 = .ok (.iload_n 1, 1) := by decide +kernel
theorem dX1_passCell_9 : decode cX1_passCell 9 = .ok (.if_icmp .lt 17, 3) := by decide +kernel
theorem dX1_passCell_12 : decode cX1_passCell 12 = .ok (.aload_n 0, 1) := by decide +kernel
theorem dX1_passCell_13 : decode cX1_passCell 13 = .ok (.getfield 12, 3) := by decide +kernel
theorem dX1_passCell_16 : decode cX1_passCell 16 = .ok (.iconst 0, 1) := by decide +kernel
theorem dX1_passCell_17 : decode cX1_passCell 17 = .ok (.invokevirtual 52, 3) := by decide +kernel
theorem dX1_passCell_20 : decode cX1_passCell 20 = .ok (.invokestatic 68, 3) := by decide +kernel
theorem dX1_passCell_23 : decode cX1_passCell 23 = .ok (.ifCond .ne 5, 3) := by decide +kernel
theorem dX1_passCell_26 : decode cX1_passCell 26 = .ok (.iconst 0, 1) := by decide +kernel
theorem dX1_passCell_27 : decode cX1_passCell 27 = .ok (.ireturn, 1) := by decide +kernel
theorem dX1_passCell_28 : decode cX1_passCell 28 = .ok (.aload_n 0, 1) := by decide +kernel
theorem dX1_passCell_29 : decode cX1_passCell 29 = .ok (.getfield 12, 3) := by decide +kernel
theorem dX1_passCell_32 : decode cX1_passCell 32 = .ok (.dup, 1) := by decide +kernel
theorem dX1_passCell_33 : decode cX1_passCell 33 = .ok (.getfield 40, 3) := by decide +kernel
theorem dX1_passCell_36 : decode cX1_passCell 36 = .ok (.iconst 1, 1) := by decide +kernel
theorem dX1_passCell_37 : decode cX1_passCell 37 = .ok (.iadd, 1) := by decide +kernel
theorem dX1_passCell_38 : decode cX1_passCell 38 = .ok (.putfield 40, 3) := by decide +kernel
theorem dX1_passCell_41 : decode cX1_passCell 41 = .ok (.aload_n 0, 1) := by decide +kernel
theorem dX1_passCell_42 : decode cX1_passCell 42 = .ok (.getfield 12, 3) := by decide +kernel
theorem dX1_passCell_45 : decode cX1_passCell 45 = .ok (.iconst 0, 1) := by decide +kernel
theorem dX1_passCell_46 : decode cX1_passCell 46 = .ok (.invokevirtual 52, 3) := by decide +kernel
theorem dX1_passCell_49 : decode cX1_passCell 49 = .ok (.iload_n 2, 1) := by decide +kernel
theorem dX1_passCell_50 : decode cX1_passCell 50 = .ok (.if_icmp .lt 17, 3) := by decide +kernel
theorem dX1_passCell_53 : decode cX1_passCell 53 = .ok (.aload_n 0, 1) := by decide +kernel
theorem dX1_passCell_54 : decode cX1_passCell 54 = .ok (.getfield 12, 3) := by decide +kernel
theorem dX1_passCell_57 : decode cX1_passCell 57 = .ok (.iconst 0, 1) := by decide +kernel
theorem dX1_passCell_58 : decode cX1_passCell 58 = .ok (.invokevirtual 52, 3) := by decide +kernel
theorem dX1_passCell_61 : decode cX1_passCell 61 = .ok (.invokestatic 109, 3) := by decide +kernel
theorem dX1_passCell_64 : decode cX1_passCell 64 = .ok (.ifCond .ne 5, 3) := by decide +kernel
theorem dX1_passCell_67 : decode cX1_passCell 67 = .ok (.iconst 0, 1) := by decide +kernel
theorem dX1_passCell_68 : decode cX1_passCell 68 = .ok (.ireturn, 1) := by decide +kernel
theorem dX1_passCell_69 : decode cX1_passCell 69 = .ok (.aload_n 0, 1) := by decide +kernel
theorem dX1_passCell_70 : decode cX1_passCell 70 = .ok (.getfield 12, 3) := by decide +kernel
theorem dX1_passCell_73 : decode cX1_passCell 73 = .ok (.dup, 1) := by decide +kernel
theorem dX1_passCell_74 : decode cX1_passCell 74 = .ok (.getfield 40, 3) := by decide +kernel
theorem dX1_passCell_77 : decode cX1_passCell 77 = .ok (.iconst 1, 1) := by decide +kernel
theorem dX1_passCell_78 : decode cX1_passCell 78 = .ok (.iadd, 1) := by decide +kernel
theorem dX1_passCell_79 : decode cX1_passCell 79 = .ok (.putfield 40, 3) := by decide +kernel
theorem dX1_passCell_82 : decode cX1_passCell 82 = .ok (.iconst 1, 1) := by decide +kernel
theorem dX1_passCell_83 : decode cX1_passCell 83 = .ok (.ireturn, 1) := by decide +kernel
theorem dX2_init_0 : decode cX2_init 0 = .ok (.aload_n 0, 1) := by decide +kernel
theorem dX2_init_1 : decode cX2_init 1 = .ok (.invokespecial 1, 3) := by decide +kernel
theorem dX2_init_4 : decode cX2_init 4 = .ok (.aload_n 0, 1) := by decide +kernel
theorem dX2_init_5 : decode cX2_init 5 = .ok (.iconst 0, 1) := by decide +kernel
theorem dX2_init_6 : decode cX2_init 6 = .ok (.newarray .int, 2) := by decide +kernel
theorem dX2_init_8 : decode cX2_init 8 = .ok (.putfield 7, 3) := by decide +kernel
theorem dX2_init_11 : decode cX2_init 11 = .ok (.return_, 1) := by decide +kernel
theorem dX2_enter_0 : decode cX2_enter 0 = .ok (.aload_n 0, 1) := by decide +kernel
theorem dX2_enter_1 : decode cX2_enter 1 = .ok (.aload_n 1, 1) := by decide +kernel
theorem dX2_enter_2 : decode cX2_enter 2 = .ok (.putfield 7, 3) := by decide +kernel
theorem dX2_enter_5 : decode cX2_enter 5 = .ok (.aload_n 0, 1) := by decide +kernel
theorem dX2_enter_6 : decode cX2_enter 6 = .ok (.iload_n 2, 1) := by decide +kernel
theorem dX2_enter_7 : decode cX2_enter 7 = .ok (.putfield 13, 3) := by decide +kernel
theorem dX2_enter_10 : decode cX2_enter 10 = .ok (.aload_n 0, 1) := by decide +kernel
theorem dX2_enter_11 : decode cX2_enter 11 = .ok (.iload_n 3, 1) := by decide +kernel
theorem dX2_enter_12 : decode cX2_enter 12 = .ok (.putfield 17, 3) := by decide +kernel
theorem dX2_enter_15 : decode cX2_enter 15 = .ok (.aload_n 0, 1) := by decide +kernel
theorem dX2_enter_16 : decode cX2_enter 16 = .ok (.iconst 0, 1) := by decide +kernel
theorem dX2_enter_17 : decode cX2_enter 17 = .ok (.putfield 20, 3) := by decide +kernel
theorem dX2_enter_20 : decode cX2_enter 20 = .ok (.return_, 1) := by decide +kernel
theorem dX2_look_0 : decode cX2_look 0 = .ok (.aload_n 0, 1) := by decide +kernel
theorem dX2_look_1 : decode cX2_look 1 = .ok (.getfield 20, 3) := by decide +kernel
theorem dX2_look_4 : decode cX2_look 4 = .ok (.iload_n 1, 1) := by decide +kernel
theorem dX2_look_5 : decode cX2_look 5 = .ok (.iadd, 1) := by decide +kernel
theorem dX2_look_6 : decode cX2_look 6 = .ok (.istore_n 2, 1) := by decide +kernel
theorem dX2_look_7 : decode cX2_look 7 = .ok (.iload_n 2, 1) := by decide +kernel
theorem dX2_look_8 : decode cX2_look 8 = .ok (.ifCond .lt 25, 3) := by decide +kernel
theorem dX2_look_11 : decode cX2_look 11 = .ok (.iload_n 2, 1) := by decide +kernel
theorem dX2_look_12 : decode cX2_look 12 = .ok (.aload_n 0, 1) := by decide +kernel
theorem dX2_look_13 : decode cX2_look 13 = .ok (.getfield 17, 3) := by decide +kernel
theorem dX2_look_16 : decode cX2_look 16 = .ok (.if_icmp .ge 17, 3) := by decide +kernel
theorem dX2_look_19 : decode cX2_look 19 = .ok (.aload_n 0, 1) := by decide +kernel
theorem dX2_look_20 : decode cX2_look 20 = .ok (.getfield 7, 3) := by decide +kernel
theorem dX2_look_23 : decode cX2_look 23 = .ok (.aload_n 0, 1) := by decide +kernel
theorem dX2_look_24 : decode cX2_look 24 = .ok (.getfield 13, 3) := by decide +kernel
theorem dX2_look_27 : decode cX2_look 27 = .ok (.iload_n 2, 1) := by decide +kernel
theorem dX2_look_28 : decode cX2_look 28 = .ok (.iadd, 1) := by decide +kernel
theorem dX2_look_29 : decode cX2_look 29 = .ok (.iaload, 1) := by decide +kernel
theorem dX2_look_30 : decode cX2_look 30 = .ok (.goto 4, 3) := by decide +kernel
theorem dX2_look_33 : decode cX2_look 33 = .ok (.iconst 0, 1) := by decide +kernel
theorem dX2_look_34 : decode cX2_look 34 = .ok (.ireturn, 1) := by decide +kernel
theorem dX2_isAtEnd_0 : decode cX2_isAtEnd 0 = .ok (.aload_n 0, 1) := by decide +kernel
theorem dX2_isAtEnd_1 : decode cX2_isAtEnd 1 = .ok (.getfield 20, 3) := by decide +kernel
theorem dX2_isAtEnd_4 : decode cX2_isAtEnd 4 = .ok (.aload_n 0, 1) := by decide +kernel
theorem dX2_isAtEnd_5 : decode cX2_isAtEnd 5 = .ok (.getfield 17, 3) := by decide +kernel
theorem dX2_isAtEnd_8 : decode cX2_isAtEnd 8 = .ok (.if_icmp .lt 7, 3) := by decide +kernel
theorem dX2_isAtEnd_11 : decode cX2_isAtEnd 11 = .ok (.iconst 1, 1) := by decide +kernel
theorem dX2_isAtEnd_12 : decode cX2_isAtEnd 12 = .ok (.goto 4, 3) := by decide +kernel
theorem dX2_isAtEnd_15 : decode cX2_isAtEnd 15 = .ok (.iconst 0, 1) := by decide +kernel
theorem dX2_isAtEnd_16 : decode cX2_isAtEnd 16 = .ok (.ireturn, 1) := by decide +kernel
theorem dX2_pass_0 : decode cX2_pass 0 = .ok (.aload_n 0, 1) := by decide +kernel
theorem dX2_pass_1 : decode cX2_pass 1 = .ok (.iconst 0, 1) := by decide +kernel
theorem dX2_pass_2 : decode cX2_pass 2 = .ok (.invokevirtual 23, 3) := by decide +kernel
theorem dX2_pass_5 : decode cX2_pass 5 = .ok (.iload_n 1, 1) := by decide +kernel
theorem dX2_pass_6 : decode cX2_pass 6 = .ok (.if_icmp .ne 7, 3) := by decide +kernel
theorem dX2_pass_9 : decode cX2_pass 9 = .ok (.iconst 1, 1) := by decide +kernel
theorem dX2_pass_10 : decode cX2_pass 10 = .ok (.goto 4, 3) := by decide +kernel
theorem dX2_pass_13 : decode cX2_pass 13 = .ok (.iconst 0, 1) := by decide +kernel
theorem dX2_pass_14 : decode cX2_pass 14 = .ok (.istore_n 2, 1) := by decide +kernel
theorem dX2_pass_15 : decode cX2_pass 15 = .ok (.iload_n 2, 1) := by decide +kernel
theorem dX2_pass_16 : decode cX2_pass 16 = .ok (.ifCond .eq 13, 3) := by decide +kernel
theorem dX2_pass_19 : decode cX2_pass 19 = .ok (.aload_n 0, 1) := by decide +kernel
theorem dX2_pass_20 : decode cX2_pass 20 = .ok (.dup, 1) := by decide +kernel
theorem dX2_pass_21 : decode cX2_pass 21 = .ok (.getfield 20, 3) := by decide +kernel
theorem dX2_pass_24 : decode cX2_pass 24 = .ok (.iconst 1, 1) := by decide +kernel
theorem dX2_pass_25 : decode cX2_pass 25 = .ok (.iadd, 1) := by decide +kernel
theorem dX2_pass_26 : decode cX2_pass 26 = .ok (.putfield 20, 3) := by decide +kernel
theorem dX2_pass_29 : decode cX2_pass 29 = .ok (.iload_n 2, 1) := by decide +kernel
theorem dX2_pass_30 : decode cX2_pass 30 = .ok (.ireturn, 1) := by decide +kernel
theorem dX2_isAtCell_0 : decode cX2_isAtCell 0 = .ok (.aload_n 0, 1) := by decide +kernel
theorem dX2_isAtCell_1 : decode cX2_isAtCell 1 = .ok (.iconst 0, 1) := by decide +kernel
theorem dX2_isAtCell_2 : decode cX2_isAtCell 2 = .ok (.invokevirtual 23, 3) := by decide +kernel
theorem dX2_isAtCell_5 : decode cX2_isAtCell 5 = .ok (.invokestatic 27, 3) := by decide +kernel
theorem dX2_isAtCell_8 : decode cX2_isAtCell 8 = .ok (.ifCond .eq 18, 3) := by decide +kernel
theorem dX2_isAtCell_11 : decode cX2_isAtCell 11 = .ok (.aload_n 0, 1) := by decide +kernel
theorem dX2_isAtCell_12 : decode cX2_isAtCell 12 = .ok (.iconst 1, 1) := by decide +kernel
theorem dX2_isAtCell_13 : decode cX2_isAtCell 13 = .ok (.invokevirtual 23, 3) := by decide +kernel
theorem dX2_isAtCell_16 : decode cX2_isAtCell 16 = .ok (.invokestatic 33, 3) := by decide +kernel
theorem dX2_isAtCell_19 : decode cX2_isAtCell 19 = .ok (.ifCond .eq 7, 3) := by decide +kernel
theorem dX2_isAtCell_22 : decode cX2_isAtCell 22 = .ok (.iconst 1, 1) := by decide +kernel
theorem dX2_isAtCell_23 : decode cX2_isAtCell 23 = .ok (.goto 4, 3) := by decide +kernel
theorem dX2_isAtCell_26 : decode cX2_isAtCell 26 = .ok (.iconst 0, 1) := by decide +kernel
theorem dX2_isAtCell_27 : decode cX2_isAtCell 27 = .ok (.ireturn, 1) := by decide +kernel
theorem dX2_matching_0 : decode cX2_matching 0 = .ok (.iconst 0, 1) := by decide +kernel
theorem dX2_matching_1 : decode cX2_matching 1 = .ok (.istore_n 2, 1) := by decide +kernel
theorem dX2_matching_2 : decode cX2_matching 2 = .ok (.iload_n 2, 1) := by decide +kernel
theorem dX2_matching_3 : decode cX2_matching 3 = .ok (.aload_n 1, 1) := by decide +kernel
theorem dX2_matching_4 : decode cX2_matching 4 = .ok (.invokevirtual 36, 3) := by decide +kernel
theorem dX2_matching_7 : decode cX2_matching 7 = .ok (.if_icmp .ge 24, 3) := by decide +kernel
theorem dX2_matching_10 : decode cX2_matching 10 = .ok (.aload_n 0, 1) := by decide +kernel
theorem dX2_matching_11 : decode cX2_matching 11 = .ok (.iload_n 2, 1) := by decide +kernel
theorem dX2_matching_12 : decode cX2_matching 12 = .ok (.invokevirtual 23, 3) := by decide +kernel
theorem dX2_matching_15 : decode cX2_matching 15 = .ok (.aload_n 1, 1) := by decide +kernel
theorem dX2_matching_16 : decode cX2_matching 16 = .ok (.iload_n 2, 1) := by decide +kernel
theorem dX2_matching_17 : decode cX2_matching 17 = .ok (.invokevirtual 41, 3) := by decide +kernel
theorem dX2_matching_20 : decode cX2_matching 20 = .ok (.if_icmp .eq 5, 3) := by decide +kernel
theorem dX2_matching_23 : decode cX2_matching 23 = .ok (.iload_n 2, 1) := by decide +kernel
theorem dX2_matching_24 : decode cX2_matching 24 = .ok (.ireturn, 1) := by decide +kernel
theorem dX2_matching_25 : decode cX2_matching 25 = .ok (.iinc 2 1, 3) := by decide +kernel
theorem dX2_matching_28 : decode cX2_matching 28 = .ok (.goto (-26), 3) := by decide +kernel
theorem dX2_matching_31 : decode cX2_matching 31 = .ok (.aload_n 1, 1) := by decide +kernel
theorem dX2_matching_32 : decode cX2_matching 32 = .ok (.invokevirtual 36, 3) := by decide +kernel
theorem dX2_matching_35 : decode cX2_matching 35 = .ok (.ireturn, 1) := by decide +kernel
theorem dX3_init_0 : decode cX3_init 0 = .ok (.aload_n 0, 1) := by decide +kernel
theorem dX3_init_1 : decode cX3_init 1 = .ok (.invokespecial 3, 3) := by decide +kernel
theorem dX3_init_4 : decode cX3_init 4 = .ok (.aload_n 0, 1) := by decide +kernel
theorem dX3_init_5 : decode cX3_init 5 = .ok (.new 9, 3) := by decide +kernel
theorem dX3_init_8 : decode cX3_init 8 = .ok (.dup, 1) := by decide +kernel
theorem dX3_init_9 : decode cX3_init 9 = .ok (.invokespecial 11, 3) := by decide +kernel
theorem dX3_init_12 : decode cX3_init 12 = .ok (.putfield 12, 3) := by decide +kernel
theorem dX3_init_15 : decode cX3_init 15 = .ok (.aload_n 0, 1) := by decide +kernel
theorem dX3_init_16 : decode cX3_init 16 = .ok (.bipush 72, 2) := by decide +kernel
theorem dX3_init_18 : decode cX3_init 18 = .ok (.newarray .int, 2) := by decide +kernel
theorem dX3_init_20 : decode cX3_init 20 = .ok (.putfield 18, 3) := by decide +kernel
theorem dX3_init_23 : decode cX3_init 23 = .ok (.aload_n 0, 1) := by decide +kernel
theorem dX3_init_24 : decode cX3_init 24 = .ok (.bipush 72, 2) := by decide +kernel
theorem dX3_init_26 : decode cX3_init 26 = .ok (.newarray .int, 2) := by decide +kernel
theorem dX3_init_28 : decode cX3_init 28 = .ok (.putfield 22, 3) := by decide +kernel
theorem dX3_init_31 : decode cX3_init 31 = .ok (.aload_n 0, 1) := by decide +kernel
theorem dX3_init_32 : decode cX3_init 32 = .ok (.aload_n 1, 1) := by decide +kernel
theorem dX3_init_33 : decode cX3_init 33 = .ok (.putfield 25, 3) := by decide +kernel
theorem dX3_init_36 : decode cX3_init 36 = .ok (.return_, 1) := by decide +kernel
theorem dX3_evaluate_0 : decode cX3_evaluate 0 = .ok (.aload_n 0, 1) := by decide +kernel
theorem dX3_evaluate_1 : decode cX3_evaluate 1 = .ok (.aload_n 1, 1) := by decide +kernel
theorem dX3_evaluate_2 : decode cX3_evaluate 2 = .ok (.putfield 25, 3) := by decide +kernel
theorem dX3_evaluate_5 : decode cX3_evaluate 5 = .ok (.aload_n 0, 1) := by decide +kernel
theorem dX3_evaluate_6 : decode cX3_evaluate 6 = .ok (.iload_n 2, 1) := by decide +kernel
theorem dX3_evaluate_7 : decode cX3_evaluate 7 = .ok (.putfield 29, 3) := by decide +kernel
theorem dX3_evaluate_10 : decode cX3_evaluate 10 = .ok (.aload_n 0, 1) := by decide +kernel
theorem dX3_evaluate_11 : decode cX3_evaluate 11 = .ok (.iconst 0, 1) := by decide +kernel
theorem dX3_evaluate_12 : decode cX3_evaluate 12 = .ok (.putfield 33, 3) := by decide +kernel
theorem dX3_evaluate_15 : decode cX3_evaluate 15 = .ok (.aload_n 0, 1) := by decide +kernel
theorem dX3_evaluate_16 : decode cX3_evaluate 16 = .ok (.iconst (-1), 1) := by decide +kernel
theorem dX3_evaluate_17 : decode cX3_evaluate 17 = .ok (.putfield 36, 3) := by decide +kernel
theorem dX3_evaluate_20 : decode cX3_evaluate 20 = .ok (.aload_n 0, 1) := by decide +kernel
theorem dX3_evaluate_21 : decode cX3_evaluate 21 = .ok (.dup, 1) := by decide +kernel
theorem dX3_evaluate_22 : decode cX3_evaluate 22 = .ok (.getfield 39, 3) := by decide +kernel
theorem dX3_evaluate_25 : decode cX3_evaluate 25 = .ok (.iconst 1, 1) := by decide +kernel
theorem dX3_evaluate_26 : decode cX3_evaluate 26 = .ok (.iadd, 1) := by decide +kernel
theorem dX3_evaluate_27 : decode cX3_evaluate 27 = .ok (.putfield 39, 3) := by decide +kernel
theorem dX3_evaluate_30 : decode cX3_evaluate 30 = .ok (.aload_n 1, 1) := by decide +kernel
theorem dX3_evaluate_31 : decode cX3_evaluate 31 = .ok (.getfield 42, 3) := by decide +kernel
theorem dX3_evaluate_34 : decode cX3_evaluate 34 = .ok (.iload_n 2, 1) := by decide +kernel
theorem dX3_evaluate_35 : decode cX3_evaluate 35 = .ok (.iconst 0, 1) := by decide +kernel
theorem dX3_evaluate_36 : decode cX3_evaluate 36 = .ok (.iastore, 1) := by decide +kernel
theorem dX3_evaluate_37 : decode cX3_evaluate 37 = .ok (.aload_n 0, 1) := by decide +kernel
theorem dX3_evaluate_38 : decode cX3_evaluate 38 = .ok (.getfield 12, 3) := by decide +kernel
theorem dX3_evaluate_41 : decode cX3_evaluate 41 = .ok (.aload_n 1, 1) := by decide +kernel
theorem dX3_evaluate_42 : decode cX3_evaluate 42 = .ok (.getfield 47, 3) := by decide +kernel
theorem dX3_evaluate_45 : decode cX3_evaluate 45 = .ok (.getfield 51, 3) := by decide +kernel
theorem dX3_evaluate_48 : decode cX3_evaluate 48 = .ok (.iload_n 2, 1) := by decide +kernel
theorem dX3_evaluate_49 : decode cX3_evaluate 49 = .ok (.bipush 30, 2) := by decide +kernel
theorem dX3_evaluate_51 : decode cX3_evaluate 51 = .ok (.imul, 1) := by decide +kernel
theorem dX3_evaluate_52 : decode cX3_evaluate 52 = .ok (.aload_n 1, 1) := by decide +kernel
theorem dX3_evaluate_53 : decode cX3_evaluate 53 = .ok (.getfield 47, 3) := by decide +kernel
theorem dX3_evaluate_56 : decode cX3_evaluate 56 = .ok (.getfield 56, 3) := by decide +kernel
theorem dX3_evaluate_59 : decode cX3_evaluate 59 = .ok (.iload_n 2, 1) := by decide +kernel
theorem dX3_evaluate_60 : decode cX3_evaluate 60 = .ok (.iaload, 1) := by decide +kernel
theorem dX3_evaluate_61 : decode cX3_evaluate 61 = .ok (.invokevirtual 59, 3) := by decide +kernel
theorem dX3_evaluate_64 : decode cX3_evaluate 64 = .ok (.aload_n 0, 1) := by decide +kernel
theorem dX3_evaluate_65 : decode cX3_evaluate 65 = .ok (.iconst 0, 1) := by decide +kernel
theorem dX3_evaluate_66 : decode cX3_evaluate 66 = .ok (.invokevirtual 63, 3) := by decide +kernel
theorem dX3_evaluate_69 : decode cX3_evaluate 69 = .ok (.lstore_n 3, 1) := by decide +kernel
theorem dX3_evaluate_70 : decode cX3_evaluate 70 = .ok (.aload_n 0, 1) := by decide +kernel
theorem dX3_evaluate_71 : decode cX3_evaluate 71 = .ok (.getfield 33, 3) := by decide +kernel
theorem dX3_evaluate_74 : decode cX3_evaluate 74 = .ok (.ifCond .ne 8, 3) := by decide +kernel
theorem dX3_evaluate_77 : decode cX3_evaluate 77 = .ok (.lload_n 3, 1) := by decide +kernel
theorem dX3_evaluate_78 : decode cX3_evaluate 78 = .ok (.l2i, 1) := by decide +kernel
theorem dX3_evaluate_79 : decode cX3_evaluate 79 = .ok (.goto 4, 3) := by decide +kernel
theorem dX3_evaluate_82 : decode cX3_evaluate 82 = .ok (.iconst 0, 1) := by decide +kernel
theorem dX3_evaluate_83 : decode cX3_evaluate 83 = .ok (.ireturn, 1) := by decide +kernel
theorem dX3_formula_0 : decode cX3_formula 0 = .ok (.aload_n 0, 1) := by decide +kernel
theorem dX3_formula_1 : decode cX3_formula 1 = .ok (.iload_n 1, 1) := by decide +kernel
theorem dX3_formula_2 : decode cX3_formula 2 = .ok (.invokevirtual 67, 3) := by decide +kernel
theorem dX3_formula_5 : decode cX3_formula 5 = .ok (.lstore_n 2, 1) := by decide +kernel
theorem dX3_formula_6 : decode cX3_formula 6 = .ok (.iconst 0, 1) := by decide +kernel
theorem dX3_formula_7 : decode cX3_formula 7 = .ok (.istore 4, 2) := by decide +kernel
theorem dX3_formula_9 : decode cX3_formula 9 = .ok (.iload 4, 2) := by decide +kernel
theorem dX3_formula_11 : decode cX3_formula 11 = .ok (.bipush 30, 2) := by decide +kernel
theorem dX3_formula_13 : decode cX3_formula 13 = .ok (.if_icmp .ge 72, 3) := by decide +kernel
theorem dX3_formula_16 : decode cX3_formula 16 = .ok (.aload_n 0, 1) := by decide +kernel
theorem dX3_formula_17 : decode cX3_formula 17 = .ok (.getfield 33, 3) := by decide +kernel
theorem dX3_formula_20 : decode cX3_formula 20 = .ok (.ifCond .ne 65, 3) := by decide +kernel
theorem dX3_formula_23 : decode cX3_formula 23 = .ok (.aload_n 0, 1) := by decide +kernel
theorem dX3_formula_24 : decode cX3_formula 24 = .ok (.getfield 12, 3) := by decide +kernel
theorem dX3_formula_27 : decode cX3_formula 27 = .ok (.bipush 43, 2) := by decide +kernel
theorem dX3_formula_29 : decode cX3_formula 29 = .ok (.invokevirtual 70, 3) := by decide +kernel
theorem dX3_formula_32 : decode cX3_formula 32 = .ok (.ifCond .eq 18, 3) := by decide +kernel
theorem dX3_formula_35 : decode cX3_formula 35 = .ok (.aload_n 0, 1) := by decide +kernel
theorem dX3_formula_36 : decode cX3_formula 36 = .ok (.lload_n 2, 1) := by decide +kernel
theorem dX3_formula_37 : decode cX3_formula 37 = .ok (.aload_n 0, 1) := by decide +kernel
theorem dX3_formula_38 : decode cX3_formula 38 = .ok (.iload_n 1, 1) := by decide +kernel
theorem dX3_formula_39 : decode cX3_formula 39 = .ok (.invokevirtual 67, 3) := by decide +kernel
theorem dX3_formula_42 : decode cX3_formula 42 = .ok (.ladd, 1) := by decide +kernel
theorem dX3_formula_43 : decode cX3_formula 43 = .ok (.invokevirtual 74, 3) := by decide +kernel
theorem dX3_formula_46 : decode cX3_formula 46 = .ok (.lstore_n 2, 1) := by decide +kernel
theorem dX3_formula_47 : decode cX3_formula 47 = .ok (.goto 32, 3) := by decide +kernel
theorem dX3_formula_50 : decode cX3_formula 50 = .ok (.aload_n 0, 1) := by decide +kernel
theorem dX3_formula_51 : decode cX3_formula 51 = .ok (.getfield 12, 3) := by decide +kernel
theorem dX3_formula_54 : decode cX3_formula 54 = .ok (.bipush 45, 2) := by decide +kernel
theorem dX3_formula_56 : decode cX3_formula 56 = .ok (.invokevirtual 70, 3) := by decide +kernel
theorem dX3_formula_59 : decode cX3_formula 59 = .ok (.ifCond .eq 18, 3) := by decide +kernel
theorem dX3_formula_62 : decode cX3_formula 62 = .ok (.aload_n 0, 1) := by decide +kernel
theorem dX3_formula_63 : decode cX3_formula 63 = .ok (.lload_n 2, 1) := by decide +kernel
theorem dX3_formula_64 : decode cX3_formula 64 = .ok (.aload_n 0, 1) := by decide +kernel
theorem dX3_formula_65 : decode cX3_formula 65 = .ok (.iload_n 1, 1) := by decide +kernel
theorem dX3_formula_66 : decode cX3_formula 66 = .ok (.invokevirtual 67, 3) := by decide +kernel
theorem dX3_formula_69 : decode cX3_formula 69 = .ok (.lsub, 1) := by decide +kernel
theorem dX3_formula_70 : decode cX3_formula 70 = .ok (.invokevirtual 74, 3) := by decide +kernel
theorem dX3_formula_73 : decode cX3_formula 73 = .ok (.lstore_n 2, 1) := by decide +kernel
theorem dX3_formula_74 : decode cX3_formula 74 = .ok (.goto 5, 3) := by decide +kernel
theorem dX3_formula_77 : decode cX3_formula 77 = .ok (.lload_n 2, 1) := by decide +kernel
theorem dX3_formula_78 : decode cX3_formula 78 = .ok (.lreturn, 1) := by decide +kernel
theorem dX3_formula_79 : decode cX3_formula 79 = .ok (.iinc 4 1, 3) := by decide +kernel
theorem dX3_formula_82 : decode cX3_formula 82 = .ok (.goto (-73), 3) := by decide +kernel
theorem dX3_formula_85 : decode cX3_formula 85 = .ok (.lload_n 2, 1) := by decide +kernel
theorem dX3_formula_86 : decode cX3_formula 86 = .ok (.lreturn, 1) := by decide +kernel
theorem dX3_product_0 : decode cX3_product 0 = .ok (.aload_n 0, 1) := by decide +kernel
theorem dX3_product_1 : decode cX3_product 1 = .ok (.iload_n 1, 1) := by decide +kernel
theorem dX3_product_2 : decode cX3_product 2 = .ok (.invokevirtual 78, 3) := by decide +kernel
theorem dX3_product_5 : decode cX3_product 5 = .ok (.lstore_n 2, 1) := by decide +kernel
theorem dX3_product_6 : decode cX3_product 6 = .ok (.iconst 0, 1) := by decide +kernel
theorem dX3_product_7 : decode cX3_product 7 = .ok (.istore 4, 2) := by decide +kernel
theorem dX3_product_9 : decode cX3_product 9 = .ok (.iload 4, 2) := by decide +kernel
theorem dX3_product_11 : decode cX3_product 11 = .ok (.bipush 30, 2) := by decide +kernel
theorem dX3_product_13 : decode cX3_product 13 = .ok (.if_icmp .ge 42, 3) := by decide +kernel
theorem dX3_product_16 : decode cX3_product 16 = .ok (.aload_n 0, 1) := by decide +kernel
theorem dX3_product_17 : decode cX3_product 17 = .ok (.getfield 33, 3) := by decide +kernel
theorem dX3_product_20 : decode cX3_product 20 = .ok (.ifCond .ne 35, 3) := by decide +kernel
theorem dX3_product_23 : decode cX3_product 23 = .ok (.aload_n 0, 1) := by decide +kernel
theorem dX3_product_24 : decode cX3_product 24 = .ok (.getfield 12, 3) := by decide +kernel
theorem dX3_product_27 : decode cX3_product 27 = .ok (.bipush 42, 2) := by decide +kernel
theorem dX3_product_29 : decode cX3_product 29 = .ok (.invokevirtual 70, 3) := by decide +kernel
theorem dX3_product_32 : decode cX3_product 32 = .ok (.ifCond .ne 5, 3) := by decide +kernel
theorem dX3_product_35 : decode cX3_product 35 = .ok (.lload_n 2, 1) := by decide +kernel
theorem dX3_product_36 : decode cX3_product 36 = .ok (.lreturn, 1) := by decide +kernel
theorem dX3_product_37 : decode cX3_product 37 = .ok (.aload_n 0, 1) := by decide +kernel
theorem dX3_product_38 : decode cX3_product 38 = .ok (.lload_n 2, 1) := by decide +kernel
theorem dX3_product_39 : decode cX3_product 39 = .ok (.aload_n 0, 1) := by decide +kernel
theorem dX3_product_40 : decode cX3_product 40 = .ok (.iload_n 1, 1) := by decide +kernel
theorem dX3_product_41 : decode cX3_product 41 = .ok (.invokevirtual 78, 3) := by decide +kernel
theorem dX3_product_44 : decode cX3_product 44 = .ok (.lmul, 1) := by decide +kernel
theorem dX3_product_45 : decode cX3_product 45 = .ok (.invokevirtual 74, 3) := by decide +kernel
theorem dX3_product_48 : decode cX3_product 48 = .ok (.lstore_n 2, 1) := by decide +kernel
theorem dX3_product_49 : decode cX3_product 49 = .ok (.iinc 4 1, 3) := by decide +kernel
theorem dX3_product_52 : decode cX3_product 52 = .ok (.goto (-43), 3) := by decide +kernel
theorem dX3_product_55 : decode cX3_product 55 = .ok (.lload_n 2, 1) := by decide +kernel
theorem dX3_product_56 : decode cX3_product 56 = .ok (.lreturn, 1) := by decide +kernel
theorem dX3_bounded_0 : decode cX3_bounded 0 = .ok (.aload_n 0, 1) := by decide +kernel
theorem dX3_bounded_1 : decode cX3_bounded 1 = .ok (.getfield 33, 3) := by decide +kernel
theorem dX3_bounded_4 : decode cX3_bounded 4 = .ok (.ifCond .eq 5, 3) := by decide +kernel
theorem dX3_bounded_7 : decode cX3_bounded 7 = .ok (.lconst 0, 1) := by decide +kernel
theorem dX3_bounded_8 : decode cX3_bounded 8 = .ok (.lreturn, 1) := by decide +kernel
theorem dX3_bounded_9 : decode cX3_bounded 9 = .ok (.lload_n 1, 1) := by decide +kernel
theorem dX3_bounded_10 : decode cX3_bounded 10 = .ok (.ldc2_w 81, 3) := by decide +kernel
theorem dX3_bounded_13 : decode cX3_bounded 13 = .ok (.lcmp, 1) := by decide +kernel
theorem dX3_bounded_14 : decode cX3_bounded 14 = .ok (.ifCond .lt 11, 3) := by decide +kernel
theorem dX3_bounded_17 : decode cX3_bounded 17 = .ok (.lload_n 1, 1) := by decide +kernel
theorem dX3_bounded_18 : decode cX3_bounded 18 = .ok (.ldc2_w 83, 3) := by decide +kernel
theorem dX3_bounded_21 : decode cX3_bounded 21 = .ok (.lcmp, 1) := by decide +kernel
theorem dX3_bounded_22 : decode cX3_bounded 22 = .ok (.ifCond .le 10, 3) := by decide +kernel
theorem dX3_bounded_25 : decode cX3_bounded 25 = .ok (.aload_n 0, 1) := by decide +kernel
theorem dX3_bounded_26 : decode cX3_bounded 26 = .ok (.iconst 1, 1) := by decide +kernel
theorem dX3_bounded_27 : decode cX3_bounded 27 = .ok (.putfield 33, 3) := by decide +kernel
theorem dX3_bounded_30 : decode cX3_bounded 30 = .ok (.lconst 0, 1) := by decide +kernel
theorem dX3_bounded_31 : decode cX3_bounded 31 = .ok (.lreturn, 1) := by decide +kernel
theorem dX3_bounded_32 : decode cX3_bounded 32 = .ok (.lload_n 1, 1) := by decide +kernel
theorem dX3_bounded_33 : decode cX3_bounded 33 = .ok (.lreturn, 1) := by decide +kernel
theorem dX3_fail_0 : decode cX3_fail 0 = .ok (.aload_n 0, 1) := by decide +kernel
theorem dX3_fail_1 : decode cX3_fail 1 = .ok (.iload_n 1, 1) := by decide +kernel
theorem dX3_fail_2 : decode cX3_fail 2 = .ok (.putfield 33, 3) := by decide +kernel
theorem dX3_fail_5 : decode cX3_fail 5 = .ok (.lconst 0, 1) := by decide +kernel
theorem dX3_fail_6 : decode cX3_fail 6 = .ok (.lreturn, 1) := by decide +kernel
theorem dX3_factor_0 : decode cX3_factor 0 = .ok (.iload_n 1, 1) := by decide +kernel
theorem dX3_factor_1 : decode cX3_factor 1 = .ok (.bipush 40, 2) := by decide +kernel
theorem dX3_factor_3 : decode cX3_factor 3 = .ok (.if_icmp .le 9, 3) := by decide +kernel
theorem dX3_factor_6 : decode cX3_factor 6 = .ok (.aload_n 0, 1) := by decide +kernel
theorem dX3_factor_7 : decode cX3_factor 7 = .ok (.iconst 1, 1) := by decide +kernel
theorem dX3_factor_8 : decode cX3_factor 8 = .ok (.invokevirtual 85, 3) := by decide +kernel
theorem dX3_factor_11 : decode cX3_factor 11 = .ok (.lreturn, 1) := by decide +kernel
theorem dX3_factor_12 : decode cX3_factor 12 = .ok (.aload_n 0, 1) := by decide +kernel
theorem dX3_factor_13 : decode cX3_factor 13 = .ok (.getfield 12, 3) := by decide +kernel
theorem dX3_factor_16 : decode cX3_factor 16 = .ok (.bipush 45, 2) := by decide +kernel
theorem dX3_factor_18 : decode cX3_factor 18 = .ok (.invokevirtual 70, 3) := by decide +kernel
theorem dX3_factor_21 : decode cX3_factor 21 = .ok (.ifCond .eq 12, 3) := by decide +kernel
theorem dX3_factor_24 : decode cX3_factor 24 = .ok (.aload_n 0, 1) := by decide +kernel
theorem dX3_factor_25 : decode cX3_factor 25 = .ok (.iload_n 1, 1) := by decide +kernel
theorem dX3_factor_26 : decode cX3_factor 26 = .ok (.iconst 1, 1) := by decide +kernel
theorem dX3_factor_27 : decode cX3_factor 27 = .ok (.iadd, 1) := by decide +kernel
theorem dX3_factor_28 : decode cX3_factor 28 = .ok (.invokevirtual 78, 3) := by decide +kernel
theorem dX3_factor_31 : decode cX3_factor 31 = .ok (.lneg, 1) := by decide +kernel
theorem dX3_factor_32 : decode cX3_factor 32 = .ok (.lreturn, 1) := by decide +kernel
theorem dX3_factor_33 : decode cX3_factor 33 = .ok (.aload_n 0, 1) := by decide +kernel
theorem dX3_factor_34 : decode cX3_factor 34 = .ok (.getfield 12, 3) := by decide +kernel
theorem dX3_factor_37 : decode cX3_factor 37 = .ok (.bipush 40, 2) := by decide +kernel
theorem dX3_factor_39 : decode cX3_factor 39 = .ok (.invokevirtual 70, 3) := by decide +kernel
theorem dX3_factor_42 : decode cX3_factor 42 = .ok (.ifCond .eq 26, 3) := by decide +kernel
theorem dX3_factor_45 : decode cX3_factor 45 = .ok (.aload_n 0, 1) := by decide +kernel
theorem dX3_factor_46 : decode cX3_factor 46 = .ok (.iload_n 1, 1) := by decide +kernel
theorem dX3_factor_47 : decode cX3_factor 47 = .ok (.iconst 1, 1) := by decide +kernel
theorem dX3_factor_48 : decode cX3_factor 48 = .ok (.iadd, 1) := by decide +kernel
theorem dX3_factor_49 : decode cX3_factor 49 = .ok (.invokevirtual 63, 3) := by decide +kernel
theorem dX3_factor_52 : decode cX3_factor 52 = .ok (.lstore_n 2, 1) := by decide +kernel
theorem dX3_factor_53 : decode cX3_factor 53 = .ok (.aload_n 0, 1) := by decide +kernel
theorem dX3_factor_54 : decode cX3_factor 54 = .ok (.getfield 12, 3) := by decide +kernel
theorem dX3_factor_57 : decode cX3_factor 57 = .ok (.dup, 1) := by decide +kernel
theorem dX3_factor_58 : decode cX3_factor 58 = .ok (.getfield 88, 3) := by decide +kernel
theorem dX3_factor_61 : decode cX3_factor 61 = .ok (.iconst 1, 1) := by decide +kernel
theorem dX3_factor_62 : decode cX3_factor 62 = .ok (.iadd, 1) := by decide +kernel
theorem dX3_factor_63 : decode cX3_factor 63 = .ok (.putfield 88, 3) := by decide +kernel
theorem dX3_factor_66 : decode cX3_factor 66 = .ok (.lload_n 2, 1) := by decide +kernel
theorem dX3_factor_67 : decode cX3_factor 67 = .ok (.lreturn, 1) := by decide +kernel
theorem dX3_factor_68 : decode cX3_factor 68 = .ok (.aload_n 0, 1) := by decide +kernel
theorem dX3_factor_69 : decode cX3_factor 69 = .ok (.getfield 12, 3) := by decide +kernel
theorem dX3_factor_72 : decode cX3_factor 72 = .ok (.iconst 0, 1) := by decide +kernel
theorem dX3_factor_73 : decode cX3_factor 73 = .ok (.invokevirtual 91, 3) := by decide +kernel
theorem dX3_factor_76 : decode cX3_factor 76 = .ok (.invokestatic 95, 3) := by decide +kernel
theorem dX3_factor_79 : decode cX3_factor 79 = .ok (.ifCond .eq 8, 3) := by decide +kernel
theorem dX3_factor_82 : decode cX3_factor 82 = .ok (.aload_n 0, 1) := by decide +kernel
theorem dX3_factor_83 : decode cX3_factor 83 = .ok (.invokevirtual 98, 3) := by decide +kernel
theorem dX3_factor_86 : decode cX3_factor 86 = .ok (.lreturn, 1) := by decide +kernel
theorem dX3_factor_87 : decode cX3_factor 87 = .ok (.aload_n 0, 1) := by decide +kernel
theorem dX3_factor_88 : decode cX3_factor 88 = .ok (.getfield 12, 3) := by decide +kernel
theorem dX3_factor_91 : decode cX3_factor 91 = .ok (.invokevirtual 102, 3) := by decide +kernel
theorem dX3_factor_94 : decode cX3_factor 94 = .ok (.ifCond .eq 12, 3) := by decide +kernel
theorem dX3_factor_97 : decode cX3_factor 97 = .ok (.aload_n 0, 1) := by decide +kernel
theorem dX3_factor_98 : decode cX3_factor 98 = .ok (.aload_n 0, 1) := by decide +kernel
theorem dX3_factor_99 : decode cX3_factor 99 = .ok (.invokevirtual 106, 3) := by decide +kernel
theorem dX3_factor_102 : decode cX3_factor 102 = .ok (.invokevirtual 110, 3) := by decide +kernel
theorem dX3_factor_105 : decode cX3_factor 105 = .ok (.lreturn, 1) := by decide +kernel
theorem dX3_factor_106 : decode cX3_factor 106 = .ok (.aload_n 0, 1) := by decide +kernel
theorem dX3_factor_107 : decode cX3_factor 107 = .ok (.iload_n 1, 1) := by decide +kernel
theorem dX3_factor_108 : decode cX3_factor 108 = .ok (.iconst 1, 1) := by decide +kernel
theorem dX3_factor_109 : decode cX3_factor 109 = .ok (.iadd, 1) := by decide +kernel
theorem dX3_factor_110 : decode cX3_factor 110 = .ok (.invokevirtual 113, 3) := by decide +kernel
theorem dX3_factor_113 : decode cX3_factor 113 = .ok (.lreturn, 1) := by decide +kernel
theorem dX3_passNumber_0 : decode cX3_passNumber 0 = .ok (.lconst 0, 1) := by decide +kernel
theorem dX3_passNumber_1 : decode cX3_passNumber 1 = .ok (.lstore_n 1, 1) := by decide +kernel
theorem dX3_passNumber_2 : decode cX3_passNumber 2 = .ok (.iconst 0, 1) := by decide +kernel
theorem dX3_passNumber_3 : decode cX3_passNumber 3 = .ok (.istore_n 3, 1) := by decide +kernel
theorem dX3_passNumber_4 : decode cX3_passNumber 4 = .ok (.iload_n 3, 1) := by decide +kernel
theorem dX3_passNumber_5 : decode cX3_passNumber 5 = .ok (.bipush 6, 2) := by decide +kernel
theorem dX3_passNumber_7 : decode cX3_passNumber 7 = .ok (.if_icmp .ge 56, 3) := by decide +kernel
theorem dX3_passNumber_10 : decode cX3_passNumber 10 = .ok (.aload_n 0, 1) := by decide +kernel
theorem dX3_passNumber_11 : decode cX3_passNumber 11 = .ok (.getfield 12, 3) := by decide +kernel
theorem dX3_passNumber_14 : decode cX3_passNumber 14 = .ok (.iconst 0, 1) := by decide +kernel
theorem dX3_passNumber_15 : decode cX3_passNumber 15 = .ok (.invokevirtual 91, 3) := by decide +kernel
theorem dX3_passNumber_18 : decode cX3_passNumber 18 = .ok (.invokestatic 95, 3) := by decide +kernel
theorem dX3_passNumber_21 : decode cX3_passNumber 21 = .ok (.ifCond .eq 42, 3) := by decide +kernel
theorem dX3_passNumber_24 : decode cX3_passNumber 24 = .ok (.lload_n 1, 1) := by decide +kernel
theorem dX3_passNumber_25 : decode cX3_passNumber 25 = .ok (.ldc2_w 116, 3) := by decide +kernel
theorem dX3_passNumber_28 : decode cX3_passNumber 28 = .ok (.lmul, 1) := by decide +kernel
theorem dX3_passNumber_29 : decode cX3_passNumber 29 = .ok (.aload_n 0, 1) := by decide +kernel
theorem dX3_passNumber_30 : decode cX3_passNumber 30 = .ok (.getfield 12, 3) := by decide +kernel
theorem dX3_passNumber_33 : decode cX3_passNumber 33 = .ok (.iconst 0, 1) := by decide +kernel
theorem dX3_passNumber_34 : decode cX3_passNumber 34 = .ok (.invokevirtual 91, 3) := by decide +kernel
theorem dX3_passNumber_37 : decode cX3_passNumber 37 = .ok (.i2l, 1) := by decide +kernel
theorem dX3_passNumber_38 : decode cX3_passNumber 38 = .ok (.ladd, 1) := by decide +kernel
theorem dX3_passNumber_39 : decode cX3_passNumber 39 = .ok (.ldc2_w 118, 3) := by decide +kernel
theorem dX3_passNumber_42 : decode cX3_passNumber 42 = .ok (.lsub, 1) := by decide +kernel
theorem dX3_passNumber_43 : decode cX3_passNumber 43 = .ok (.lstore_n 1, 1) := by decide +kernel
theorem dX3_passNumber_44 : decode cX3_passNumber 44 = .ok (.aload_n 0, 1) := by decide +kernel
theorem dX3_passNumber_45 : decode cX3_passNumber 45 = .ok (.getfield 12, 3) := by decide +kernel
theorem dX3_passNumber_48 : decode cX3_passNumber 48 = .ok (.dup, 1) := by decide +kernel
theorem dX3_passNumber_49 : decode cX3_passNumber 49 = .ok (.getfield 88, 3) := by decide +kernel
theorem dX3_passNumber_52 : decode cX3_passNumber 52 = .ok (.iconst 1, 1) := by decide +kernel
theorem dX3_passNumber_53 : decode cX3_passNumber 53 = .ok (.iadd, 1) := by decide +kernel
theorem dX3_passNumber_54 : decode cX3_passNumber 54 = .ok (.putfield 88, 3) := by decide +kernel
theorem dX3_passNumber_57 : decode cX3_passNumber 57 = .ok (.iinc 3 1, 3) := by decide +kernel
theorem dX3_passNumber_60 : decode cX3_passNumber 60 = .ok (.goto (-56), 3) := by decide +kernel
theorem dX3_passNumber_63 : decode cX3_passNumber 63 = .ok (.lload_n 1, 1) := by decide +kernel
theorem dX3_passNumber_64 : decode cX3_passNumber 64 = .ok (.lreturn, 1) := by decide +kernel
theorem dX3_passCell_0 : decode cX3_passCell 0 = .ok (.aload_n 0, 1) := by decide +kernel
theorem dX3_passCell_1 : decode cX3_passCell 1 = .ok (.getfield 12, 3) := by decide +kernel
theorem dX3_passCell_4 : decode cX3_passCell 4 = .ok (.iconst 1, 1) := by decide +kernel
theorem dX3_passCell_5 : decode cX3_passCell 5 = .ok (.invokevirtual 91, 3) := by decide +kernel
theorem dX3_passCell_8 : decode cX3_passCell 8 = .ok (.bipush 49, 2) := by decide +kernel
theorem dX3_passCell_10 : decode cX3_passCell 10 = .ok (.isub, 1) := by decide +kernel
theorem dX3_passCell_11 : decode cX3_passCell 11 = .ok (.bipush 8, 2) := by decide +kernel
theorem dX3_passCell_13 : decode cX3_passCell 13 = .ok (.imul, 1) := by decide +kernel
theorem dX3_passCell_14 : decode cX3_passCell 14 = .ok (.aload_n 0, 1) := by decide +kernel
theorem dX3_passCell_15 : decode cX3_passCell 15 = .ok (.getfield 12, 3) := by decide +kernel
theorem dX3_passCell_18 : decode cX3_passCell 18 = .ok (.iconst 0, 1) := by decide +kernel
theorem dX3_passCell_19 : decode cX3_passCell 19 = .ok (.invokevirtual 91, 3) := by decide +kernel
theorem dX3_passCell_22 : decode cX3_passCell 22 = .ok (.iadd, 1) := by decide +kernel
theorem dX3_passCell_23 : decode cX3_passCell 23 = .ok (.bipush 97, 2) := by decide +kernel
theorem dX3_passCell_25 : decode cX3_passCell 25 = .ok (.isub, 1) := by decide +kernel
theorem dX3_passCell_26 : decode cX3_passCell 26 = .ok (.istore_n 1, 1) := by decide +kernel
theorem dX3_passCell_27 : decode cX3_passCell 27 = .ok (.aload_n 0, 1) := by decide +kernel
theorem dX3_passCell_28 : decode cX3_passCell 28 = .ok (.getfield 12, 3) := by decide +kernel
theorem dX3_passCell_31 : decode cX3_passCell 31 = .ok (.dup, 1) := by decide +kernel
theorem dX3_passCell_32 : decode cX3_passCell 32 = .ok (.getfield 88, 3) := by decide +kernel
theorem dX3_passCell_35 : decode cX3_passCell 35 = .ok (.iconst 2, 1) := by decide +kernel
theorem dX3_passCell_36 : decode cX3_passCell 36 = .ok (.iadd, 1) := by decide +kernel
theorem dX3_passCell_37 : decode cX3_passCell 37 = .ok (.putfield 88, 3) := by decide +kernel
theorem dX3_passCell_40 : decode cX3_passCell 40 = .ok (.iload_n 1, 1) := by decide +kernel
theorem dX3_passCell_41 : decode cX3_passCell 41 = .ok (.ireturn, 1) := by decide +kernel
theorem dX3_readCell_0 : decode cX3_readCell 0 = .ok (.iload_n 1, 1) := by decide +kernel
theorem dX3_readCell_1 : decode cX3_readCell 1 = .ok (.invokestatic 120, 3) := by decide +kernel
theorem dX3_readCell_4 : decode cX3_readCell 4 = .ok (.ifCond .ne 9, 3) := by decide +kernel
theorem dX3_readCell_7 : decode cX3_readCell 7 = .ok (.aload_n 0, 1) := by decide +kernel
theorem dX3_readCell_8 : decode cX3_readCell 8 = .ok (.iconst 3, 1) := by decide +kernel
theorem dX3_readCell_9 : decode cX3_readCell 9 = .ok (.invokevirtual 85, 3) := by decide +kernel
theorem dX3_readCell_12 : decode cX3_readCell 12 = .ok (.lreturn, 1) := by decide +kernel
theorem dX3_readCell_13 : decode cX3_readCell 13 = .ok (.aload_n 0, 1) := by decide +kernel
theorem dX3_readCell_14 : decode cX3_readCell 14 = .ok (.getfield 22, 3) := by decide +kernel
theorem dX3_readCell_17 : decode cX3_readCell 17 = .ok (.iload_n 1, 1) := by decide +kernel
theorem dX3_readCell_18 : decode cX3_readCell 18 = .ok (.iaload, 1) := by decide +kernel
theorem dX3_readCell_19 : decode cX3_readCell 19 = .ok (.aload_n 0, 1) := by decide +kernel
theorem dX3_readCell_20 : decode cX3_readCell 20 = .ok (.getfield 39, 3) := by decide +kernel
theorem dX3_readCell_23 : decode cX3_readCell 23 = .ok (.if_icmp .eq 75, 3) := by decide +kernel
theorem dX3_readCell_26 : decode cX3_readCell 26 = .ok (.aload_n 0, 1) := by decide +kernel
theorem dX3_readCell_27 : decode cX3_readCell 27 = .ok (.getfield 25, 3) := by decide +kernel
theorem dX3_readCell_30 : decode cX3_readCell 30 = .ok (.getfield 42, 3) := by decide +kernel
theorem dX3_readCell_33 : decode cX3_readCell 33 = .ok (.aload_n 0, 1) := by decide +kernel
theorem dX3_readCell_34 : decode cX3_readCell 34 = .ok (.getfield 29, 3) := by decide +kernel
theorem dX3_readCell_37 : decode cX3_readCell 37 = .ok (.iaload, 1) := by decide +kernel
theorem dX3_readCell_38 : decode cX3_readCell 38 = .ok (.bipush 72, 2) := by decide +kernel
theorem dX3_readCell_40 : decode cX3_readCell 40 = .ok (.if_icmp .ge 58, 3) := by decide +kernel
theorem dX3_readCell_43 : decode cX3_readCell 43 = .ok (.aload_n 0, 1) := by decide +kernel
theorem dX3_readCell_44 : decode cX3_readCell 44 = .ok (.getfield 22, 3) := by decide +kernel
theorem dX3_readCell_47 : decode cX3_readCell 47 = .ok (.iload_n 1, 1) := by decide +kernel
theorem dX3_readCell_48 : decode cX3_readCell 48 = .ok (.aload_n 0, 1) := by decide +kernel
theorem dX3_readCell_49 : decode cX3_readCell 49 = .ok (.getfield 39, 3) := by decide +kernel
theorem dX3_readCell_52 : decode cX3_readCell 52 = .ok (.iastore, 1) := by decide +kernel
theorem dX3_readCell_53 : decode cX3_readCell 53 = .ok (.aload_n 0, 1) := by decide +kernel
theorem dX3_readCell_54 : decode cX3_readCell 54 = .ok (.getfield 25, 3) := by decide +kernel
theorem dX3_readCell_57 : decode cX3_readCell 57 = .ok (.getfield 123, 3) := by decide +kernel
theorem dX3_readCell_60 : decode cX3_readCell 60 = .ok (.aload_n 0, 1) := by decide +kernel
theorem dX3_readCell_61 : decode cX3_readCell 61 = .ok (.getfield 29, 3) := by decide +kernel
theorem dX3_readCell_64 : decode cX3_readCell 64 = .ok (.bipush 72, 2) := by decide +kernel
theorem dX3_readCell_66 : decode cX3_readCell 66 = .ok (.imul, 1) := by decide +kernel
theorem dX3_readCell_67 : decode cX3_readCell 67 = .ok (.aload_n 0, 1) := by decide +kernel
theorem dX3_readCell_68 : decode cX3_readCell 68 = .ok (.getfield 25, 3) := by decide +kernel
theorem dX3_readCell_71 : decode cX3_readCell 71 = .ok (.getfield 42, 3) := by decide +kernel
theorem dX3_readCell_74 : decode cX3_readCell 74 = .ok (.aload_n 0, 1) := by decide +kernel
theorem dX3_readCell_75 : decode cX3_readCell 75 = .ok (.getfield 29, 3) := by decide +kernel
theorem dX3_readCell_78 : decode cX3_readCell 78 = .ok (.iaload, 1) := by decide +kernel
theorem dX3_readCell_79 : decode cX3_readCell 79 = .ok (.iadd, 1) := by decide +kernel
theorem dX3_readCell_80 : decode cX3_readCell 80 = .ok (.iload_n 1, 1) := by decide +kernel
theorem dX3_readCell_81 : decode cX3_readCell 81 = .ok (.iastore, 1) := by decide +kernel
theorem dX3_readCell_82 : decode cX3_readCell 82 = .ok (.aload_n 0, 1) := by decide +kernel
theorem dX3_readCell_83 : decode cX3_readCell 83 = .ok (.getfield 25, 3) := by decide +kernel
theorem dX3_readCell_86 : decode cX3_readCell 86 = .ok (.getfield 42, 3) := by decide +kernel
theorem dX3_readCell_89 : decode cX3_readCell 89 = .ok (.aload_n 0, 1) := by decide +kernel
theorem dX3_readCell_90 : decode cX3_readCell 90 = .ok (.getfield 29, 3) := by decide +kernel
theorem dX3_readCell_93 : decode cX3_readCell 93 = .ok (.dup2, 1) := by decide +kernel
theorem dX3_readCell_94 : decode cX3_readCell 94 = .ok (.iaload, 1) := by decide +kernel
theorem dX3_readCell_95 : decode cX3_readCell 95 = .ok (.iconst 1, 1) := by decide +kernel
theorem dX3_readCell_96 : decode cX3_readCell 96 = .ok (.iadd, 1) := by decide +kernel
theorem dX3_readCell_97 : decode cX3_readCell 97 = .ok (.iastore, 1) := by decide +kernel
theorem dX3_readCell_98 : decode cX3_readCell 98 = .ok (.aload_n 0, 1) := by decide +kernel
theorem dX3_readCell_99 : decode cX3_readCell 99 = .ok (.getfield 18, 3) := by decide +kernel
theorem dX3_readCell_102 : decode cX3_readCell 102 = .ok (.iload_n 1, 1) := by decide +kernel
theorem dX3_readCell_103 : decode cX3_readCell 103 = .ok (.iaload, 1) := by decide +kernel
theorem dX3_readCell_104 : decode cX3_readCell 104 = .ok (.ifCond .eq 14, 3) := by decide +kernel
theorem dX3_readCell_107 : decode cX3_readCell 107 = .ok (.aload_n 0, 1) := by decide +kernel
theorem dX3_readCell_108 : decode cX3_readCell 108 = .ok (.iload_n 1, 1) := by decide +kernel
theorem dX3_readCell_109 : decode cX3_readCell 109 = .ok (.putfield 36, 3) := by decide +kernel
theorem dX3_readCell_112 : decode cX3_readCell 112 = .ok (.aload_n 0, 1) := by decide +kernel
theorem dX3_readCell_113 : decode cX3_readCell 113 = .ok (.iconst 4, 1) := by decide +kernel
theorem dX3_readCell_114 : decode cX3_readCell 114 = .ok (.invokevirtual 85, 3) := by decide +kernel
theorem dX3_readCell_117 : decode cX3_readCell 117 = .ok (.lreturn, 1) := by decide +kernel
theorem dX3_readCell_118 : decode cX3_readCell 118 = .ok (.aload_n 0, 1) := by decide +kernel
theorem dX3_readCell_119 : decode cX3_readCell 119 = .ok (.aload_n 0, 1) := by decide +kernel
theorem dX3_readCell_120 : decode cX3_readCell 120 = .ok (.getfield 25, 3) := by decide +kernel
theorem dX3_readCell_123 : decode cX3_readCell 123 = .ok (.getfield 126, 3) := by decide +kernel
theorem dX3_readCell_126 : decode cX3_readCell 126 = .ok (.iload_n 1, 1) := by decide +kernel
theorem dX3_readCell_127 : decode cX3_readCell 127 = .ok (.iaload, 1) := by decide +kernel
theorem dX3_readCell_128 : decode cX3_readCell 128 = .ok (.putfield 33, 3) := by decide +kernel
theorem dX3_readCell_131 : decode cX3_readCell 131 = .ok (.aload_n 0, 1) := by decide +kernel
theorem dX3_readCell_132 : decode cX3_readCell 132 = .ok (.getfield 25, 3) := by decide +kernel
theorem dX3_readCell_135 : decode cX3_readCell 135 = .ok (.getfield 129, 3) := by decide +kernel
theorem dX3_readCell_138 : decode cX3_readCell 138 = .ok (.iload_n 1, 1) := by decide +kernel
theorem dX3_readCell_139 : decode cX3_readCell 139 = .ok (.iaload, 1) := by decide +kernel
theorem dX3_readCell_140 : decode cX3_readCell 140 = .ok (.i2l, 1) := by decide +kernel
theorem dX3_readCell_141 : decode cX3_readCell 141 = .ok (.lreturn, 1) := by decide +kernel
theorem dX3_call_0 : decode cX3_call 0 = .ok (.iconst 0, 1) := by decide +kernel
theorem dX3_call_1 : decode cX3_call 1 = .ok (.istore_n 2, 1) := by decide +kernel
theorem dX3_call_2 : decode cX3_call 2 = .ok (.iload_n 2, 1) := by decide +kernel
theorem dX3_call_3 : decode cX3_call 3 = .ok (.bipush 9, 2) := by decide +kernel
theorem dX3_call_5 : decode cX3_call 5 = .ok (.if_icmp .ge 102, 3) := by decide +kernel
theorem dX3_call_8 : decode cX3_call 8 = .ok (.iload_n 2, 1) := by decide +kernel
theorem dX3_call_9 : decode cX3_call 9 = .ok (.invokestatic 132, 3) := by decide +kernel
theorem dX3_call_12 : decode cX3_call 12 = .ok (.astore_n 3, 1) := by decide +kernel
theorem dX3_call_13 : decode cX3_call 13 = .ok (.aload_n 0, 1) := by decide +kernel
theorem dX3_call_14 : decode cX3_call 14 = .ok (.getfield 12, 3) := by decide +kernel
theorem dX3_call_17 : decode cX3_call 17 = .ok (.aload_n 3, 1) := by decide +kernel
theorem dX3_call_18 : decode cX3_call 18 = .ok (.invokevirtual 136, 3) := by decide +kernel
theorem dX3_call_21 : decode cX3_call 21 = .ok (.aload_n 3, 1) := by decide +kernel
theorem dX3_call_22 : decode cX3_call 22 = .ok (.invokevirtual 140, 3) := by decide +kernel
theorem dX3_call_25 : decode cX3_call 25 = .ok (.if_icmp .ne 76, 3) := by decide +kernel
theorem dX3_call_28 : decode cX3_call 28 = .ok (.aload_n 0, 1) := by decide +kernel
theorem dX3_call_29 : decode cX3_call 29 = .ok (.getfield 12, 3) := by decide +kernel
theorem dX3_call_32 : decode cX3_call 32 = .ok (.dup, 1) := by decide +kernel
theorem dX3_call_33 : decode cX3_call 33 = .ok (.getfield 88, 3) := by decide +kernel
theorem dX3_call_36 : decode cX3_call 36 = .ok (.aload_n 3, 1) := by decide +kernel
theorem dX3_call_37 : decode cX3_call 37 = .ok (.invokevirtual 140, 3) := by decide +kernel
theorem dX3_call_40 : decode cX3_call 40 = .ok (.iadd, 1) := by decide +kernel
theorem dX3_call_41 : decode cX3_call 41 = .ok (.putfield 88, 3) := by decide +kernel
theorem dX3_call_44 : decode cX3_call 44 = .ok (.iload_n 2, 1) := by decide +kernel
theorem dX3_call_45 : decode cX3_call 45 = .ok (.tableswitch 49 0 4 #[35, 35, 42, 42, 42], 35) := by decide +kernel
theorem dX3_call_80 : decode cX3_call 80 = .ok (.aload_n 0, 1) := by decide +kernel
theorem dX3_call_81 : decode cX3_call 81 = .ok (.iload_n 2, 1) := by decide +kernel
theorem dX3_call_82 : decode cX3_call 82 = .ok (.iload_n 1, 1) := by decide +kernel
theorem dX3_call_83 : decode cX3_call 83 = .ok (.invokevirtual 145, 3) := by decide +kernel
theorem dX3_call_86 : decode cX3_call 86 = .ok (.lreturn, 1) := by decide +kernel
theorem dX3_call_87 : decode cX3_call 87 = .ok (.aload_n 0, 1) := by decide +kernel
theorem dX3_call_88 : decode cX3_call 88 = .ok (.iload_n 2, 1) := by decide +kernel
theorem dX3_call_89 : decode cX3_call 89 = .ok (.iload_n 1, 1) := by decide +kernel
theorem dX3_call_90 : decode cX3_call 90 = .ok (.invokevirtual 149, 3) := by decide +kernel
theorem dX3_call_93 : decode cX3_call 93 = .ok (.lreturn, 1) := by decide +kernel
theorem dX3_call_94 : decode cX3_call 94 = .ok (.aload_n 0, 1) := by decide +kernel
theorem dX3_call_95 : decode cX3_call 95 = .ok (.iload_n 2, 1) := by decide +kernel
theorem dX3_call_96 : decode cX3_call 96 = .ok (.iload_n 1, 1) := by decide +kernel
theorem dX3_call_97 : decode cX3_call 97 = .ok (.invokevirtual 152, 3) := by decide +kernel
theorem dX3_call_100 : decode cX3_call 100 = .ok (.lreturn, 1) := by decide +kernel
theorem dX3_call_101 : decode cX3_call 101 = .ok (.iinc 2 1, 3) := by decide +kernel
theorem dX3_call_104 : decode cX3_call 104 = .ok (.goto (-102), 3) := by decide +kernel
theorem dX3_call_107 : decode cX3_call 107 = .ok (.aload_n 0, 1) := by decide +kernel
theorem dX3_call_108 : decode cX3_call 108 = .ok (.iconst 3, 1) := by decide +kernel
theorem dX3_call_109 : decode cX3_call 109 = .ok (.invokevirtual 85, 3) := by decide +kernel
theorem dX3_call_112 : decode cX3_call 112 = .ok (.lreturn, 1) := by decide +kernel
theorem dX3_choose_0 : decode cX3_choose 0 = .ok (.aload_n 0, 1) := by decide +kernel
theorem dX3_choose_1 : decode cX3_choose 1 = .ok (.iload_n 2, 1) := by decide +kernel
theorem dX3_choose_2 : decode cX3_choose 2 = .ok (.invokevirtual 63, 3) := by decide +kernel
theorem dX3_choose_5 : decode cX3_choose 5 = .ok (.lstore_n 3, 1) := by decide +kernel
theorem dX3_choose_6 : decode cX3_choose 6 = .ok (.aload_n 0, 1) := by decide +kernel
theorem dX3_choose_7 : decode cX3_choose 7 = .ok (.getfield 33, 3) := by decide +kernel
theorem dX3_choose_10 : decode cX3_choose 10 = .ok (.ifCond .eq 5, 3) := by decide +kernel
theorem dX3_choose_13 : decode cX3_choose 13 = .ok (.lconst 0, 1) := by decide +kernel
theorem dX3_choose_14 : decode cX3_choose 14 = .ok (.lreturn, 1) := by decide +kernel
theorem dX3_choose_15 : decode cX3_choose 15 = .ok (.iload_n 1, 1) := by decide +kernel
theorem dX3_choose_16 : decode cX3_choose 16 = .ok (.ifCond .ne 17, 3) := by decide +kernel
theorem dX3_choose_19 : decode cX3_choose 19 = .ok (.lload_n 3, 1) := by decide +kernel
theorem dX3_choose_20 : decode cX3_choose 20 = .ok (.lconst 0, 1) := by decide +kernel
theorem dX3_choose_21 : decode cX3_choose 21 = .ok (.lcmp, 1) := by decide +kernel
theorem dX3_choose_22 : decode cX3_choose 22 = .ok (.ifCond .ne 9, 3) := by decide +kernel
theorem dX3_choose_25 : decode cX3_choose 25 = .ok (.ldc2_w 155, 3) := by decide +kernel
theorem dX3_choose_28 : decode cX3_choose 28 = .ok (.goto 4, 3) := by decide +kernel
theorem dX3_choose_31 : decode cX3_choose 31 = .ok (.lconst 1, 1) := by decide +kernel
theorem dX3_choose_32 : decode cX3_choose 32 = .ok (.lstore_n 3, 1) := by decide +kernel
theorem dX3_choose_33 : decode cX3_choose 33 = .ok (.lload_n 3, 1) := by decide +kernel
theorem dX3_choose_34 : decode cX3_choose 34 = .ok (.lconst 1, 1) := by decide +kernel
theorem dX3_choose_35 : decode cX3_choose 35 = .ok (.lcmp, 1) := by decide +kernel
theorem dX3_choose_36 : decode cX3_choose 36 = .ok (.ifCond .lt 14, 3) := by decide +kernel
theorem dX3_choose_39 : decode cX3_choose 39 = .ok (.lload_n 3, 1) := by decide +kernel
theorem dX3_choose_40 : decode cX3_choose 40 = .ok (.getstatic 157, 3) := by decide +kernel
theorem dX3_choose_43 : decode cX3_choose 43 = .ok (.iload_n 1, 1) := by decide +kernel
theorem dX3_choose_44 : decode cX3_choose 44 = .ok (.iaload, 1) := by decide +kernel
theorem dX3_choose_45 : decode cX3_choose 45 = .ok (.i2l, 1) := by decide +kernel
theorem dX3_choose_46 : decode cX3_choose 46 = .ok (.lcmp, 1) := by decide +kernel
theorem dX3_choose_47 : decode cX3_choose 47 = .ok (.ifCond .lt 9, 3) := by decide +kernel
theorem dX3_choose_50 : decode cX3_choose 50 = .ok (.aload_n 0, 1) := by decide +kernel
theorem dX3_choose_51 : decode cX3_choose 51 = .ok (.iconst 3, 1) := by decide +kernel
theorem dX3_choose_52 : decode cX3_choose 52 = .ok (.invokevirtual 85, 3) := by decide +kernel
theorem dX3_choose_55 : decode cX3_choose 55 = .ok (.lreturn, 1) := by decide +kernel
theorem dX3_choose_56 : decode cX3_choose 56 = .ok (.iconst 1, 1) := by decide +kernel
theorem dX3_choose_57 : decode cX3_choose 57 = .ok (.istore 5, 2) := by decide +kernel
theorem dX3_choose_59 : decode cX3_choose 59 = .ok (.iload 5, 2) := by decide +kernel
theorem dX3_choose_61 : decode cX3_choose 61 = .ok (.i2l, 1) := by decide +kernel
theorem dX3_choose_62 : decode cX3_choose 62 = .ok (.lload_n 3, 1) := by decide +kernel
theorem dX3_choose_63 : decode cX3_choose 63 = .ok (.lcmp, 1) := by decide +kernel
theorem dX3_choose_64 : decode cX3_choose 64 = .ok (.ifCond .ge 25, 3) := by decide +kernel
theorem dX3_choose_67 : decode cX3_choose 67 = .ok (.aload_n 0, 1) := by decide +kernel
theorem dX3_choose_68 : decode cX3_choose 68 = .ok (.getfield 12, 3) := by decide +kernel
theorem dX3_choose_71 : decode cX3_choose 71 = .ok (.bipush 44, 2) := by decide +kernel
theorem dX3_choose_73 : decode cX3_choose 73 = .ok (.invokevirtual 70, 3) := by decide +kernel
theorem dX3_choose_76 : decode cX3_choose 76 = .ok (.ifCond .eq 13, 3) := by decide +kernel
theorem dX3_choose_79 : decode cX3_choose 79 = .ok (.aload_n 0, 1) := by decide +kernel
theorem dX3_choose_80 : decode cX3_choose 80 = .ok (.invokevirtual 160, 3) := by decide +kernel
theorem dX3_choose_83 : decode cX3_choose 83 = .ok (.iinc 5 1, 3) := by decide +kernel
theorem dX3_choose_86 : decode cX3_choose 86 = .ok (.goto (-27), 3) := by decide +kernel
theorem dX3_choose_89 : decode cX3_choose 89 = .ok (.aload_n 0, 1) := by decide +kernel
theorem dX3_choose_90 : decode cX3_choose 90 = .ok (.getfield 12, 3) := by decide +kernel
theorem dX3_choose_93 : decode cX3_choose 93 = .ok (.bipush 44, 2) := by decide +kernel
theorem dX3_choose_95 : decode cX3_choose 95 = .ok (.invokevirtual 70, 3) := by decide +kernel
theorem dX3_choose_98 : decode cX3_choose 98 = .ok (.ifCond .ne 9, 3) := by decide +kernel
theorem dX3_choose_101 : decode cX3_choose 101 = .ok (.aload_n 0, 1) := by decide +kernel
theorem dX3_choose_102 : decode cX3_choose 102 = .ok (.iconst 3, 1) := by decide +kernel
theorem dX3_choose_103 : decode cX3_choose 103 = .ok (.invokevirtual 85, 3) := by decide +kernel
theorem dX3_choose_106 : decode cX3_choose 106 = .ok (.lreturn, 1) := by decide +kernel
theorem dX3_choose_107 : decode cX3_choose 107 = .ok (.aload_n 0, 1) := by decide +kernel
theorem dX3_choose_108 : decode cX3_choose 108 = .ok (.iload_n 2, 1) := by decide +kernel
theorem dX3_choose_109 : decode cX3_choose 109 = .ok (.invokevirtual 63, 3) := by decide +kernel
theorem dX3_choose_112 : decode cX3_choose 112 = .ok (.lstore 5, 2) := by decide +kernel
theorem dX3_choose_114 : decode cX3_choose 114 = .ok (.iconst 0, 1) := by decide +kernel
theorem dX3_choose_115 : decode cX3_choose 115 = .ok (.istore 7, 2) := by decide +kernel
theorem dX3_choose_117 : decode cX3_choose 117 = .ok (.iload 7, 2) := by decide +kernel
theorem dX3_choose_119 : decode cX3_choose 119 = .ok (.getstatic 157, 3) := by decide +kernel
theorem dX3_choose_122 : decode cX3_choose 122 = .ok (.iload_n 1, 1) := by decide +kernel
theorem dX3_choose_123 : decode cX3_choose 123 = .ok (.iaload, 1) := by decide +kernel
theorem dX3_choose_124 : decode cX3_choose 124 = .ok (.if_icmp .ge 25, 3) := by decide +kernel
theorem dX3_choose_127 : decode cX3_choose 127 = .ok (.aload_n 0, 1) := by decide +kernel
theorem dX3_choose_128 : decode cX3_choose 128 = .ok (.getfield 12, 3) := by decide +kernel
theorem dX3_choose_131 : decode cX3_choose 131 = .ok (.bipush 44, 2) := by decide +kernel
theorem dX3_choose_133 : decode cX3_choose 133 = .ok (.invokevirtual 70, 3) := by decide +kernel
theorem dX3_choose_136 : decode cX3_choose 136 = .ok (.ifCond .eq 13, 3) := by decide +kernel
theorem dX3_choose_139 : decode cX3_choose 139 = .ok (.aload_n 0, 1) := by decide +kernel
theorem dX3_choose_140 : decode cX3_choose 140 = .ok (.invokevirtual 160, 3) := by decide +kernel
theorem dX3_choose_143 : decode cX3_choose 143 = .ok (.iinc 7 1, 3) := by decide +kernel
theorem dX3_choose_146 : decode cX3_choose 146 = .ok (.goto (-29), 3) := by decide +kernel
theorem dX3_choose_149 : decode cX3_choose 149 = .ok (.aload_n 0, 1) := by decide +kernel
theorem dX3_choose_150 : decode cX3_choose 150 = .ok (.getfield 12, 3) := by decide +kernel
theorem dX3_choose_153 : decode cX3_choose 153 = .ok (.dup, 1) := by decide +kernel
theorem dX3_choose_154 : decode cX3_choose 154 = .ok (.getfield 88, 3) := by decide +kernel
theorem dX3_choose_157 : decode cX3_choose 157 = .ok (.iconst 1, 1) := by decide +kernel
theorem dX3_choose_158 : decode cX3_choose 158 = .ok (.iadd, 1) := by decide +kernel
theorem dX3_choose_159 : decode cX3_choose 159 = .ok (.putfield 88, 3) := by decide +kernel
theorem dX3_choose_162 : decode cX3_choose 162 = .ok (.lload 5, 2) := by decide +kernel
theorem dX3_choose_164 : decode cX3_choose 164 = .ok (.lreturn, 1) := by decide +kernel
theorem dX3_skipPart_0 : decode cX3_skipPart 0 = .ok (.iconst 0, 1) := by decide +kernel
theorem dX3_skipPart_1 : decode cX3_skipPart 1 = .ok (.istore_n 1, 1) := by decide +kernel
theorem dX3_skipPart_2 : decode cX3_skipPart 2 = .ok (.iconst 0, 1) := by decide +kernel
theorem dX3_skipPart_3 : decode cX3_skipPart 3 = .ok (.istore_n 2, 1) := by decide +kernel
theorem dX3_skipPart_4 : decode cX3_skipPart 4 = .ok (.iload_n 2, 1) := by decide +kernel
theorem dX3_skipPart_5 : decode cX3_skipPart 5 = .ok (.bipush 30, 2) := by decide +kernel
theorem dX3_skipPart_7 : decode cX3_skipPart 7 = .ok (.if_icmp .ge 69, 3) := by decide +kernel
theorem dX3_skipPart_10 : decode cX3_skipPart 10 = .ok (.aload_n 0, 1) := by decide +kernel
theorem dX3_skipPart_11 : decode cX3_skipPart 11 = .ok (.getfield 12, 3) := by decide +kernel
theorem dX3_skipPart_14 : decode cX3_skipPart 14 = .ok (.iconst 0, 1) := by decide +kernel
theorem dX3_skipPart_15 : decode cX3_skipPart 15 = .ok (.invokevirtual 91, 3) := by decide +kernel
theorem dX3_skipPart_18 : decode cX3_skipPart 18 = .ok (.istore_n 3, 1) := by decide +kernel
theorem dX3_skipPart_19 : decode cX3_skipPart 19 = .ok (.iload_n 1, 1) := by decide +kernel
theorem dX3_skipPart_20 : decode cX3_skipPart 20 = .ok (.ifCond .ne 16, 3) := by decide +kernel
theorem dX3_skipPart_23 : decode cX3_skipPart 23 = .ok (.iload_n 3, 1) := by decide +kernel
theorem dX3_skipPart_24 : decode cX3_skipPart 24 = .ok (.bipush 44, 2) := by decide +kernel
theorem dX3_skipPart_26 : decode cX3_skipPart 26 = .ok (.if_icmp .eq 9, 3) := by decide +kernel
theorem dX3_skipPart_29 : decode cX3_skipPart 29 = .ok (.iload_n 3, 1) := by decide +kernel
theorem dX3_skipPart_30 : decode cX3_skipPart 30 = .ok (.bipush 41, 2) := by decide +kernel
theorem dX3_skipPart_32 : decode cX3_skipPart 32 = .ok (.if_icmp .ne 4, 3) := by decide +kernel
theorem dX3_skipPart_35 : decode cX3_skipPart 35 = .ok (.return_, 1) := by decide +kernel
theorem dX3_skipPart_36 : decode cX3_skipPart 36 = .ok (.iload_n 3, 1) := by decide +kernel
theorem dX3_skipPart_37 : decode cX3_skipPart 37 = .ok (.bipush 40, 2) := by decide +kernel
theorem dX3_skipPart_39 : decode cX3_skipPart 39 = .ok (.if_icmp .ne 9, 3) := by decide +kernel
theorem dX3_skipPart_42 : decode cX3_skipPart 42 = .ok (.iinc 1 1, 3) := by decide +kernel
theorem dX3_skipPart_45 : decode cX3_skipPart 45 = .ok (.goto 12, 3) := by decide +kernel
theorem dX3_skipPart_48 : decode cX3_skipPart 48 = .ok (.iload_n 3, 1) := by decide +kernel
theorem dX3_skipPart_49 : decode cX3_skipPart 49 = .ok (.bipush 41, 2) := by decide +kernel
theorem dX3_skipPart_51 : decode cX3_skipPart 51 = .ok (.if_icmp .ne 6, 3) := by decide +kernel
theorem dX3_skipPart_54 : decode cX3_skipPart 54 = .ok (.iinc 1 (-1), 3) := by decide +kernel
theorem dX3_skipPart_57 : decode cX3_skipPart 57 = .ok (.aload_n 0, 1) := by decide +kernel
theorem dX3_skipPart_58 : decode cX3_skipPart 58 = .ok (.getfield 12, 3) := by decide +kernel
theorem dX3_skipPart_61 : decode cX3_skipPart 61 = .ok (.dup, 1) := by decide +kernel
theorem dX3_skipPart_62 : decode cX3_skipPart 62 = .ok (.getfield 88, 3) := by decide +kernel
theorem dX3_skipPart_65 : decode cX3_skipPart 65 = .ok (.iconst 1, 1) := by decide +kernel
theorem dX3_skipPart_66 : decode cX3_skipPart 66 = .ok (.iadd, 1) := by decide +kernel
theorem dX3_skipPart_67 : decode cX3_skipPart 67 = .ok (.putfield 88, 3) := by decide +kernel
theorem dX3_skipPart_70 : decode cX3_skipPart 70 = .ok (.iinc 2 1, 3) := by decide +kernel
theorem dX3_skipPart_73 : decode cX3_skipPart 73 = .ok (.goto (-69), 3) := by decide +kernel
theorem dX3_skipPart_76 : decode cX3_skipPart 76 = .ok (.return_, 1) := by decide +kernel
theorem dX3_combine_0 : decode cX3_combine 0 = .ok (.aload_n 0, 1) := by decide +kernel
theorem dX3_combine_1 : decode cX3_combine 1 = .ok (.iload_n 2, 1) := by decide +kernel
theorem dX3_combine_2 : decode cX3_combine 2 = .ok (.invokevirtual 63, 3) := by decide +kernel
theorem dX3_combine_5 : decode cX3_combine 5 = .ok (.lstore_n 3, 1) := by decide +kernel
theorem dX3_combine_6 : decode cX3_combine 6 = .ok (.aload_n 0, 1) := by decide +kernel
theorem dX3_combine_7 : decode cX3_combine 7 = .ok (.getfield 12, 3) := by decide +kernel
theorem dX3_combine_10 : decode cX3_combine 10 = .ok (.dup, 1) := by decide +kernel
theorem dX3_combine_11 : decode cX3_combine 11 = .ok (.getfield 88, 3) := by decide +kernel
theorem dX3_combine_14 : decode cX3_combine 14 = .ok (.iconst 1, 1) := by decide +kernel
theorem dX3_combine_15 : decode cX3_combine 15 = .ok (.iadd, 1) := by decide +kernel
theorem dX3_combine_16 : decode cX3_combine 16 = .ok (.putfield 88, 3) := by decide +kernel
theorem dX3_combine_19 : decode cX3_combine 19 = .ok (.aload_n 0, 1) := by decide +kernel
theorem dX3_combine_20 : decode cX3_combine 20 = .ok (.getfield 33, 3) := by decide +kernel
theorem dX3_combine_23 : decode cX3_combine 23 = .ok (.ifCond .ne 11, 3) := by decide +kernel
theorem dX3_combine_26 : decode cX3_combine 26 = .ok (.aload_n 0, 1) := by decide +kernel
theorem dX3_combine_27 : decode cX3_combine 27 = .ok (.iload_n 2, 1) := by decide +kernel
theorem dX3_combine_28 : decode cX3_combine 28 = .ok (.invokevirtual 63, 3) := by decide +kernel
theorem dX3_combine_31 : decode cX3_combine 31 = .ok (.goto 4, 3) := by decide +kernel
theorem dX3_combine_34 : decode cX3_combine 34 = .ok (.lconst 0, 1) := by decide +kernel
theorem dX3_combine_35 : decode cX3_combine 35 = .ok (.lstore 5, 2) := by decide +kernel
theorem dX3_combine_37 : decode cX3_combine 37 = .ok (.aload_n 0, 1) := by decide +kernel
theorem dX3_combine_38 : decode cX3_combine 38 = .ok (.getfield 12, 3) := by decide +kernel
theorem dX3_combine_41 : decode cX3_combine 41 = .ok (.dup, 1) := by decide +kernel
theorem dX3_combine_42 : decode cX3_combine 42 = .ok (.getfield 88, 3) := by decide +kernel
theorem dX3_combine_45 : decode cX3_combine 45 = .ok (.iconst 1, 1) := by decide +kernel
theorem dX3_combine_46 : decode cX3_combine 46 = .ok (.iadd, 1) := by decide +kernel
theorem dX3_combine_47 : decode cX3_combine 47 = .ok (.putfield 88, 3) := by decide +kernel
theorem dX3_combine_50 : decode cX3_combine 50 = .ok (.aload_n 0, 1) := by decide +kernel
theorem dX3_combine_51 : decode cX3_combine 51 = .ok (.getfield 33, 3) := by decide +kernel
theorem dX3_combine_54 : decode cX3_combine 54 = .ok (.ifCond .eq 5, 3) := by decide +kernel
theorem dX3_combine_57 : decode cX3_combine 57 = .ok (.lconst 0, 1) := by decide +kernel
theorem dX3_combine_58 : decode cX3_combine 58 = .ok (.lreturn, 1) := by decide +kernel
theorem dX3_combine_59 : decode cX3_combine 59 = .ok (.iload_n 1, 1) := by decide +kernel
theorem dX3_combine_60 : decode cX3_combine 60 = .ok (.iconst 4, 1) := by decide +kernel
theorem dX3_combine_61 : decode cX3_combine 61 = .ok (.if_icmp .ne 67, 3) := by decide +kernel
theorem dX3_combine_64 : decode cX3_combine 64 = .ok (.lload_n 3, 1) := by decide +kernel
theorem dX3_combine_65 : decode cX3_combine 65 = .ok (.lconst 0, 1) := by decide +kernel
theorem dX3_combine_66 : decode cX3_combine 66 = .ok (.lcmp, 1) := by decide +kernel
theorem dX3_combine_67 : decode cX3_combine 67 = .ok (.ifCond .lt 31, 3) := by decide +kernel
theorem dX3_combine_70 : decode cX3_combine 70 = .ok (.lload_n 3, 1) := by decide +kernel
theorem dX3_combine_71 : decode cX3_combine 71 = .ok (.ldc2_w 163, 3) := by decide +kernel
theorem dX3_combine_74 : decode cX3_combine 74 = .ok (.lcmp, 1) := by decide +kernel
theorem dX3_combine_75 : decode cX3_combine 75 = .ok (.ifCond .ge 23, 3) := by decide +kernel
theorem dX3_combine_78 : decode cX3_combine 78 = .ok (.lload 5, 2) := by decide +kernel
theorem dX3_combine_80 : decode cX3_combine 80 = .ok (.lconst 0, 1) := by decide +kernel
theorem dX3_combine_81 : decode cX3_combine 81 = .ok (.lcmp, 1) := by decide +kernel
theorem dX3_combine_82 : decode cX3_combine 82 = .ok (.ifCond .lt 16, 3) := by decide +kernel
theorem dX3_combine_85 : decode cX3_combine 85 = .ok (.lload 5, 2) := by decide +kernel
theorem dX3_combine_87 : decode cX3_combine 87 = .ok (.ldc2_w 165, 3) := by decide +kernel
theorem dX3_combine_90 : decode cX3_combine 90 = .ok (.lcmp, 1) := by decide +kernel
theorem dX3_combine_91 : decode cX3_combine 91 = .ok (.ifCond .ge 7, 3) := by decide +kernel
theorem dX3_combine_94 : decode cX3_combine 94 = .ok (.iconst 1, 1) := by decide +kernel
theorem dX3_combine_95 : decode cX3_combine 95 = .ok (.goto 4, 3) := by decide +kernel
theorem dX3_combine_98 : decode cX3_combine 98 = .ok (.iconst 0, 1) := by decide +kernel
theorem dX3_combine_99 : decode cX3_combine 99 = .ok (.istore 7, 2) := by decide +kernel
theorem dX3_combine_101 : decode cX3_combine 101 = .ok (.iload 7, 2) := by decide +kernel
theorem dX3_combine_103 : decode cX3_combine 103 = .ok (.ifCond .eq 19, 3) := by decide +kernel
theorem dX3_combine_106 : decode cX3_combine 106 = .ok (.aload_n 0, 1) := by decide +kernel
theorem dX3_combine_107 : decode cX3_combine 107 = .ok (.lload 5, 2) := by decide +kernel
theorem dX3_combine_109 : decode cX3_combine 109 = .ok (.ldc2_w 163, 3) := by decide +kernel
theorem dX3_combine_112 : decode cX3_combine 112 = .ok (.lmul, 1) := by decide +kernel
theorem dX3_combine_113 : decode cX3_combine 113 = .ok (.lload_n 3, 1) := by decide +kernel
theorem dX3_combine_114 : decode cX3_combine 114 = .ok (.ladd, 1) := by decide +kernel
theorem dX3_combine_115 : decode cX3_combine 115 = .ok (.l2i, 1) := by decide +kernel
theorem dX3_combine_116 : decode cX3_combine 116 = .ok (.invokevirtual 110, 3) := by decide +kernel
theorem dX3_combine_119 : decode cX3_combine 119 = .ok (.goto 8, 3) := by decide +kernel
theorem dX3_combine_122 : decode cX3_combine 122 = .ok (.aload_n 0, 1) := by decide +kernel
theorem dX3_combine_123 : decode cX3_combine 123 = .ok (.iconst 3, 1) := by decide +kernel
theorem dX3_combine_124 : decode cX3_combine 124 = .ok (.invokevirtual 85, 3) := by decide +kernel
theorem dX3_combine_127 : decode cX3_combine 127 = .ok (.lreturn, 1) := by decide +kernel
theorem dX3_combine_128 : decode cX3_combine 128 = .ok (.lload 5, 2) := by decide +kernel
theorem dX3_combine_130 : decode cX3_combine 130 = .ok (.lconst 0, 1) := by decide +kernel
theorem dX3_combine_131 : decode cX3_combine 131 = .ok (.lcmp, 1) := by decide +kernel
theorem dX3_combine_132 : decode cX3_combine 132 = .ok (.ifCond .ne 9, 3) := by decide +kernel
theorem dX3_combine_135 : decode cX3_combine 135 = .ok (.aload_n 0, 1) := by decide +kernel
theorem dX3_combine_136 : decode cX3_combine 136 = .ok (.iconst 2, 1) := by decide +kernel
theorem dX3_combine_137 : decode cX3_combine 137 = .ok (.invokevirtual 85, 3) := by decide +kernel
theorem dX3_combine_140 : decode cX3_combine 140 = .ok (.lreturn, 1) := by decide +kernel
theorem dX3_combine_141 : decode cX3_combine 141 = .ok (.iload_n 1, 1) := by decide +kernel
theorem dX3_combine_142 : decode cX3_combine 142 = .ok (.iconst 2, 1) := by decide +kernel
theorem dX3_combine_143 : decode cX3_combine 143 = .ok (.if_icmp .ne 12, 3) := by decide +kernel
theorem dX3_combine_146 : decode cX3_combine 146 = .ok (.lload_n 3, 1) := by decide +kernel
theorem dX3_combine_147 : decode cX3_combine 147 = .ok (.lload 5, 2) := by decide +kernel
theorem dX3_combine_149 : decode cX3_combine 149 = .ok (.invokestatic 167, 3) := by decide +kernel
theorem dX3_combine_152 : decode cX3_combine 152 = .ok (.goto 9, 3) := by decide +kernel
theorem dX3_combine_155 : decode cX3_combine 155 = .ok (.lload_n 3, 1) := by decide +kernel
theorem dX3_combine_156 : decode cX3_combine 156 = .ok (.lload 5, 2) := by decide +kernel
theorem dX3_combine_158 : decode cX3_combine 158 = .ok (.invokestatic 173, 3) := by decide +kernel
theorem dX3_combine_161 : decode cX3_combine 161 = .ok (.lreturn, 1) := by decide +kernel
theorem dX3_gather_0 : decode cX3_gather 0 = .ok (.ldc2_w 176, 3) := by decide +kernel
theorem dX3_gather_3 : decode cX3_gather 3 = .ok (.lstore_n 3, 1) := by decide +kernel
theorem dX3_gather_4 : decode cX3_gather 4 = .ok (.iconst 1, 1) := by decide +kernel
theorem dX3_gather_5 : decode cX3_gather 5 = .ok (.istore 5, 2) := by decide +kernel
theorem dX3_gather_7 : decode cX3_gather 7 = .ok (.iconst 0, 1) := by decide +kernel
theorem dX3_gather_8 : decode cX3_gather 8 = .ok (.istore 6, 2) := by decide +kernel
theorem dX3_gather_10 : decode cX3_gather 10 = .ok (.iload 6, 2) := by decide +kernel
theorem dX3_gather_12 : decode cX3_gather 12 = .ok (.getstatic 157, 3) := by decide +kernel
theorem dX3_gather_15 : decode cX3_gather 15 = .ok (.iload_n 1, 1) := by decide +kernel
theorem dX3_gather_16 : decode cX3_gather 16 = .ok (.iaload, 1) := by decide +kernel
theorem dX3_gather_17 : decode cX3_gather 17 = .ok (.if_icmp .ge 83, 3) := by decide +kernel
theorem dX3_gather_20 : decode cX3_gather 20 = .ok (.iload 5, 2) := by decide +kernel
theorem dX3_gather_22 : decode cX3_gather 22 = .ok (.ifCond .eq 78, 3) := by decide +kernel
theorem dX3_gather_25 : decode cX3_gather 25 = .ok (.aload_n 0, 1) := by decide +kernel
theorem dX3_gather_26 : decode cX3_gather 26 = .ok (.invokevirtual 178, 3) := by decide +kernel
theorem dX3_gather_29 : decode cX3_gather 29 = .ok (.ifCond .eq 13, 3) := by decide +kernel
theorem dX3_gather_32 : decode cX3_gather 32 = .ok (.aload_n 0, 1) := by decide +kernel
theorem dX3_gather_33 : decode cX3_gather 33 = .ok (.iload_n 1, 1) := by decide +kernel
theorem dX3_gather_34 : decode cX3_gather 34 = .ok (.lload_n 3, 1) := by decide +kernel
theorem dX3_gather_35 : decode cX3_gather 35 = .ok (.invokevirtual 181, 3) := by decide +kernel
theorem dX3_gather_38 : decode cX3_gather 38 = .ok (.lstore_n 3, 1) := by decide +kernel
theorem dX3_gather_39 : decode cX3_gather 39 = .ok (.goto 15, 3) := by decide +kernel
theorem dX3_gather_42 : decode cX3_gather 42 = .ok (.aload_n 0, 1) := by decide +kernel
theorem dX3_gather_43 : decode cX3_gather 43 = .ok (.iload_n 1, 1) := by decide +kernel
theorem dX3_gather_44 : decode cX3_gather 44 = .ok (.lload_n 3, 1) := by decide +kernel
theorem dX3_gather_45 : decode cX3_gather 45 = .ok (.aload_n 0, 1) := by decide +kernel
theorem dX3_gather_46 : decode cX3_gather 46 = .ok (.iload_n 2, 1) := by decide +kernel
theorem dX3_gather_47 : decode cX3_gather 47 = .ok (.invokevirtual 63, 3) := by decide +kernel
theorem dX3_gather_50 : decode cX3_gather 50 = .ok (.invokevirtual 185, 3) := by decide +kernel
theorem dX3_gather_53 : decode cX3_gather 53 = .ok (.lstore_n 3, 1) := by decide +kernel
theorem dX3_gather_54 : decode cX3_gather 54 = .ok (.aload_n 0, 1) := by decide +kernel
theorem dX3_gather_55 : decode cX3_gather 55 = .ok (.getfield 33, 3) := by decide +kernel
theorem dX3_gather_58 : decode cX3_gather 58 = .ok (.ifCond .ne 20, 3) := by decide +kernel
theorem dX3_gather_61 : decode cX3_gather 61 = .ok (.aload_n 0, 1) := by decide +kernel
theorem dX3_gather_62 : decode cX3_gather 62 = .ok (.getfield 12, 3) := by decide +kernel
theorem dX3_gather_65 : decode cX3_gather 65 = .ok (.iconst 0, 1) := by decide +kernel
theorem dX3_gather_66 : decode cX3_gather 66 = .ok (.invokevirtual 91, 3) := by decide +kernel
theorem dX3_gather_69 : decode cX3_gather 69 = .ok (.bipush 44, 2) := by decide +kernel
theorem dX3_gather_71 : decode cX3_gather 71 = .ok (.if_icmp .ne 7, 3) := by decide +kernel
theorem dX3_gather_74 : decode cX3_gather 74 = .ok (.iconst 1, 1) := by decide +kernel
theorem dX3_gather_75 : decode cX3_gather 75 = .ok (.goto 4, 3) := by decide +kernel
theorem dX3_gather_78 : decode cX3_gather 78 = .ok (.iconst 0, 1) := by decide +kernel
theorem dX3_gather_79 : decode cX3_gather 79 = .ok (.istore 5, 2) := by decide +kernel
theorem dX3_gather_81 : decode cX3_gather 81 = .ok (.aload_n 0, 1) := by decide +kernel
theorem dX3_gather_82 : decode cX3_gather 82 = .ok (.getfield 12, 3) := by decide +kernel
theorem dX3_gather_85 : decode cX3_gather 85 = .ok (.dup, 1) := by decide +kernel
theorem dX3_gather_86 : decode cX3_gather 86 = .ok (.getfield 88, 3) := by decide +kernel
theorem dX3_gather_89 : decode cX3_gather 89 = .ok (.iconst 1, 1) := by decide +kernel
theorem dX3_gather_90 : decode cX3_gather 90 = .ok (.iadd, 1) := by decide +kernel
theorem dX3_gather_91 : decode cX3_gather 91 = .ok (.putfield 88, 3) := by decide +kernel
theorem dX3_gather_94 : decode cX3_gather 94 = .ok (.iinc 6 1, 3) := by decide +kernel
theorem dX3_gather_97 : decode cX3_gather 97 = .ok (.goto (-87), 3) := by decide +kernel
theorem dX3_gather_100 : decode cX3_gather 100 = .ok (.lload_n 3, 1) := by decide +kernel
theorem dX3_gather_101 : decode cX3_gather 101 = .ok (.ldc2_w 176, 3) := by decide +kernel
theorem dX3_gather_104 : decode cX3_gather 104 = .ok (.lcmp, 1) := by decide +kernel
theorem dX3_gather_105 : decode cX3_gather 105 = .ok (.ifCond .ne 7, 3) := by decide +kernel
theorem dX3_gather_108 : decode cX3_gather 108 = .ok (.lconst 0, 1) := by decide +kernel
theorem dX3_gather_109 : decode cX3_gather 109 = .ok (.goto 4, 3) := by decide +kernel
theorem dX3_gather_112 : decode cX3_gather 112 = .ok (.lload_n 3, 1) := by decide +kernel
theorem dX3_gather_113 : decode cX3_gather 113 = .ok (.lreturn, 1) := by decide +kernel
theorem dX3_isAtArea_0 : decode cX3_isAtArea 0 = .ok (.aload_n 0, 1) := by decide +kernel
theorem dX3_isAtArea_1 : decode cX3_isAtArea 1 = .ok (.getfield 12, 3) := by decide +kernel
theorem dX3_isAtArea_4 : decode cX3_isAtArea 4 = .ok (.iconst 2, 1) := by decide +kernel
theorem dX3_isAtArea_5 : decode cX3_isAtArea 5 = .ok (.invokevirtual 91, 3) := by decide +kernel
theorem dX3_isAtArea_8 : decode cX3_isAtArea 8 = .ok (.istore_n 1, 1) := by decide +kernel
theorem dX3_isAtArea_9 : decode cX3_isAtArea 9 = .ok (.aload_n 0, 1) := by decide +kernel
theorem dX3_isAtArea_10 : decode cX3_isAtArea 10 = .ok (.getfield 12, 3) := by decide +kernel
theorem dX3_isAtArea_13 : decode cX3_isAtArea 13 = .ok (.invokevirtual 102, 3) := by decide +kernel
theorem dX3_isAtArea_16 : decode cX3_isAtArea 16 = .ok (.ifCond .eq 25, 3) := by decide +kernel
theorem dX3_isAtArea_19 : decode cX3_isAtArea 19 = .ok (.iload_n 1, 1) := by decide +kernel
theorem dX3_isAtArea_20 : decode cX3_isAtArea 20 = .ok (.bipush 58, 2) := by decide +kernel
theorem dX3_isAtArea_22 : decode cX3_isAtArea 22 = .ok (.if_icmp .eq 15, 3) := by decide +kernel
theorem dX3_isAtArea_25 : decode cX3_isAtArea 25 = .ok (.iload_n 1, 1) := by decide +kernel
theorem dX3_isAtArea_26 : decode cX3_isAtArea 26 = .ok (.bipush 44, 2) := by decide +kernel
theorem dX3_isAtArea_28 : decode cX3_isAtArea 28 = .ok (.if_icmp .eq 9, 3) := by decide +kernel
theorem dX3_isAtArea_31 : decode cX3_isAtArea 31 = .ok (.iload_n 1, 1) := by decide +kernel
theorem dX3_isAtArea_32 : decode cX3_isAtArea 32 = .ok (.bipush 41, 2) := by decide +kernel
theorem dX3_isAtArea_34 : decode cX3_isAtArea 34 = .ok (.if_icmp .ne 7, 3) := by decide +kernel
theorem dX3_isAtArea_37 : decode cX3_isAtArea 37 = .ok (.iconst 1, 1) := by decide +kernel
theorem dX3_isAtArea_38 : decode cX3_isAtArea 38 = .ok (.goto 4, 3) := by decide +kernel
theorem dX3_isAtArea_41 : decode cX3_isAtArea 41 = .ok (.iconst 0, 1) := by decide +kernel
theorem dX3_isAtArea_42 : decode cX3_isAtArea 42 = .ok (.ireturn, 1) := by decide +kernel
theorem dX3_gatherArea_0 : decode cX3_gatherArea 0 = .ok (.aload_n 0, 1) := by decide +kernel
theorem dX3_gatherArea_1 : decode cX3_gatherArea 1 = .ok (.invokevirtual 106, 3) := by decide +kernel
theorem dX3_gatherArea_4 : decode cX3_gatherArea 4 = .ok (.istore 4, 2) := by decide +kernel
theorem dX3_gatherArea_6 : decode cX3_gatherArea 6 = .ok (.aload_n 0, 1) := by decide +kernel
theorem dX3_gatherArea_7 : decode cX3_gatherArea 7 = .ok (.getfield 12, 3) := by decide +kernel
theorem dX3_gatherArea_10 : decode cX3_gatherArea 10 = .ok (.bipush 58, 2) := by decide +kernel
theorem dX3_gatherArea_12 : decode cX3_gatherArea 12 = .ok (.invokevirtual 70, 3) := by decide +kernel
theorem dX3_gatherArea_15 : decode cX3_gatherArea 15 = .ok (.ifCond .eq 10, 3) := by decide +kernel
theorem dX3_gatherArea_18 : decode cX3_gatherArea 18 = .ok (.aload_n 0, 1) := by decide +kernel
theorem dX3_gatherArea_19 : decode cX3_gatherArea 19 = .ok (.invokevirtual 106, 3) := by decide +kernel
theorem dX3_gatherArea_22 : decode cX3_gatherArea 22 = .ok (.goto 5, 3) := by decide +kernel
theorem dX3_gatherArea_25 : decode cX3_gatherArea 25 = .ok (.iload 4, 2) := by decide +kernel
theorem dX3_gatherArea_27 : decode cX3_gatherArea 27 = .ok (.istore 5, 2) := by decide +kernel
theorem dX3_gatherArea_29 : decode cX3_gatherArea 29 = .ok (.lload_n 2, 1) := by decide +kernel
theorem dX3_gatherArea_30 : decode cX3_gatherArea 30 = .ok (.lstore 6, 2) := by decide +kernel
theorem dX3_gatherArea_32 : decode cX3_gatherArea 32 = .ok (.iload 4, 2) := by decide +kernel
theorem dX3_gatherArea_34 : decode cX3_gatherArea 34 = .ok (.bipush 8, 2) := by decide +kernel
theorem dX3_gatherArea_36 : decode cX3_gatherArea 36 = .ok (.idiv, 1) := by decide +kernel
theorem dX3_gatherArea_37 : decode cX3_gatherArea 37 = .ok (.istore 8, 2) := by decide +kernel
theorem dX3_gatherArea_39 : decode cX3_gatherArea 39 = .ok (.iload 8, 2) := by decide +kernel
theorem dX3_gatherArea_41 : decode cX3_gatherArea 41 = .ok (.iload 5, 2) := by decide +kernel
theorem dX3_gatherArea_43 : decode cX3_gatherArea 43 = .ok (.bipush 8, 2) := by decide +kernel
theorem dX3_gatherArea_45 : decode cX3_gatherArea 45 = .ok (.idiv, 1) := by decide +kernel
theorem dX3_gatherArea_46 : decode cX3_gatherArea 46 = .ok (.if_icmp .gt 89, 3) := by decide +kernel
theorem dX3_gatherArea_49 : decode cX3_gatherArea 49 = .ok (.iload 4, 2) := by decide +kernel
theorem dX3_gatherArea_51 : decode cX3_gatherArea 51 = .ok (.bipush 8, 2) := by decide +kernel
theorem dX3_gatherArea_53 : decode cX3_gatherArea 53 = .ok (.irem, 1) := by decide +kernel
theorem dX3_gatherArea_54 : decode cX3_gatherArea 54 = .ok (.istore 9, 2) := by decide +kernel
theorem dX3_gatherArea_56 : decode cX3_gatherArea 56 = .ok (.iload 9, 2) := by decide +kernel
theorem dX3_gatherArea_58 : decode cX3_gatherArea 58 = .ok (.iload 5, 2) := by decide +kernel
theorem dX3_gatherArea_60 : decode cX3_gatherArea 60 = .ok (.bipush 8, 2) := by decide +kernel
theorem dX3_gatherArea_62 : decode cX3_gatherArea 62 = .ok (.irem, 1) := by decide +kernel
theorem dX3_gatherArea_63 : decode cX3_gatherArea 63 = .ok (.if_icmp .gt 66, 3) := by decide +kernel
theorem dX3_gatherArea_66 : decode cX3_gatherArea 66 = .ok (.iload 8, 2) := by decide +kernel
theorem dX3_gatherArea_68 : decode cX3_gatherArea 68 = .ok (.bipush 8, 2) := by decide +kernel
theorem dX3_gatherArea_70 : decode cX3_gatherArea 70 = .ok (.imul, 1) := by decide +kernel
theorem dX3_gatherArea_71 : decode cX3_gatherArea 71 = .ok (.iload 9, 2) := by decide +kernel
theorem dX3_gatherArea_73 : decode cX3_gatherArea 73 = .ok (.iadd, 1) := by decide +kernel
theorem dX3_gatherArea_74 : decode cX3_gatherArea 74 = .ok (.istore 10, 2) := by decide +kernel
theorem dX3_gatherArea_76 : decode cX3_gatherArea 76 = .ok (.aload_n 0, 1) := by decide +kernel
theorem dX3_gatherArea_77 : decode cX3_gatherArea 77 = .ok (.iload 10, 2) := by decide +kernel
theorem dX3_gatherArea_79 : decode cX3_gatherArea 79 = .ok (.invokevirtual 110, 3) := by decide +kernel
theorem dX3_gatherArea_82 : decode cX3_gatherArea 82 = .ok (.lstore 11, 2) := by decide +kernel
theorem dX3_gatherArea_84 : decode cX3_gatherArea 84 = .ok (.aload_n 0, 1) := by decide +kernel
theorem dX3_gatherArea_85 : decode cX3_gatherArea 85 = .ok (.getfield 33, 3) := by decide +kernel
theorem dX3_gatherArea_88 : decode cX3_gatherArea 88 = .ok (.ifCond .ne 26, 3) := by decide +kernel
theorem dX3_gatherArea_91 : decode cX3_gatherArea 91 = .ok (.aload_n 0, 1) := by decide +kernel
theorem dX3_gatherArea_92 : decode cX3_gatherArea 92 = .ok (.getfield 25, 3) := by decide +kernel
theorem dX3_gatherArea_95 : decode cX3_gatherArea 95 = .ok (.iload 10, 2) := by decide +kernel
theorem dX3_gatherArea_97 : decode cX3_gatherArea 97 = .ok (.invokevirtual 189, 3) := by decide +kernel
theorem dX3_gatherArea_100 : decode cX3_gatherArea 100 = .ok (.ifCond .ne 14, 3) := by decide +kernel
theorem dX3_gatherArea_103 : decode cX3_gatherArea 103 = .ok (.aload_n 0, 1) := by decide +kernel
theorem dX3_gatherArea_104 : decode cX3_gatherArea 104 = .ok (.iload_n 1, 1) := by decide +kernel
theorem dX3_gatherArea_105 : decode cX3_gatherArea 105 = .ok (.lload 6, 2) := by decide +kernel
theorem dX3_gatherArea_107 : decode cX3_gatherArea 107 = .ok (.lload 11, 2) := by decide +kernel
theorem dX3_gatherArea_109 : decode cX3_gatherArea 109 = .ok (.invokevirtual 185, 3) := by decide +kernel
theorem dX3_gatherArea_112 : decode cX3_gatherArea 112 = .ok (.lstore 6, 2) := by decide +kernel
theorem dX3_gatherArea_114 : decode cX3_gatherArea 114 = .ok (.aload_n 0, 1) := by decide +kernel
theorem dX3_gatherArea_115 : decode cX3_gatherArea 115 = .ok (.getfield 33, 3) := by decide +kernel
theorem dX3_gatherArea_118 : decode cX3_gatherArea 118 = .ok (.ifCond .eq 5, 3) := by decide +kernel
theorem dX3_gatherArea_121 : decode cX3_gatherArea 121 = .ok (.lconst 0, 1) := by decide +kernel
theorem dX3_gatherArea_122 : decode cX3_gatherArea 122 = .ok (.lreturn, 1) := by decide +kernel
theorem dX3_gatherArea_123 : decode cX3_gatherArea 123 = .ok (.iinc 9 1, 3) := by decide +kernel
theorem dX3_gatherArea_126 : decode cX3_gatherArea 126 = .ok (.goto (-70), 3) := by decide +kernel
theorem dX3_gatherArea_129 : decode cX3_gatherArea 129 = .ok (.iinc 8 1, 3) := by decide +kernel
theorem dX3_gatherArea_132 : decode cX3_gatherArea 132 = .ok (.goto (-93), 3) := by decide +kernel
theorem dX3_gatherArea_135 : decode cX3_gatherArea 135 = .ok (.lload 6, 2) := by decide +kernel
theorem dX3_gatherArea_137 : decode cX3_gatherArea 137 = .ok (.lreturn, 1) := by decide +kernel
theorem dX3_joined_0 : decode cX3_joined 0 = .ok (.aload_n 0, 1) := by decide +kernel
theorem dX3_joined_1 : decode cX3_joined 1 = .ok (.getfield 33, 3) := by decide +kernel
theorem dX3_joined_4 : decode cX3_joined 4 = .ok (.ifCond .eq 5, 3) := by decide +kernel
theorem dX3_joined_7 : decode cX3_joined 7 = .ok (.lconst 0, 1) := by decide +kernel
theorem dX3_joined_8 : decode cX3_joined 8 = .ok (.lreturn, 1) := by decide +kernel
theorem dX3_joined_9 : decode cX3_joined 9 = .ok (.iload_n 1, 1) := by decide +kernel
theorem dX3_joined_10 : decode cX3_joined 10 = .ok (.bipush 8, 2) := by decide +kernel
theorem dX3_joined_12 : decode cX3_joined 12 = .ok (.if_icmp .ne 19, 3) := by decide +kernel
theorem dX3_joined_15 : decode cX3_joined 15 = .ok (.lload_n 2, 1) := by decide +kernel
theorem dX3_joined_16 : decode cX3_joined 16 = .ok (.ldc2_w 176, 3) := by decide +kernel
theorem dX3_joined_19 : decode cX3_joined 19 = .ok (.lcmp, 1) := by decide +kernel
theorem dX3_joined_20 : decode cX3_joined 20 = .ok (.ifCond .ne 7, 3) := by decide +kernel
theorem dX3_joined_23 : decode cX3_joined 23 = .ok (.lconst 1, 1) := by decide +kernel
theorem dX3_joined_24 : decode cX3_joined 24 = .ok (.goto 6, 3) := by decide +kernel
theorem dX3_joined_27 : decode cX3_joined 27 = .ok (.lload_n 2, 1) := by decide +kernel
theorem dX3_joined_28 : decode cX3_joined 28 = .ok (.lconst 1, 1) := by decide +kernel
theorem dX3_joined_29 : decode cX3_joined 29 = .ok (.ladd, 1) := by decide +kernel
theorem dX3_joined_30 : decode cX3_joined 30 = .ok (.lreturn, 1) := by decide +kernel
theorem dX3_joined_31 : decode cX3_joined 31 = .ok (.lload_n 2, 1) := by decide +kernel
theorem dX3_joined_32 : decode cX3_joined 32 = .ok (.ldc2_w 176, 3) := by decide +kernel
theorem dX3_joined_35 : decode cX3_joined 35 = .ok (.lcmp, 1) := by decide +kernel
theorem dX3_joined_36 : decode cX3_joined 36 = .ok (.ifCond .ne 6, 3) := by decide +kernel
theorem dX3_joined_39 : decode cX3_joined 39 = .ok (.lload 4, 2) := by decide +kernel
theorem dX3_joined_41 : decode cX3_joined 41 = .ok (.lreturn, 1) := by decide +kernel
theorem dX3_joined_42 : decode cX3_joined 42 = .ok (.iload_n 1, 1) := by decide +kernel
theorem dX3_joined_43 : decode cX3_joined 43 = .ok (.lookupswitch 39 #[(5, 25), (6, 32)], 25) := by decide +kernel
theorem dX3_joined_68 : decode cX3_joined 68 = .ok (.lload_n 2, 1) := by decide +kernel
theorem dX3_joined_69 : decode cX3_joined 69 = .ok (.lload 4, 2) := by decide +kernel
theorem dX3_joined_71 : decode cX3_joined 71 = .ok (.invokestatic 192, 3) := by decide +kernel
theorem dX3_joined_74 : decode cX3_joined 74 = .ok (.lreturn, 1) := by decide +kernel
theorem dX3_joined_75 : decode cX3_joined 75 = .ok (.lload_n 2, 1) := by decide +kernel
theorem dX3_joined_76 : decode cX3_joined 76 = .ok (.lload 4, 2) := by decide +kernel
theorem dX3_joined_78 : decode cX3_joined 78 = .ok (.invokestatic 195, 3) := by decide +kernel
theorem dX3_joined_81 : decode cX3_joined 81 = .ok (.lreturn, 1) := by decide +kernel
theorem dX3_joined_82 : decode cX3_joined 82 = .ok (.aload_n 0, 1) := by decide +kernel
theorem dX3_joined_83 : decode cX3_joined 83 = .ok (.lload_n 2, 1) := by decide +kernel
theorem dX3_joined_84 : decode cX3_joined 84 = .ok (.lload 4, 2) := by decide +kernel
theorem dX3_joined_86 : decode cX3_joined 86 = .ok (.ladd, 1) := by decide +kernel
theorem dX3_joined_87 : decode cX3_joined 87 = .ok (.invokevirtual 74, 3) := by decide +kernel
theorem dX3_joined_90 : decode cX3_joined 90 = .ok (.lreturn, 1) := by decide +kernel
theorem dX4_init_0 : decode cX4_init 0 = .ok (.aload_n 0, 1) := by decide +kernel
theorem dX4_init_1 : decode cX4_init 1 = .ok (.invokespecial 3, 3) := by decide +kernel
theorem dX4_init_4 : decode cX4_init 4 = .ok (.aload_n 0, 1) := by decide +kernel
theorem dX4_init_5 : decode cX4_init 5 = .ok (.iconst 4, 1) := by decide +kernel
theorem dX4_init_6 : decode cX4_init 6 = .ok (.anewarray 9, 3) := by decide +kernel
theorem dX4_init_9 : decode cX4_init 9 = .ok (.putfield 11, 3) := by decide +kernel
theorem dX4_init_12 : decode cX4_init 12 = .ok (.iconst 0, 1) := by decide +kernel
theorem dX4_init_13 : decode cX4_init 13 = .ok (.istore_n 1, 1) := by decide +kernel
theorem dX4_init_14 : decode cX4_init 14 = .ok (.iload_n 1, 1) := by decide +kernel
theorem dX4_init_15 : decode cX4_init 15 = .ok (.iconst 4, 1) := by decide +kernel
theorem dX4_init_16 : decode cX4_init 16 = .ok (.if_icmp .ge 22, 3) := by decide +kernel
theorem dX4_init_19 : decode cX4_init 19 = .ok (.aload_n 0, 1) := by decide +kernel
theorem dX4_init_20 : decode cX4_init 20 = .ok (.getfield 11, 3) := by decide +kernel
theorem dX4_init_23 : decode cX4_init 23 = .ok (.iload_n 1, 1) := by decide +kernel
theorem dX4_init_24 : decode cX4_init 24 = .ok (.new 9, 3) := by decide +kernel
theorem dX4_init_27 : decode cX4_init 27 = .ok (.dup, 1) := by decide +kernel
theorem dX4_init_28 : decode cX4_init 28 = .ok (.invokespecial 17, 3) := by decide +kernel
theorem dX4_init_31 : decode cX4_init 31 = .ok (.aastore, 1) := by decide +kernel
theorem dX4_init_32 : decode cX4_init 32 = .ok (.iinc 1 1, 3) := by decide +kernel
theorem dX4_init_35 : decode cX4_init 35 = .ok (.goto (-21), 3) := by decide +kernel
theorem dX4_init_38 : decode cX4_init 38 = .ok (.return_, 1) := by decide +kernel
theorem dX4_keep_0 : decode cX4_keep 0 = .ok (.aload_n 0, 1) := by decide +kernel
theorem dX4_keep_1 : decode cX4_keep 1 = .ok (.getfield 18, 3) := by decide +kernel
theorem dX4_keep_4 : decode cX4_keep 4 = .ok (.iconst 4, 1) := by decide +kernel
theorem dX4_keep_5 : decode cX4_keep 5 = .ok (.if_icmp .lt 7, 3) := by decide +kernel
theorem dX4_keep_8 : decode cX4_keep 8 = .ok (.aload_n 0, 1) := by decide +kernel
theorem dX4_keep_9 : decode cX4_keep 9 = .ok (.invokevirtual 22, 3) := by decide +kernel
theorem dX4_keep_12 : decode cX4_keep 12 = .ok (.aload_n 0, 1) := by decide +kernel
theorem dX4_keep_13 : decode cX4_keep 13 = .ok (.getfield 11, 3) := by decide +kernel
theorem dX4_keep_16 : decode cX4_keep 16 = .ok (.aload_n 0, 1) := by decide +kernel
theorem dX4_keep_17 : decode cX4_keep 17 = .ok (.getfield 18, 3) := by decide +kernel
theorem dX4_keep_20 : decode cX4_keep 20 = .ok (.aaload, 1) := by decide +kernel
theorem dX4_keep_21 : decode cX4_keep 21 = .ok (.astore_n 2, 1) := by decide +kernel
theorem dX4_keep_22 : decode cX4_keep 22 = .ok (.aload_n 2, 1) := by decide +kernel
theorem dX4_keep_23 : decode cX4_keep 23 = .ok (.aload_n 1, 1) := by decide +kernel
theorem dX4_keep_24 : decode cX4_keep 24 = .ok (.invokevirtual 25, 3) := by decide +kernel
theorem dX4_keep_27 : decode cX4_keep 27 = .ok (.aload_n 0, 1) := by decide +kernel
theorem dX4_keep_28 : decode cX4_keep 28 = .ok (.dup, 1) := by decide +kernel
theorem dX4_keep_29 : decode cX4_keep 29 = .ok (.getfield 18, 3) := by decide +kernel
theorem dX4_keep_32 : decode cX4_keep 32 = .ok (.iconst 1, 1) := by decide +kernel
theorem dX4_keep_33 : decode cX4_keep 33 = .ok (.iadd, 1) := by decide +kernel
theorem dX4_keep_34 : decode cX4_keep 34 = .ok (.putfield 18, 3) := by decide +kernel
theorem dX4_keep_37 : decode cX4_keep 37 = .ok (.aload_n 2, 1) := by decide +kernel
theorem dX4_keep_38 : decode cX4_keep 38 = .ok (.areturn, 1) := by decide +kernel
theorem dX4_giveBack_0 : decode cX4_giveBack 0 = .ok (.aload_n 0, 1) := by decide +kernel
theorem dX4_giveBack_1 : decode cX4_giveBack 1 = .ok (.getfield 18, 3) := by decide +kernel
theorem dX4_giveBack_4 : decode cX4_giveBack 4 = .ok (.ifCond .le 26, 3) := by decide +kernel
theorem dX4_giveBack_7 : decode cX4_giveBack 7 = .ok (.aload_n 0, 1) := by decide +kernel
theorem dX4_giveBack_8 : decode cX4_giveBack 8 = .ok (.dup, 1) := by decide +kernel
theorem dX4_giveBack_9 : decode cX4_giveBack 9 = .ok (.getfield 18, 3) := by decide +kernel
theorem dX4_giveBack_12 : decode cX4_giveBack 12 = .ok (.iconst 1, 1) := by decide +kernel
theorem dX4_giveBack_13 : decode cX4_giveBack 13 = .ok (.isub, 1) := by decide +kernel
theorem dX4_giveBack_14 : decode cX4_giveBack 14 = .ok (.putfield 18, 3) := by decide +kernel
theorem dX4_giveBack_17 : decode cX4_giveBack 17 = .ok (.aload_n 1, 1) := by decide +kernel
theorem dX4_giveBack_18 : decode cX4_giveBack 18 = .ok (.aload_n 0, 1) := by decide +kernel
theorem dX4_giveBack_19 : decode cX4_giveBack 19 = .ok (.getfield 11, 3) := by decide +kernel
theorem dX4_giveBack_22 : decode cX4_giveBack 22 = .ok (.aload_n 0, 1) := by decide +kernel
theorem dX4_giveBack_23 : decode cX4_giveBack 23 = .ok (.getfield 18, 3) := by decide +kernel
theorem dX4_giveBack_26 : decode cX4_giveBack 26 = .ok (.aaload, 1) := by decide +kernel
theorem dX4_giveBack_27 : decode cX4_giveBack 27 = .ok (.invokevirtual 25, 3) := by decide +kernel
theorem dX4_giveBack_30 : decode cX4_giveBack 30 = .ok (.return_, 1) := by decide +kernel
theorem dX4_dropOldest_0 : decode cX4_dropOldest 0 = .ok (.aload_n 0, 1) := by decide +kernel
theorem dX4_dropOldest_1 : decode cX4_dropOldest 1 = .ok (.getfield 11, 3) := by decide +kernel
theorem dX4_dropOldest_4 : decode cX4_dropOldest 4 = .ok (.iconst 0, 1) := by decide +kernel
theorem dX4_dropOldest_5 : decode cX4_dropOldest 5 = .ok (.aaload, 1) := by decide +kernel
theorem dX4_dropOldest_6 : decode cX4_dropOldest 6 = .ok (.astore_n 1, 1) := by decide +kernel
theorem dX4_dropOldest_7 : decode cX4_dropOldest 7 = .ok (.iconst 1, 1) := by decide +kernel
theorem dX4_dropOldest_8 : decode cX4_dropOldest 8 = .ok (.istore_n 2, 1) := by decide +kernel
theorem dX4_dropOldest_9 : decode cX4_dropOldest 9 = .ok (.iload_n 2, 1) := by decide +kernel
theorem dX4_dropOldest_10 : decode cX4_dropOldest 10 = .ok (.iconst 4, 1) := by decide +kernel
theorem dX4_dropOldest_11 : decode cX4_dropOldest 11 = .ok (.if_icmp .ge 23, 3) := by decide +kernel
theorem dX4_dropOldest_14 : decode cX4_dropOldest 14 = .ok (.aload_n 0, 1) := by decide +kernel
theorem dX4_dropOldest_15 : decode cX4_dropOldest 15 = .ok (.getfield 11, 3) := by decide +kernel
theorem dX4_dropOldest_18 : decode cX4_dropOldest 18 = .ok (.iload_n 2, 1) := by decide +kernel
theorem dX4_dropOldest_19 : decode cX4_dropOldest 19 = .ok (.iconst 1, 1) := by decide +kernel
theorem dX4_dropOldest_20 : decode cX4_dropOldest 20 = .ok (.isub, 1) := by decide +kernel
theorem dX4_dropOldest_21 : decode cX4_dropOldest 21 = .ok (.aload_n 0, 1) := by decide +kernel
theorem dX4_dropOldest_22 : decode cX4_dropOldest 22 = .ok (.getfield 11, 3) := by decide +kernel
theorem dX4_dropOldest_25 : decode cX4_dropOldest 25 = .ok (.iload_n 2, 1) := by decide +kernel
theorem dX4_dropOldest_26 : decode cX4_dropOldest 26 = .ok (.aaload, 1) := by decide +kernel
theorem dX4_dropOldest_27 : decode cX4_dropOldest 27 = .ok (.aastore, 1) := by decide +kernel
theorem dX4_dropOldest_28 : decode cX4_dropOldest 28 = .ok (.iinc 2 1, 3) := by decide +kernel
theorem dX4_dropOldest_31 : decode cX4_dropOldest 31 = .ok (.goto (-22), 3) := by decide +kernel
theorem dX4_dropOldest_34 : decode cX4_dropOldest 34 = .ok (.aload_n 0, 1) := by decide +kernel
theorem dX4_dropOldest_35 : decode cX4_dropOldest 35 = .ok (.getfield 11, 3) := by decide +kernel
theorem dX4_dropOldest_38 : decode cX4_dropOldest 38 = .ok (.iconst 3, 1) := by decide +kernel
theorem dX4_dropOldest_39 : decode cX4_dropOldest 39 = .ok (.aload_n 1, 1) := by decide +kernel
theorem dX4_dropOldest_40 : decode cX4_dropOldest 40 = .ok (.aastore, 1) := by decide +kernel
theorem dX4_dropOldest_41 : decode cX4_dropOldest 41 = .ok (.aload_n 0, 1) := by decide +kernel
theorem dX4_dropOldest_42 : decode cX4_dropOldest 42 = .ok (.iconst 3, 1) := by decide +kernel
theorem dX4_dropOldest_43 : decode cX4_dropOldest 43 = .ok (.putfield 18, 3) := by decide +kernel
theorem dX4_dropOldest_46 : decode cX4_dropOldest 46 = .ok (.return_, 1) := by decide +kernel
theorem dX5_init_0 : decode cX5_init 0 = .ok (.aload_n 0, 1) := by decide +kernel
theorem dX5_init_1 : decode cX5_init 1 = .ok (.invokespecial 3, 3) := by decide +kernel
theorem dX5_init_4 : decode cX5_init 4 = .ok (.aload_n 0, 1) := by decide +kernel
theorem dX5_init_5 : decode cX5_init 5 = .ok (.new 9, 3) := by decide +kernel
theorem dX5_init_8 : decode cX5_init 8 = .ok (.dup, 1) := by decide +kernel
theorem dX5_init_9 : decode cX5_init 9 = .ok (.invokespecial 11, 3) := by decide +kernel
theorem dX5_init_12 : decode cX5_init 12 = .ok (.putfield 12, 3) := by decide +kernel
theorem dX5_init_15 : decode cX5_init 15 = .ok (.aload_n 0, 1) := by decide +kernel
theorem dX5_init_16 : decode cX5_init 16 = .ok (.new 9, 3) := by decide +kernel
theorem dX5_init_19 : decode cX5_init 19 = .ok (.dup, 1) := by decide +kernel
theorem dX5_init_20 : decode cX5_init 20 = .ok (.invokespecial 11, 3) := by decide +kernel
theorem dX5_init_23 : decode cX5_init 23 = .ok (.putfield 18, 3) := by decide +kernel
theorem dX5_init_26 : decode cX5_init 26 = .ok (.aload_n 0, 1) := by decide +kernel
theorem dX5_init_27 : decode cX5_init 27 = .ok (.bipush 72, 2) := by decide +kernel
theorem dX5_init_29 : decode cX5_init 29 = .ok (.newarray .int, 2) := by decide +kernel
theorem dX5_init_31 : decode cX5_init 31 = .ok (.putfield 21, 3) := by decide +kernel
theorem dX5_init_34 : decode cX5_init 34 = .ok (.aload_n 0, 1) := by decide +kernel
theorem dX5_init_35 : decode cX5_init 35 = .ok (.bipush 72, 2) := by decide +kernel
theorem dX5_init_37 : decode cX5_init 37 = .ok (.newarray .int, 2) := by decide +kernel
theorem dX5_init_39 : decode cX5_init 39 = .ok (.putfield 25, 3) := by decide +kernel
theorem dX5_init_42 : decode cX5_init 42 = .ok (.aload_n 0, 1) := by decide +kernel
theorem dX5_init_43 : decode cX5_init 43 = .ok (.bipush 72, 2) := by decide +kernel
theorem dX5_init_45 : decode cX5_init 45 = .ok (.newarray .int, 2) := by decide +kernel
theorem dX5_init_47 : decode cX5_init 47 = .ok (.putfield 28, 3) := by decide +kernel
theorem dX5_init_50 : decode cX5_init 50 = .ok (.aload_n 0, 1) := by decide +kernel
theorem dX5_init_51 : decode cX5_init 51 = .ok (.bipush 72, 2) := by decide +kernel
theorem dX5_init_53 : decode cX5_init 53 = .ok (.newarray .int, 2) := by decide +kernel
theorem dX5_init_55 : decode cX5_init 55 = .ok (.putfield 31, 3) := by decide +kernel
theorem dX5_init_58 : decode cX5_init 58 = .ok (.aload_n 0, 1) := by decide +kernel
theorem dX5_init_59 : decode cX5_init 59 = .ok (.bipush 72, 2) := by decide +kernel
theorem dX5_init_61 : decode cX5_init 61 = .ok (.newarray .int, 2) := by decide +kernel
theorem dX5_init_63 : decode cX5_init 63 = .ok (.putfield 34, 3) := by decide +kernel
theorem dX5_init_66 : decode cX5_init 66 = .ok (.aload_n 0, 1) := by decide +kernel
theorem dX5_init_67 : decode cX5_init 67 = .ok (.sipush 5184, 3) := by decide +kernel
theorem dX5_init_70 : decode cX5_init 70 = .ok (.newarray .int, 2) := by decide +kernel
theorem dX5_init_72 : decode cX5_init 72 = .ok (.putfield 37, 3) := by decide +kernel
theorem dX5_init_75 : decode cX5_init 75 = .ok (.aload_n 0, 1) := by decide +kernel
theorem dX5_init_76 : decode cX5_init 76 = .ok (.bipush 72, 2) := by decide +kernel
theorem dX5_init_78 : decode cX5_init 78 = .ok (.newarray .int, 2) := by decide +kernel
theorem dX5_init_80 : decode cX5_init 80 = .ok (.putfield 40, 3) := by decide +kernel
theorem dX5_init_83 : decode cX5_init 83 = .ok (.aload_n 0, 1) := by decide +kernel
theorem dX5_init_84 : decode cX5_init 84 = .ok (.bipush 72, 2) := by decide +kernel
theorem dX5_init_86 : decode cX5_init 86 = .ok (.newarray .int, 2) := by decide +kernel
theorem dX5_init_88 : decode cX5_init 88 = .ok (.putfield 43, 3) := by decide +kernel
theorem dX5_init_91 : decode cX5_init 91 = .ok (.aload_n 0, 1) := by decide +kernel
theorem dX5_init_92 : decode cX5_init 92 = .ok (.bipush 72, 2) := by decide +kernel
theorem dX5_init_94 : decode cX5_init 94 = .ok (.newarray .int, 2) := by decide +kernel
theorem dX5_init_96 : decode cX5_init 96 = .ok (.putfield 46, 3) := by decide +kernel
theorem dX5_init_99 : decode cX5_init 99 = .ok (.aload_n 0, 1) := by decide +kernel
theorem dX5_init_100 : decode cX5_init 100 = .ok (.iconst 1, 1) := by decide +kernel
theorem dX5_init_101 : decode cX5_init 101 = .ok (.putfield 49, 3) := by decide +kernel
theorem dX5_init_104 : decode cX5_init 104 = .ok (.iconst 0, 1) := by decide +kernel
theorem dX5_init_105 : decode cX5_init 105 = .ok (.istore_n 1, 1) := by decide +kernel
theorem dX5_init_106 : decode cX5_init 106 = .ok (.iload_n 1, 1) := by decide +kernel
theorem dX5_init_107 : decode cX5_init 107 = .ok (.bipush 72, 2) := by decide +kernel
theorem dX5_init_109 : decode cX5_init 109 = .ok (.if_icmp .ge 26, 3) := by decide +kernel
theorem dX5_init_112 : decode cX5_init 112 = .ok (.aload_n 0, 1) := by decide +kernel
theorem dX5_init_113 : decode cX5_init 113 = .ok (.getfield 18, 3) := by decide +kernel
theorem dX5_init_116 : decode cX5_init 116 = .ok (.getfield 53, 3) := by decide +kernel
theorem dX5_init_119 : decode cX5_init 119 = .ok (.iload_n 1, 1) := by decide +kernel
theorem dX5_init_120 : decode cX5_init 120 = .ok (.iconst (-1), 1) := by decide +kernel
theorem dX5_init_121 : decode cX5_init 121 = .ok (.iastore, 1) := by decide +kernel
theorem dX5_init_122 : decode cX5_init 122 = .ok (.aload_n 0, 1) := by decide +kernel
theorem dX5_init_123 : decode cX5_init 123 = .ok (.getfield 46, 3) := by decide +kernel
theorem dX5_init_126 : decode cX5_init 126 = .ok (.iload_n 1, 1) := by decide +kernel
theorem dX5_init_127 : decode cX5_init 127 = .ok (.iconst (-1), 1) := by decide +kernel
theorem dX5_init_128 : decode cX5_init 128 = .ok (.iastore, 1) := by decide +kernel
theorem dX5_init_129 : decode cX5_init 129 = .ok (.iinc 1 1, 3) := by decide +kernel
theorem dX5_init_132 : decode cX5_init 132 = .ok (.goto (-26), 3) := by decide +kernel
theorem dX5_init_135 : decode cX5_init 135 = .ok (.return_, 1) := by decide +kernel
theorem dX5_takeAll_0 : decode cX5_takeAll 0 = .ok (.aload_n 0, 1) := by decide +kernel
theorem dX5_takeAll_1 : decode cX5_takeAll 1 = .ok (.getfield 12, 3) := by decide +kernel
theorem dX5_takeAll_4 : decode cX5_takeAll 4 = .ok (.aload_n 1, 1) := by decide +kernel
theorem dX5_takeAll_5 : decode cX5_takeAll 5 = .ok (.getfield 12, 3) := by decide +kernel
theorem dX5_takeAll_8 : decode cX5_takeAll 8 = .ok (.invokevirtual 56, 3) := by decide +kernel
theorem dX5_takeAll_11 : decode cX5_takeAll 11 = .ok (.aload_n 0, 1) := by decide +kernel
theorem dX5_takeAll_12 : decode cX5_takeAll 12 = .ok (.getfield 18, 3) := by decide +kernel
theorem dX5_takeAll_15 : decode cX5_takeAll 15 = .ok (.aload_n 1, 1) := by decide +kernel
theorem dX5_takeAll_16 : decode cX5_takeAll 16 = .ok (.getfield 18, 3) := by decide +kernel
theorem dX5_takeAll_19 : decode cX5_takeAll 19 = .ok (.invokevirtual 56, 3) := by decide +kernel
theorem dX5_takeAll_22 : decode cX5_takeAll 22 = .ok (.aload_n 1, 1) := by decide +kernel
theorem dX5_takeAll_23 : decode cX5_takeAll 23 = .ok (.getfield 21, 3) := by decide +kernel
theorem dX5_takeAll_26 : decode cX5_takeAll 26 = .ok (.iconst 0, 1) := by decide +kernel
theorem dX5_takeAll_27 : decode cX5_takeAll 27 = .ok (.aload_n 0, 1) := by decide +kernel
theorem dX5_takeAll_28 : decode cX5_takeAll 28 = .ok (.getfield 21, 3) := by decide +kernel
theorem dX5_takeAll_31 : decode cX5_takeAll 31 = .ok (.iconst 0, 1) := by decide +kernel
theorem dX5_takeAll_32 : decode cX5_takeAll 32 = .ok (.bipush 72, 2) := by decide +kernel
theorem dX5_takeAll_34 : decode cX5_takeAll 34 = .ok (.invokestatic 60, 3) := by decide +kernel
theorem dX5_takeAll_37 : decode cX5_takeAll 37 = .ok (.aload_n 1, 1) := by decide +kernel
theorem dX5_takeAll_38 : decode cX5_takeAll 38 = .ok (.getfield 25, 3) := by decide +kernel
theorem dX5_takeAll_41 : decode cX5_takeAll 41 = .ok (.iconst 0, 1) := by decide +kernel
theorem dX5_takeAll_42 : decode cX5_takeAll 42 = .ok (.aload_n 0, 1) := by decide +kernel
theorem dX5_takeAll_43 : decode cX5_takeAll 43 = .ok (.getfield 25, 3) := by decide +kernel
theorem dX5_takeAll_46 : decode cX5_takeAll 46 = .ok (.iconst 0, 1) := by decide +kernel
theorem dX5_takeAll_47 : decode cX5_takeAll 47 = .ok (.bipush 72, 2) := by decide +kernel
theorem dX5_takeAll_49 : decode cX5_takeAll 49 = .ok (.invokestatic 60, 3) := by decide +kernel
theorem dX5_takeAll_52 : decode cX5_takeAll 52 = .ok (.aload_n 1, 1) := by decide +kernel
theorem dX5_takeAll_53 : decode cX5_takeAll 53 = .ok (.getfield 28, 3) := by decide +kernel
theorem dX5_takeAll_56 : decode cX5_takeAll 56 = .ok (.iconst 0, 1) := by decide +kernel
theorem dX5_takeAll_57 : decode cX5_takeAll 57 = .ok (.aload_n 0, 1) := by decide +kernel
theorem dX5_takeAll_58 : decode cX5_takeAll 58 = .ok (.getfield 28, 3) := by decide +kernel
theorem dX5_takeAll_61 : decode cX5_takeAll 61 = .ok (.iconst 0, 1) := by decide +kernel
theorem dX5_takeAll_62 : decode cX5_takeAll 62 = .ok (.bipush 72, 2) := by decide +kernel
theorem dX5_takeAll_64 : decode cX5_takeAll 64 = .ok (.invokestatic 60, 3) := by decide +kernel
theorem dX5_takeAll_67 : decode cX5_takeAll 67 = .ok (.aload_n 1, 1) := by decide +kernel
theorem dX5_takeAll_68 : decode cX5_takeAll 68 = .ok (.getfield 31, 3) := by decide +kernel
theorem dX5_takeAll_71 : decode cX5_takeAll 71 = .ok (.iconst 0, 1) := by decide +kernel
theorem dX5_takeAll_72 : decode cX5_takeAll 72 = .ok (.aload_n 0, 1) := by decide +kernel
theorem dX5_takeAll_73 : decode cX5_takeAll 73 = .ok (.getfield 31, 3) := by decide +kernel
theorem dX5_takeAll_76 : decode cX5_takeAll 76 = .ok (.iconst 0, 1) := by decide +kernel
theorem dX5_takeAll_77 : decode cX5_takeAll 77 = .ok (.bipush 72, 2) := by decide +kernel
theorem dX5_takeAll_79 : decode cX5_takeAll 79 = .ok (.invokestatic 60, 3) := by decide +kernel
theorem dX5_takeAll_82 : decode cX5_takeAll 82 = .ok (.aload_n 1, 1) := by decide +kernel
theorem dX5_takeAll_83 : decode cX5_takeAll 83 = .ok (.getfield 34, 3) := by decide +kernel
theorem dX5_takeAll_86 : decode cX5_takeAll 86 = .ok (.iconst 0, 1) := by decide +kernel
theorem dX5_takeAll_87 : decode cX5_takeAll 87 = .ok (.aload_n 0, 1) := by decide +kernel
theorem dX5_takeAll_88 : decode cX5_takeAll 88 = .ok (.getfield 34, 3) := by decide +kernel
theorem dX5_takeAll_91 : decode cX5_takeAll 91 = .ok (.iconst 0, 1) := by decide +kernel
theorem dX5_takeAll_92 : decode cX5_takeAll 92 = .ok (.bipush 72, 2) := by decide +kernel
theorem dX5_takeAll_94 : decode cX5_takeAll 94 = .ok (.invokestatic 60, 3) := by decide +kernel
theorem dX5_takeAll_97 : decode cX5_takeAll 97 = .ok (.aload_n 1, 1) := by decide +kernel
theorem dX5_takeAll_98 : decode cX5_takeAll 98 = .ok (.getfield 37, 3) := by decide +kernel
theorem dX5_takeAll_101 : decode cX5_takeAll 101 = .ok (.iconst 0, 1) := by decide +kernel
theorem dX5_takeAll_102 : decode cX5_takeAll 102 = .ok (.aload_n 0, 1) := by decide +kernel
theorem dX5_takeAll_103 : decode cX5_takeAll 103 = .ok (.getfield 37, 3) := by decide +kernel
theorem dX5_takeAll_106 : decode cX5_takeAll 106 = .ok (.iconst 0, 1) := by decide +kernel
theorem dX5_takeAll_107 : decode cX5_takeAll 107 = .ok (.sipush 5184, 3) := by decide +kernel
theorem dX5_takeAll_110 : decode cX5_takeAll 110 = .ok (.invokestatic 60, 3) := by decide +kernel
theorem dX5_takeAll_113 : decode cX5_takeAll 113 = .ok (.aload_n 1, 1) := by decide +kernel
theorem dX5_takeAll_114 : decode cX5_takeAll 114 = .ok (.getfield 40, 3) := by decide +kernel
theorem dX5_takeAll_117 : decode cX5_takeAll 117 = .ok (.iconst 0, 1) := by decide +kernel
theorem dX5_takeAll_118 : decode cX5_takeAll 118 = .ok (.aload_n 0, 1) := by decide +kernel
theorem dX5_takeAll_119 : decode cX5_takeAll 119 = .ok (.getfield 40, 3) := by decide +kernel
theorem dX5_takeAll_122 : decode cX5_takeAll 122 = .ok (.iconst 0, 1) := by decide +kernel
theorem dX5_takeAll_123 : decode cX5_takeAll 123 = .ok (.bipush 72, 2) := by decide +kernel
theorem dX5_takeAll_125 : decode cX5_takeAll 125 = .ok (.invokestatic 60, 3) := by decide +kernel
theorem dX5_takeAll_128 : decode cX5_takeAll 128 = .ok (.aload_n 1, 1) := by decide +kernel
theorem dX5_takeAll_129 : decode cX5_takeAll 129 = .ok (.getfield 43, 3) := by decide +kernel
theorem dX5_takeAll_132 : decode cX5_takeAll 132 = .ok (.iconst 0, 1) := by decide +kernel
theorem dX5_takeAll_133 : decode cX5_takeAll 133 = .ok (.aload_n 0, 1) := by decide +kernel
theorem dX5_takeAll_134 : decode cX5_takeAll 134 = .ok (.getfield 43, 3) := by decide +kernel
theorem dX5_takeAll_137 : decode cX5_takeAll 137 = .ok (.iconst 0, 1) := by decide +kernel
theorem dX5_takeAll_138 : decode cX5_takeAll 138 = .ok (.bipush 72, 2) := by decide +kernel
theorem dX5_takeAll_140 : decode cX5_takeAll 140 = .ok (.invokestatic 60, 3) := by decide +kernel
theorem dX5_takeAll_143 : decode cX5_takeAll 143 = .ok (.aload_n 1, 1) := by decide +kernel
theorem dX5_takeAll_144 : decode cX5_takeAll 144 = .ok (.getfield 46, 3) := by decide +kernel
theorem dX5_takeAll_147 : decode cX5_takeAll 147 = .ok (.iconst 0, 1) := by decide +kernel
theorem dX5_takeAll_148 : decode cX5_takeAll 148 = .ok (.aload_n 0, 1) := by decide +kernel
theorem dX5_takeAll_149 : decode cX5_takeAll 149 = .ok (.getfield 46, 3) := by decide +kernel
theorem dX5_takeAll_152 : decode cX5_takeAll 152 = .ok (.iconst 0, 1) := by decide +kernel
theorem dX5_takeAll_153 : decode cX5_takeAll 153 = .ok (.bipush 72, 2) := by decide +kernel
theorem dX5_takeAll_155 : decode cX5_takeAll 155 = .ok (.invokestatic 60, 3) := by decide +kernel
theorem dX5_takeAll_158 : decode cX5_takeAll 158 = .ok (.aload_n 0, 1) := by decide +kernel
theorem dX5_takeAll_159 : decode cX5_takeAll 159 = .ok (.aload_n 1, 1) := by decide +kernel
theorem dX5_takeAll_160 : decode cX5_takeAll 160 = .ok (.getfield 66, 3) := by decide +kernel
theorem dX5_takeAll_163 : decode cX5_takeAll 163 = .ok (.putfield 66, 3) := by decide +kernel
theorem dX5_takeAll_166 : decode cX5_takeAll 166 = .ok (.aload_n 0, 1) := by decide +kernel
theorem dX5_takeAll_167 : decode cX5_takeAll 167 = .ok (.aload_n 1, 1) := by decide +kernel
theorem dX5_takeAll_168 : decode cX5_takeAll 168 = .ok (.getfield 70, 3) := by decide +kernel
theorem dX5_takeAll_171 : decode cX5_takeAll 171 = .ok (.putfield 70, 3) := by decide +kernel
theorem dX5_takeAll_174 : decode cX5_takeAll 174 = .ok (.aload_n 0, 1) := by decide +kernel
theorem dX5_takeAll_175 : decode cX5_takeAll 175 = .ok (.aload_n 1, 1) := by decide +kernel
theorem dX5_takeAll_176 : decode cX5_takeAll 176 = .ok (.getfield 49, 3) := by decide +kernel
theorem dX5_takeAll_179 : decode cX5_takeAll 179 = .ok (.putfield 49, 3) := by decide +kernel
theorem dX5_takeAll_182 : decode cX5_takeAll 182 = .ok (.return_, 1) := by decide +kernel
theorem dX5_isEmpty_0 : decode cX5_isEmpty 0 = .ok (.aload_n 0, 1) := by decide +kernel
theorem dX5_isEmpty_1 : decode cX5_isEmpty 1 = .ok (.getfield 12, 3) := by decide +kernel
theorem dX5_isEmpty_4 : decode cX5_isEmpty 4 = .ok (.getfield 53, 3) := by decide +kernel
theorem dX5_isEmpty_7 : decode cX5_isEmpty 7 = .ok (.iload_n 1, 1) := by decide +kernel
theorem dX5_isEmpty_8 : decode cX5_isEmpty 8 = .ok (.iaload, 1) := by decide +kernel
theorem dX5_isEmpty_9 : decode cX5_isEmpty 9 = .ok (.ifCond .ne 7, 3) := by decide +kernel
theorem dX5_isEmpty_12 : decode cX5_isEmpty 12 = .ok (.iconst 1, 1) := by decide +kernel
theorem dX5_isEmpty_13 : decode cX5_isEmpty 13 = .ok (.goto 4, 3) := by decide +kernel
theorem dX5_isEmpty_16 : decode cX5_isEmpty 16 = .ok (.iconst 0, 1) := by decide +kernel
theorem dX5_isEmpty_17 : decode cX5_isEmpty 17 = .ok (.ireturn, 1) := by decide +kernel
theorem dX5_waits_0 : decode cX5_waits 0 = .ok (.aload_n 0, 1) := by decide +kernel
theorem dX5_waits_1 : decode cX5_waits 1 = .ok (.getfield 18, 3) := by decide +kernel
theorem dX5_waits_4 : decode cX5_waits 4 = .ok (.getfield 53, 3) := by decide +kernel
theorem dX5_waits_7 : decode cX5_waits 7 = .ok (.iload_n 1, 1) := by decide +kernel
theorem dX5_waits_8 : decode cX5_waits 8 = .ok (.iaload, 1) := by decide +kernel
theorem dX5_waits_9 : decode cX5_waits 9 = .ok (.iconst (-1), 1) := by decide +kernel
theorem dX5_waits_10 : decode cX5_waits 10 = .ok (.if_icmp .eq 7, 3) := by decide +kernel
theorem dX5_waits_13 : decode cX5_waits 13 = .ok (.iconst 1, 1) := by decide +kernel
theorem dX5_waits_14 : decode cX5_waits 14 = .ok (.goto 4, 3) := by decide +kernel
theorem dX5_waits_17 : decode cX5_waits 17 = .ok (.iconst 0, 1) := by decide +kernel
theorem dX5_waits_18 : decode cX5_waits 18 = .ok (.ireturn, 1) := by decide +kernel
theorem dX5_waitingEdits_0 : decode cX5_waitingEdits 0 = .ok (.iconst 0, 1) := by decide +kernel
theorem dX5_waitingEdits_1 : decode cX5_waitingEdits 1 = .ok (.istore_n 1, 1) := by decide +kernel
theorem dX5_waitingEdits_2 : decode cX5_waitingEdits 2 = .ok (.iconst 0, 1) := by decide +kernel
theorem dX5_waitingEdits_3 : decode cX5_waitingEdits 3 = .ok (.istore_n 2, 1) := by decide +kernel
theorem dX5_waitingEdits_4 : decode cX5_waitingEdits 4 = .ok (.iload_n 2, 1) := by decide +kernel
theorem dX5_waitingEdits_5 : decode cX5_waitingEdits 5 = .ok (.bipush 72, 2) := by decide +kernel
theorem dX5_waitingEdits_7 : decode cX5_waitingEdits 7 = .ok (.if_icmp .ge 20, 3) := by decide +kernel
theorem dX5_waitingEdits_10 : decode cX5_waitingEdits 10 = .ok (.aload_n 0, 1) := by decide +kernel
theorem dX5_waitingEdits_11 : decode cX5_waitingEdits 11 = .ok (.iload_n 2, 1) := by decide +kernel
theorem dX5_waitingEdits_12 : decode cX5_waitingEdits 12 = .ok (.invokevirtual 73, 3) := by decide +kernel
theorem dX5_waitingEdits_15 : decode cX5_waitingEdits 15 = .ok (.ifCond .eq 6, 3) := by decide +kernel
theorem dX5_waitingEdits_18 : decode cX5_waitingEdits 18 = .ok (.iinc 1 1, 3) := by decide +kernel
theorem dX5_waitingEdits_21 : decode cX5_waitingEdits 21 = .ok (.iinc 2 1, 3) := by decide +kernel
theorem dX5_waitingEdits_24 : decode cX5_waitingEdits 24 = .ok (.goto (-20), 3) := by decide +kernel
theorem dX5_waitingEdits_27 : decode cX5_waitingEdits 27 = .ok (.iload_n 1, 1) := by decide +kernel
theorem dX5_waitingEdits_28 : decode cX5_waitingEdits 28 = .ok (.ireturn, 1) := by decide +kernel
theorem dX5_readOf_0 : decode cX5_readOf 0 = .ok (.aload_n 0, 1) := by decide +kernel
theorem dX5_readOf_1 : decode cX5_readOf 1 = .ok (.getfield 37, 3) := by decide +kernel
theorem dX5_readOf_4 : decode cX5_readOf 4 = .ok (.iload_n 1, 1) := by decide +kernel
theorem dX5_readOf_5 : decode cX5_readOf 5 = .ok (.bipush 72, 2) := by decide +kernel
theorem dX5_readOf_7 : decode cX5_readOf 7 = .ok (.imul, 1) := by decide +kernel
theorem dX5_readOf_8 : decode cX5_readOf 8 = .ok (.iload_n 2, 1) := by decide +kernel
theorem dX5_readOf_9 : decode cX5_readOf 9 = .ok (.iadd, 1) := by decide +kernel
theorem dX5_readOf_10 : decode cX5_readOf 10 = .ok (.iaload, 1) := by decide +kernel
theorem dX5_readOf_11 : decode cX5_readOf 11 = .ok (.ireturn, 1) := by decide +kernel
theorem dX5_hasRead_0 : decode cX5_hasRead 0 = .ok (.iconst 0, 1) := by decide +kernel
theorem dX5_hasRead_1 : decode cX5_hasRead 1 = .ok (.istore_n 3, 1) := by decide +kernel
theorem dX5_hasRead_2 : decode cX5_hasRead 2 = .ok (.iload_n 3, 1) := by decide +kernel
theorem dX5_hasRead_3 : decode cX5_hasRead 3 = .ok (.aload_n 0, 1) := by decide +kernel
theorem dX5_hasRead_4 : decode cX5_hasRead 4 = .ok (.getfield 34, 3) := by decide +kernel
theorem dX5_hasRead_7 : decode cX5_hasRead 7 = .ok (.iload_n 1, 1) := by decide +kernel
theorem dX5_hasRead_8 : decode cX5_hasRead 8 = .ok (.iaload, 1) := by decide +kernel
theorem dX5_hasRead_9 : decode cX5_hasRead 9 = .ok (.if_icmp .ge 21, 3) := by decide +kernel
theorem dX5_hasRead_12 : decode cX5_hasRead 12 = .ok (.aload_n 0, 1) := by decide +kernel
theorem dX5_hasRead_13 : decode cX5_hasRead 13 = .ok (.iload_n 1, 1) := by decide +kernel
theorem dX5_hasRead_14 : decode cX5_hasRead 14 = .ok (.iload_n 3, 1) := by decide +kernel
theorem dX5_hasRead_15 : decode cX5_hasRead 15 = .ok (.invokevirtual 77, 3) := by decide +kernel
theorem dX5_hasRead_18 : decode cX5_hasRead 18 = .ok (.iload_n 2, 1) := by decide +kernel
theorem dX5_hasRead_19 : decode cX5_hasRead 19 = .ok (.if_icmp .ne 5, 3) := by decide +kernel
theorem dX5_hasRead_22 : decode cX5_hasRead 22 = .ok (.iconst 1, 1) := by decide +kernel
theorem dX5_hasRead_23 : decode cX5_hasRead 23 = .ok (.ireturn, 1) := by decide +kernel
theorem dX5_hasRead_24 : decode cX5_hasRead 24 = .ok (.iinc 3 1, 3) := by decide +kernel
theorem dX5_hasRead_27 : decode cX5_hasRead 27 = .ok (.goto (-25), 3) := by decide +kernel
theorem dX5_hasRead_30 : decode cX5_hasRead 30 = .ok (.iconst 0, 1) := by decide +kernel
theorem dX5_hasRead_31 : decode cX5_hasRead 31 = .ok (.ireturn, 1) := by decide +kernel
theorem dX5_fact_0 : decode cX5_fact 0 = .ok (.iload_n 2, 1) := by decide +kernel
theorem dX5_fact_1 : decode cX5_fact 1 = .ok (.tableswitch 134 0 7 #[47, 54, 76, 83, 97, 104, 120, 127], 47) := by decide +kernel
theorem dX5_fact_48 : decode cX5_fact 48 = .ok (.aload_n 0, 1) := by decide +kernel
theorem dX5_fact_49 : decode cX5_fact 49 = .ok (.getfield 25, 3) := by decide +kernel
theorem dX5_fact_52 : decode cX5_fact 52 = .ok (.iload_n 1, 1) := by decide +kernel
theorem dX5_fact_53 : decode cX5_fact 53 = .ok (.iaload, 1) := by decide +kernel
theorem dX5_fact_54 : decode cX5_fact 54 = .ok (.ireturn, 1) := by decide +kernel
theorem dX5_fact_55 : decode cX5_fact 55 = .ok (.aload_n 0, 1) := by decide +kernel
theorem dX5_fact_56 : decode cX5_fact 56 = .ok (.getfield 31, 3) := by decide +kernel
theorem dX5_fact_59 : decode cX5_fact 59 = .ok (.iload_n 1, 1) := by decide +kernel
theorem dX5_fact_60 : decode cX5_fact 60 = .ok (.iaload, 1) := by decide +kernel
theorem dX5_fact_61 : decode cX5_fact 61 = .ok (.iconst 1, 1) := by decide +kernel
theorem dX5_fact_62 : decode cX5_fact 62 = .ok (.if_icmp .ne 8, 3) := by decide +kernel
theorem dX5_fact_65 : decode cX5_fact 65 = .ok (.ldc 81, 2) := by decide +kernel
theorem dX5_fact_67 : decode cX5_fact 67 = .ok (.goto 9, 3) := by decide +kernel
theorem dX5_fact_70 : decode cX5_fact 70 = .ok (.aload_n 0, 1) := by decide +kernel
theorem dX5_fact_71 : decode cX5_fact 71 = .ok (.getfield 28, 3) := by decide +kernel
theorem dX5_fact_74 : decode cX5_fact 74 = .ok (.iload_n 1, 1) := by decide +kernel
theorem dX5_fact_75 : decode cX5_fact 75 = .ok (.iaload, 1) := by decide +kernel
theorem dX5_fact_76 : decode cX5_fact 76 = .ok (.ireturn, 1) := by decide +kernel
theorem dX5_fact_77 : decode cX5_fact 77 = .ok (.aload_n 0, 1) := by decide +kernel
theorem dX5_fact_78 : decode cX5_fact 78 = .ok (.getfield 34, 3) := by decide +kernel
theorem dX5_fact_81 : decode cX5_fact 81 = .ok (.iload_n 1, 1) := by decide +kernel
theorem dX5_fact_82 : decode cX5_fact 82 = .ok (.iaload, 1) := by decide +kernel
theorem dX5_fact_83 : decode cX5_fact 83 = .ok (.ireturn, 1) := by decide +kernel
theorem dX5_fact_84 : decode cX5_fact 84 = .ok (.aload_n 0, 1) := by decide +kernel
theorem dX5_fact_85 : decode cX5_fact 85 = .ok (.iload_n 1, 1) := by decide +kernel
theorem dX5_fact_86 : decode cX5_fact 86 = .ok (.invokevirtual 82, 3) := by decide +kernel
theorem dX5_fact_89 : decode cX5_fact 89 = .ok (.ifCond .eq 7, 3) := by decide +kernel
theorem dX5_fact_92 : decode cX5_fact 92 = .ok (.iconst 1, 1) := by decide +kernel
theorem dX5_fact_93 : decode cX5_fact 93 = .ok (.goto 4, 3) := by decide +kernel
theorem dX5_fact_96 : decode cX5_fact 96 = .ok (.iconst 0, 1) := by decide +kernel
theorem dX5_fact_97 : decode cX5_fact 97 = .ok (.ireturn, 1) := by decide +kernel
theorem dX5_fact_98 : decode cX5_fact 98 = .ok (.aload_n 0, 1) := by decide +kernel
theorem dX5_fact_99 : decode cX5_fact 99 = .ok (.getfield 40, 3) := by decide +kernel
theorem dX5_fact_102 : decode cX5_fact 102 = .ok (.iload_n 1, 1) := by decide +kernel
theorem dX5_fact_103 : decode cX5_fact 103 = .ok (.iaload, 1) := by decide +kernel
theorem dX5_fact_104 : decode cX5_fact 104 = .ok (.ireturn, 1) := by decide +kernel
theorem dX5_fact_105 : decode cX5_fact 105 = .ok (.aload_n 0, 1) := by decide +kernel
theorem dX5_fact_106 : decode cX5_fact 106 = .ok (.getfield 46, 3) := by decide +kernel
theorem dX5_fact_109 : decode cX5_fact 109 = .ok (.iload_n 1, 1) := by decide +kernel
theorem dX5_fact_110 : decode cX5_fact 110 = .ok (.iaload, 1) := by decide +kernel
theorem dX5_fact_111 : decode cX5_fact 111 = .ok (.iconst (-1), 1) := by decide +kernel
theorem dX5_fact_112 : decode cX5_fact 112 = .ok (.if_icmp .ne 7, 3) := by decide +kernel
theorem dX5_fact_115 : decode cX5_fact 115 = .ok (.iconst 0, 1) := by decide +kernel
theorem dX5_fact_116 : decode cX5_fact 116 = .ok (.goto 4, 3) := by decide +kernel
theorem dX5_fact_119 : decode cX5_fact 119 = .ok (.iconst 1, 1) := by decide +kernel
theorem dX5_fact_120 : decode cX5_fact 120 = .ok (.ireturn, 1) := by decide +kernel
theorem dX5_fact_121 : decode cX5_fact 121 = .ok (.aload_n 0, 1) := by decide +kernel
theorem dX5_fact_122 : decode cX5_fact 122 = .ok (.getfield 43, 3) := by decide +kernel
theorem dX5_fact_125 : decode cX5_fact 125 = .ok (.iload_n 1, 1) := by decide +kernel
theorem dX5_fact_126 : decode cX5_fact 126 = .ok (.iaload, 1) := by decide +kernel
theorem dX5_fact_127 : decode cX5_fact 127 = .ok (.ireturn, 1) := by decide +kernel
theorem dX5_fact_128 : decode cX5_fact 128 = .ok (.aload_n 0, 1) := by decide +kernel
theorem dX5_fact_129 : decode cX5_fact 129 = .ok (.getfield 31, 3) := by decide +kernel
theorem dX5_fact_132 : decode cX5_fact 132 = .ok (.iload_n 1, 1) := by decide +kernel
theorem dX5_fact_133 : decode cX5_fact 133 = .ok (.iaload, 1) := by decide +kernel
theorem dX5_fact_134 : decode cX5_fact 134 = .ok (.ireturn, 1) := by decide +kernel
theorem dX5_fact_135 : decode cX5_fact 135 = .ok (.aload_n 0, 1) := by decide +kernel
theorem dX5_fact_136 : decode cX5_fact 136 = .ok (.getfield 12, 3) := by decide +kernel
theorem dX5_fact_139 : decode cX5_fact 139 = .ok (.getfield 53, 3) := by decide +kernel
theorem dX5_fact_142 : decode cX5_fact 142 = .ok (.iload_n 1, 1) := by decide +kernel
theorem dX5_fact_143 : decode cX5_fact 143 = .ok (.iaload, 1) := by decide +kernel
theorem dX5_fact_144 : decode cX5_fact 144 = .ok (.ireturn, 1) := by decide +kernel
theorem dX5_cellsWithErrors_0 : decode cX5_cellsWithErrors 0 = .ok (.iconst 0, 1) := by decide +kernel
theorem dX5_cellsWithErrors_1 : decode cX5_cellsWithErrors 1 = .ok (.istore_n 1, 1) := by decide +kernel
theorem dX5_cellsWithErrors_2 : decode cX5_cellsWithErrors 2 = .ok (.iconst 0, 1) := by decide +kernel
theorem dX5_cellsWithErrors_3 : decode cX5_cellsWithErrors 3 = .ok (.istore_n 2, 1) := by decide +kernel
theorem dX5_cellsWithErrors_4 : decode cX5_cellsWithErrors 4 = .ok (.iload_n 2, 1) := by decide +kernel
theorem dX5_cellsWithErrors_5 : decode cX5_cellsWithErrors 5 = .ok (.bipush 72, 2) := by decide +kernel
theorem dX5_cellsWithErrors_7 : decode cX5_cellsWithErrors 7 = .ok (.if_icmp .ge 21, 3) := by decide +kernel
theorem dX5_cellsWithErrors_10 : decode cX5_cellsWithErrors 10 = .ok (.aload_n 0, 1) := by decide +kernel
theorem dX5_cellsWithErrors_11 : decode cX5_cellsWithErrors 11 = .ok (.getfield 25, 3) := by decide +kernel
theorem dX5_cellsWithErrors_14 : decode cX5_cellsWithErrors 14 = .ok (.iload_n 2, 1) := by decide +kernel
theorem dX5_cellsWithErrors_15 : decode cX5_cellsWithErrors 15 = .ok (.iaload, 1) := by decide +kernel
theorem dX5_cellsWithErrors_16 : decode cX5_cellsWithErrors 16 = .ok (.ifCond .eq 6, 3) := by decide +kernel
theorem dX5_cellsWithErrors_19 : decode cX5_cellsWithErrors 19 = .ok (.iinc 1 1, 3) := by decide +kernel
theorem dX5_cellsWithErrors_22 : decode cX5_cellsWithErrors 22 = .ok (.iinc 2 1, 3) := by decide +kernel
theorem dX5_cellsWithErrors_25 : decode cX5_cellsWithErrors 25 = .ok (.goto (-21), 3) := by decide +kernel
theorem dX5_cellsWithErrors_28 : decode cX5_cellsWithErrors 28 = .ok (.iload_n 1, 1) := by decide +kernel
theorem dX5_cellsWithErrors_29 : decode cX5_cellsWithErrors 29 = .ok (.ireturn, 1) := by decide +kernel
theorem dX5_greatestHeight_0 : decode cX5_greatestHeight 0 = .ok (.iconst 0, 1) := by decide +kernel
theorem dX5_greatestHeight_1 : decode cX5_greatestHeight 1 = .ok (.istore_n 1, 1) := by decide +kernel
theorem dX5_greatestHeight_2 : decode cX5_greatestHeight 2 = .ok (.iconst 0, 1) := by decide +kernel
theorem dX5_greatestHeight_3 : decode cX5_greatestHeight 3 = .ok (.istore_n 2, 1) := by decide +kernel
theorem dX5_greatestHeight_4 : decode cX5_greatestHeight 4 = .ok (.iload_n 2, 1) := by decide +kernel
theorem dX5_greatestHeight_5 : decode cX5_greatestHeight 5 = .ok (.bipush 72, 2) := by decide +kernel
theorem dX5_greatestHeight_7 : decode cX5_greatestHeight 7 = .ok (.if_icmp .ge 29, 3) := by decide +kernel
theorem dX5_greatestHeight_10 : decode cX5_greatestHeight 10 = .ok (.aload_n 0, 1) := by decide +kernel
theorem dX5_greatestHeight_11 : decode cX5_greatestHeight 11 = .ok (.getfield 31, 3) := by decide +kernel
theorem dX5_greatestHeight_14 : decode cX5_greatestHeight 14 = .ok (.iload_n 2, 1) := by decide +kernel
theorem dX5_greatestHeight_15 : decode cX5_greatestHeight 15 = .ok (.iaload, 1) := by decide +kernel
theorem dX5_greatestHeight_16 : decode cX5_greatestHeight 16 = .ok (.ifCond .ne 14, 3) := by decide +kernel
theorem dX5_greatestHeight_19 : decode cX5_greatestHeight 19 = .ok (.iload_n 1, 1) := by decide +kernel
theorem dX5_greatestHeight_20 : decode cX5_greatestHeight 20 = .ok (.aload_n 0, 1) := by decide +kernel
theorem dX5_greatestHeight_21 : decode cX5_greatestHeight 21 = .ok (.getfield 28, 3) := by decide +kernel
theorem dX5_greatestHeight_24 : decode cX5_greatestHeight 24 = .ok (.iload_n 2, 1) := by decide +kernel
theorem dX5_greatestHeight_25 : decode cX5_greatestHeight 25 = .ok (.iaload, 1) := by decide +kernel
theorem dX5_greatestHeight_26 : decode cX5_greatestHeight 26 = .ok (.invokestatic 85, 3) := by decide +kernel
theorem dX5_greatestHeight_29 : decode cX5_greatestHeight 29 = .ok (.istore_n 1, 1) := by decide +kernel
theorem dX5_greatestHeight_30 : decode cX5_greatestHeight 30 = .ok (.iinc 2 1, 3) := by decide +kernel
theorem dX5_greatestHeight_33 : decode cX5_greatestHeight 33 = .ok (.goto (-29), 3) := by decide +kernel
theorem dX5_greatestHeight_36 : decode cX5_greatestHeight 36 = .ok (.iload_n 1, 1) := by decide +kernel
theorem dX5_greatestHeight_37 : decode cX5_greatestHeight 37 = .ok (.ireturn, 1) := by decide +kernel
theorem dX5_rankOf_0 : decode cX5_rankOf 0 = .ok (.aload_n 0, 1) := by decide +kernel
theorem dX5_rankOf_1 : decode cX5_rankOf 1 = .ok (.getfield 31, 3) := by decide +kernel
theorem dX5_rankOf_4 : decode cX5_rankOf 4 = .ok (.iload_n 1, 1) := by decide +kernel
theorem dX5_rankOf_5 : decode cX5_rankOf 5 = .ok (.iaload, 1) := by decide +kernel
theorem dX5_rankOf_6 : decode cX5_rankOf 6 = .ok (.iconst 1, 1) := by decide +kernel
theorem dX5_rankOf_7 : decode cX5_rankOf 7 = .ok (.if_icmp .ne 8, 3) := by decide +kernel
theorem dX5_rankOf_10 : decode cX5_rankOf 10 = .ok (.bipush 72, 2) := by decide +kernel
theorem dX5_rankOf_12 : decode cX5_rankOf 12 = .ok (.goto 9, 3) := by decide +kernel
theorem dX5_rankOf_15 : decode cX5_rankOf 15 = .ok (.aload_n 0, 1) := by decide +kernel
theorem dX5_rankOf_16 : decode cX5_rankOf 16 = .ok (.getfield 28, 3) := by decide +kernel
theorem dX5_rankOf_19 : decode cX5_rankOf 19 = .ok (.iload_n 1, 1) := by decide +kernel
theorem dX5_rankOf_20 : decode cX5_rankOf 20 = .ok (.iaload, 1) := by decide +kernel
theorem dX5_rankOf_21 : decode cX5_rankOf 21 = .ok (.ireturn, 1) := by decide +kernel
theorem dX5_markChanges_0 : decode cX5_markChanges 0 = .ok (.iconst 0, 1) := by decide +kernel
theorem dX5_markChanges_1 : decode cX5_markChanges 1 = .ok (.istore_n 2, 1) := by decide +kernel
theorem dX5_markChanges_2 : decode cX5_markChanges 2 = .ok (.iload_n 2, 1) := by decide +kernel
theorem dX5_markChanges_3 : decode cX5_markChanges 3 = .ok (.bipush 72, 2) := by decide +kernel
theorem dX5_markChanges_5 : decode cX5_markChanges 5 = .ok (.if_icmp .ge 73, 3) := by decide +kernel
theorem dX5_markChanges_8 : decode cX5_markChanges 8 = .ok (.aload_n 0, 1) := by decide +kernel
theorem dX5_markChanges_9 : decode cX5_markChanges 9 = .ok (.getfield 21, 3) := by decide +kernel
theorem dX5_markChanges_12 : decode cX5_markChanges 12 = .ok (.iload_n 2, 1) := by decide +kernel
theorem dX5_markChanges_13 : decode cX5_markChanges 13 = .ok (.iaload, 1) := by decide +kernel
theorem dX5_markChanges_14 : decode cX5_markChanges 14 = .ok (.aload_n 1, 1) := by decide +kernel
theorem dX5_markChanges_15 : decode cX5_markChanges 15 = .ok (.getfield 21, 3) := by decide +kernel
theorem dX5_markChanges_18 : decode cX5_markChanges 18 = .ok (.iload_n 2, 1) := by decide +kernel
theorem dX5_markChanges_19 : decode cX5_markChanges 19 = .ok (.iaload, 1) := by decide +kernel
theorem dX5_markChanges_20 : decode cX5_markChanges 20 = .ok (.if_icmp .ne 35, 3) := by decide +kernel
theorem dX5_markChanges_23 : decode cX5_markChanges 23 = .ok (.aload_n 0, 1) := by decide +kernel
theorem dX5_markChanges_24 : decode cX5_markChanges 24 = .ok (.getfield 25, 3) := by decide +kernel
theorem dX5_markChanges_27 : decode cX5_markChanges 27 = .ok (.iload_n 2, 1) := by decide +kernel
theorem dX5_markChanges_28 : decode cX5_markChanges 28 = .ok (.iaload, 1) := by decide +kernel
theorem dX5_markChanges_29 : decode cX5_markChanges 29 = .ok (.aload_n 1, 1) := by decide +kernel
theorem dX5_markChanges_30 : decode cX5_markChanges 30 = .ok (.getfield 25, 3) := by decide +kernel
theorem dX5_markChanges_33 : decode cX5_markChanges 33 = .ok (.iload_n 2, 1) := by decide +kernel
theorem dX5_markChanges_34 : decode cX5_markChanges 34 = .ok (.iaload, 1) := by decide +kernel
theorem dX5_markChanges_35 : decode cX5_markChanges 35 = .ok (.if_icmp .ne 20, 3) := by decide +kernel
theorem dX5_markChanges_38 : decode cX5_markChanges 38 = .ok (.aload_n 0, 1) := by decide +kernel
theorem dX5_markChanges_39 : decode cX5_markChanges 39 = .ok (.iload_n 2, 1) := by decide +kernel
theorem dX5_markChanges_40 : decode cX5_markChanges 40 = .ok (.invokevirtual 82, 3) := by decide +kernel
theorem dX5_markChanges_43 : decode cX5_markChanges 43 = .ok (.aload_n 1, 1) := by decide +kernel
theorem dX5_markChanges_44 : decode cX5_markChanges 44 = .ok (.iload_n 2, 1) := by decide +kernel
theorem dX5_markChanges_45 : decode cX5_markChanges 45 = .ok (.invokevirtual 82, 3) := by decide +kernel
theorem dX5_markChanges_48 : decode cX5_markChanges 48 = .ok (.if_icmp .ne 7, 3) := by decide +kernel
theorem dX5_markChanges_51 : decode cX5_markChanges 51 = .ok (.iconst 1, 1) := by decide +kernel
theorem dX5_markChanges_52 : decode cX5_markChanges 52 = .ok (.goto 4, 3) := by decide +kernel
theorem dX5_markChanges_55 : decode cX5_markChanges 55 = .ok (.iconst 0, 1) := by decide +kernel
theorem dX5_markChanges_56 : decode cX5_markChanges 56 = .ok (.istore_n 3, 1) := by decide +kernel
theorem dX5_markChanges_57 : decode cX5_markChanges 57 = .ok (.aload_n 0, 1) := by decide +kernel
theorem dX5_markChanges_58 : decode cX5_markChanges 58 = .ok (.getfield 43, 3) := by decide +kernel
theorem dX5_markChanges_61 : decode cX5_markChanges 61 = .ok (.iload_n 2, 1) := by decide +kernel
theorem dX5_markChanges_62 : decode cX5_markChanges 62 = .ok (.iload_n 3, 1) := by decide +kernel
theorem dX5_markChanges_63 : decode cX5_markChanges 63 = .ok (.ifCond .eq 7, 3) := by decide +kernel
theorem dX5_markChanges_66 : decode cX5_markChanges 66 = .ok (.iconst 0, 1) := by decide +kernel
theorem dX5_markChanges_67 : decode cX5_markChanges 67 = .ok (.goto 4, 3) := by decide +kernel
theorem dX5_markChanges_70 : decode cX5_markChanges 70 = .ok (.iconst 1, 1) := by decide +kernel
theorem dX5_markChanges_71 : decode cX5_markChanges 71 = .ok (.iastore, 1) := by decide +kernel
theorem dX5_markChanges_72 : decode cX5_markChanges 72 = .ok (.iinc 2 1, 3) := by decide +kernel
theorem dX5_markChanges_75 : decode cX5_markChanges 75 = .ok (.goto (-73), 3) := by decide +kernel
theorem dX5_markChanges_78 : decode cX5_markChanges 78 = .ok (.return_, 1) := by decide +kernel
theorem dX5_causeOf_0 : decode cX5_causeOf 0 = .ok (.iload_n 3, 1) := by decide +kernel
theorem dX5_causeOf_1 : decode cX5_causeOf 1 = .ok (.ifCond .eq 5, 3) := by decide +kernel
theorem dX5_causeOf_4 : decode cX5_causeOf 4 = .ok (.iload_n 1, 1) := by decide +kernel
theorem dX5_causeOf_5 : decode cX5_causeOf 5 = .ok (.ireturn, 1) := by decide +kernel
theorem dX5_causeOf_6 : decode cX5_causeOf 6 = .ok (.iconst 0, 1) := by decide +kernel
theorem dX5_causeOf_7 : decode cX5_causeOf 7 = .ok (.istore 4, 2) := by decide +kernel
theorem dX5_causeOf_9 : decode cX5_causeOf 9 = .ok (.iload 4, 2) := by decide +kernel
theorem dX5_causeOf_11 : decode cX5_causeOf 11 = .ok (.aload_n 2, 1) := by decide +kernel
theorem dX5_causeOf_12 : decode cX5_causeOf 12 = .ok (.getfield 34, 3) := by decide +kernel
theorem dX5_causeOf_15 : decode cX5_causeOf 15 = .ok (.iload_n 1, 1) := by decide +kernel
theorem dX5_causeOf_16 : decode cX5_causeOf 16 = .ok (.iaload, 1) := by decide +kernel
theorem dX5_causeOf_17 : decode cX5_causeOf 17 = .ok (.if_icmp .ge 32, 3) := by decide +kernel
theorem dX5_causeOf_20 : decode cX5_causeOf 20 = .ok (.aload_n 2, 1) := by decide +kernel
theorem dX5_causeOf_21 : decode cX5_causeOf 21 = .ok (.iload_n 1, 1) := by decide +kernel
theorem dX5_causeOf_22 : decode cX5_causeOf 22 = .ok (.iload 4, 2) := by decide +kernel
theorem dX5_causeOf_24 : decode cX5_causeOf 24 = .ok (.invokevirtual 77, 3) := by decide +kernel
theorem dX5_causeOf_27 : decode cX5_causeOf 27 = .ok (.istore 5, 2) := by decide +kernel
theorem dX5_causeOf_29 : decode cX5_causeOf 29 = .ok (.aload_n 0, 1) := by decide +kernel
theorem dX5_causeOf_30 : decode cX5_causeOf 30 = .ok (.getfield 43, 3) := by decide +kernel
theorem dX5_causeOf_33 : decode cX5_causeOf 33 = .ok (.iload 5, 2) := by decide +kernel
theorem dX5_causeOf_35 : decode cX5_causeOf 35 = .ok (.iaload, 1) := by decide +kernel
theorem dX5_causeOf_36 : decode cX5_causeOf 36 = .ok (.iconst 1, 1) := by decide +kernel
theorem dX5_causeOf_37 : decode cX5_causeOf 37 = .ok (.if_icmp .ne 6, 3) := by decide +kernel
theorem dX5_causeOf_40 : decode cX5_causeOf 40 = .ok (.iload 5, 2) := by decide +kernel
theorem dX5_causeOf_42 : decode cX5_causeOf 42 = .ok (.ireturn, 1) := by decide +kernel
theorem dX5_causeOf_43 : decode cX5_causeOf 43 = .ok (.iinc 4 1, 3) := by decide +kernel
theorem dX5_causeOf_46 : decode cX5_causeOf 46 = .ok (.goto (-37), 3) := by decide +kernel
theorem dX5_causeOf_49 : decode cX5_causeOf 49 = .ok (.aload_n 0, 1) := by decide +kernel
theorem dX5_causeOf_50 : decode cX5_causeOf 50 = .ok (.getfield 31, 3) := by decide +kernel
theorem dX5_causeOf_53 : decode cX5_causeOf 53 = .ok (.iload_n 1, 1) := by decide +kernel
theorem dX5_causeOf_54 : decode cX5_causeOf 54 = .ok (.iaload, 1) := by decide +kernel
theorem dX5_causeOf_55 : decode cX5_causeOf 55 = .ok (.iconst 1, 1) := by decide +kernel
theorem dX5_causeOf_56 : decode cX5_causeOf 56 = .ok (.if_icmp .eq 13, 3) := by decide +kernel
theorem dX5_causeOf_59 : decode cX5_causeOf 59 = .ok (.aload_n 2, 1) := by decide +kernel
theorem dX5_causeOf_60 : decode cX5_causeOf 60 = .ok (.getfield 31, 3) := by decide +kernel
theorem dX5_causeOf_63 : decode cX5_causeOf 63 = .ok (.iload_n 1, 1) := by decide +kernel
theorem dX5_causeOf_64 : decode cX5_causeOf 64 = .ok (.iaload, 1) := by decide +kernel
theorem dX5_causeOf_65 : decode cX5_causeOf 65 = .ok (.iconst 1, 1) := by decide +kernel
theorem dX5_causeOf_66 : decode cX5_causeOf 66 = .ok (.if_icmp .ne 7, 3) := by decide +kernel
theorem dX5_causeOf_69 : decode cX5_causeOf 69 = .ok (.iload_n 1, 1) := by decide +kernel
theorem dX5_causeOf_70 : decode cX5_causeOf 70 = .ok (.goto 4, 3) := by decide +kernel
theorem dX5_causeOf_73 : decode cX5_causeOf 73 = .ok (.iconst (-1), 1) := by decide +kernel
theorem dX5_causeOf_74 : decode cX5_causeOf 74 = .ok (.ireturn, 1) := by decide +kernel
theorem dX6_init_0 : decode cX6_init 0 = .ok (.aload_n 0, 1) := by decide +kernel
theorem dX6_init_1 : decode cX6_init 1 = .ok (.invokespecial 3, 3) := by decide +kernel
theorem dX6_init_4 : decode cX6_init 4 = .ok (.aload_n 0, 1) := by decide +kernel
theorem dX6_init_5 : decode cX6_init 5 = .ok (.bipush 30, 2) := by decide +kernel
theorem dX6_init_7 : decode cX6_init 7 = .ok (.newarray .int, 2) := by decide +kernel
theorem dX6_init_9 : decode cX6_init 9 = .ok (.putfield 9, 3) := by decide +kernel
theorem dX6_init_12 : decode cX6_init 12 = .ok (.return_, 1) := by decide +kernel
theorem dX6_add_0 : decode cX6_add 0 = .ok (.aload_n 0, 1) := by decide +kernel
theorem dX6_add_1 : decode cX6_add 1 = .ok (.getfield 15, 3) := by decide +kernel
theorem dX6_add_4 : decode cX6_add 4 = .ok (.ifCond .lt 32, 3) := by decide +kernel
theorem dX6_add_7 : decode cX6_add 7 = .ok (.aload_n 0, 1) := by decide +kernel
theorem dX6_add_8 : decode cX6_add 8 = .ok (.getfield 15, 3) := by decide +kernel
theorem dX6_add_11 : decode cX6_add 11 = .ok (.bipush 30, 2) := by decide +kernel
theorem dX6_add_13 : decode cX6_add 13 = .ok (.if_icmp .ge 23, 3) := by decide +kernel
theorem dX6_add_16 : decode cX6_add 16 = .ok (.aload_n 0, 1) := by decide +kernel
theorem dX6_add_17 : decode cX6_add 17 = .ok (.getfield 9, 3) := by decide +kernel
theorem dX6_add_20 : decode cX6_add 20 = .ok (.aload_n 0, 1) := by decide +kernel
theorem dX6_add_21 : decode cX6_add 21 = .ok (.getfield 15, 3) := by decide +kernel
theorem dX6_add_24 : decode cX6_add 24 = .ok (.iload_n 1, 1) := by decide +kernel
theorem dX6_add_25 : decode cX6_add 25 = .ok (.iastore, 1) := by decide +kernel
theorem dX6_add_26 : decode cX6_add 26 = .ok (.aload_n 0, 1) := by decide +kernel
theorem dX6_add_27 : decode cX6_add 27 = .ok (.dup, 1) := by decide +kernel
theorem dX6_add_28 : decode cX6_add 28 = .ok (.getfield 15, 3) := by decide +kernel
theorem dX6_add_31 : decode cX6_add 31 = .ok (.iconst 1, 1) := by decide +kernel
theorem dX6_add_32 : decode cX6_add 32 = .ok (.iadd, 1) := by decide +kernel
theorem dX6_add_33 : decode cX6_add 33 = .ok (.putfield 15, 3) := by decide +kernel
theorem dX6_add_36 : decode cX6_add 36 = .ok (.return_, 1) := by decide +kernel
theorem dX7_init_0 : decode cX7_init 0 = .ok (.aload_n 0, 1) := by decide +kernel
theorem dX7_init_1 : decode cX7_init 1 = .ok (.invokespecial 3, 3) := by decide +kernel
theorem dX7_init_4 : decode cX7_init 4 = .ok (.aload_n 0, 1) := by decide +kernel
theorem dX7_init_5 : decode cX7_init 5 = .ok (.sipush 2160, 3) := by decide +kernel
theorem dX7_init_8 : decode cX7_init 8 = .ok (.newarray .int, 2) := by decide +kernel
theorem dX7_init_10 : decode cX7_init 10 = .ok (.putfield 9, 3) := by decide +kernel
theorem dX7_init_13 : decode cX7_init 13 = .ok (.aload_n 0, 1) := by decide +kernel
theorem dX7_init_14 : decode cX7_init 14 = .ok (.bipush 72, 2) := by decide +kernel
theorem dX7_init_16 : decode cX7_init 16 = .ok (.newarray .int, 2) := by decide +kernel
theorem dX7_init_18 : decode cX7_init 18 = .ok (.putfield 15, 3) := by decide +kernel
theorem dX7_init_21 : decode cX7_init 21 = .ok (.return_, 1) := by decide +kernel
theorem dX7_letter_0 : decode cX7_letter 0 = .ok (.iload_n 2, 1) := by decide +kernel
theorem dX7_letter_1 : decode cX7_letter 1 = .ok (.ifCond .lt 27, 3) := by decide +kernel
theorem dX7_letter_4 : decode cX7_letter 4 = .ok (.iload_n 2, 1) := by decide +kernel
theorem dX7_letter_5 : decode cX7_letter 5 = .ok (.aload_n 0, 1) := by decide +kernel
theorem dX7_letter_6 : decode cX7_letter 6 = .ok (.getfield 15, 3) := by decide +kernel
theorem dX7_letter_9 : decode cX7_letter 9 = .ok (.iload_n 1, 1) := by decide +kernel
theorem dX7_letter_10 : decode cX7_letter 10 = .ok (.iaload, 1) := by decide +kernel
theorem dX7_letter_11 : decode cX7_letter 11 = .ok (.if_icmp .ge 17, 3) := by decide +kernel
theorem dX7_letter_14 : decode cX7_letter 14 = .ok (.aload_n 0, 1) := by decide +kernel
theorem dX7_letter_15 : decode cX7_letter 15 = .ok (.getfield 9, 3) := by decide +kernel
theorem dX7_letter_18 : decode cX7_letter 18 = .ok (.iload_n 1, 1) := by decide +kernel
theorem dX7_letter_19 : decode cX7_letter 19 = .ok (.bipush 30, 2) := by decide +kernel
theorem dX7_letter_21 : decode cX7_letter 21 = .ok (.imul, 1) := by decide +kernel
theorem dX7_letter_22 : decode cX7_letter 22 = .ok (.iload_n 2, 1) := by decide +kernel
theorem dX7_letter_23 : decode cX7_letter 23 = .ok (.iadd, 1) := by decide +kernel
theorem dX7_letter_24 : decode cX7_letter 24 = .ok (.iaload, 1) := by decide +kernel
theorem dX7_letter_25 : decode cX7_letter 25 = .ok (.goto 4, 3) := by decide +kernel
theorem dX7_letter_28 : decode cX7_letter 28 = .ok (.iconst 0, 1) := by decide +kernel
theorem dX7_letter_29 : decode cX7_letter 29 = .ok (.ireturn, 1) := by decide +kernel
theorem dX7_take_0 : decode cX7_take 0 = .ok (.aload_n 2, 1) := by decide +kernel
theorem dX7_take_1 : decode cX7_take 1 = .ok (.getfield 18, 3) := by decide +kernel
theorem dX7_take_4 : decode cX7_take 4 = .ok (.iconst 0, 1) := by decide +kernel
theorem dX7_take_5 : decode cX7_take 5 = .ok (.aload_n 0, 1) := by decide +kernel
theorem dX7_take_6 : decode cX7_take 6 = .ok (.getfield 9, 3) := by decide +kernel
theorem dX7_take_9 : decode cX7_take 9 = .ok (.iload_n 1, 1) := by decide +kernel
theorem dX7_take_10 : decode cX7_take 10 = .ok (.bipush 30, 2) := by decide +kernel
theorem dX7_take_12 : decode cX7_take 12 = .ok (.imul, 1) := by decide +kernel
theorem dX7_take_13 : decode cX7_take 13 = .ok (.bipush 30, 2) := by decide +kernel
theorem dX7_take_15 : decode cX7_take 15 = .ok (.invokestatic 21, 3) := by decide +kernel
theorem dX7_take_18 : decode cX7_take 18 = .ok (.aload_n 0, 1) := by decide +kernel
theorem dX7_take_19 : decode cX7_take 19 = .ok (.getfield 15, 3) := by decide +kernel
theorem dX7_take_22 : decode cX7_take 22 = .ok (.iload_n 1, 1) := by decide +kernel
theorem dX7_take_23 : decode cX7_take 23 = .ok (.aload_n 2, 1) := by decide +kernel
theorem dX7_take_24 : decode cX7_take 24 = .ok (.getfield 27, 3) := by decide +kernel
theorem dX7_take_27 : decode cX7_take 27 = .ok (.iastore, 1) := by decide +kernel
theorem dX7_take_28 : decode cX7_take 28 = .ok (.return_, 1) := by decide +kernel
theorem dX7_takeSame_0 : decode cX7_takeSame 0 = .ok (.iload_n 1, 1) := by decide +kernel
theorem dX7_takeSame_1 : decode cX7_takeSame 1 = .ok (.bipush 30, 2) := by decide +kernel
theorem dX7_takeSame_3 : decode cX7_takeSame 3 = .ok (.imul, 1) := by decide +kernel
theorem dX7_takeSame_4 : decode cX7_takeSame 4 = .ok (.istore_n 3, 1) := by decide +kernel
theorem dX7_takeSame_5 : decode cX7_takeSame 5 = .ok (.aload_n 2, 1) := by decide +kernel
theorem dX7_takeSame_6 : decode cX7_takeSame 6 = .ok (.getfield 9, 3) := by decide +kernel
theorem dX7_takeSame_9 : decode cX7_takeSame 9 = .ok (.iload_n 3, 1) := by decide +kernel
theorem dX7_takeSame_10 : decode cX7_takeSame 10 = .ok (.aload_n 0, 1) := by decide +kernel
theorem dX7_takeSame_11 : decode cX7_takeSame 11 = .ok (.getfield 9, 3) := by decide +kernel
theorem dX7_takeSame_14 : decode cX7_takeSame 14 = .ok (.iload_n 3, 1) := by decide +kernel
theorem dX7_takeSame_15 : decode cX7_takeSame 15 = .ok (.bipush 30, 2) := by decide +kernel
theorem dX7_takeSame_17 : decode cX7_takeSame 17 = .ok (.invokestatic 21, 3) := by decide +kernel
theorem dX7_takeSame_20 : decode cX7_takeSame 20 = .ok (.aload_n 0, 1) := by decide +kernel
theorem dX7_takeSame_21 : decode cX7_takeSame 21 = .ok (.getfield 15, 3) := by decide +kernel
theorem dX7_takeSame_24 : decode cX7_takeSame 24 = .ok (.iload_n 1, 1) := by decide +kernel
theorem dX7_takeSame_25 : decode cX7_takeSame 25 = .ok (.aload_n 2, 1) := by decide +kernel
theorem dX7_takeSame_26 : decode cX7_takeSame 26 = .ok (.getfield 15, 3) := by decide +kernel
theorem dX7_takeSame_29 : decode cX7_takeSame 29 = .ok (.iload_n 1, 1) := by decide +kernel
theorem dX7_takeSame_30 : decode cX7_takeSame 30 = .ok (.iaload, 1) := by decide +kernel
theorem dX7_takeSame_31 : decode cX7_takeSame 31 = .ok (.iastore, 1) := by decide +kernel
theorem dX7_takeSame_32 : decode cX7_takeSame 32 = .ok (.return_, 1) := by decide +kernel
theorem dX7_takeAll_0 : decode cX7_takeAll 0 = .ok (.aload_n 1, 1) := by decide +kernel
theorem dX7_takeAll_1 : decode cX7_takeAll 1 = .ok (.getfield 9, 3) := by decide +kernel
theorem dX7_takeAll_4 : decode cX7_takeAll 4 = .ok (.iconst 0, 1) := by decide +kernel
theorem dX7_takeAll_5 : decode cX7_takeAll 5 = .ok (.aload_n 0, 1) := by decide +kernel
theorem dX7_takeAll_6 : decode cX7_takeAll 6 = .ok (.getfield 9, 3) := by decide +kernel
theorem dX7_takeAll_9 : decode cX7_takeAll 9 = .ok (.iconst 0, 1) := by decide +kernel
theorem dX7_takeAll_10 : decode cX7_takeAll 10 = .ok (.sipush 2160, 3) := by decide +kernel
theorem dX7_takeAll_13 : decode cX7_takeAll 13 = .ok (.invokestatic 21, 3) := by decide +kernel
theorem dX7_takeAll_16 : decode cX7_takeAll 16 = .ok (.aload_n 1, 1) := by decide +kernel
theorem dX7_takeAll_17 : decode cX7_takeAll 17 = .ok (.getfield 15, 3) := by decide +kernel
theorem dX7_takeAll_20 : decode cX7_takeAll 20 = .ok (.iconst 0, 1) := by decide +kernel
theorem dX7_takeAll_21 : decode cX7_takeAll 21 = .ok (.aload_n 0, 1) := by decide +kernel
theorem dX7_takeAll_22 : decode cX7_takeAll 22 = .ok (.getfield 15, 3) := by decide +kernel
theorem dX7_takeAll_25 : decode cX7_takeAll 25 = .ok (.iconst 0, 1) := by decide +kernel
theorem dX7_takeAll_26 : decode cX7_takeAll 26 = .ok (.bipush 72, 2) := by decide +kernel
theorem dX7_takeAll_28 : decode cX7_takeAll 28 = .ok (.invokestatic 21, 3) := by decide +kernel
theorem dX7_takeAll_31 : decode cX7_takeAll 31 = .ok (.return_, 1) := by decide +kernel
theorem dX7_clearAll_0 : decode cX7_clearAll 0 = .ok (.iconst 0, 1) := by decide +kernel
theorem dX7_clearAll_1 : decode cX7_clearAll 1 = .ok (.istore_n 2, 1) := by decide +kernel
theorem dX7_clearAll_2 : decode cX7_clearAll 2 = .ok (.iload_n 2, 1) := by decide +kernel
theorem dX7_clearAll_3 : decode cX7_clearAll 3 = .ok (.bipush 72, 2) := by decide +kernel
theorem dX7_clearAll_5 : decode cX7_clearAll 5 = .ok (.if_icmp .ge 16, 3) := by decide +kernel
theorem dX7_clearAll_8 : decode cX7_clearAll 8 = .ok (.aload_n 0, 1) := by decide +kernel
theorem dX7_clearAll_9 : decode cX7_clearAll 9 = .ok (.getfield 15, 3) := by decide +kernel
theorem dX7_clearAll_12 : decode cX7_clearAll 12 = .ok (.iload_n 2, 1) := by decide +kernel
theorem dX7_clearAll_13 : decode cX7_clearAll 13 = .ok (.iload_n 1, 1) := by decide +kernel
theorem dX7_clearAll_14 : decode cX7_clearAll 14 = .ok (.iastore, 1) := by decide +kernel
theorem dX7_clearAll_15 : decode cX7_clearAll 15 = .ok (.iinc 2 1, 3) := by decide +kernel
theorem dX7_clearAll_18 : decode cX7_clearAll 18 = .ok (.goto (-16), 3) := by decide +kernel
theorem dX7_clearAll_21 : decode cX7_clearAll 21 = .ok (.return_, 1) := by decide +kernel
theorem dX8_init_0 : decode cX8_init 0 = .ok (.aload_n 0, 1) := by decide +kernel
theorem dX8_init_1 : decode cX8_init 1 = .ok (.invokespecial 1, 3) := by decide +kernel
theorem dX8_init_4 : decode cX8_init 4 = .ok (.aload_n 0, 1) := by decide +kernel
theorem dX8_init_5 : decode cX8_init 5 = .ok (.new 7, 3) := by decide +kernel
theorem dX8_init_8 : decode cX8_init 8 = .ok (.dup, 1) := by decide +kernel
theorem dX8_init_9 : decode cX8_init 9 = .ok (.invokespecial 9, 3) := by decide +kernel
theorem dX8_init_12 : decode cX8_init 12 = .ok (.putfield 10, 3) := by decide +kernel
theorem dX8_init_15 : decode cX8_init 15 = .ok (.aload_n 0, 1) := by decide +kernel
theorem dX8_init_16 : decode cX8_init 16 = .ok (.new 7, 3) := by decide +kernel
theorem dX8_init_19 : decode cX8_init 19 = .ok (.dup, 1) := by decide +kernel
theorem dX8_init_20 : decode cX8_init 20 = .ok (.invokespecial 9, 3) := by decide +kernel
theorem dX8_init_23 : decode cX8_init 23 = .ok (.putfield 16, 3) := by decide +kernel
theorem dX8_init_26 : decode cX8_init 26 = .ok (.aload_n 0, 1) := by decide +kernel
theorem dX8_init_27 : decode cX8_init 27 = .ok (.new 19, 3) := by decide +kernel
theorem dX8_init_30 : decode cX8_init 30 = .ok (.dup, 1) := by decide +kernel
theorem dX8_init_31 : decode cX8_init 31 = .ok (.invokespecial 21, 3) := by decide +kernel
theorem dX8_init_34 : decode cX8_init 34 = .ok (.putfield 22, 3) := by decide +kernel
theorem dX8_init_37 : decode cX8_init 37 = .ok (.aload_n 0, 1) := by decide +kernel
theorem dX8_init_38 : decode cX8_init 38 = .ok (.new 19, 3) := by decide +kernel
theorem dX8_init_41 : decode cX8_init 41 = .ok (.dup, 1) := by decide +kernel
theorem dX8_init_42 : decode cX8_init 42 = .ok (.invokespecial 21, 3) := by decide +kernel
theorem dX8_init_45 : decode cX8_init 45 = .ok (.putfield 26, 3) := by decide +kernel
theorem dX8_init_48 : decode cX8_init 48 = .ok (.aload_n 0, 1) := by decide +kernel
theorem dX8_init_49 : decode cX8_init 49 = .ok (.new 29, 3) := by decide +kernel
theorem dX8_init_52 : decode cX8_init 52 = .ok (.dup, 1) := by decide +kernel
theorem dX8_init_53 : decode cX8_init 53 = .ok (.invokespecial 31, 3) := by decide +kernel
theorem dX8_init_56 : decode cX8_init 56 = .ok (.putfield 32, 3) := by decide +kernel
theorem dX8_init_59 : decode cX8_init 59 = .ok (.aload_n 0, 1) := by decide +kernel
theorem dX8_init_60 : decode cX8_init 60 = .ok (.new 36, 3) := by decide +kernel
theorem dX8_init_63 : decode cX8_init 63 = .ok (.dup, 1) := by decide +kernel
theorem dX8_init_64 : decode cX8_init 64 = .ok (.invokespecial 38, 3) := by decide +kernel
theorem dX8_init_67 : decode cX8_init 67 = .ok (.putfield 39, 3) := by decide +kernel
theorem dX8_init_70 : decode cX8_init 70 = .ok (.aload_n 0, 1) := by decide +kernel
theorem dX8_init_71 : decode cX8_init 71 = .ok (.new 43, 3) := by decide +kernel
theorem dX8_init_74 : decode cX8_init 74 = .ok (.dup, 1) := by decide +kernel
theorem dX8_init_75 : decode cX8_init 75 = .ok (.aload_n 0, 1) := by decide +kernel
theorem dX8_init_76 : decode cX8_init 76 = .ok (.getfield 26, 3) := by decide +kernel
theorem dX8_init_79 : decode cX8_init 79 = .ok (.invokespecial 45, 3) := by decide +kernel
theorem dX8_init_82 : decode cX8_init 82 = .ok (.putfield 48, 3) := by decide +kernel
theorem dX8_init_85 : decode cX8_init 85 = .ok (.aload_n 0, 1) := by decide +kernel
theorem dX8_init_86 : decode cX8_init 86 = .ok (.bipush 72, 2) := by decide +kernel
theorem dX8_init_88 : decode cX8_init 88 = .ok (.newarray .int, 2) := by decide +kernel
theorem dX8_init_90 : decode cX8_init 90 = .ok (.putfield 52, 3) := by decide +kernel
theorem dX8_init_93 : decode cX8_init 93 = .ok (.return_, 1) := by decide +kernel
theorem dX8_type_0 : decode cX8_type 0 = .ok (.iload_n 1, 1) := by decide +kernel
theorem dX8_type_1 : decode cX8_type 1 = .ok (.bipush 32, 2) := by decide +kernel
theorem dX8_type_3 : decode cX8_type 3 = .ok (.if_icmp .lt 9, 3) := by decide +kernel
theorem dX8_type_6 : decode cX8_type 6 = .ok (.iload_n 1, 1) := by decide +kernel
theorem dX8_type_7 : decode cX8_type 7 = .ok (.bipush 126, 2) := by decide +kernel
theorem dX8_type_9 : decode cX8_type 9 = .ok (.if_icmp .le 6, 3) := by decide +kernel
theorem dX8_type_12 : decode cX8_type 12 = .ok (.ldc 56, 2) := by decide +kernel
theorem dX8_type_14 : decode cX8_type 14 = .ok (.ireturn, 1) := by decide +kernel
theorem dX8_type_15 : decode cX8_type 15 = .ok (.aload_n 0, 1) := by decide +kernel
theorem dX8_type_16 : decode cX8_type 16 = .ok (.getfield 10, 3) := by decide +kernel
theorem dX8_type_19 : decode cX8_type 19 = .ok (.getfield 57, 3) := by decide +kernel
theorem dX8_type_22 : decode cX8_type 22 = .ok (.bipush 30, 2) := by decide +kernel
theorem dX8_type_24 : decode cX8_type 24 = .ok (.if_icmp .lt 6, 3) := by decide +kernel
theorem dX8_type_27 : decode cX8_type 27 = .ok (.ldc 61, 2) := by decide +kernel
theorem dX8_type_29 : decode cX8_type 29 = .ok (.ireturn, 1) := by decide +kernel
theorem dX8_type_30 : decode cX8_type 30 = .ok (.aload_n 0, 1) := by decide +kernel
theorem dX8_type_31 : decode cX8_type 31 = .ok (.getfield 10, 3) := by decide +kernel
theorem dX8_type_34 : decode cX8_type 34 = .ok (.iload_n 1, 1) := by decide +kernel
theorem dX8_type_35 : decode cX8_type 35 = .ok (.invokevirtual 62, 3) := by decide +kernel
theorem dX8_type_38 : decode cX8_type 38 = .ok (.aload_n 0, 1) := by decide +kernel
theorem dX8_type_39 : decode cX8_type 39 = .ok (.getfield 10, 3) := by decide +kernel
theorem dX8_type_42 : decode cX8_type 42 = .ok (.getfield 57, 3) := by decide +kernel
theorem dX8_type_45 : decode cX8_type 45 = .ok (.ireturn, 1) := by decide +kernel
theorem dX8_clearText_0 : decode cX8_clearText 0 = .ok (.aload_n 0, 1) := by decide +kernel
theorem dX8_clearText_1 : decode cX8_clearText 1 = .ok (.getfield 10, 3) := by decide +kernel
theorem dX8_clearText_4 : decode cX8_clearText 4 = .ok (.getfield 57, 3) := by decide +kernel
theorem dX8_clearText_7 : decode cX8_clearText 7 = .ok (.istore_n 1, 1) := by decide +kernel
theorem dX8_clearText_8 : decode cX8_clearText 8 = .ok (.aload_n 0, 1) := by decide +kernel
theorem dX8_clearText_9 : decode cX8_clearText 9 = .ok (.getfield 10, 3) := by decide +kernel
theorem dX8_clearText_12 : decode cX8_clearText 12 = .ok (.iconst 0, 1) := by decide +kernel
theorem dX8_clearText_13 : decode cX8_clearText 13 = .ok (.putfield 57, 3) := by decide +kernel
theorem dX8_clearText_16 : decode cX8_clearText 16 = .ok (.iload_n 1, 1) := by decide +kernel
theorem dX8_clearText_17 : decode cX8_clearText 17 = .ok (.ireturn, 1) := by decide +kernel
theorem dX8_fault_0 : decode cX8_fault 0 = .ok (.aload_n 0, 1) := by decide +kernel
theorem dX8_fault_1 : decode cX8_fault 1 = .ok (.getfield 39, 3) := by decide +kernel
theorem dX8_fault_4 : decode cX8_fault 4 = .ok (.aload_n 0, 1) := by decide +kernel
theorem dX8_fault_5 : decode cX8_fault 5 = .ok (.getfield 10, 3) := by decide +kernel
theorem dX8_fault_8 : decode cX8_fault 8 = .ok (.invokevirtual 66, 3) := by decide +kernel
theorem dX8_fault_11 : decode cX8_fault 11 = .ok (.istore_n 1, 1) := by decide +kernel
theorem dX8_fault_12 : decode cX8_fault 12 = .ok (.iload_n 1, 1) := by decide +kernel
theorem dX8_fault_13 : decode cX8_fault 13 = .ok (.iconst (-1), 1) := by decide +kernel
theorem dX8_fault_14 : decode cX8_fault 14 = .ok (.if_icmp .ne 8, 3) := by decide +kernel
theorem dX8_fault_17 : decode cX8_fault 17 = .ok (.ldc 70, 2) := by decide +kernel
theorem dX8_fault_19 : decode cX8_fault 19 = .ok (.goto 4, 3) := by decide +kernel
theorem dX8_fault_22 : decode cX8_fault 22 = .ok (.iload_n 1, 1) := by decide +kernel
theorem dX8_fault_23 : decode cX8_fault 23 = .ok (.ireturn, 1) := by decide +kernel
theorem dX8_put_0 : decode cX8_put 0 = .ok (.iload_n 1, 1) := by decide +kernel
theorem dX8_put_1 : decode cX8_put 1 = .ok (.invokestatic 71, 3) := by decide +kernel
theorem dX8_put_4 : decode cX8_put 4 = .ok (.ifCond .ne 6, 3) := by decide +kernel
theorem dX8_put_7 : decode cX8_put 7 = .ok (.ldc 56, 2) := by decide +kernel
theorem dX8_put_9 : decode cX8_put 9 = .ok (.ireturn, 1) := by decide +kernel
theorem dX8_put_10 : decode cX8_put 10 = .ok (.aload_n 0, 1) := by decide +kernel
theorem dX8_put_11 : decode cX8_put 11 = .ok (.getfield 39, 3) := by decide +kernel
theorem dX8_put_14 : decode cX8_put 14 = .ok (.aload_n 0, 1) := by decide +kernel
theorem dX8_put_15 : decode cX8_put 15 = .ok (.getfield 10, 3) := by decide +kernel
theorem dX8_put_18 : decode cX8_put 18 = .ok (.invokevirtual 66, 3) := by decide +kernel
theorem dX8_put_21 : decode cX8_put 21 = .ok (.iconst (-1), 1) := by decide +kernel
theorem dX8_put_22 : decode cX8_put 22 = .ok (.if_icmp .eq 6, 3) := by decide +kernel
theorem dX8_put_25 : decode cX8_put 25 = .ok (.ldc 75, 2) := by decide +kernel
theorem dX8_put_27 : decode cX8_put 27 = .ok (.ireturn, 1) := by decide +kernel
theorem dX8_put_28 : decode cX8_put 28 = .ok (.aload_n 0, 1) := by decide +kernel
theorem dX8_put_29 : decode cX8_put 29 = .ok (.iload_n 1, 1) := by decide +kernel
theorem dX8_put_30 : decode cX8_put 30 = .ok (.aload_n 0, 1) := by decide +kernel
theorem dX8_put_31 : decode cX8_put 31 = .ok (.getfield 10, 3) := by decide +kernel
theorem dX8_put_34 : decode cX8_put 34 = .ok (.invokevirtual 76, 3) := by decide +kernel
theorem dX8_put_37 : decode cX8_put 37 = .ok (.ireturn, 1) := by decide +kernel
theorem dX8_copy_0 : decode cX8_copy 0 = .ok (.iload_n 1, 1) := by decide +kernel
theorem dX8_copy_1 : decode cX8_copy 1 = .ok (.invokestatic 71, 3) := by decide +kernel
theorem dX8_copy_4 : decode cX8_copy 4 = .ok (.ifCond .eq 10, 3) := by decide +kernel
theorem dX8_copy_7 : decode cX8_copy 7 = .ok (.iload_n 2, 1) := by decide +kernel
theorem dX8_copy_8 : decode cX8_copy 8 = .ok (.invokestatic 71, 3) := by decide +kernel
theorem dX8_copy_11 : decode cX8_copy 11 = .ok (.ifCond .ne 6, 3) := by decide +kernel
theorem dX8_copy_14 : decode cX8_copy 14 = .ok (.ldc 56, 2) := by decide +kernel
theorem dX8_copy_16 : decode cX8_copy 16 = .ok (.ireturn, 1) := by decide +kernel
theorem dX8_copy_17 : decode cX8_copy 17 = .ok (.iload_n 2, 1) := by decide +kernel
theorem dX8_copy_18 : decode cX8_copy 18 = .ok (.bipush 8, 2) := by decide +kernel
theorem dX8_copy_20 : decode cX8_copy 20 = .ok (.irem, 1) := by decide +kernel
theorem dX8_copy_21 : decode cX8_copy 21 = .ok (.iload_n 1, 1) := by decide +kernel
theorem dX8_copy_22 : decode cX8_copy 22 = .ok (.bipush 8, 2) := by decide +kernel
theorem dX8_copy_24 : decode cX8_copy 24 = .ok (.irem, 1) := by decide +kernel
theorem dX8_copy_25 : decode cX8_copy 25 = .ok (.isub, 1) := by decide +kernel
theorem dX8_copy_26 : decode cX8_copy 26 = .ok (.istore_n 3, 1) := by decide +kernel
theorem dX8_copy_27 : decode cX8_copy 27 = .ok (.iload_n 2, 1) := by decide +kernel
theorem dX8_copy_28 : decode cX8_copy 28 = .ok (.bipush 8, 2) := by decide +kernel
theorem dX8_copy_30 : decode cX8_copy 30 = .ok (.idiv, 1) := by decide +kernel
theorem dX8_copy_31 : decode cX8_copy 31 = .ok (.iload_n 1, 1) := by decide +kernel
theorem dX8_copy_32 : decode cX8_copy 32 = .ok (.bipush 8, 2) := by decide +kernel
theorem dX8_copy_34 : decode cX8_copy 34 = .ok (.idiv, 1) := by decide +kernel
theorem dX8_copy_35 : decode cX8_copy 35 = .ok (.isub, 1) := by decide +kernel
theorem dX8_copy_36 : decode cX8_copy 36 = .ok (.istore 4, 2) := by decide +kernel
theorem dX8_copy_38 : decode cX8_copy 38 = .ok (.aload_n 0, 1) := by decide +kernel
theorem dX8_copy_39 : decode cX8_copy 39 = .ok (.iload_n 1, 1) := by decide +kernel
theorem dX8_copy_40 : decode cX8_copy 40 = .ok (.iload_n 3, 1) := by decide +kernel
theorem dX8_copy_41 : decode cX8_copy 41 = .ok (.iload 4, 2) := by decide +kernel
theorem dX8_copy_43 : decode cX8_copy 43 = .ok (.invokevirtual 80, 3) := by decide +kernel
theorem dX8_copy_46 : decode cX8_copy 46 = .ok (.ifCond .ne 6, 3) := by decide +kernel
theorem dX8_copy_49 : decode cX8_copy 49 = .ok (.ldc 75, 2) := by decide +kernel
theorem dX8_copy_51 : decode cX8_copy 51 = .ok (.ireturn, 1) := by decide +kernel
theorem dX8_copy_52 : decode cX8_copy 52 = .ok (.aload_n 0, 1) := by decide +kernel
theorem dX8_copy_53 : decode cX8_copy 53 = .ok (.iload_n 2, 1) := by decide +kernel
theorem dX8_copy_54 : decode cX8_copy 54 = .ok (.aload_n 0, 1) := by decide +kernel
theorem dX8_copy_55 : decode cX8_copy 55 = .ok (.getfield 16, 3) := by decide +kernel
theorem dX8_copy_58 : decode cX8_copy 58 = .ok (.invokevirtual 76, 3) := by decide +kernel
theorem dX8_copy_61 : decode cX8_copy 61 = .ok (.ireturn, 1) := by decide +kernel
theorem dX8_drop_0 : decode cX8_drop 0 = .ok (.aload_n 0, 1) := by decide +kernel
theorem dX8_drop_1 : decode cX8_drop 1 = .ok (.getfield 22, 3) := by decide +kernel
theorem dX8_drop_4 : decode cX8_drop 4 = .ok (.invokevirtual 84, 3) := by decide +kernel
theorem dX8_drop_7 : decode cX8_drop 7 = .ok (.istore_n 1, 1) := by decide +kernel
theorem dX8_drop_8 : decode cX8_drop 8 = .ok (.iload_n 1, 1) := by decide +kernel
theorem dX8_drop_9 : decode cX8_drop 9 = .ok (.ifCond .ne 6, 3) := by decide +kernel
theorem dX8_drop_12 : decode cX8_drop 12 = .ok (.ldc 75, 2) := by decide +kernel
theorem dX8_drop_14 : decode cX8_drop 14 = .ok (.ireturn, 1) := by decide +kernel
theorem dX8_drop_15 : decode cX8_drop 15 = .ok (.aload_n 0, 1) := by decide +kernel
theorem dX8_drop_16 : decode cX8_drop 16 = .ok (.getfield 32, 3) := by decide +kernel
theorem dX8_drop_19 : decode cX8_drop 19 = .ok (.aload_n 0, 1) := by decide +kernel
theorem dX8_drop_20 : decode cX8_drop 20 = .ok (.getfield 22, 3) := by decide +kernel
theorem dX8_drop_23 : decode cX8_drop 23 = .ok (.invokevirtual 88, 3) := by decide +kernel
theorem dX8_drop_26 : decode cX8_drop 26 = .ok (.pop, 1) := by decide +kernel
theorem dX8_drop_27 : decode cX8_drop 27 = .ok (.aload_n 0, 1) := by decide +kernel
theorem dX8_drop_28 : decode cX8_drop 28 = .ok (.getfield 22, 3) := by decide +kernel
theorem dX8_drop_31 : decode cX8_drop 31 = .ok (.getfield 92, 3) := by decide +kernel
theorem dX8_drop_34 : decode cX8_drop 34 = .ok (.iconst (-1), 1) := by decide +kernel
theorem dX8_drop_35 : decode cX8_drop 35 = .ok (.invokevirtual 96, 3) := by decide +kernel
theorem dX8_drop_38 : decode cX8_drop 38 = .ok (.iload_n 1, 1) := by decide +kernel
theorem dX8_drop_39 : decode cX8_drop 39 = .ok (.ireturn, 1) := by decide +kernel
theorem dX8_waitingAt_0 : decode cX8_waitingAt 0 = .ok (.iload_n 1, 1) := by decide +kernel
theorem dX8_waitingAt_1 : decode cX8_waitingAt 1 = .ok (.ifCond .ge 6, 3) := by decide +kernel
theorem dX8_waitingAt_4 : decode cX8_waitingAt 4 = .ok (.ldc 56, 2) := by decide +kernel
theorem dX8_waitingAt_6 : decode cX8_waitingAt 6 = .ok (.ireturn, 1) := by decide +kernel
theorem dX8_waitingAt_7 : decode cX8_waitingAt 7 = .ok (.iload_n 1, 1) := by decide +kernel
theorem dX8_waitingAt_8 : decode cX8_waitingAt 8 = .ok (.istore_n 2, 1) := by decide +kernel
theorem dX8_waitingAt_9 : decode cX8_waitingAt 9 = .ok (.iconst 0, 1) := by decide +kernel
theorem dX8_waitingAt_10 : decode cX8_waitingAt 10 = .ok (.istore_n 3, 1) := by decide +kernel
theorem dX8_waitingAt_11 : decode cX8_waitingAt 11 = .ok (.iload_n 3, 1) := by decide +kernel
theorem dX8_waitingAt_12 : decode cX8_waitingAt 12 = .ok (.bipush 72, 2) := by decide +kernel
theorem dX8_waitingAt_14 : decode cX8_waitingAt 14 = .ok (.if_icmp .ge 29, 3) := by decide +kernel
theorem dX8_waitingAt_17 : decode cX8_waitingAt 17 = .ok (.aload_n 0, 1) := by decide +kernel
theorem dX8_waitingAt_18 : decode cX8_waitingAt 18 = .ok (.getfield 22, 3) := by decide +kernel
theorem dX8_waitingAt_21 : decode cX8_waitingAt 21 = .ok (.iload_n 3, 1) := by decide +kernel
theorem dX8_waitingAt_22 : decode cX8_waitingAt 22 = .ok (.invokevirtual 101, 3) := by decide +kernel
theorem dX8_waitingAt_25 : decode cX8_waitingAt 25 = .ok (.ifCond .eq 12, 3) := by decide +kernel
theorem dX8_waitingAt_28 : decode cX8_waitingAt 28 = .ok (.iload_n 2, 1) := by decide +kernel
theorem dX8_waitingAt_29 : decode cX8_waitingAt 29 = .ok (.ifCond .ne 5, 3) := by decide +kernel
theorem dX8_waitingAt_32 : decode cX8_waitingAt 32 = .ok (.iload_n 3, 1) := by decide +kernel
theorem dX8_waitingAt_33 : decode cX8_waitingAt 33 = .ok (.ireturn, 1) := by decide +kernel
theorem dX8_waitingAt_34 : decode cX8_waitingAt 34 = .ok (.iinc 2 (-1), 3) := by decide +kernel
theorem dX8_waitingAt_37 : decode cX8_waitingAt 37 = .ok (.iinc 3 1, 3) := by decide +kernel
theorem dX8_waitingAt_40 : decode cX8_waitingAt 40 = .ok (.goto (-29), 3) := by decide +kernel
theorem dX8_waitingAt_43 : decode cX8_waitingAt 43 = .ok (.ldc 70, 2) := by decide +kernel
theorem dX8_waitingAt_45 : decode cX8_waitingAt 45 = .ok (.ireturn, 1) := by decide +kernel
theorem dX8_update_0 : decode cX8_update 0 = .ok (.aload_n 0, 1) := by decide +kernel
theorem dX8_update_1 : decode cX8_update 1 = .ok (.getfield 22, 3) := by decide +kernel
theorem dX8_update_4 : decode cX8_update 4 = .ok (.invokevirtual 84, 3) := by decide +kernel
theorem dX8_update_7 : decode cX8_update 7 = .ok (.ifCond .ne 6, 3) := by decide +kernel
theorem dX8_update_10 : decode cX8_update 10 = .ok (.ldc 75, 2) := by decide +kernel
theorem dX8_update_12 : decode cX8_update 12 = .ok (.ireturn, 1) := by decide +kernel
theorem dX8_update_13 : decode cX8_update 13 = .ok (.aload_n 0, 1) := by decide +kernel
theorem dX8_update_14 : decode cX8_update 14 = .ok (.getfield 32, 3) := by decide +kernel
theorem dX8_update_17 : decode cX8_update 17 = .ok (.aload_n 0, 1) := by decide +kernel
theorem dX8_update_18 : decode cX8_update 18 = .ok (.getfield 22, 3) := by decide +kernel
theorem dX8_update_21 : decode cX8_update 21 = .ok (.invokevirtual 88, 3) := by decide +kernel
theorem dX8_update_24 : decode cX8_update 24 = .ok (.astore_n 1, 1) := by decide +kernel
theorem dX8_update_25 : decode cX8_update 25 = .ok (.iconst 0, 1) := by decide +kernel
theorem dX8_update_26 : decode cX8_update 26 = .ok (.istore_n 2, 1) := by decide +kernel
theorem dX8_update_27 : decode cX8_update 27 = .ok (.iload_n 2, 1) := by decide +kernel
theorem dX8_update_28 : decode cX8_update 28 = .ok (.bipush 72, 2) := by decide +kernel
theorem dX8_update_30 : decode cX8_update 30 = .ok (.if_icmp .ge 38, 3) := by decide +kernel
theorem dX8_update_33 : decode cX8_update 33 = .ok (.aload_n 0, 1) := by decide +kernel
theorem dX8_update_34 : decode cX8_update 34 = .ok (.getfield 22, 3) := by decide +kernel
theorem dX8_update_37 : decode cX8_update 37 = .ok (.iload_n 2, 1) := by decide +kernel
theorem dX8_update_38 : decode cX8_update 38 = .ok (.invokevirtual 101, 3) := by decide +kernel
theorem dX8_update_41 : decode cX8_update 41 = .ok (.ifCond .eq 21, 3) := by decide +kernel
theorem dX8_update_44 : decode cX8_update 44 = .ok (.aload_n 0, 1) := by decide +kernel
theorem dX8_update_45 : decode cX8_update 45 = .ok (.getfield 22, 3) := by decide +kernel
theorem dX8_update_48 : decode cX8_update 48 = .ok (.getfield 104, 3) := by decide +kernel
theorem dX8_update_51 : decode cX8_update 51 = .ok (.iload_n 2, 1) := by decide +kernel
theorem dX8_update_52 : decode cX8_update 52 = .ok (.aload_n 0, 1) := by decide +kernel
theorem dX8_update_53 : decode cX8_update 53 = .ok (.getfield 22, 3) := by decide +kernel
theorem dX8_update_56 : decode cX8_update 56 = .ok (.getfield 92, 3) := by decide +kernel
theorem dX8_update_59 : decode cX8_update 59 = .ok (.invokevirtual 107, 3) := by decide +kernel
theorem dX8_update_62 : decode cX8_update 62 = .ok (.iinc 2 1, 3) := by decide +kernel
theorem dX8_update_65 : decode cX8_update 65 = .ok (.goto (-38), 3) := by decide +kernel
theorem dX8_update_68 : decode cX8_update 68 = .ok (.aload_n 0, 1) := by decide +kernel
theorem dX8_update_69 : decode cX8_update 69 = .ok (.getfield 22, 3) := by decide +kernel
theorem dX8_update_72 : decode cX8_update 72 = .ok (.getfield 92, 3) := by decide +kernel
theorem dX8_update_75 : decode cX8_update 75 = .ok (.iconst (-1), 1) := by decide +kernel
theorem dX8_update_76 : decode cX8_update 76 = .ok (.invokevirtual 96, 3) := by decide +kernel
theorem dX8_update_79 : decode cX8_update 79 = .ok (.aload_n 0, 1) := by decide +kernel
theorem dX8_update_80 : decode cX8_update 80 = .ok (.aload_n 1, 1) := by decide +kernel
theorem dX8_update_81 : decode cX8_update 81 = .ok (.iconst 1, 1) := by decide +kernel
theorem dX8_update_82 : decode cX8_update 82 = .ok (.invokevirtual 111, 3) := by decide +kernel
theorem dX8_update_85 : decode cX8_update 85 = .ok (.ireturn, 1) := by decide +kernel
theorem dX8_rounds_0 : decode cX8_rounds 0 = .ok (.iload_n 1, 1) := by decide +kernel
theorem dX8_rounds_1 : decode cX8_rounds 1 = .ok (.ifCond .lt 9, 3) := by decide +kernel
theorem dX8_rounds_4 : decode cX8_rounds 4 = .ok (.iload_n 1, 1) := by decide +kernel
theorem dX8_rounds_5 : decode cX8_rounds 5 = .ok (.bipush 40, 2) := by decide +kernel
theorem dX8_rounds_7 : decode cX8_rounds 7 = .ok (.if_icmp .le 6, 3) := by decide +kernel
theorem dX8_rounds_10 : decode cX8_rounds 10 = .ok (.ldc 56, 2) := by decide +kernel
theorem dX8_rounds_12 : decode cX8_rounds 12 = .ok (.ireturn, 1) := by decide +kernel
theorem dX8_rounds_13 : decode cX8_rounds 13 = .ok (.aload_n 0, 1) := by decide +kernel
theorem dX8_rounds_14 : decode cX8_rounds 14 = .ok (.getfield 32, 3) := by decide +kernel
theorem dX8_rounds_17 : decode cX8_rounds 17 = .ok (.aload_n 0, 1) := by decide +kernel
theorem dX8_rounds_18 : decode cX8_rounds 18 = .ok (.getfield 22, 3) := by decide +kernel
theorem dX8_rounds_21 : decode cX8_rounds 21 = .ok (.invokevirtual 88, 3) := by decide +kernel
theorem dX8_rounds_24 : decode cX8_rounds 24 = .ok (.astore_n 2, 1) := by decide +kernel
theorem dX8_rounds_25 : decode cX8_rounds 25 = .ok (.aload_n 0, 1) := by decide +kernel
theorem dX8_rounds_26 : decode cX8_rounds 26 = .ok (.getfield 22, 3) := by decide +kernel
theorem dX8_rounds_29 : decode cX8_rounds 29 = .ok (.iload_n 1, 1) := by decide +kernel
theorem dX8_rounds_30 : decode cX8_rounds 30 = .ok (.putfield 115, 3) := by decide +kernel
theorem dX8_rounds_33 : decode cX8_rounds 33 = .ok (.aload_n 0, 1) := by decide +kernel
theorem dX8_rounds_34 : decode cX8_rounds 34 = .ok (.aload_n 2, 1) := by decide +kernel
theorem dX8_rounds_35 : decode cX8_rounds 35 = .ok (.iconst 0, 1) := by decide +kernel
theorem dX8_rounds_36 : decode cX8_rounds 36 = .ok (.invokevirtual 111, 3) := by decide +kernel
theorem dX8_rounds_39 : decode cX8_rounds 39 = .ok (.pop, 1) := by decide +kernel
theorem dX8_rounds_40 : decode cX8_rounds 40 = .ok (.aload_n 2, 1) := by decide +kernel
theorem dX8_rounds_41 : decode cX8_rounds 41 = .ok (.getfield 115, 3) := by decide +kernel
theorem dX8_rounds_44 : decode cX8_rounds 44 = .ok (.ireturn, 1) := by decide +kernel
theorem dX8_value_0 : decode cX8_value 0 = .ok (.iload_n 1, 1) := by decide +kernel
theorem dX8_value_1 : decode cX8_value 1 = .ok (.invokestatic 71, 3) := by decide +kernel
theorem dX8_value_4 : decode cX8_value 4 = .ok (.ifCond .ne 6, 3) := by decide +kernel
theorem dX8_value_7 : decode cX8_value 7 = .ok (.ldc 56, 2) := by decide +kernel
theorem dX8_value_9 : decode cX8_value 9 = .ok (.ireturn, 1) := by decide +kernel
theorem dX8_value_10 : decode cX8_value 10 = .ok (.aload_n 0, 1) := by decide +kernel
theorem dX8_value_11 : decode cX8_value 11 = .ok (.getfield 22, 3) := by decide +kernel
theorem dX8_value_14 : decode cX8_value 14 = .ok (.getfield 118, 3) := by decide +kernel
theorem dX8_value_17 : decode cX8_value 17 = .ok (.iload_n 1, 1) := by decide +kernel
theorem dX8_value_18 : decode cX8_value 18 = .ok (.iaload, 1) := by decide +kernel
theorem dX8_value_19 : decode cX8_value 19 = .ok (.ifCond .ne 15, 3) := by decide +kernel
theorem dX8_value_22 : decode cX8_value 22 = .ok (.aload_n 0, 1) := by decide +kernel
theorem dX8_value_23 : decode cX8_value 23 = .ok (.getfield 22, 3) := by decide +kernel
theorem dX8_value_26 : decode cX8_value 26 = .ok (.getfield 121, 3) := by decide +kernel
theorem dX8_value_29 : decode cX8_value 29 = .ok (.iload_n 1, 1) := by decide +kernel
theorem dX8_value_30 : decode cX8_value 30 = .ok (.iaload, 1) := by decide +kernel
theorem dX8_value_31 : decode cX8_value 31 = .ok (.goto 5, 3) := by decide +kernel
theorem dX8_value_34 : decode cX8_value 34 = .ok (.ldc 70, 2) := by decide +kernel
theorem dX8_value_36 : decode cX8_value 36 = .ok (.ireturn, 1) := by decide +kernel
theorem dX8_cellOf_0 : decode cX8_cellOf 0 = .ok (.iload_n 1, 1) := by decide +kernel
theorem dX8_cellOf_1 : decode cX8_cellOf 1 = .ok (.invokestatic 71, 3) := by decide +kernel
theorem dX8_cellOf_4 : decode cX8_cellOf 4 = .ok (.ifCond .eq 13, 3) := by decide +kernel
theorem dX8_cellOf_7 : decode cX8_cellOf 7 = .ok (.iload_n 2, 1) := by decide +kernel
theorem dX8_cellOf_8 : decode cX8_cellOf 8 = .ok (.ifCond .lt 9, 3) := by decide +kernel
theorem dX8_cellOf_11 : decode cX8_cellOf 11 = .ok (.iload_n 2, 1) := by decide +kernel
theorem dX8_cellOf_12 : decode cX8_cellOf 12 = .ok (.bipush 8, 2) := by decide +kernel
theorem dX8_cellOf_14 : decode cX8_cellOf 14 = .ok (.if_icmp .le 6, 3) := by decide +kernel
theorem dX8_cellOf_17 : decode cX8_cellOf 17 = .ok (.ldc 56, 2) := by decide +kernel
theorem dX8_cellOf_19 : decode cX8_cellOf 19 = .ok (.ireturn, 1) := by decide +kernel
theorem dX8_cellOf_20 : decode cX8_cellOf 20 = .ok (.aload_n 0, 1) := by decide +kernel
theorem dX8_cellOf_21 : decode cX8_cellOf 21 = .ok (.getfield 22, 3) := by decide +kernel
theorem dX8_cellOf_24 : decode cX8_cellOf 24 = .ok (.iload_n 1, 1) := by decide +kernel
theorem dX8_cellOf_25 : decode cX8_cellOf 25 = .ok (.iload_n 2, 1) := by decide +kernel
theorem dX8_cellOf_26 : decode cX8_cellOf 26 = .ok (.invokevirtual 124, 3) := by decide +kernel
theorem dX8_cellOf_29 : decode cX8_cellOf 29 = .ok (.ireturn, 1) := by decide +kernel
theorem dX8_letterAt_0 : decode cX8_letterAt 0 = .ok (.iload_n 1, 1) := by decide +kernel
theorem dX8_letterAt_1 : decode cX8_letterAt 1 = .ok (.invokestatic 71, 3) := by decide +kernel
theorem dX8_letterAt_4 : decode cX8_letterAt 4 = .ok (.ifCond .eq 7, 3) := by decide +kernel
theorem dX8_letterAt_7 : decode cX8_letterAt 7 = .ok (.iload_n 2, 1) := by decide +kernel
theorem dX8_letterAt_8 : decode cX8_letterAt 8 = .ok (.ifCond .ge 6, 3) := by decide +kernel
theorem dX8_letterAt_11 : decode cX8_letterAt 11 = .ok (.ldc 56, 2) := by decide +kernel
theorem dX8_letterAt_13 : decode cX8_letterAt 13 = .ok (.ireturn, 1) := by decide +kernel
theorem dX8_letterAt_14 : decode cX8_letterAt 14 = .ok (.iload_n 2, 1) := by decide +kernel
theorem dX8_letterAt_15 : decode cX8_letterAt 15 = .ok (.aload_n 0, 1) := by decide +kernel
theorem dX8_letterAt_16 : decode cX8_letterAt 16 = .ok (.getfield 22, 3) := by decide +kernel
theorem dX8_letterAt_19 : decode cX8_letterAt 19 = .ok (.getfield 104, 3) := by decide +kernel
theorem dX8_letterAt_22 : decode cX8_letterAt 22 = .ok (.getfield 128, 3) := by decide +kernel
theorem dX8_letterAt_25 : decode cX8_letterAt 25 = .ok (.iload_n 1, 1) := by decide +kernel
theorem dX8_letterAt_26 : decode cX8_letterAt 26 = .ok (.iaload, 1) := by decide +kernel
theorem dX8_letterAt_27 : decode cX8_letterAt 27 = .ok (.if_icmp .lt 6, 3) := by decide +kernel
theorem dX8_letterAt_30 : decode cX8_letterAt 30 = .ok (.ldc 70, 2) := by decide +kernel
theorem dX8_letterAt_32 : decode cX8_letterAt 32 = .ok (.ireturn, 1) := by decide +kernel
theorem dX8_letterAt_33 : decode cX8_letterAt 33 = .ok (.aload_n 0, 1) := by decide +kernel
theorem dX8_letterAt_34 : decode cX8_letterAt 34 = .ok (.getfield 22, 3) := by decide +kernel
theorem dX8_letterAt_37 : decode cX8_letterAt 37 = .ok (.getfield 104, 3) := by decide +kernel
theorem dX8_letterAt_40 : decode cX8_letterAt 40 = .ok (.iload_n 1, 1) := by decide +kernel
theorem dX8_letterAt_41 : decode cX8_letterAt 41 = .ok (.iload_n 2, 1) := by decide +kernel
theorem dX8_letterAt_42 : decode cX8_letterAt 42 = .ok (.invokevirtual 131, 3) := by decide +kernel
theorem dX8_letterAt_45 : decode cX8_letterAt 45 = .ok (.ireturn, 1) := by decide +kernel
theorem dX8_readAt_0 : decode cX8_readAt 0 = .ok (.iload_n 1, 1) := by decide +kernel
theorem dX8_readAt_1 : decode cX8_readAt 1 = .ok (.invokestatic 71, 3) := by decide +kernel
theorem dX8_readAt_4 : decode cX8_readAt 4 = .ok (.ifCond .eq 7, 3) := by decide +kernel
theorem dX8_readAt_7 : decode cX8_readAt 7 = .ok (.iload_n 2, 1) := by decide +kernel
theorem dX8_readAt_8 : decode cX8_readAt 8 = .ok (.ifCond .ge 6, 3) := by decide +kernel
theorem dX8_readAt_11 : decode cX8_readAt 11 = .ok (.ldc 56, 2) := by decide +kernel
theorem dX8_readAt_13 : decode cX8_readAt 13 = .ok (.ireturn, 1) := by decide +kernel
theorem dX8_readAt_14 : decode cX8_readAt 14 = .ok (.iload_n 2, 1) := by decide +kernel
theorem dX8_readAt_15 : decode cX8_readAt 15 = .ok (.aload_n 0, 1) := by decide +kernel
theorem dX8_readAt_16 : decode cX8_readAt 16 = .ok (.getfield 22, 3) := by decide +kernel
theorem dX8_readAt_19 : decode cX8_readAt 19 = .ok (.getfield 134, 3) := by decide +kernel
theorem dX8_readAt_22 : decode cX8_readAt 22 = .ok (.iload_n 1, 1) := by decide +kernel
theorem dX8_readAt_23 : decode cX8_readAt 23 = .ok (.iaload, 1) := by decide +kernel
theorem dX8_readAt_24 : decode cX8_readAt 24 = .ok (.if_icmp .ge 15, 3) := by decide +kernel
theorem dX8_readAt_27 : decode cX8_readAt 27 = .ok (.aload_n 0, 1) := by decide +kernel
theorem dX8_readAt_28 : decode cX8_readAt 28 = .ok (.getfield 22, 3) := by decide +kernel
theorem dX8_readAt_31 : decode cX8_readAt 31 = .ok (.iload_n 1, 1) := by decide +kernel
theorem dX8_readAt_32 : decode cX8_readAt 32 = .ok (.iload_n 2, 1) := by decide +kernel
theorem dX8_readAt_33 : decode cX8_readAt 33 = .ok (.invokevirtual 137, 3) := by decide +kernel
theorem dX8_readAt_36 : decode cX8_readAt 36 = .ok (.goto 5, 3) := by decide +kernel
theorem dX8_readAt_39 : decode cX8_readAt 39 = .ok (.ldc 70, 2) := by decide +kernel
theorem dX8_readAt_41 : decode cX8_readAt 41 = .ok (.ireturn, 1) := by decide +kernel
theorem dX8_readerAt_0 : decode cX8_readerAt 0 = .ok (.iload_n 1, 1) := by decide +kernel
theorem dX8_readerAt_1 : decode cX8_readerAt 1 = .ok (.invokestatic 71, 3) := by decide +kernel
theorem dX8_readerAt_4 : decode cX8_readerAt 4 = .ok (.ifCond .eq 7, 3) := by decide +kernel
theorem dX8_readerAt_7 : decode cX8_readerAt 7 = .ok (.iload_n 2, 1) := by decide +kernel
theorem dX8_readerAt_8 : decode cX8_readerAt 8 = .ok (.ifCond .ge 6, 3) := by decide +kernel
theorem dX8_readerAt_11 : decode cX8_readerAt 11 = .ok (.ldc 56, 2) := by decide +kernel
theorem dX8_readerAt_13 : decode cX8_readerAt 13 = .ok (.ireturn, 1) := by decide +kernel
theorem dX8_readerAt_14 : decode cX8_readerAt 14 = .ok (.iload_n 2, 1) := by decide +kernel
theorem dX8_readerAt_15 : decode cX8_readerAt 15 = .ok (.istore_n 3, 1) := by decide +kernel
theorem dX8_readerAt_16 : decode cX8_readerAt 16 = .ok (.iconst 0, 1) := by decide +kernel
theorem dX8_readerAt_17 : decode cX8_readerAt 17 = .ok (.istore 4, 2) := by decide +kernel
theorem dX8_readerAt_19 : decode cX8_readerAt 19 = .ok (.iload 4, 2) := by decide +kernel
theorem dX8_readerAt_21 : decode cX8_readerAt 21 = .ok (.bipush 72, 2) := by decide +kernel
theorem dX8_readerAt_23 : decode cX8_readerAt 23 = .ok (.if_icmp .ge 32, 3) := by decide +kernel
theorem dX8_readerAt_26 : decode cX8_readerAt 26 = .ok (.aload_n 0, 1) := by decide +kernel
theorem dX8_readerAt_27 : decode cX8_readerAt 27 = .ok (.getfield 22, 3) := by decide +kernel
theorem dX8_readerAt_30 : decode cX8_readerAt 30 = .ok (.iload 4, 2) := by decide +kernel
theorem dX8_readerAt_32 : decode cX8_readerAt 32 = .ok (.iload_n 1, 1) := by decide +kernel
theorem dX8_readerAt_33 : decode cX8_readerAt 33 = .ok (.invokevirtual 140, 3) := by decide +kernel
theorem dX8_readerAt_36 : decode cX8_readerAt 36 = .ok (.ifCond .eq 13, 3) := by decide +kernel
theorem dX8_readerAt_39 : decode cX8_readerAt 39 = .ok (.iload_n 3, 1) := by decide +kernel
theorem dX8_readerAt_40 : decode cX8_readerAt 40 = .ok (.ifCond .ne 6, 3) := by decide +kernel
theorem dX8_readerAt_43 : decode cX8_readerAt 43 = .ok (.iload 4, 2) := by decide +kernel
theorem dX8_readerAt_45 : decode cX8_readerAt 45 = .ok (.ireturn, 1) := by decide +kernel
theorem dX8_readerAt_46 : decode cX8_readerAt 46 = .ok (.iinc 3 (-1), 3) := by decide +kernel
theorem dX8_readerAt_49 : decode cX8_readerAt 49 = .ok (.iinc 4 1, 3) := by decide +kernel
theorem dX8_readerAt_52 : decode cX8_readerAt 52 = .ok (.goto (-33), 3) := by decide +kernel
theorem dX8_readerAt_55 : decode cX8_readerAt 55 = .ok (.ldc 70, 2) := by decide +kernel
theorem dX8_readerAt_57 : decode cX8_readerAt 57 = .ok (.ireturn, 1) := by decide +kernel
theorem dX8_ranAt_0 : decode cX8_ranAt 0 = .ok (.iload_n 1, 1) := by decide +kernel
theorem dX8_ranAt_1 : decode cX8_ranAt 1 = .ok (.ifCond .ge 6, 3) := by decide +kernel
theorem dX8_ranAt_4 : decode cX8_ranAt 4 = .ok (.ldc 56, 2) := by decide +kernel
theorem dX8_ranAt_6 : decode cX8_ranAt 6 = .ok (.ireturn, 1) := by decide +kernel
theorem dX8_ranAt_7 : decode cX8_ranAt 7 = .ok (.iload_n 1, 1) := by decide +kernel
theorem dX8_ranAt_8 : decode cX8_ranAt 8 = .ok (.istore_n 2, 1) := by decide +kernel
theorem dX8_ranAt_9 : decode cX8_ranAt 9 = .ok (.iconst 0, 1) := by decide +kernel
theorem dX8_ranAt_10 : decode cX8_ranAt 10 = .ok (.istore_n 3, 1) := by decide +kernel
theorem dX8_ranAt_11 : decode cX8_ranAt 11 = .ok (.iload_n 3, 1) := by decide +kernel
theorem dX8_ranAt_12 : decode cX8_ranAt 12 = .ok (.bipush 72, 2) := by decide +kernel
theorem dX8_ranAt_14 : decode cX8_ranAt 14 = .ok (.if_icmp .gt 62, 3) := by decide +kernel
theorem dX8_ranAt_17 : decode cX8_ranAt 17 = .ok (.iconst 0, 1) := by decide +kernel
theorem dX8_ranAt_18 : decode cX8_ranAt 18 = .ok (.istore 4, 2) := by decide +kernel
theorem dX8_ranAt_20 : decode cX8_ranAt 20 = .ok (.iload 4, 2) := by decide +kernel
theorem dX8_ranAt_22 : decode cX8_ranAt 22 = .ok (.bipush 72, 2) := by decide +kernel
theorem dX8_ranAt_24 : decode cX8_ranAt 24 = .ok (.if_icmp .ge 46, 3) := by decide +kernel
theorem dX8_ranAt_27 : decode cX8_ranAt 27 = .ok (.aload_n 0, 1) := by decide +kernel
theorem dX8_ranAt_28 : decode cX8_ranAt 28 = .ok (.getfield 22, 3) := by decide +kernel
theorem dX8_ranAt_31 : decode cX8_ranAt 31 = .ok (.getfield 144, 3) := by decide +kernel
theorem dX8_ranAt_34 : decode cX8_ranAt 34 = .ok (.iload 4, 2) := by decide +kernel
theorem dX8_ranAt_36 : decode cX8_ranAt 36 = .ok (.iaload, 1) := by decide +kernel
theorem dX8_ranAt_37 : decode cX8_ranAt 37 = .ok (.iconst (-1), 1) := by decide +kernel
theorem dX8_ranAt_38 : decode cX8_ranAt 38 = .ok (.if_icmp .eq 26, 3) := by decide +kernel
theorem dX8_ranAt_41 : decode cX8_ranAt 41 = .ok (.aload_n 0, 1) := by decide +kernel
theorem dX8_ranAt_42 : decode cX8_ranAt 42 = .ok (.getfield 22, 3) := by decide +kernel
theorem dX8_ranAt_45 : decode cX8_ranAt 45 = .ok (.iload 4, 2) := by decide +kernel
theorem dX8_ranAt_47 : decode cX8_ranAt 47 = .ok (.invokevirtual 147, 3) := by decide +kernel
theorem dX8_ranAt_50 : decode cX8_ranAt 50 = .ok (.iload_n 3, 1) := by decide +kernel
theorem dX8_ranAt_51 : decode cX8_ranAt 51 = .ok (.if_icmp .ne 13, 3) := by decide +kernel
theorem dX8_ranAt_54 : decode cX8_ranAt 54 = .ok (.iload_n 2, 1) := by decide +kernel
theorem dX8_ranAt_55 : decode cX8_ranAt 55 = .ok (.ifCond .ne 6, 3) := by decide +kernel
theorem dX8_ranAt_58 : decode cX8_ranAt 58 = .ok (.iload 4, 2) := by decide +kernel
theorem dX8_ranAt_60 : decode cX8_ranAt 60 = .ok (.ireturn, 1) := by decide +kernel
theorem dX8_ranAt_61 : decode cX8_ranAt 61 = .ok (.iinc 2 (-1), 3) := by decide +kernel
theorem dX8_ranAt_64 : decode cX8_ranAt 64 = .ok (.iinc 4 1, 3) := by decide +kernel
theorem dX8_ranAt_67 : decode cX8_ranAt 67 = .ok (.goto (-47), 3) := by decide +kernel
theorem dX8_ranAt_70 : decode cX8_ranAt 70 = .ok (.iinc 3 1, 3) := by decide +kernel
theorem dX8_ranAt_73 : decode cX8_ranAt 73 = .ok (.goto (-62), 3) := by decide +kernel
theorem dX8_ranAt_76 : decode cX8_ranAt 76 = .ok (.ldc 70, 2) := by decide +kernel
theorem dX8_ranAt_78 : decode cX8_ranAt 78 = .ok (.ireturn, 1) := by decide +kernel
theorem dX8_changedAt_0 : decode cX8_changedAt 0 = .ok (.iload_n 1, 1) := by decide +kernel
theorem dX8_changedAt_1 : decode cX8_changedAt 1 = .ok (.ifCond .ge 6, 3) := by decide +kernel
theorem dX8_changedAt_4 : decode cX8_changedAt 4 = .ok (.ldc 56, 2) := by decide +kernel
theorem dX8_changedAt_6 : decode cX8_changedAt 6 = .ok (.ireturn, 1) := by decide +kernel
theorem dX8_changedAt_7 : decode cX8_changedAt 7 = .ok (.iload_n 1, 1) := by decide +kernel
theorem dX8_changedAt_8 : decode cX8_changedAt 8 = .ok (.istore_n 2, 1) := by decide +kernel
theorem dX8_changedAt_9 : decode cX8_changedAt 9 = .ok (.iconst 0, 1) := by decide +kernel
theorem dX8_changedAt_10 : decode cX8_changedAt 10 = .ok (.istore_n 3, 1) := by decide +kernel
theorem dX8_changedAt_11 : decode cX8_changedAt 11 = .ok (.iload_n 3, 1) := by decide +kernel
theorem dX8_changedAt_12 : decode cX8_changedAt 12 = .ok (.bipush 72, 2) := by decide +kernel
theorem dX8_changedAt_14 : decode cX8_changedAt 14 = .ok (.if_icmp .ge 31, 3) := by decide +kernel
theorem dX8_changedAt_17 : decode cX8_changedAt 17 = .ok (.aload_n 0, 1) := by decide +kernel
theorem dX8_changedAt_18 : decode cX8_changedAt 18 = .ok (.getfield 22, 3) := by decide +kernel
theorem dX8_changedAt_21 : decode cX8_changedAt 21 = .ok (.getfield 151, 3) := by decide +kernel
theorem dX8_changedAt_24 : decode cX8_changedAt 24 = .ok (.iload_n 3, 1) := by decide +kernel
theorem dX8_changedAt_25 : decode cX8_changedAt 25 = .ok (.iaload, 1) := by decide +kernel
theorem dX8_changedAt_26 : decode cX8_changedAt 26 = .ok (.iconst 1, 1) := by decide +kernel
theorem dX8_changedAt_27 : decode cX8_changedAt 27 = .ok (.if_icmp .ne 12, 3) := by decide +kernel
theorem dX8_changedAt_30 : decode cX8_changedAt 30 = .ok (.iload_n 2, 1) := by decide +kernel
theorem dX8_changedAt_31 : decode cX8_changedAt 31 = .ok (.ifCond .ne 5, 3) := by decide +kernel
theorem dX8_changedAt_34 : decode cX8_changedAt 34 = .ok (.iload_n 3, 1) := by decide +kernel
theorem dX8_changedAt_35 : decode cX8_changedAt 35 = .ok (.ireturn, 1) := by decide +kernel
theorem dX8_changedAt_36 : decode cX8_changedAt 36 = .ok (.iinc 2 (-1), 3) := by decide +kernel
theorem dX8_changedAt_39 : decode cX8_changedAt 39 = .ok (.iinc 3 1, 3) := by decide +kernel
theorem dX8_changedAt_42 : decode cX8_changedAt 42 = .ok (.goto (-31), 3) := by decide +kernel
theorem dX8_changedAt_45 : decode cX8_changedAt 45 = .ok (.ldc 70, 2) := by decide +kernel
theorem dX8_changedAt_47 : decode cX8_changedAt 47 = .ok (.ireturn, 1) := by decide +kernel
theorem dX8_cause_0 : decode cX8_cause 0 = .ok (.iload_n 1, 1) := by decide +kernel
theorem dX8_cause_1 : decode cX8_cause 1 = .ok (.invokestatic 71, 3) := by decide +kernel
theorem dX8_cause_4 : decode cX8_cause 4 = .ok (.ifCond .ne 6, 3) := by decide +kernel
theorem dX8_cause_7 : decode cX8_cause 7 = .ok (.ldc 56, 2) := by decide +kernel
theorem dX8_cause_9 : decode cX8_cause 9 = .ok (.ireturn, 1) := by decide +kernel
theorem dX8_cause_10 : decode cX8_cause 10 = .ok (.aload_n 0, 1) := by decide +kernel
theorem dX8_cause_11 : decode cX8_cause 11 = .ok (.getfield 22, 3) := by decide +kernel
theorem dX8_cause_14 : decode cX8_cause 14 = .ok (.getfield 144, 3) := by decide +kernel
theorem dX8_cause_17 : decode cX8_cause 17 = .ok (.iload_n 1, 1) := by decide +kernel
theorem dX8_cause_18 : decode cX8_cause 18 = .ok (.iaload, 1) := by decide +kernel
theorem dX8_cause_19 : decode cX8_cause 19 = .ok (.iconst (-1), 1) := by decide +kernel
theorem dX8_cause_20 : decode cX8_cause 20 = .ok (.if_icmp .ne 8, 3) := by decide +kernel
theorem dX8_cause_23 : decode cX8_cause 23 = .ok (.ldc 70, 2) := by decide +kernel
theorem dX8_cause_25 : decode cX8_cause 25 = .ok (.goto 12, 3) := by decide +kernel
theorem dX8_cause_28 : decode cX8_cause 28 = .ok (.aload_n 0, 1) := by decide +kernel
theorem dX8_cause_29 : decode cX8_cause 29 = .ok (.getfield 22, 3) := by decide +kernel
theorem dX8_cause_32 : decode cX8_cause 32 = .ok (.getfield 144, 3) := by decide +kernel
theorem dX8_cause_35 : decode cX8_cause 35 = .ok (.iload_n 1, 1) := by decide +kernel
theorem dX8_cause_36 : decode cX8_cause 36 = .ok (.iaload, 1) := by decide +kernel
theorem dX8_cause_37 : decode cX8_cause 37 = .ok (.ireturn, 1) := by decide +kernel
theorem dX8_chainAt_0 : decode cX8_chainAt 0 = .ok (.iload_n 1, 1) := by decide +kernel
theorem dX8_chainAt_1 : decode cX8_chainAt 1 = .ok (.invokestatic 71, 3) := by decide +kernel
theorem dX8_chainAt_4 : decode cX8_chainAt 4 = .ok (.ifCond .eq 7, 3) := by decide +kernel
theorem dX8_chainAt_7 : decode cX8_chainAt 7 = .ok (.iload_n 2, 1) := by decide +kernel
theorem dX8_chainAt_8 : decode cX8_chainAt 8 = .ok (.ifCond .ge 6, 3) := by decide +kernel
theorem dX8_chainAt_11 : decode cX8_chainAt 11 = .ok (.ldc 56, 2) := by decide +kernel
theorem dX8_chainAt_13 : decode cX8_chainAt 13 = .ok (.ireturn, 1) := by decide +kernel
theorem dX8_chainAt_14 : decode cX8_chainAt 14 = .ok (.aload_n 0, 1) := by decide +kernel
theorem dX8_chainAt_15 : decode cX8_chainAt 15 = .ok (.iload_n 1, 1) := by decide +kernel
theorem dX8_chainAt_16 : decode cX8_chainAt 16 = .ok (.invokevirtual 154, 3) := by decide +kernel
theorem dX8_chainAt_19 : decode cX8_chainAt 19 = .ok (.istore_n 3, 1) := by decide +kernel
theorem dX8_chainAt_20 : decode cX8_chainAt 20 = .ok (.iload_n 2, 1) := by decide +kernel
theorem dX8_chainAt_21 : decode cX8_chainAt 21 = .ok (.iload_n 3, 1) := by decide +kernel
theorem dX8_chainAt_22 : decode cX8_chainAt 22 = .ok (.if_icmp .ge 12, 3) := by decide +kernel
theorem dX8_chainAt_25 : decode cX8_chainAt 25 = .ok (.aload_n 0, 1) := by decide +kernel
theorem dX8_chainAt_26 : decode cX8_chainAt 26 = .ok (.getfield 52, 3) := by decide +kernel
theorem dX8_chainAt_29 : decode cX8_chainAt 29 = .ok (.iload_n 2, 1) := by decide +kernel
theorem dX8_chainAt_30 : decode cX8_chainAt 30 = .ok (.iaload, 1) := by decide +kernel
theorem dX8_chainAt_31 : decode cX8_chainAt 31 = .ok (.goto 5, 3) := by decide +kernel
theorem dX8_chainAt_34 : decode cX8_chainAt 34 = .ok (.ldc 70, 2) := by decide +kernel
theorem dX8_chainAt_36 : decode cX8_chainAt 36 = .ok (.ireturn, 1) := by decide +kernel
theorem dX8_whatIf_0 : decode cX8_whatIf 0 = .ok (.iload_n 1, 1) := by decide +kernel
theorem dX8_whatIf_1 : decode cX8_whatIf 1 = .ok (.invokestatic 71, 3) := by decide +kernel
theorem dX8_whatIf_4 : decode cX8_whatIf 4 = .ok (.ifCond .eq 22, 3) := by decide +kernel
theorem dX8_whatIf_7 : decode cX8_whatIf 7 = .ok (.iload_n 3, 1) := by decide +kernel
theorem dX8_whatIf_8 : decode cX8_whatIf 8 = .ok (.invokestatic 71, 3) := by decide +kernel
theorem dX8_whatIf_11 : decode cX8_whatIf 11 = .ok (.ifCond .eq 15, 3) := by decide +kernel
theorem dX8_whatIf_14 : decode cX8_whatIf 14 = .ok (.iload_n 2, 1) := by decide +kernel
theorem dX8_whatIf_15 : decode cX8_whatIf 15 = .ok (.ldc 157, 2) := by decide +kernel
theorem dX8_whatIf_17 : decode cX8_whatIf 17 = .ok (.if_icmp .lt 9, 3) := by decide +kernel
theorem dX8_whatIf_20 : decode cX8_whatIf 20 = .ok (.iload_n 2, 1) := by decide +kernel
theorem dX8_whatIf_21 : decode cX8_whatIf 21 = .ok (.ldc 158, 2) := by decide +kernel
theorem dX8_whatIf_23 : decode cX8_whatIf 23 = .ok (.if_icmp .le 6, 3) := by decide +kernel
theorem dX8_whatIf_26 : decode cX8_whatIf 26 = .ok (.ldc 56, 2) := by decide +kernel
theorem dX8_whatIf_28 : decode cX8_whatIf 28 = .ok (.ireturn, 1) := by decide +kernel
theorem dX8_whatIf_29 : decode cX8_whatIf 29 = .ok (.aload_n 0, 1) := by decide +kernel
theorem dX8_whatIf_30 : decode cX8_whatIf 30 = .ok (.iload_n 2, 1) := by decide +kernel
theorem dX8_whatIf_31 : decode cX8_whatIf 31 = .ok (.invokevirtual 159, 3) := by decide +kernel
theorem dX8_whatIf_34 : decode cX8_whatIf 34 = .ok (.aload_n 0, 1) := by decide +kernel
theorem dX8_whatIf_35 : decode cX8_whatIf 35 = .ok (.getfield 26, 3) := by decide +kernel
theorem dX8_whatIf_38 : decode cX8_whatIf 38 = .ok (.getfield 104, 3) := by decide +kernel
theorem dX8_whatIf_41 : decode cX8_whatIf 41 = .ok (.aload_n 0, 1) := by decide +kernel
theorem dX8_whatIf_42 : decode cX8_whatIf 42 = .ok (.getfield 22, 3) := by decide +kernel
theorem dX8_whatIf_45 : decode cX8_whatIf 45 = .ok (.getfield 104, 3) := by decide +kernel
theorem dX8_whatIf_48 : decode cX8_whatIf 48 = .ok (.invokevirtual 162, 3) := by decide +kernel
theorem dX8_whatIf_51 : decode cX8_whatIf 51 = .ok (.aload_n 0, 1) := by decide +kernel
theorem dX8_whatIf_52 : decode cX8_whatIf 52 = .ok (.getfield 26, 3) := by decide +kernel
theorem dX8_whatIf_55 : decode cX8_whatIf 55 = .ok (.getfield 104, 3) := by decide +kernel
theorem dX8_whatIf_58 : decode cX8_whatIf 58 = .ok (.iload_n 1, 1) := by decide +kernel
theorem dX8_whatIf_59 : decode cX8_whatIf 59 = .ok (.aload_n 0, 1) := by decide +kernel
theorem dX8_whatIf_60 : decode cX8_whatIf 60 = .ok (.getfield 16, 3) := by decide +kernel
theorem dX8_whatIf_63 : decode cX8_whatIf 63 = .ok (.invokevirtual 166, 3) := by decide +kernel
theorem dX8_whatIf_66 : decode cX8_whatIf 66 = .ok (.aload_n 0, 1) := by decide +kernel
theorem dX8_whatIf_67 : decode cX8_whatIf 67 = .ok (.getfield 26, 3) := by decide +kernel
theorem dX8_whatIf_70 : decode cX8_whatIf 70 = .ok (.aload_n 0, 1) := by decide +kernel
theorem dX8_whatIf_71 : decode cX8_whatIf 71 = .ok (.getfield 22, 3) := by decide +kernel
theorem dX8_whatIf_74 : decode cX8_whatIf 74 = .ok (.getfield 115, 3) := by decide +kernel
theorem dX8_whatIf_77 : decode cX8_whatIf 77 = .ok (.putfield 115, 3) := by decide +kernel
theorem dX8_whatIf_80 : decode cX8_whatIf 80 = .ok (.aload_n 0, 1) := by decide +kernel
theorem dX8_whatIf_81 : decode cX8_whatIf 81 = .ok (.getfield 48, 3) := by decide +kernel
theorem dX8_whatIf_84 : decode cX8_whatIf 84 = .ok (.aload_n 0, 1) := by decide +kernel
theorem dX8_whatIf_85 : decode cX8_whatIf 85 = .ok (.getfield 26, 3) := by decide +kernel
theorem dX8_whatIf_88 : decode cX8_whatIf 88 = .ok (.invokevirtual 170, 3) := by decide +kernel
theorem dX8_whatIf_91 : decode cX8_whatIf 91 = .ok (.aload_n 0, 1) := by decide +kernel
theorem dX8_whatIf_92 : decode cX8_whatIf 92 = .ok (.getfield 48, 3) := by decide +kernel
theorem dX8_whatIf_95 : decode cX8_whatIf 95 = .ok (.aload_n 0, 1) := by decide +kernel
theorem dX8_whatIf_96 : decode cX8_whatIf 96 = .ok (.getfield 26, 3) := by decide +kernel
theorem dX8_whatIf_99 : decode cX8_whatIf 99 = .ok (.invokevirtual 173, 3) := by decide +kernel
theorem dX8_whatIf_102 : decode cX8_whatIf 102 = .ok (.aload_n 0, 1) := by decide +kernel
theorem dX8_whatIf_103 : decode cX8_whatIf 103 = .ok (.getfield 26, 3) := by decide +kernel
theorem dX8_whatIf_106 : decode cX8_whatIf 106 = .ok (.getfield 118, 3) := by decide +kernel
theorem dX8_whatIf_109 : decode cX8_whatIf 109 = .ok (.iload_n 3, 1) := by decide +kernel
theorem dX8_whatIf_110 : decode cX8_whatIf 110 = .ok (.iaload, 1) := by decide +kernel
theorem dX8_whatIf_111 : decode cX8_whatIf 111 = .ok (.ifCond .ne 15, 3) := by decide +kernel
theorem dX8_whatIf_114 : decode cX8_whatIf 114 = .ok (.aload_n 0, 1) := by decide +kernel
theorem dX8_whatIf_115 : decode cX8_whatIf 115 = .ok (.getfield 26, 3) := by decide +kernel
theorem dX8_whatIf_118 : decode cX8_whatIf 118 = .ok (.getfield 121, 3) := by decide +kernel
theorem dX8_whatIf_121 : decode cX8_whatIf 121 = .ok (.iload_n 3, 1) := by decide +kernel
theorem dX8_whatIf_122 : decode cX8_whatIf 122 = .ok (.iaload, 1) := by decide +kernel
theorem dX8_whatIf_123 : decode cX8_whatIf 123 = .ok (.goto 5, 3) := by decide +kernel
theorem dX8_whatIf_126 : decode cX8_whatIf 126 = .ok (.ldc 70, 2) := by decide +kernel
theorem dX8_whatIf_128 : decode cX8_whatIf 128 = .ok (.ireturn, 1) := by decide +kernel
theorem dX8_count_0 : decode cX8_count 0 = .ok (.iload_n 1, 1) := by decide +kernel
theorem dX8_count_1 : decode cX8_count 1 = .ok (.tableswitch 174 0 12 #[67, 76, 84, 90, 97, 105, 121, 128, 136, 144, 152, 160, 168], 67) := by decide +kernel
theorem dX8_count_68 : decode cX8_count 68 = .ok (.bipush 72, 2) := by decide +kernel
theorem dX8_count_70 : decode cX8_count 70 = .ok (.aload_n 0, 1) := by decide +kernel
theorem dX8_count_71 : decode cX8_count 71 = .ok (.iconst 3, 1) := by decide +kernel
theorem dX8_count_72 : decode cX8_count 72 = .ok (.invokevirtual 176, 3) := by decide +kernel
theorem dX8_count_75 : decode cX8_count 75 = .ok (.isub, 1) := by decide +kernel
theorem dX8_count_76 : decode cX8_count 76 = .ok (.ireturn, 1) := by decide +kernel
theorem dX8_count_77 : decode cX8_count 77 = .ok (.aload_n 0, 1) := by decide +kernel
theorem dX8_count_78 : decode cX8_count 78 = .ok (.getfield 22, 3) := by decide +kernel
theorem dX8_count_81 : decode cX8_count 81 = .ok (.invokevirtual 84, 3) := by decide +kernel
theorem dX8_count_84 : decode cX8_count 84 = .ok (.ireturn, 1) := by decide +kernel
theorem dX8_count_85 : decode cX8_count 85 = .ok (.aload_n 0, 1) := by decide +kernel
theorem dX8_count_86 : decode cX8_count 86 = .ok (.iconst 5, 1) := by decide +kernel
theorem dX8_count_87 : decode cX8_count 87 = .ok (.invokevirtual 176, 3) := by decide +kernel
theorem dX8_count_90 : decode cX8_count 90 = .ok (.ireturn, 1) := by decide +kernel
theorem dX8_count_91 : decode cX8_count 91 = .ok (.aload_n 0, 1) := by decide +kernel
theorem dX8_count_92 : decode cX8_count 92 = .ok (.bipush 6, 2) := by decide +kernel
theorem dX8_count_94 : decode cX8_count 94 = .ok (.invokevirtual 176, 3) := by decide +kernel
theorem dX8_count_97 : decode cX8_count 97 = .ok (.ireturn, 1) := by decide +kernel
theorem dX8_count_98 : decode cX8_count 98 = .ok (.aload_n 0, 1) := by decide +kernel
theorem dX8_count_99 : decode cX8_count 99 = .ok (.getfield 22, 3) := by decide +kernel
theorem dX8_count_102 : decode cX8_count 102 = .ok (.getfield 179, 3) := by decide +kernel
theorem dX8_count_105 : decode cX8_count 105 = .ok (.ireturn, 1) := by decide +kernel
theorem dX8_count_106 : decode cX8_count 106 = .ok (.aload_n 0, 1) := by decide +kernel
theorem dX8_count_107 : decode cX8_count 107 = .ok (.getfield 22, 3) := by decide +kernel
theorem dX8_count_110 : decode cX8_count 110 = .ok (.getfield 182, 3) := by decide +kernel
theorem dX8_count_113 : decode cX8_count 113 = .ok (.ifCond .eq 7, 3) := by decide +kernel
theorem dX8_count_116 : decode cX8_count 116 = .ok (.iconst 1, 1) := by decide +kernel
theorem dX8_count_117 : decode cX8_count 117 = .ok (.goto 4, 3) := by decide +kernel
theorem dX8_count_120 : decode cX8_count 120 = .ok (.iconst 0, 1) := by decide +kernel
theorem dX8_count_121 : decode cX8_count 121 = .ok (.ireturn, 1) := by decide +kernel
theorem dX8_count_122 : decode cX8_count 122 = .ok (.aload_n 0, 1) := by decide +kernel
theorem dX8_count_123 : decode cX8_count 123 = .ok (.bipush 7, 2) := by decide +kernel
theorem dX8_count_125 : decode cX8_count 125 = .ok (.invokevirtual 176, 3) := by decide +kernel
theorem dX8_count_128 : decode cX8_count 128 = .ok (.ireturn, 1) := by decide +kernel
theorem dX8_count_129 : decode cX8_count 129 = .ok (.aload_n 0, 1) := by decide +kernel
theorem dX8_count_130 : decode cX8_count 130 = .ok (.getfield 22, 3) := by decide +kernel
theorem dX8_count_133 : decode cX8_count 133 = .ok (.invokevirtual 186, 3) := by decide +kernel
theorem dX8_count_136 : decode cX8_count 136 = .ok (.ireturn, 1) := by decide +kernel
theorem dX8_count_137 : decode cX8_count 137 = .ok (.aload_n 0, 1) := by decide +kernel
theorem dX8_count_138 : decode cX8_count 138 = .ok (.getfield 22, 3) := by decide +kernel
theorem dX8_count_141 : decode cX8_count 141 = .ok (.invokevirtual 189, 3) := by decide +kernel
theorem dX8_count_144 : decode cX8_count 144 = .ok (.ireturn, 1) := by decide +kernel
theorem dX8_count_145 : decode cX8_count 145 = .ok (.aload_n 0, 1) := by decide +kernel
theorem dX8_count_146 : decode cX8_count 146 = .ok (.getfield 22, 3) := by decide +kernel
theorem dX8_count_149 : decode cX8_count 149 = .ok (.getfield 115, 3) := by decide +kernel
theorem dX8_count_152 : decode cX8_count 152 = .ok (.ireturn, 1) := by decide +kernel
theorem dX8_count_153 : decode cX8_count 153 = .ok (.aload_n 0, 1) := by decide +kernel
theorem dX8_count_154 : decode cX8_count 154 = .ok (.getfield 32, 3) := by decide +kernel
theorem dX8_count_157 : decode cX8_count 157 = .ok (.getfield 192, 3) := by decide +kernel
theorem dX8_count_160 : decode cX8_count 160 = .ok (.ireturn, 1) := by decide +kernel
theorem dX8_count_161 : decode cX8_count 161 = .ok (.aload_n 0, 1) := by decide +kernel
theorem dX8_count_162 : decode cX8_count 162 = .ok (.getfield 10, 3) := by decide +kernel
theorem dX8_count_165 : decode cX8_count 165 = .ok (.getfield 57, 3) := by decide +kernel
theorem dX8_count_168 : decode cX8_count 168 = .ok (.ireturn, 1) := by decide +kernel
theorem dX8_count_169 : decode cX8_count 169 = .ok (.aload_n 0, 1) := by decide +kernel
theorem dX8_count_170 : decode cX8_count 170 = .ok (.iconst 4, 1) := by decide +kernel
theorem dX8_count_171 : decode cX8_count 171 = .ok (.invokevirtual 176, 3) := by decide +kernel
theorem dX8_count_174 : decode cX8_count 174 = .ok (.ireturn, 1) := by decide +kernel
theorem dX8_count_175 : decode cX8_count 175 = .ok (.ldc 56, 2) := by decide +kernel
theorem dX8_count_177 : decode cX8_count 177 = .ok (.ireturn, 1) := by decide +kernel
theorem dX8_undo_0 : decode cX8_undo 0 = .ok (.aload_n 0, 1) := by decide +kernel
theorem dX8_undo_1 : decode cX8_undo 1 = .ok (.getfield 32, 3) := by decide +kernel
theorem dX8_undo_4 : decode cX8_undo 4 = .ok (.getfield 192, 3) := by decide +kernel
theorem dX8_undo_7 : decode cX8_undo 7 = .ok (.ifCond .ne 6, 3) := by decide +kernel
theorem dX8_undo_10 : decode cX8_undo 10 = .ok (.ldc 75, 2) := by decide +kernel
theorem dX8_undo_12 : decode cX8_undo 12 = .ok (.ireturn, 1) := by decide +kernel
theorem dX8_undo_13 : decode cX8_undo 13 = .ok (.aload_n 0, 1) := by decide +kernel
theorem dX8_undo_14 : decode cX8_undo 14 = .ok (.getfield 32, 3) := by decide +kernel
theorem dX8_undo_17 : decode cX8_undo 17 = .ok (.aload_n 0, 1) := by decide +kernel
theorem dX8_undo_18 : decode cX8_undo 18 = .ok (.getfield 22, 3) := by decide +kernel
theorem dX8_undo_21 : decode cX8_undo 21 = .ok (.invokevirtual 195, 3) := by decide +kernel
theorem dX8_undo_24 : decode cX8_undo 24 = .ok (.aload_n 0, 1) := by decide +kernel
theorem dX8_undo_25 : decode cX8_undo 25 = .ok (.getfield 32, 3) := by decide +kernel
theorem dX8_undo_28 : decode cX8_undo 28 = .ok (.getfield 192, 3) := by decide +kernel
theorem dX8_undo_31 : decode cX8_undo 31 = .ok (.ireturn, 1) := by decide +kernel
theorem dX8_letWait_0 : decode cX8_letWait 0 = .ok (.aload_n 0, 1) := by decide +kernel
theorem dX8_letWait_1 : decode cX8_letWait 1 = .ok (.getfield 22, 3) := by decide +kernel
theorem dX8_letWait_4 : decode cX8_letWait 4 = .ok (.iload_n 1, 1) := by decide +kernel
theorem dX8_letWait_5 : decode cX8_letWait 5 = .ok (.invokevirtual 101, 3) := by decide +kernel
theorem dX8_letWait_8 : decode cX8_letWait 8 = .ok (.ifCond .ne 18, 3) := by decide +kernel
theorem dX8_letWait_11 : decode cX8_letWait 11 = .ok (.aload_n 0, 1) := by decide +kernel
theorem dX8_letWait_12 : decode cX8_letWait 12 = .ok (.getfield 22, 3) := by decide +kernel
theorem dX8_letWait_15 : decode cX8_letWait 15 = .ok (.invokevirtual 84, 3) := by decide +kernel
theorem dX8_letWait_18 : decode cX8_letWait 18 = .ok (.bipush 8, 2) := by decide +kernel
theorem dX8_letWait_20 : decode cX8_letWait 20 = .ok (.if_icmp .lt 6, 3) := by decide +kernel
theorem dX8_letWait_23 : decode cX8_letWait 23 = .ok (.ldc 61, 2) := by decide +kernel
theorem dX8_letWait_25 : decode cX8_letWait 25 = .ok (.ireturn, 1) := by decide +kernel
theorem dX8_letWait_26 : decode cX8_letWait 26 = .ok (.aload_n 0, 1) := by decide +kernel
theorem dX8_letWait_27 : decode cX8_letWait 27 = .ok (.getfield 32, 3) := by decide +kernel
theorem dX8_letWait_30 : decode cX8_letWait 30 = .ok (.aload_n 0, 1) := by decide +kernel
theorem dX8_letWait_31 : decode cX8_letWait 31 = .ok (.getfield 22, 3) := by decide +kernel
theorem dX8_letWait_34 : decode cX8_letWait 34 = .ok (.invokevirtual 88, 3) := by decide +kernel
theorem dX8_letWait_37 : decode cX8_letWait 37 = .ok (.pop, 1) := by decide +kernel
theorem dX8_letWait_38 : decode cX8_letWait 38 = .ok (.aload_n 0, 1) := by decide +kernel
theorem dX8_letWait_39 : decode cX8_letWait 39 = .ok (.getfield 22, 3) := by decide +kernel
theorem dX8_letWait_42 : decode cX8_letWait 42 = .ok (.getfield 92, 3) := by decide +kernel
theorem dX8_letWait_45 : decode cX8_letWait 45 = .ok (.iload_n 1, 1) := by decide +kernel
theorem dX8_letWait_46 : decode cX8_letWait 46 = .ok (.aload_n 2, 1) := by decide +kernel
theorem dX8_letWait_47 : decode cX8_letWait 47 = .ok (.invokevirtual 166, 3) := by decide +kernel
theorem dX8_letWait_50 : decode cX8_letWait 50 = .ok (.aload_n 0, 1) := by decide +kernel
theorem dX8_letWait_51 : decode cX8_letWait 51 = .ok (.getfield 22, 3) := by decide +kernel
theorem dX8_letWait_54 : decode cX8_letWait 54 = .ok (.invokevirtual 84, 3) := by decide +kernel
theorem dX8_letWait_57 : decode cX8_letWait 57 = .ok (.ireturn, 1) := by decide +kernel
theorem dX8_draftShifted_0 : decode cX8_draftShifted 0 = .ok (.aload_n 0, 1) := by decide +kernel
theorem dX8_draftShifted_1 : decode cX8_draftShifted 1 = .ok (.getfield 16, 3) := by decide +kernel
theorem dX8_draftShifted_4 : decode cX8_draftShifted 4 = .ok (.iconst 0, 1) := by decide +kernel
theorem dX8_draftShifted_5 : decode cX8_draftShifted 5 = .ok (.putfield 57, 3) := by decide +kernel
theorem dX8_draftShifted_8 : decode cX8_draftShifted 8 = .ok (.iconst 0, 1) := by decide +kernel
theorem dX8_draftShifted_9 : decode cX8_draftShifted 9 = .ok (.istore 4, 2) := by decide +kernel
theorem dX8_draftShifted_11 : decode cX8_draftShifted 11 = .ok (.iload 4, 2) := by decide +kernel
theorem dX8_draftShifted_13 : decode cX8_draftShifted 13 = .ok (.aload_n 0, 1) := by decide +kernel
theorem dX8_draftShifted_14 : decode cX8_draftShifted 14 = .ok (.getfield 22, 3) := by decide +kernel
theorem dX8_draftShifted_17 : decode cX8_draftShifted 17 = .ok (.getfield 104, 3) := by decide +kernel
theorem dX8_draftShifted_20 : decode cX8_draftShifted 20 = .ok (.getfield 128, 3) := by decide +kernel
theorem dX8_draftShifted_23 : decode cX8_draftShifted 23 = .ok (.iload_n 1, 1) := by decide +kernel
theorem dX8_draftShifted_24 : decode cX8_draftShifted 24 = .ok (.iaload, 1) := by decide +kernel
theorem dX8_draftShifted_25 : decode cX8_draftShifted 25 = .ok (.if_icmp .ge 37, 3) := by decide +kernel
theorem dX8_draftShifted_28 : decode cX8_draftShifted 28 = .ok (.aload_n 0, 1) := by decide +kernel
theorem dX8_draftShifted_29 : decode cX8_draftShifted 29 = .ok (.iload_n 1, 1) := by decide +kernel
theorem dX8_draftShifted_30 : decode cX8_draftShifted 30 = .ok (.iload 4, 2) := by decide +kernel
theorem dX8_draftShifted_32 : decode cX8_draftShifted 32 = .ok (.iload_n 2, 1) := by decide +kernel
theorem dX8_draftShifted_33 : decode cX8_draftShifted 33 = .ok (.iload_n 3, 1) := by decide +kernel
theorem dX8_draftShifted_34 : decode cX8_draftShifted 34 = .ok (.invokevirtual 198, 3) := by decide +kernel
theorem dX8_draftShifted_37 : decode cX8_draftShifted 37 = .ok (.istore 5, 2) := by decide +kernel
theorem dX8_draftShifted_39 : decode cX8_draftShifted 39 = .ok (.iload 5, 2) := by decide +kernel
theorem dX8_draftShifted_41 : decode cX8_draftShifted 41 = .ok (.iconst (-1), 1) := by decide +kernel
theorem dX8_draftShifted_42 : decode cX8_draftShifted 42 = .ok (.if_icmp .ne 5, 3) := by decide +kernel
theorem dX8_draftShifted_45 : decode cX8_draftShifted 45 = .ok (.iconst 0, 1) := by decide +kernel
theorem dX8_draftShifted_46 : decode cX8_draftShifted 46 = .ok (.ireturn, 1) := by decide +kernel
theorem dX8_draftShifted_47 : decode cX8_draftShifted 47 = .ok (.aload_n 0, 1) := by decide +kernel
theorem dX8_draftShifted_48 : decode cX8_draftShifted 48 = .ok (.getfield 16, 3) := by decide +kernel
theorem dX8_draftShifted_51 : decode cX8_draftShifted 51 = .ok (.iload 5, 2) := by decide +kernel
theorem dX8_draftShifted_53 : decode cX8_draftShifted 53 = .ok (.invokevirtual 62, 3) := by decide +kernel
theorem dX8_draftShifted_56 : decode cX8_draftShifted 56 = .ok (.iinc 4 1, 3) := by decide +kernel
theorem dX8_draftShifted_59 : decode cX8_draftShifted 59 = .ok (.goto (-48), 3) := by decide +kernel
theorem dX8_draftShifted_62 : decode cX8_draftShifted 62 = .ok (.iconst 1, 1) := by decide +kernel
theorem dX8_draftShifted_63 : decode cX8_draftShifted 63 = .ok (.ireturn, 1) := by decide +kernel
theorem dX8_shiftedLetter_0 : decode cX8_shiftedLetter 0 = .ok (.aload_n 0, 1) := by decide +kernel
theorem dX8_shiftedLetter_1 : decode cX8_shiftedLetter 1 = .ok (.getfield 22, 3) := by decide +kernel
theorem dX8_shiftedLetter_4 : decode cX8_shiftedLetter 4 = .ok (.getfield 104, 3) := by decide +kernel
theorem dX8_shiftedLetter_7 : decode cX8_shiftedLetter 7 = .ok (.iload_n 1, 1) := by decide +kernel
theorem dX8_shiftedLetter_8 : decode cX8_shiftedLetter 8 = .ok (.iload_n 2, 1) := by decide +kernel
theorem dX8_shiftedLetter_9 : decode cX8_shiftedLetter 9 = .ok (.invokevirtual 131, 3) := by decide +kernel
theorem dX8_shiftedLetter_12 : decode cX8_shiftedLetter 12 = .ok (.istore 5, 2) := by decide +kernel
theorem dX8_shiftedLetter_14 : decode cX8_shiftedLetter 14 = .ok (.iload 5, 2) := by decide +kernel
theorem dX8_shiftedLetter_16 : decode cX8_shiftedLetter 16 = .ok (.invokestatic 202, 3) := by decide +kernel
theorem dX8_shiftedLetter_19 : decode cX8_shiftedLetter 19 = .ok (.ifCond .eq 42, 3) := by decide +kernel
theorem dX8_shiftedLetter_22 : decode cX8_shiftedLetter 22 = .ok (.aload_n 0, 1) := by decide +kernel
theorem dX8_shiftedLetter_23 : decode cX8_shiftedLetter 23 = .ok (.getfield 22, 3) := by decide +kernel
theorem dX8_shiftedLetter_26 : decode cX8_shiftedLetter 26 = .ok (.getfield 104, 3) := by decide +kernel
theorem dX8_shiftedLetter_29 : decode cX8_shiftedLetter 29 = .ok (.iload_n 1, 1) := by decide +kernel
theorem dX8_shiftedLetter_30 : decode cX8_shiftedLetter 30 = .ok (.iload_n 2, 1) := by decide +kernel
theorem dX8_shiftedLetter_31 : decode cX8_shiftedLetter 31 = .ok (.iconst 1, 1) := by decide +kernel
theorem dX8_shiftedLetter_32 : decode cX8_shiftedLetter 32 = .ok (.iadd, 1) := by decide +kernel
theorem dX8_shiftedLetter_33 : decode cX8_shiftedLetter 33 = .ok (.invokevirtual 131, 3) := by decide +kernel
theorem dX8_shiftedLetter_36 : decode cX8_shiftedLetter 36 = .ok (.invokestatic 205, 3) := by decide +kernel
theorem dX8_shiftedLetter_39 : decode cX8_shiftedLetter 39 = .ok (.ifCond .eq 22, 3) := by decide +kernel
theorem dX8_shiftedLetter_42 : decode cX8_shiftedLetter 42 = .ok (.iload 5, 2) := by decide +kernel
theorem dX8_shiftedLetter_44 : decode cX8_shiftedLetter 44 = .ok (.iload_n 3, 1) := by decide +kernel
theorem dX8_shiftedLetter_45 : decode cX8_shiftedLetter 45 = .ok (.iadd, 1) := by decide +kernel
theorem dX8_shiftedLetter_46 : decode cX8_shiftedLetter 46 = .ok (.invokestatic 202, 3) := by decide +kernel
theorem dX8_shiftedLetter_49 : decode cX8_shiftedLetter 49 = .ok (.ifCond .eq 10, 3) := by decide +kernel
theorem dX8_shiftedLetter_52 : decode cX8_shiftedLetter 52 = .ok (.iload 5, 2) := by decide +kernel
theorem dX8_shiftedLetter_54 : decode cX8_shiftedLetter 54 = .ok (.iload_n 3, 1) := by decide +kernel
theorem dX8_shiftedLetter_55 : decode cX8_shiftedLetter 55 = .ok (.iadd, 1) := by decide +kernel
theorem dX8_shiftedLetter_56 : decode cX8_shiftedLetter 56 = .ok (.goto 4, 3) := by decide +kernel
theorem dX8_shiftedLetter_59 : decode cX8_shiftedLetter 59 = .ok (.iconst (-1), 1) := by decide +kernel
theorem dX8_shiftedLetter_60 : decode cX8_shiftedLetter 60 = .ok (.ireturn, 1) := by decide +kernel
theorem dX8_shiftedLetter_61 : decode cX8_shiftedLetter 61 = .ok (.iload 5, 2) := by decide +kernel
theorem dX8_shiftedLetter_63 : decode cX8_shiftedLetter 63 = .ok (.invokestatic 205, 3) := by decide +kernel
theorem dX8_shiftedLetter_66 : decode cX8_shiftedLetter 66 = .ok (.ifCond .eq 44, 3) := by decide +kernel
theorem dX8_shiftedLetter_69 : decode cX8_shiftedLetter 69 = .ok (.aload_n 0, 1) := by decide +kernel
theorem dX8_shiftedLetter_70 : decode cX8_shiftedLetter 70 = .ok (.getfield 22, 3) := by decide +kernel
theorem dX8_shiftedLetter_73 : decode cX8_shiftedLetter 73 = .ok (.getfield 104, 3) := by decide +kernel
theorem dX8_shiftedLetter_76 : decode cX8_shiftedLetter 76 = .ok (.iload_n 1, 1) := by decide +kernel
theorem dX8_shiftedLetter_77 : decode cX8_shiftedLetter 77 = .ok (.iload_n 2, 1) := by decide +kernel
theorem dX8_shiftedLetter_78 : decode cX8_shiftedLetter 78 = .ok (.iconst 1, 1) := by decide +kernel
theorem dX8_shiftedLetter_79 : decode cX8_shiftedLetter 79 = .ok (.isub, 1) := by decide +kernel
theorem dX8_shiftedLetter_80 : decode cX8_shiftedLetter 80 = .ok (.invokevirtual 131, 3) := by decide +kernel
theorem dX8_shiftedLetter_83 : decode cX8_shiftedLetter 83 = .ok (.invokestatic 202, 3) := by decide +kernel
theorem dX8_shiftedLetter_86 : decode cX8_shiftedLetter 86 = .ok (.ifCond .eq 24, 3) := by decide +kernel
theorem dX8_shiftedLetter_89 : decode cX8_shiftedLetter 89 = .ok (.iload 5, 2) := by decide +kernel
theorem dX8_shiftedLetter_91 : decode cX8_shiftedLetter 91 = .ok (.iload 4, 2) := by decide +kernel
theorem dX8_shiftedLetter_93 : decode cX8_shiftedLetter 93 = .ok (.iadd, 1) := by decide +kernel
theorem dX8_shiftedLetter_94 : decode cX8_shiftedLetter 94 = .ok (.invokestatic 205, 3) := by decide +kernel
theorem dX8_shiftedLetter_97 : decode cX8_shiftedLetter 97 = .ok (.ifCond .eq 11, 3) := by decide +kernel
theorem dX8_shiftedLetter_100 : decode cX8_shiftedLetter 100 = .ok (.iload 5, 2) := by decide +kernel
theorem dX8_shiftedLetter_102 : decode cX8_shiftedLetter 102 = .ok (.iload 4, 2) := by decide +kernel
theorem dX8_shiftedLetter_104 : decode cX8_shiftedLetter 104 = .ok (.iadd, 1) := by decide +kernel
theorem dX8_shiftedLetter_105 : decode cX8_shiftedLetter 105 = .ok (.goto 4, 3) := by decide +kernel
theorem dX8_shiftedLetter_108 : decode cX8_shiftedLetter 108 = .ok (.iconst (-1), 1) := by decide +kernel
theorem dX8_shiftedLetter_109 : decode cX8_shiftedLetter 109 = .ok (.ireturn, 1) := by decide +kernel
theorem dX8_shiftedLetter_110 : decode cX8_shiftedLetter 110 = .ok (.iload 5, 2) := by decide +kernel
theorem dX8_shiftedLetter_112 : decode cX8_shiftedLetter 112 = .ok (.ireturn, 1) := by decide +kernel
theorem dX8_draftNumber_0 : decode cX8_draftNumber 0 = .ok (.aload_n 0, 1) := by decide +kernel
theorem dX8_draftNumber_1 : decode cX8_draftNumber 1 = .ok (.getfield 16, 3) := by decide +kernel
theorem dX8_draftNumber_4 : decode cX8_draftNumber 4 = .ok (.iconst 0, 1) := by decide +kernel
theorem dX8_draftNumber_5 : decode cX8_draftNumber 5 = .ok (.putfield 57, 3) := by decide +kernel
theorem dX8_draftNumber_8 : decode cX8_draftNumber 8 = .ok (.iload_n 1, 1) := by decide +kernel
theorem dX8_draftNumber_9 : decode cX8_draftNumber 9 = .ok (.ifCond .ge 12, 3) := by decide +kernel
theorem dX8_draftNumber_12 : decode cX8_draftNumber 12 = .ok (.aload_n 0, 1) := by decide +kernel
theorem dX8_draftNumber_13 : decode cX8_draftNumber 13 = .ok (.getfield 16, 3) := by decide +kernel
theorem dX8_draftNumber_16 : decode cX8_draftNumber 16 = .ok (.bipush 45, 2) := by decide +kernel
theorem dX8_draftNumber_18 : decode cX8_draftNumber 18 = .ok (.invokevirtual 62, 3) := by decide +kernel
theorem dX8_draftNumber_21 : decode cX8_draftNumber 21 = .ok (.iload_n 1, 1) := by decide +kernel
theorem dX8_draftNumber_22 : decode cX8_draftNumber 22 = .ok (.invokestatic 208, 3) := by decide +kernel
theorem dX8_draftNumber_25 : decode cX8_draftNumber 25 = .ok (.istore_n 2, 1) := by decide +kernel
theorem dX8_draftNumber_26 : decode cX8_draftNumber 26 = .ok (.ldc 213, 2) := by decide +kernel
theorem dX8_draftNumber_28 : decode cX8_draftNumber 28 = .ok (.istore_n 3, 1) := by decide +kernel
theorem dX8_draftNumber_29 : decode cX8_draftNumber 29 = .ok (.iload_n 3, 1) := by decide +kernel
theorem dX8_draftNumber_30 : decode cX8_draftNumber 30 = .ok (.ifCond .le 27, 3) := by decide +kernel
theorem dX8_draftNumber_33 : decode cX8_draftNumber 33 = .ok (.aload_n 0, 1) := by decide +kernel
theorem dX8_draftNumber_34 : decode cX8_draftNumber 34 = .ok (.getfield 16, 3) := by decide +kernel
theorem dX8_draftNumber_37 : decode cX8_draftNumber 37 = .ok (.bipush 48, 2) := by decide +kernel
theorem dX8_draftNumber_39 : decode cX8_draftNumber 39 = .ok (.iload_n 2, 1) := by decide +kernel
theorem dX8_draftNumber_40 : decode cX8_draftNumber 40 = .ok (.iload_n 3, 1) := by decide +kernel
theorem dX8_draftNumber_41 : decode cX8_draftNumber 41 = .ok (.idiv, 1) := by decide +kernel
theorem dX8_draftNumber_42 : decode cX8_draftNumber 42 = .ok (.bipush 10, 2) := by decide +kernel
theorem dX8_draftNumber_44 : decode cX8_draftNumber 44 = .ok (.irem, 1) := by decide +kernel
theorem dX8_draftNumber_45 : decode cX8_draftNumber 45 = .ok (.iadd, 1) := by decide +kernel
theorem dX8_draftNumber_46 : decode cX8_draftNumber 46 = .ok (.invokevirtual 62, 3) := by decide +kernel
theorem dX8_draftNumber_49 : decode cX8_draftNumber 49 = .ok (.iload_n 3, 1) := by decide +kernel
theorem dX8_draftNumber_50 : decode cX8_draftNumber 50 = .ok (.bipush 10, 2) := by decide +kernel
theorem dX8_draftNumber_52 : decode cX8_draftNumber 52 = .ok (.idiv, 1) := by decide +kernel
theorem dX8_draftNumber_53 : decode cX8_draftNumber 53 = .ok (.istore_n 3, 1) := by decide +kernel
theorem dX8_draftNumber_54 : decode cX8_draftNumber 54 = .ok (.goto (-25), 3) := by decide +kernel
theorem dX8_draftNumber_57 : decode cX8_draftNumber 57 = .ok (.return_, 1) := by decide +kernel
theorem dX8_bringUpToDate_0 : decode cX8_bringUpToDate 0 = .ok (.aload_n 0, 1) := by decide +kernel
theorem dX8_bringUpToDate_1 : decode cX8_bringUpToDate 1 = .ok (.getfield 48, 3) := by decide +kernel
theorem dX8_bringUpToDate_4 : decode cX8_bringUpToDate 4 = .ok (.aload_n 0, 1) := by decide +kernel
theorem dX8_bringUpToDate_5 : decode cX8_bringUpToDate 5 = .ok (.getfield 22, 3) := by decide +kernel
theorem dX8_bringUpToDate_8 : decode cX8_bringUpToDate 8 = .ok (.invokevirtual 170, 3) := by decide +kernel
theorem dX8_bringUpToDate_11 : decode cX8_bringUpToDate 11 = .ok (.aload_n 0, 1) := by decide +kernel
theorem dX8_bringUpToDate_12 : decode cX8_bringUpToDate 12 = .ok (.getfield 48, 3) := by decide +kernel
theorem dX8_bringUpToDate_15 : decode cX8_bringUpToDate 15 = .ok (.aload_n 0, 1) := by decide +kernel
theorem dX8_bringUpToDate_16 : decode cX8_bringUpToDate 16 = .ok (.getfield 22, 3) := by decide +kernel
theorem dX8_bringUpToDate_19 : decode cX8_bringUpToDate 19 = .ok (.invokevirtual 173, 3) := by decide +kernel
theorem dX8_bringUpToDate_22 : decode cX8_bringUpToDate 22 = .ok (.aload_n 0, 1) := by decide +kernel
theorem dX8_bringUpToDate_23 : decode cX8_bringUpToDate 23 = .ok (.getfield 22, 3) := by decide +kernel
theorem dX8_bringUpToDate_26 : decode cX8_bringUpToDate 26 = .ok (.aload_n 1, 1) := by decide +kernel
theorem dX8_bringUpToDate_27 : decode cX8_bringUpToDate 27 = .ok (.invokevirtual 214, 3) := by decide +kernel
theorem dX8_bringUpToDate_30 : decode cX8_bringUpToDate 30 = .ok (.iconst 0, 1) := by decide +kernel
theorem dX8_bringUpToDate_31 : decode cX8_bringUpToDate 31 = .ok (.istore_n 3, 1) := by decide +kernel
theorem dX8_bringUpToDate_32 : decode cX8_bringUpToDate 32 = .ok (.iconst 0, 1) := by decide +kernel
theorem dX8_bringUpToDate_33 : decode cX8_bringUpToDate 33 = .ok (.istore 4, 2) := by decide +kernel
theorem dX8_bringUpToDate_35 : decode cX8_bringUpToDate 35 = .ok (.iload 4, 2) := by decide +kernel
theorem dX8_bringUpToDate_37 : decode cX8_bringUpToDate 37 = .ok (.bipush 72, 2) := by decide +kernel
theorem dX8_bringUpToDate_39 : decode cX8_bringUpToDate 39 = .ok (.if_icmp .ge 82, 3) := by decide +kernel
theorem dX8_bringUpToDate_42 : decode cX8_bringUpToDate 42 = .ok (.iload_n 2, 1) := by decide +kernel
theorem dX8_bringUpToDate_43 : decode cX8_bringUpToDate 43 = .ok (.ifCond .eq 16, 3) := by decide +kernel
theorem dX8_bringUpToDate_46 : decode cX8_bringUpToDate 46 = .ok (.aload_n 1, 1) := by decide +kernel
theorem dX8_bringUpToDate_47 : decode cX8_bringUpToDate 47 = .ok (.iload 4, 2) := by decide +kernel
theorem dX8_bringUpToDate_49 : decode cX8_bringUpToDate 49 = .ok (.invokevirtual 101, 3) := by decide +kernel
theorem dX8_bringUpToDate_52 : decode cX8_bringUpToDate 52 = .ok (.ifCond .eq 7, 3) := by decide +kernel
theorem dX8_bringUpToDate_55 : decode cX8_bringUpToDate 55 = .ok (.iconst 1, 1) := by decide +kernel
theorem dX8_bringUpToDate_56 : decode cX8_bringUpToDate 56 = .ok (.goto 4, 3) := by decide +kernel
theorem dX8_bringUpToDate_59 : decode cX8_bringUpToDate 59 = .ok (.iconst 0, 1) := by decide +kernel
theorem dX8_bringUpToDate_60 : decode cX8_bringUpToDate 60 = .ok (.istore 5, 2) := by decide +kernel
theorem dX8_bringUpToDate_62 : decode cX8_bringUpToDate 62 = .ok (.aload_n 0, 1) := by decide +kernel
theorem dX8_bringUpToDate_63 : decode cX8_bringUpToDate 63 = .ok (.getfield 22, 3) := by decide +kernel
theorem dX8_bringUpToDate_66 : decode cX8_bringUpToDate 66 = .ok (.getfield 144, 3) := by decide +kernel
theorem dX8_bringUpToDate_69 : decode cX8_bringUpToDate 69 = .ok (.iload 4, 2) := by decide +kernel
theorem dX8_bringUpToDate_71 : decode cX8_bringUpToDate 71 = .ok (.aload_n 0, 1) := by decide +kernel
theorem dX8_bringUpToDate_72 : decode cX8_bringUpToDate 72 = .ok (.getfield 22, 3) := by decide +kernel
theorem dX8_bringUpToDate_75 : decode cX8_bringUpToDate 75 = .ok (.iload 4, 2) := by decide +kernel
theorem dX8_bringUpToDate_77 : decode cX8_bringUpToDate 77 = .ok (.aload_n 1, 1) := by decide +kernel
theorem dX8_bringUpToDate_78 : decode cX8_bringUpToDate 78 = .ok (.iload 5, 2) := by decide +kernel
theorem dX8_bringUpToDate_80 : decode cX8_bringUpToDate 80 = .ok (.invokevirtual 217, 3) := by decide +kernel
theorem dX8_bringUpToDate_83 : decode cX8_bringUpToDate 83 = .ok (.iastore, 1) := by decide +kernel
theorem dX8_bringUpToDate_84 : decode cX8_bringUpToDate 84 = .ok (.aload_n 0, 1) := by decide +kernel
theorem dX8_bringUpToDate_85 : decode cX8_bringUpToDate 85 = .ok (.getfield 22, 3) := by decide +kernel
theorem dX8_bringUpToDate_88 : decode cX8_bringUpToDate 88 = .ok (.getfield 144, 3) := by decide +kernel
theorem dX8_bringUpToDate_91 : decode cX8_bringUpToDate 91 = .ok (.iload 4, 2) := by decide +kernel
theorem dX8_bringUpToDate_93 : decode cX8_bringUpToDate 93 = .ok (.iaload, 1) := by decide +kernel
theorem dX8_bringUpToDate_94 : decode cX8_bringUpToDate 94 = .ok (.iconst (-1), 1) := by decide +kernel
theorem dX8_bringUpToDate_95 : decode cX8_bringUpToDate 95 = .ok (.if_icmp .eq 20, 3) := by decide +kernel
theorem dX8_bringUpToDate_98 : decode cX8_bringUpToDate 98 = .ok (.aload_n 0, 1) := by decide +kernel
theorem dX8_bringUpToDate_99 : decode cX8_bringUpToDate 99 = .ok (.getfield 22, 3) := by decide +kernel
theorem dX8_bringUpToDate_102 : decode cX8_bringUpToDate 102 = .ok (.getfield 221, 3) := by decide +kernel
theorem dX8_bringUpToDate_105 : decode cX8_bringUpToDate 105 = .ok (.iload 4, 2) := by decide +kernel
theorem dX8_bringUpToDate_107 : decode cX8_bringUpToDate 107 = .ok (.dup2, 1) := by decide +kernel
theorem dX8_bringUpToDate_108 : decode cX8_bringUpToDate 108 = .ok (.iaload, 1) := by decide +kernel
theorem dX8_bringUpToDate_109 : decode cX8_bringUpToDate 109 = .ok (.iconst 1, 1) := by decide +kernel
theorem dX8_bringUpToDate_110 : decode cX8_bringUpToDate 110 = .ok (.iadd, 1) := by decide +kernel
theorem dX8_bringUpToDate_111 : decode cX8_bringUpToDate 111 = .ok (.iastore, 1) := by decide +kernel
theorem dX8_bringUpToDate_112 : decode cX8_bringUpToDate 112 = .ok (.iinc 3 1, 3) := by decide +kernel
theorem dX8_bringUpToDate_115 : decode cX8_bringUpToDate 115 = .ok (.iinc 4 1, 3) := by decide +kernel
theorem dX8_bringUpToDate_118 : decode cX8_bringUpToDate 118 = .ok (.goto (-83), 3) := by decide +kernel
theorem dX8_bringUpToDate_121 : decode cX8_bringUpToDate 121 = .ok (.iload_n 3, 1) := by decide +kernel
theorem dX8_bringUpToDate_122 : decode cX8_bringUpToDate 122 = .ok (.ireturn, 1) := by decide +kernel
theorem dX8_followCauses_0 : decode cX8_followCauses 0 = .ok (.aload_n 0, 1) := by decide +kernel
theorem dX8_followCauses_1 : decode cX8_followCauses 1 = .ok (.getfield 22, 3) := by decide +kernel
theorem dX8_followCauses_4 : decode cX8_followCauses 4 = .ok (.getfield 144, 3) := by decide +kernel
theorem dX8_followCauses_7 : decode cX8_followCauses 7 = .ok (.iload_n 1, 1) := by decide +kernel
theorem dX8_followCauses_8 : decode cX8_followCauses 8 = .ok (.iaload, 1) := by decide +kernel
theorem dX8_followCauses_9 : decode cX8_followCauses 9 = .ok (.iconst (-1), 1) := by decide +kernel
theorem dX8_followCauses_10 : decode cX8_followCauses 10 = .ok (.if_icmp .ne 7, 3) := by decide +kernel
theorem dX8_followCauses_13 : decode cX8_followCauses 13 = .ok (.iconst (-1), 1) := by decide +kernel
theorem dX8_followCauses_14 : decode cX8_followCauses 14 = .ok (.goto 4, 3) := by decide +kernel
theorem dX8_followCauses_17 : decode cX8_followCauses 17 = .ok (.iload_n 1, 1) := by decide +kernel
theorem dX8_followCauses_18 : decode cX8_followCauses 18 = .ok (.istore_n 2, 1) := by decide +kernel
theorem dX8_followCauses_19 : decode cX8_followCauses 19 = .ok (.iconst 0, 1) := by decide +kernel
theorem dX8_followCauses_20 : decode cX8_followCauses 20 = .ok (.istore_n 3, 1) := by decide +kernel
theorem dX8_followCauses_21 : decode cX8_followCauses 21 = .ok (.iconst 0, 1) := by decide +kernel
theorem dX8_followCauses_22 : decode cX8_followCauses 22 = .ok (.istore 4, 2) := by decide +kernel
theorem dX8_followCauses_24 : decode cX8_followCauses 24 = .ok (.iload 4, 2) := by decide +kernel
theorem dX8_followCauses_26 : decode cX8_followCauses 26 = .ok (.bipush 72, 2) := by decide +kernel
theorem dX8_followCauses_28 : decode cX8_followCauses 28 = .ok (.if_icmp .ge 62, 3) := by decide +kernel
theorem dX8_followCauses_31 : decode cX8_followCauses 31 = .ok (.iload_n 2, 1) := by decide +kernel
theorem dX8_followCauses_32 : decode cX8_followCauses 32 = .ok (.iconst (-1), 1) := by decide +kernel
theorem dX8_followCauses_33 : decode cX8_followCauses 33 = .ok (.if_icmp .eq 57, 3) := by decide +kernel
theorem dX8_followCauses_36 : decode cX8_followCauses 36 = .ok (.aload_n 0, 1) := by decide +kernel
theorem dX8_followCauses_37 : decode cX8_followCauses 37 = .ok (.getfield 52, 3) := by decide +kernel
theorem dX8_followCauses_40 : decode cX8_followCauses 40 = .ok (.iload_n 3, 1) := by decide +kernel
theorem dX8_followCauses_41 : decode cX8_followCauses 41 = .ok (.iload_n 2, 1) := by decide +kernel
theorem dX8_followCauses_42 : decode cX8_followCauses 42 = .ok (.iastore, 1) := by decide +kernel
theorem dX8_followCauses_43 : decode cX8_followCauses 43 = .ok (.iinc 3 1, 3) := by decide +kernel
theorem dX8_followCauses_46 : decode cX8_followCauses 46 = .ok (.aload_n 0, 1) := by decide +kernel
theorem dX8_followCauses_47 : decode cX8_followCauses 47 = .ok (.getfield 22, 3) := by decide +kernel
theorem dX8_followCauses_50 : decode cX8_followCauses 50 = .ok (.getfield 144, 3) := by decide +kernel
theorem dX8_followCauses_53 : decode cX8_followCauses 53 = .ok (.iload_n 2, 1) := by decide +kernel
theorem dX8_followCauses_54 : decode cX8_followCauses 54 = .ok (.iaload, 1) := by decide +kernel
theorem dX8_followCauses_55 : decode cX8_followCauses 55 = .ok (.istore_n 2, 1) := by decide +kernel
theorem dX8_followCauses_56 : decode cX8_followCauses 56 = .ok (.iconst 0, 1) := by decide +kernel
theorem dX8_followCauses_57 : decode cX8_followCauses 57 = .ok (.istore 5, 2) := by decide +kernel
theorem dX8_followCauses_59 : decode cX8_followCauses 59 = .ok (.iload 5, 2) := by decide +kernel
theorem dX8_followCauses_61 : decode cX8_followCauses 61 = .ok (.iload_n 3, 1) := by decide +kernel
theorem dX8_followCauses_62 : decode cX8_followCauses 62 = .ok (.if_icmp .ge 22, 3) := by decide +kernel
theorem dX8_followCauses_65 : decode cX8_followCauses 65 = .ok (.aload_n 0, 1) := by decide +kernel
theorem dX8_followCauses_66 : decode cX8_followCauses 66 = .ok (.getfield 52, 3) := by decide +kernel
theorem dX8_followCauses_69 : decode cX8_followCauses 69 = .ok (.iload 5, 2) := by decide +kernel
theorem dX8_followCauses_71 : decode cX8_followCauses 71 = .ok (.iaload, 1) := by decide +kernel
theorem dX8_followCauses_72 : decode cX8_followCauses 72 = .ok (.iload_n 2, 1) := by decide +kernel
theorem dX8_followCauses_73 : decode cX8_followCauses 73 = .ok (.if_icmp .ne 5, 3) := by decide +kernel
theorem dX8_followCauses_76 : decode cX8_followCauses 76 = .ok (.iload_n 3, 1) := by decide +kernel
theorem dX8_followCauses_77 : decode cX8_followCauses 77 = .ok (.ireturn, 1) := by decide +kernel
theorem dX8_followCauses_78 : decode cX8_followCauses 78 = .ok (.iinc 5 1, 3) := by decide +kernel
theorem dX8_followCauses_81 : decode cX8_followCauses 81 = .ok (.goto (-22), 3) := by decide +kernel
theorem dX8_followCauses_84 : decode cX8_followCauses 84 = .ok (.iinc 4 1, 3) := by decide +kernel
theorem dX8_followCauses_87 : decode cX8_followCauses 87 = .ok (.goto (-63), 3) := by decide +kernel
theorem dX8_followCauses_90 : decode cX8_followCauses 90 = .ok (.iload_n 3, 1) := by decide +kernel
theorem dX8_followCauses_91 : decode cX8_followCauses 91 = .ok (.ireturn, 1) := by decide +kernel
theorem dX8_sumOfFacts_0 : decode cX8_sumOfFacts 0 = .ok (.iconst 0, 1) := by decide +kernel
theorem dX8_sumOfFacts_1 : decode cX8_sumOfFacts 1 = .ok (.istore_n 2, 1) := by decide +kernel
theorem dX8_sumOfFacts_2 : decode cX8_sumOfFacts 2 = .ok (.iconst 0, 1) := by decide +kernel
theorem dX8_sumOfFacts_3 : decode cX8_sumOfFacts 3 = .ok (.istore_n 3, 1) := by decide +kernel
theorem dX8_sumOfFacts_4 : decode cX8_sumOfFacts 4 = .ok (.iload_n 3, 1) := by decide +kernel
theorem dX8_sumOfFacts_5 : decode cX8_sumOfFacts 5 = .ok (.bipush 72, 2) := by decide +kernel
theorem dX8_sumOfFacts_7 : decode cX8_sumOfFacts 7 = .ok (.if_icmp .ge 21, 3) := by decide +kernel
theorem dX8_sumOfFacts_10 : decode cX8_sumOfFacts 10 = .ok (.iload_n 2, 1) := by decide +kernel
theorem dX8_sumOfFacts_11 : decode cX8_sumOfFacts 11 = .ok (.aload_n 0, 1) := by decide +kernel
theorem dX8_sumOfFacts_12 : decode cX8_sumOfFacts 12 = .ok (.getfield 22, 3) := by decide +kernel
theorem dX8_sumOfFacts_15 : decode cX8_sumOfFacts 15 = .ok (.iload_n 3, 1) := by decide +kernel
theorem dX8_sumOfFacts_16 : decode cX8_sumOfFacts 16 = .ok (.iload_n 1, 1) := by decide +kernel
theorem dX8_sumOfFacts_17 : decode cX8_sumOfFacts 17 = .ok (.invokevirtual 124, 3) := by decide +kernel
theorem dX8_sumOfFacts_20 : decode cX8_sumOfFacts 20 = .ok (.iadd, 1) := by decide +kernel
theorem dX8_sumOfFacts_21 : decode cX8_sumOfFacts 21 = .ok (.istore_n 2, 1) := by decide +kernel
theorem dX8_sumOfFacts_22 : decode cX8_sumOfFacts 22 = .ok (.iinc 3 1, 3) := by decide +kernel
theorem dX8_sumOfFacts_25 : decode cX8_sumOfFacts 25 = .ok (.goto (-21), 3) := by decide +kernel
theorem dX8_sumOfFacts_28 : decode cX8_sumOfFacts 28 = .ok (.iload_n 2, 1) := by decide +kernel
theorem dX8_sumOfFacts_29 : decode cX8_sumOfFacts 29 = .ok (.ireturn, 1) := by decide +kernel
theorem dX8_isCell_0 : decode cX8_isCell 0 = .ok (.iload_n 0, 1) := by decide +kernel
theorem dX8_isCell_1 : decode cX8_isCell 1 = .ok (.ifCond .lt 13, 3) := by decide +kernel
theorem dX8_isCell_4 : decode cX8_isCell 4 = .ok (.iload_n 0, 1) := by decide +kernel
theorem dX8_isCell_5 : decode cX8_isCell 5 = .ok (.bipush 72, 2) := by decide +kernel
theorem dX8_isCell_7 : decode cX8_isCell 7 = .ok (.if_icmp .ge 7, 3) := by decide +kernel
theorem dX8_isCell_10 : decode cX8_isCell 10 = .ok (.iconst 1, 1) := by decide +kernel
theorem dX8_isCell_11 : decode cX8_isCell 11 = .ok (.goto 4, 3) := by decide +kernel
theorem dX8_isCell_14 : decode cX8_isCell 14 = .ok (.iconst 0, 1) := by decide +kernel
theorem dX8_isCell_15 : decode cX8_isCell 15 = .ok (.ireturn, 1) := by decide +kernel
theorem dX8_isColumnLetter_0 : decode cX8_isColumnLetter 0 = .ok (.iload_n 0, 1) := by decide +kernel
theorem dX8_isColumnLetter_1 : decode cX8_isColumnLetter 1 = .ok (.bipush 97, 2) := by decide +kernel
theorem dX8_isColumnLetter_3 : decode cX8_isColumnLetter 3 = .ok (.if_icmp .lt 13, 3) := by decide +kernel
theorem dX8_isColumnLetter_6 : decode cX8_isColumnLetter 6 = .ok (.iload_n 0, 1) := by decide +kernel
theorem dX8_isColumnLetter_7 : decode cX8_isColumnLetter 7 = .ok (.bipush 104, 2) := by decide +kernel
theorem dX8_isColumnLetter_9 : decode cX8_isColumnLetter 9 = .ok (.if_icmp .gt 7, 3) := by decide +kernel
theorem dX8_isColumnLetter_12 : decode cX8_isColumnLetter 12 = .ok (.iconst 1, 1) := by decide +kernel
theorem dX8_isColumnLetter_13 : decode cX8_isColumnLetter 13 = .ok (.goto 4, 3) := by decide +kernel
theorem dX8_isColumnLetter_16 : decode cX8_isColumnLetter 16 = .ok (.iconst 0, 1) := by decide +kernel
theorem dX8_isColumnLetter_17 : decode cX8_isColumnLetter 17 = .ok (.ireturn, 1) := by decide +kernel
theorem dX8_isRowDigit_0 : decode cX8_isRowDigit 0 = .ok (.iload_n 0, 1) := by decide +kernel
theorem dX8_isRowDigit_1 : decode cX8_isRowDigit 1 = .ok (.bipush 49, 2) := by decide +kernel
theorem dX8_isRowDigit_3 : decode cX8_isRowDigit 3 = .ok (.if_icmp .lt 13, 3) := by decide +kernel
theorem dX8_isRowDigit_6 : decode cX8_isRowDigit 6 = .ok (.iload_n 0, 1) := by decide +kernel
theorem dX8_isRowDigit_7 : decode cX8_isRowDigit 7 = .ok (.bipush 57, 2) := by decide +kernel
theorem dX8_isRowDigit_9 : decode cX8_isRowDigit 9 = .ok (.if_icmp .gt 7, 3) := by decide +kernel
theorem dX8_isRowDigit_12 : decode cX8_isRowDigit 12 = .ok (.iconst 1, 1) := by decide +kernel
theorem dX8_isRowDigit_13 : decode cX8_isRowDigit 13 = .ok (.goto 4, 3) := by decide +kernel
theorem dX8_isRowDigit_16 : decode cX8_isRowDigit 16 = .ok (.iconst 0, 1) := by decide +kernel
theorem dX8_isRowDigit_17 : decode cX8_isRowDigit 17 = .ok (.ireturn, 1) := by decide +kernel
theorem dX8_isDigit_0 : decode cX8_isDigit 0 = .ok (.iload_n 0, 1) := by decide +kernel
theorem dX8_isDigit_1 : decode cX8_isDigit 1 = .ok (.bipush 48, 2) := by decide +kernel
theorem dX8_isDigit_3 : decode cX8_isDigit 3 = .ok (.if_icmp .lt 13, 3) := by decide +kernel
theorem dX8_isDigit_6 : decode cX8_isDigit 6 = .ok (.iload_n 0, 1) := by decide +kernel
theorem dX8_isDigit_7 : decode cX8_isDigit 7 = .ok (.bipush 57, 2) := by decide +kernel
theorem dX8_isDigit_9 : decode cX8_isDigit 9 = .ok (.if_icmp .gt 7, 3) := by decide +kernel
theorem dX8_isDigit_12 : decode cX8_isDigit 12 = .ok (.iconst 1, 1) := by decide +kernel
theorem dX8_isDigit_13 : decode cX8_isDigit 13 = .ok (.goto 4, 3) := by decide +kernel
theorem dX8_isDigit_16 : decode cX8_isDigit 16 = .ok (.iconst 0, 1) := by decide +kernel
theorem dX8_isDigit_17 : decode cX8_isDigit 17 = .ok (.ireturn, 1) := by decide +kernel
theorem dX8_nameOf_0 : decode cX8_nameOf 0 = .ok (.iload_n 0, 1) := by decide +kernel
theorem dX8_nameOf_1 : decode cX8_nameOf 1 = .ok (.tableswitch 71 0 7 #[47, 50, 53, 56, 59, 62, 65, 68], 47) := by decide +kernel
theorem dX8_nameOf_48 : decode cX8_nameOf 48 = .ok (.ldc 224, 2) := by decide +kernel
theorem dX8_nameOf_50 : decode cX8_nameOf 50 = .ok (.areturn, 1) := by decide +kernel
theorem dX8_nameOf_51 : decode cX8_nameOf 51 = .ok (.ldc 226, 2) := by decide +kernel
theorem dX8_nameOf_53 : decode cX8_nameOf 53 = .ok (.areturn, 1) := by decide +kernel
theorem dX8_nameOf_54 : decode cX8_nameOf 54 = .ok (.ldc 228, 2) := by decide +kernel
theorem dX8_nameOf_56 : decode cX8_nameOf 56 = .ok (.areturn, 1) := by decide +kernel
theorem dX8_nameOf_57 : decode cX8_nameOf 57 = .ok (.ldc 230, 2) := by decide +kernel
theorem dX8_nameOf_59 : decode cX8_nameOf 59 = .ok (.areturn, 1) := by decide +kernel
theorem dX8_nameOf_60 : decode cX8_nameOf 60 = .ok (.ldc 232, 2) := by decide +kernel
theorem dX8_nameOf_62 : decode cX8_nameOf 62 = .ok (.areturn, 1) := by decide +kernel
theorem dX8_nameOf_63 : decode cX8_nameOf 63 = .ok (.ldc 234, 2) := by decide +kernel
theorem dX8_nameOf_65 : decode cX8_nameOf 65 = .ok (.areturn, 1) := by decide +kernel
theorem dX8_nameOf_66 : decode cX8_nameOf 66 = .ok (.ldc 236, 2) := by decide +kernel
theorem dX8_nameOf_68 : decode cX8_nameOf 68 = .ok (.areturn, 1) := by decide +kernel
theorem dX8_nameOf_69 : decode cX8_nameOf 69 = .ok (.ldc 238, 2) := by decide +kernel
theorem dX8_nameOf_71 : decode cX8_nameOf 71 = .ok (.areturn, 1) := by decide +kernel
theorem dX8_nameOf_72 : decode cX8_nameOf 72 = .ok (.ldc 240, 2) := by decide +kernel
theorem dX8_nameOf_74 : decode cX8_nameOf 74 = .ok (.areturn, 1) := by decide +kernel
theorem dJ9_floorDiv_f86c9_0 : decode cJ9_floorDiv_f86c9 0 = .ok (.lload_n 0, 1) := by decide +kernel
theorem dJ9_floorDiv_f86c9_1 : decode cJ9_floorDiv_f86c9 1 = .ok (.lload_n 2, 1) := by decide +kernel
theorem dJ9_floorDiv_f86c9_2 : decode cJ9_floorDiv_f86c9 2 = .ok (.ldiv, 1) := by decide +kernel
theorem dJ9_floorDiv_f86c9_3 : decode cJ9_floorDiv_f86c9 3 = .ok (.lstore 4, 2) := by decide +kernel
theorem dJ9_floorDiv_f86c9_5 : decode cJ9_floorDiv_f86c9 5 = .ok (.lload_n 0, 1) := by decide +kernel
theorem dJ9_floorDiv_f86c9_6 : decode cJ9_floorDiv_f86c9 6 = .ok (.lload_n 2, 1) := by decide +kernel
theorem dJ9_floorDiv_f86c9_7 : decode cJ9_floorDiv_f86c9 7 = .ok (.lxor, 1) := by decide +kernel
theorem dJ9_floorDiv_f86c9_8 : decode cJ9_floorDiv_f86c9 8 = .ok (.lconst 0, 1) := by decide +kernel
theorem dJ9_floorDiv_f86c9_9 : decode cJ9_floorDiv_f86c9 9 = .ok (.lcmp, 1) := by decide +kernel
theorem dJ9_floorDiv_f86c9_10 : decode cJ9_floorDiv_f86c9 10 = .ok (.ifCond .ge 17, 3) := by decide +kernel
theorem dJ9_floorDiv_f86c9_13 : decode cJ9_floorDiv_f86c9 13 = .ok (.lload 4, 2) := by decide +kernel
theorem dJ9_floorDiv_f86c9_15 : decode cJ9_floorDiv_f86c9 15 = .ok (.lload_n 2, 1) := by decide +kernel
theorem dJ9_floorDiv_f86c9_16 : decode cJ9_floorDiv_f86c9 16 = .ok (.lmul, 1) := by decide +kernel
theorem dJ9_floorDiv_f86c9_17 : decode cJ9_floorDiv_f86c9 17 = .ok (.lload_n 0, 1) := by decide +kernel
theorem dJ9_floorDiv_f86c9_18 : decode cJ9_floorDiv_f86c9 18 = .ok (.lcmp, 1) := by decide +kernel
theorem dJ9_floorDiv_f86c9_19 : decode cJ9_floorDiv_f86c9 19 = .ok (.ifCond .eq 8, 3) := by decide +kernel
theorem dJ9_floorDiv_f86c9_22 : decode cJ9_floorDiv_f86c9 22 = .ok (.lload 4, 2) := by decide +kernel
theorem dJ9_floorDiv_f86c9_24 : decode cJ9_floorDiv_f86c9 24 = .ok (.lconst 1, 1) := by decide +kernel
theorem dJ9_floorDiv_f86c9_25 : decode cJ9_floorDiv_f86c9 25 = .ok (.lsub, 1) := by decide +kernel
theorem dJ9_floorDiv_f86c9_26 : decode cJ9_floorDiv_f86c9 26 = .ok (.lreturn, 1) := by decide +kernel
theorem dJ9_floorDiv_f86c9_27 : decode cJ9_floorDiv_f86c9 27 = .ok (.lload 4, 2) := by decide +kernel
theorem dJ9_floorDiv_f86c9_29 : decode cJ9_floorDiv_f86c9 29 = .ok (.lreturn, 1) := by decide +kernel
theorem dJ9_floorMod_f86c9_0 : decode cJ9_floorMod_f86c9 0 = .ok (.lload_n 0, 1) := by decide +kernel
theorem dJ9_floorMod_f86c9_1 : decode cJ9_floorMod_f86c9 1 = .ok (.lload_n 2, 1) := by decide +kernel
theorem dJ9_floorMod_f86c9_2 : decode cJ9_floorMod_f86c9 2 = .ok (.lrem, 1) := by decide +kernel
theorem dJ9_floorMod_f86c9_3 : decode cJ9_floorMod_f86c9 3 = .ok (.lstore 4, 2) := by decide +kernel
theorem dJ9_floorMod_f86c9_5 : decode cJ9_floorMod_f86c9 5 = .ok (.lload_n 0, 1) := by decide +kernel
theorem dJ9_floorMod_f86c9_6 : decode cJ9_floorMod_f86c9 6 = .ok (.lload_n 2, 1) := by decide +kernel
theorem dJ9_floorMod_f86c9_7 : decode cJ9_floorMod_f86c9 7 = .ok (.lxor, 1) := by decide +kernel
theorem dJ9_floorMod_f86c9_8 : decode cJ9_floorMod_f86c9 8 = .ok (.lconst 0, 1) := by decide +kernel
theorem dJ9_floorMod_f86c9_9 : decode cJ9_floorMod_f86c9 9 = .ok (.lcmp, 1) := by decide +kernel
theorem dJ9_floorMod_f86c9_10 : decode cJ9_floorMod_f86c9 10 = .ok (.ifCond .ge 15, 3) := by decide +kernel
theorem dJ9_floorMod_f86c9_13 : decode cJ9_floorMod_f86c9 13 = .ok (.lload 4, 2) := by decide +kernel
theorem dJ9_floorMod_f86c9_15 : decode cJ9_floorMod_f86c9 15 = .ok (.lconst 0, 1) := by decide +kernel
theorem dJ9_floorMod_f86c9_16 : decode cJ9_floorMod_f86c9 16 = .ok (.lcmp, 1) := by decide +kernel
theorem dJ9_floorMod_f86c9_17 : decode cJ9_floorMod_f86c9 17 = .ok (.ifCond .eq 8, 3) := by decide +kernel
theorem dJ9_floorMod_f86c9_20 : decode cJ9_floorMod_f86c9 20 = .ok (.lload 4, 2) := by decide +kernel
theorem dJ9_floorMod_f86c9_22 : decode cJ9_floorMod_f86c9 22 = .ok (.lload_n 2, 1) := by decide +kernel
theorem dJ9_floorMod_f86c9_23 : decode cJ9_floorMod_f86c9 23 = .ok (.ladd, 1) := by decide +kernel
theorem dJ9_floorMod_f86c9_24 : decode cJ9_floorMod_f86c9 24 = .ok (.lreturn, 1) := by decide +kernel
theorem dJ9_floorMod_f86c9_25 : decode cJ9_floorMod_f86c9 25 = .ok (.lload 4, 2) := by decide +kernel
theorem dJ9_floorMod_f86c9_27 : decode cJ9_floorMod_f86c9 27 = .ok (.lreturn, 1) := by decide +kernel
theorem dJ9_abs_0f7a4_0 : decode cJ9_abs_0f7a4 0 = .ok (.iload_n 0, 1) := by decide +kernel
theorem dJ9_abs_0f7a4_1 : decode cJ9_abs_0f7a4 1 = .ok (.ifCond .ge 8, 3) := by decide +kernel
theorem dJ9_abs_0f7a4_4 : decode cJ9_abs_0f7a4 4 = .ok (.iload_n 0, 1) := by decide +kernel
theorem dJ9_abs_0f7a4_5 : decode cJ9_abs_0f7a4 5 = .ok (.ineg, 1) := by decide +kernel
theorem dJ9_abs_0f7a4_6 : decode cJ9_abs_0f7a4 6 = .ok (.goto 4, 3) := by decide +kernel
theorem dJ9_abs_0f7a4_9 : decode cJ9_abs_0f7a4 9 = .ok (.iload_n 0, 1) := by decide +kernel
theorem dJ9_abs_0f7a4_10 : decode cJ9_abs_0f7a4 10 = .ok (.ireturn, 1) := by decide +kernel
theorem dJ9_max_7cf53_0 : decode cJ9_max_7cf53 0 = .ok (.iload_n 0, 1) := by decide +kernel
theorem dJ9_max_7cf53_1 : decode cJ9_max_7cf53 1 = .ok (.iload_n 1, 1) := by decide +kernel
theorem dJ9_max_7cf53_2 : decode cJ9_max_7cf53 2 = .ok (.if_icmp .lt 7, 3) := by decide +kernel
theorem dJ9_max_7cf53_5 : decode cJ9_max_7cf53 5 = .ok (.iload_n 0, 1) := by decide +kernel
theorem dJ9_max_7cf53_6 : decode cJ9_max_7cf53 6 = .ok (.goto 4, 3) := by decide +kernel
theorem dJ9_max_7cf53_9 : decode cJ9_max_7cf53 9 = .ok (.iload_n 1, 1) := by decide +kernel
theorem dJ9_max_7cf53_10 : decode cJ9_max_7cf53 10 = .ok (.ireturn, 1) := by decide +kernel
theorem dJ9_max_f86c9_0 : decode cJ9_max_f86c9 0 = .ok (.lload_n 0, 1) := by decide +kernel
theorem dJ9_max_f86c9_1 : decode cJ9_max_f86c9 1 = .ok (.lload_n 2, 1) := by decide +kernel
theorem dJ9_max_f86c9_2 : decode cJ9_max_f86c9 2 = .ok (.lcmp, 1) := by decide +kernel
theorem dJ9_max_f86c9_3 : decode cJ9_max_f86c9 3 = .ok (.ifCond .lt 7, 3) := by decide +kernel
theorem dJ9_max_f86c9_6 : decode cJ9_max_f86c9 6 = .ok (.lload_n 0, 1) := by decide +kernel
theorem dJ9_max_f86c9_7 : decode cJ9_max_f86c9 7 = .ok (.goto 4, 3) := by decide +kernel
theorem dJ9_max_f86c9_10 : decode cJ9_max_f86c9 10 = .ok (.lload_n 2, 1) := by decide +kernel
theorem dJ9_max_f86c9_11 : decode cJ9_max_f86c9 11 = .ok (.lreturn, 1) := by decide +kernel
theorem dJ9_min_f86c9_0 : decode cJ9_min_f86c9 0 = .ok (.lload_n 0, 1) := by decide +kernel
theorem dJ9_min_f86c9_1 : decode cJ9_min_f86c9 1 = .ok (.lload_n 2, 1) := by decide +kernel
theorem dJ9_min_f86c9_2 : decode cJ9_min_f86c9 2 = .ok (.lcmp, 1) := by decide +kernel
theorem dJ9_min_f86c9_3 : decode cJ9_min_f86c9 3 = .ok (.ifCond .gt 7, 3) := by decide +kernel
theorem dJ9_min_f86c9_6 : decode cJ9_min_f86c9 6 = .ok (.lload_n 0, 1) := by decide +kernel
theorem dJ9_min_f86c9_7 : decode cJ9_min_f86c9 7 = .ok (.goto 4, 3) := by decide +kernel
theorem dJ9_min_f86c9_10 : decode cJ9_min_f86c9 10 = .ok (.lload_n 2, 1) := by decide +kernel
theorem dJ9_min_f86c9_11 : decode cJ9_min_f86c9 11 = .ok (.lreturn, 1) := by decide +kernel
theorem dJ0_length_8abf5_0 : decode cJ0_length_8abf5 0 = .ok (.aload_n 0, 1) := by decide +kernel
theorem dJ0_length_8abf5_1 : decode cJ0_length_8abf5 1 = .ok (.getfield 9, 3) := by decide +kernel
theorem dJ0_length_8abf5_4 : decode cJ0_length_8abf5 4 = .ok (.arraylength, 1) := by decide +kernel
theorem dJ0_length_8abf5_5 : decode cJ0_length_8abf5 5 = .ok (.aload_n 0, 1) := by decide +kernel
theorem dJ0_length_8abf5_6 : decode cJ0_length_8abf5 6 = .ok (.invokevirtual 335, 3) := by decide +kernel
theorem dJ0_length_8abf5_9 : decode cJ0_length_8abf5 9 = .ok (.ishr, 1) := by decide +kernel
theorem dJ0_length_8abf5_10 : decode cJ0_length_8abf5 10 = .ok (.ireturn, 1) := by decide +kernel
theorem dJ0_charAt_5068e_0 : decode cJ0_charAt_5068e 0 = .ok (.aload_n 0, 1) := by decide +kernel
theorem dJ0_charAt_5068e_1 : decode cJ0_charAt_5068e 1 = .ok (.invokevirtual 492, 3) := by decide +kernel
theorem dJ0_charAt_5068e_4 : decode cJ0_charAt_5068e 4 = .ok (.ifCond .eq 12, 3) := by decide +kernel
theorem dJ0_charAt_5068e_7 : decode cJ0_charAt_5068e 7 = .ok (.aload_n 0, 1) := by decide +kernel
theorem dJ0_charAt_5068e_8 : decode cJ0_charAt_5068e 8 = .ok (.getfield 9, 3) := by decide +kernel
theorem dJ0_charAt_5068e_11 : decode cJ0_charAt_5068e 11 = .ok (.iload_n 1, 1) := by decide +kernel
theorem dJ0_charAt_5068e_12 : decode cJ0_charAt_5068e 12 = .ok (.invokestatic 495, 3) := by decide +kernel
theorem dJ0_charAt_5068e_15 : decode cJ0_charAt_5068e 15 = .ok (.ireturn, 1) := by decide +kernel
theorem dJ0_charAt_5068e_16 : decode cJ0_charAt_5068e 16 = .ok (.aload_n 0, 1) := by decide +kernel
theorem dJ0_charAt_5068e_17 : decode cJ0_charAt_5068e 17 = .ok (.getfield 9, 3) := by decide +kernel
theorem dJ0_charAt_5068e_20 : decode cJ0_charAt_5068e 20 = .ok (.iload_n 1, 1) := by decide +kernel
theorem dJ0_charAt_5068e_21 : decode cJ0_charAt_5068e 21 = .ok (.invokestatic 498, 3) := by decide +kernel
theorem dJ0_charAt_5068e_24 : decode cJ0_charAt_5068e 24 = .ok (.ireturn, 1) := by decide +kernel
theorem dJ0_coder_7d493_0 : decode cJ0_coder_7d493 0 = .ok (.getstatic 38, 3) := by decide +kernel
theorem dJ0_coder_7d493_3 : decode cJ0_coder_7d493 3 = .ok (.ifCond .eq 10, 3) := by decide +kernel
theorem dJ0_coder_7d493_6 : decode cJ0_coder_7d493 6 = .ok (.aload_n 0, 1) := by decide +kernel
theorem dJ0_coder_7d493_7 : decode cJ0_coder_7d493 7 = .ok (.getfield 15, 3) := by decide +kernel
theorem dJ0_coder_7d493_10 : decode cJ0_coder_7d493 10 = .ok (.goto 4, 3) := by decide +kernel
theorem dJ0_coder_7d493_13 : decode cJ0_coder_7d493 13 = .ok (.iconst 1, 1) := by decide +kernel
theorem dJ0_coder_7d493_14 : decode cJ0_coder_7d493 14 = .ok (.ireturn, 1) := by decide +kernel
theorem dJ0_isLatin1_aae02_0 : decode cJ0_isLatin1_aae02 0 = .ok (.getstatic 38, 3) := by decide +kernel
theorem dJ0_isLatin1_aae02_3 : decode cJ0_isLatin1_aae02 3 = .ok (.ifCond .eq 14, 3) := by decide +kernel
theorem dJ0_isLatin1_aae02_6 : decode cJ0_isLatin1_aae02 6 = .ok (.aload_n 0, 1) := by decide +kernel
theorem dJ0_isLatin1_aae02_7 : decode cJ0_isLatin1_aae02 7 = .ok (.getfield 15, 3) := by decide +kernel
theorem dJ0_isLatin1_aae02_10 : decode cJ0_isLatin1_aae02 10 = .ok (.ifCond .ne 7, 3) := by decide +kernel
theorem dJ0_isLatin1_aae02_13 : decode cJ0_isLatin1_aae02 13 = .ok (.iconst 1, 1) := by decide +kernel
theorem dJ0_isLatin1_aae02_14 : decode cJ0_isLatin1_aae02 14 = .ok (.goto 4, 3) := by decide +kernel
theorem dJ0_isLatin1_aae02_17 : decode cJ0_isLatin1_aae02 17 = .ok (.iconst 0, 1) := by decide +kernel
theorem dJ0_isLatin1_aae02_18 : decode cJ0_isLatin1_aae02 18 = .ok (.ireturn, 1) := by decide +kernel
theorem dJ0_checkIndex_df160_0 : decode cJ0_checkIndex_df160 0 = .ok (.iload_n 0, 1) := by decide +kernel
theorem dJ0_checkIndex_df160_1 : decode cJ0_checkIndex_df160 1 = .ok (.iload_n 1, 1) := by decide +kernel
theorem dJ0_checkIndex_df160_2 : decode cJ0_checkIndex_df160 2 = .ok (.getstatic 1053, 3) := by decide +kernel
theorem dJ0_checkIndex_df160_5 : decode cJ0_checkIndex_df160 5 = .ok (.invokestatic 1059, 3) := by decide +kernel
theorem dJ0_checkIndex_df160_8 : decode cJ0_checkIndex_df160 8 = .ok (.pop, 1) := by decide +kernel
theorem dJ0_checkIndex_df160_9 : decode cJ0_checkIndex_df160 9 = .ok (.return_, 1) := by decide +kernel
theorem dJ1_charAt_3b067_0 : decode cJ1_charAt_3b067 0 = .ok (.iload_n 1, 1) := by decide +kernel
theorem dJ1_charAt_3b067_1 : decode cJ1_charAt_3b067 1 = .ok (.aload_n 0, 1) := by decide +kernel
theorem dJ1_charAt_3b067_2 : decode cJ1_charAt_3b067 2 = .ok (.arraylength, 1) := by decide +kernel
theorem dJ1_charAt_3b067_3 : decode cJ1_charAt_3b067 3 = .ok (.invokestatic 9, 3) := by decide +kernel
theorem dJ1_charAt_3b067_6 : decode cJ1_charAt_3b067 6 = .ok (.aload_n 0, 1) := by decide +kernel
theorem dJ1_charAt_3b067_7 : decode cJ1_charAt_3b067 7 = .ok (.iload_n 1, 1) := by decide +kernel
theorem dJ1_charAt_3b067_8 : decode cJ1_charAt_3b067 8 = .ok (.baload, 1) := by decide +kernel
theorem dJ1_charAt_3b067_9 : decode cJ1_charAt_3b067 9 = .ok (.sipush 255, 3) := by decide +kernel
theorem dJ1_charAt_3b067_12 : decode cJ1_charAt_3b067 12 = .ok (.iand, 1) := by decide +kernel
theorem dJ1_charAt_3b067_13 : decode cJ1_charAt_3b067 13 = .ok (.i2c, 1) := by decide +kernel
theorem dJ1_charAt_3b067_14 : decode cJ1_charAt_3b067 14 = .ok (.ireturn, 1) := by decide +kernel
theorem dJ2_getChar_3b067_0 : decode cJ2_getChar_3b067 0 = .ok (.getstatic 44, 3) := by decide +kernel
theorem dJ2_getChar_3b067_3 : decode cJ2_getChar_3b067 3 = .ok (.ifCond .ne 25, 3) := by decide +kernel
theorem dJ2_getChar_3b067_6 : decode cJ2_getChar_3b067 6 = .ok (.iload_n 1, 1) := by decide +kernel
theorem dJ2_getChar_3b067_7 : decode cJ2_getChar_3b067 7 = .ok (.ifCond .lt 11, 3) := by decide +kernel
theorem dJ2_getChar_3b067_10 : decode cJ2_getChar_3b067 10 = .ok (.iload_n 1, 1) := by decide +kernel
theorem dJ2_getChar_3b067_11 : decode cJ2_getChar_3b067 11 = .ok (.aload_n 0, 1) := by decide +kernel
theorem dJ2_getChar_3b067_12 : decode cJ2_getChar_3b067 12 = .ok (.invokestatic 48, 3) := by decide +kernel
theorem dJ2_getChar_3b067_15 : decode cJ2_getChar_3b067 15 = .ok (.if_icmp .lt 13, 3) := by decide +kernel
theorem dJ2_getChar_3b067_18 : decode cJ2_getChar_3b067 18 = .ok (.new 52, 3) := by decide +kernel
theorem dJ2_getChar_3b067_21 : decode cJ2_getChar_3b067 21 = .ok (.dup, 1) := by decide +kernel
theorem dJ2_getChar_3b067_22 : decode cJ2_getChar_3b067 22 = .ok (.ldc 54, 2) := by decide +kernel
theorem dJ2_getChar_3b067_24 : decode cJ2_getChar_3b067 24 = .ok (.invokespecial 56, 3) := by decide +kernel
theorem dJ2_getChar_3b067_27 : decode cJ2_getChar_3b067 27 = .ok (.athrow, 1) := by decide +kernel
theorem dJ2_getChar_3b067_28 : decode cJ2_getChar_3b067 28 = .ok (.iload_n 1, 1) := by decide +kernel
theorem dJ2_getChar_3b067_29 : decode cJ2_getChar_3b067 29 = .ok (.iconst 1, 1) := by decide +kernel
theorem dJ2_getChar_3b067_30 : decode cJ2_getChar_3b067 30 = .ok (.ishl, 1) := by decide +kernel
theorem dJ2_getChar_3b067_31 : decode cJ2_getChar_3b067 31 = .ok (.istore_n 1, 1) := by decide +kernel
theorem dJ2_getChar_3b067_32 : decode cJ2_getChar_3b067 32 = .ok (.aload_n 0, 1) := by decide +kernel
theorem dJ2_getChar_3b067_33 : decode cJ2_getChar_3b067 33 = .ok (.iload_n 1, 1) := by decide +kernel
theorem dJ2_getChar_3b067_34 : decode cJ2_getChar_3b067 34 = .ok (.iinc 1 1, 3) := by decide +kernel
theorem dJ2_getChar_3b067_37 : decode cJ2_getChar_3b067 37 = .ok (.baload, 1) := by decide +kernel
theorem dJ2_getChar_3b067_38 : decode cJ2_getChar_3b067 38 = .ok (.sipush 255, 3) := by decide +kernel
theorem dJ2_getChar_3b067_41 : decode cJ2_getChar_3b067 41 = .ok (.iand, 1) := by decide +kernel
theorem dJ2_getChar_3b067_42 : decode cJ2_getChar_3b067 42 = .ok (.getstatic 59, 3) := by decide +kernel
theorem dJ2_getChar_3b067_45 : decode cJ2_getChar_3b067 45 = .ok (.ishl, 1) := by decide +kernel
theorem dJ2_getChar_3b067_46 : decode cJ2_getChar_3b067 46 = .ok (.aload_n 0, 1) := by decide +kernel
theorem dJ2_getChar_3b067_47 : decode cJ2_getChar_3b067 47 = .ok (.iload_n 1, 1) := by decide +kernel
theorem dJ2_getChar_3b067_48 : decode cJ2_getChar_3b067 48 = .ok (.baload, 1) := by decide +kernel
theorem dJ2_getChar_3b067_49 : decode cJ2_getChar_3b067 49 = .ok (.sipush 255, 3) := by decide +kernel
theorem dJ2_getChar_3b067_52 : decode cJ2_getChar_3b067 52 = .ok (.iand, 1) := by decide +kernel
theorem dJ2_getChar_3b067_53 : decode cJ2_getChar_3b067 53 = .ok (.getstatic 63, 3) := by decide +kernel
theorem dJ2_getChar_3b067_56 : decode cJ2_getChar_3b067 56 = .ok (.ishl, 1) := by decide +kernel
theorem dJ2_getChar_3b067_57 : decode cJ2_getChar_3b067 57 = .ok (.ior, 1) := by decide +kernel
theorem dJ2_getChar_3b067_58 : decode cJ2_getChar_3b067 58 = .ok (.i2c, 1) := by decide +kernel
theorem dJ2_getChar_3b067_59 : decode cJ2_getChar_3b067 59 = .ok (.ireturn, 1) := by decide +kernel
theorem dJ2_length_9d52b_0 : decode cJ2_length_9d52b 0 = .ok (.aload_n 0, 1) := by decide +kernel
theorem dJ2_length_9d52b_1 : decode cJ2_length_9d52b 1 = .ok (.arraylength, 1) := by decide +kernel
theorem dJ2_length_9d52b_2 : decode cJ2_length_9d52b 2 = .ok (.iconst 1, 1) := by decide +kernel
theorem dJ2_length_9d52b_3 : decode cJ2_length_9d52b 3 = .ok (.ishr, 1) := by decide +kernel
theorem dJ2_length_9d52b_4 : decode cJ2_length_9d52b 4 = .ok (.ireturn, 1) := by decide +kernel
theorem dJ2_charAt_3b067_0 : decode cJ2_charAt_3b067 0 = .ok (.iload_n 1, 1) := by decide +kernel
theorem dJ2_charAt_3b067_1 : decode cJ2_charAt_3b067 1 = .ok (.aload_n 0, 1) := by decide +kernel
theorem dJ2_charAt_3b067_2 : decode cJ2_charAt_3b067 2 = .ok (.invokestatic 67, 3) := by decide +kernel
theorem dJ2_charAt_3b067_5 : decode cJ2_charAt_3b067 5 = .ok (.aload_n 0, 1) := by decide +kernel
theorem dJ2_charAt_3b067_6 : decode cJ2_charAt_3b067 6 = .ok (.iload_n 1, 1) := by decide +kernel
theorem dJ2_charAt_3b067_7 : decode cJ2_charAt_3b067 7 = .ok (.invokestatic 71, 3) := by decide +kernel
theorem dJ2_charAt_3b067_10 : decode cJ2_charAt_3b067 10 = .ok (.ireturn, 1) := by decide +kernel
theorem dJ2_checkIndex_2214a_0 : decode cJ2_checkIndex_2214a 0 = .ok (.iload_n 0, 1) := by decide +kernel
theorem dJ2_checkIndex_2214a_1 : decode cJ2_checkIndex_2214a 1 = .ok (.aload_n 1, 1) := by decide +kernel
theorem dJ2_checkIndex_2214a_2 : decode cJ2_checkIndex_2214a 2 = .ok (.invokestatic 48, 3) := by decide +kernel
theorem dJ2_checkIndex_2214a_5 : decode cJ2_checkIndex_2214a 5 = .ok (.invokestatic 414, 3) := by decide +kernel
theorem dJ2_checkIndex_2214a_8 : decode cJ2_checkIndex_2214a 8 = .ok (.return_, 1) := by decide +kernel
theorem dJ3_checkIndex_8e157_0 : decode cJ3_checkIndex_8e157 0 = .ok (.iload_n 0, 1) := by decide +kernel
theorem dJ3_checkIndex_8e157_1 : decode cJ3_checkIndex_8e157 1 = .ok (.ifCond .lt 8, 3) := by decide +kernel
theorem dJ3_checkIndex_8e157_4 : decode cJ3_checkIndex_8e157 4 = .ok (.iload_n 0, 1) := by decide +kernel
theorem dJ3_checkIndex_8e157_5 : decode cJ3_checkIndex_8e157 5 = .ok (.iload_n 1, 1) := by decide +kernel
theorem dJ3_checkIndex_8e157_6 : decode cJ3_checkIndex_8e157 6 = .ok (.if_icmp .lt 10, 3) := by decide +kernel
theorem dJ3_checkIndex_8e157_9 : decode cJ3_checkIndex_8e157 9 = .ok (.aload_n 2, 1) := by decide +kernel
theorem dJ3_checkIndex_8e157_10 : decode cJ3_checkIndex_8e157 10 = .ok (.iload_n 0, 1) := by decide +kernel
theorem dJ3_checkIndex_8e157_11 : decode cJ3_checkIndex_8e157 11 = .ok (.iload_n 1, 1) := by decide +kernel
theorem dJ3_checkIndex_8e157_12 : decode cJ3_checkIndex_8e157 12 = .ok (.invokestatic 95, 3) := by decide +kernel
theorem dJ3_checkIndex_8e157_15 : decode cJ3_checkIndex_8e157 15 = .ok (.athrow, 1) := by decide +kernel
theorem dJ3_checkIndex_8e157_16 : decode cJ3_checkIndex_8e157 16 = .ok (.iload_n 0, 1) := by decide +kernel
theorem dJ3_checkIndex_8e157_17 : decode cJ3_checkIndex_8e157 17 = .ok (.ireturn, 1) := by decide +kernel
end
section
theorem dX9_init_0 : decode cX9_init 0 = .ok (.aload_n 0, 1) := by decide +kernel
theorem dX9_init_1 : decode cX9_init 1 = .ok (.invokespecial 1, 3) := by decide +kernel
theorem dX9_init_4 : decode cX9_init 4 = .ok (.aload_n 0, 1) := by decide +kernel
theorem dX9_init_5 : decode cX9_init 5 = .ok (.sipush 2778, 3) := by decide +kernel
theorem dX9_init_8 : decode cX9_init 8 = .ok (.newarray .int, 2) := by decide +kernel
theorem dX9_init_10 : decode cX9_init 10 = .ok (.putfield 7, 3) := by decide +kernel
theorem dX9_init_13 : decode cX9_init 13 = .ok (.aload_n 0, 1) := by decide +kernel
theorem dX9_init_14 : decode cX9_init 14 = .ok (.sipush 11112, 3) := by decide +kernel
theorem dX9_init_17 : decode cX9_init 17 = .ok (.newarray .int, 2) := by decide +kernel
theorem dX9_init_19 : decode cX9_init 19 = .ok (.putfield 13, 3) := by decide +kernel
theorem dX9_init_22 : decode cX9_init 22 = .ok (.aload_n 0, 1) := by decide +kernel
theorem dX9_init_23 : decode cX9_init 23 = .ok (.bipush 30, 2) := by decide +kernel
theorem dX9_init_25 : decode cX9_init 25 = .ok (.newarray .int, 2) := by decide +kernel
theorem dX9_init_27 : decode cX9_init 27 = .ok (.putfield 16, 3) := by decide +kernel
theorem dX9_init_30 : decode cX9_init 30 = .ok (.aload_n 0, 1) := by decide +kernel
theorem dX9_init_31 : decode cX9_init 31 = .ok (.bipush 72, 2) := by decide +kernel
theorem dX9_init_33 : decode cX9_init 33 = .ok (.newarray .int, 2) := by decide +kernel
theorem dX9_init_35 : decode cX9_init 35 = .ok (.putfield 19, 3) := by decide +kernel
theorem dX9_init_38 : decode cX9_init 38 = .ok (.aload_n 0, 1) := by decide +kernel
theorem dX9_init_39 : decode cX9_init 39 = .ok (.bipush 72, 2) := by decide +kernel
theorem dX9_init_41 : decode cX9_init 41 = .ok (.newarray .int, 2) := by decide +kernel
theorem dX9_init_43 : decode cX9_init 43 = .ok (.putfield 22, 3) := by decide +kernel
theorem dX9_init_46 : decode cX9_init 46 = .ok (.aload_n 0, 1) := by decide +kernel
theorem dX9_init_47 : decode cX9_init 47 = .ok (.bipush 72, 2) := by decide +kernel
theorem dX9_init_49 : decode cX9_init 49 = .ok (.newarray .boolean, 2) := by decide +kernel
theorem dX9_init_51 : decode cX9_init 51 = .ok (.putfield 25, 3) := by decide +kernel
theorem dX9_init_54 : decode cX9_init 54 = .ok (.aload_n 0, 1) := by decide +kernel
theorem dX9_init_55 : decode cX9_init 55 = .ok (.bipush 72, 2) := by decide +kernel
theorem dX9_init_57 : decode cX9_init 57 = .ok (.newarray .int, 2) := by decide +kernel
theorem dX9_init_59 : decode cX9_init 59 = .ok (.putfield 29, 3) := by decide +kernel
theorem dX9_init_62 : decode cX9_init 62 = .ok (.aload_n 0, 1) := by decide +kernel
theorem dX9_init_63 : decode cX9_init 63 = .ok (.bipush 72, 2) := by decide +kernel
theorem dX9_init_65 : decode cX9_init 65 = .ok (.newarray .int, 2) := by decide +kernel
theorem dX9_init_67 : decode cX9_init 67 = .ok (.putfield 32, 3) := by decide +kernel
theorem dX9_init_70 : decode cX9_init 70 = .ok (.aload_n 0, 1) := by decide +kernel
theorem dX9_init_71 : decode cX9_init 71 = .ok (.sipush 5184, 3) := by decide +kernel
theorem dX9_init_74 : decode cX9_init 74 = .ok (.newarray .int, 2) := by decide +kernel
theorem dX9_init_76 : decode cX9_init 76 = .ok (.putfield 35, 3) := by decide +kernel
theorem dX9_init_79 : decode cX9_init 79 = .ok (.aload_n 0, 1) := by decide +kernel
theorem dX9_init_80 : decode cX9_init 80 = .ok (.bipush 72, 2) := by decide +kernel
theorem dX9_init_82 : decode cX9_init 82 = .ok (.newarray .int, 2) := by decide +kernel
theorem dX9_init_84 : decode cX9_init 84 = .ok (.putfield 38, 3) := by decide +kernel
theorem dX9_init_87 : decode cX9_init 87 = .ok (.aload_n 0, 1) := by decide +kernel
theorem dX9_init_88 : decode cX9_init 88 = .ok (.bipush 72, 2) := by decide +kernel
theorem dX9_init_90 : decode cX9_init 90 = .ok (.newarray .int, 2) := by decide +kernel
theorem dX9_init_92 : decode cX9_init 92 = .ok (.putfield 41, 3) := by decide +kernel
theorem dX9_init_95 : decode cX9_init 95 = .ok (.aload_n 0, 1) := by decide +kernel
theorem dX9_init_96 : decode cX9_init 96 = .ok (.bipush 72, 2) := by decide +kernel
theorem dX9_init_98 : decode cX9_init 98 = .ok (.newarray .boolean, 2) := by decide +kernel
theorem dX9_init_100 : decode cX9_init 100 = .ok (.putfield 44, 3) := by decide +kernel
theorem dX9_init_103 : decode cX9_init 103 = .ok (.aload_n 0, 1) := by decide +kernel
theorem dX9_init_104 : decode cX9_init 104 = .ok (.bipush 72, 2) := by decide +kernel
theorem dX9_init_106 : decode cX9_init 106 = .ok (.newarray .boolean, 2) := by decide +kernel
theorem dX9_init_108 : decode cX9_init 108 = .ok (.putfield 47, 3) := by decide +kernel
theorem dX9_init_111 : decode cX9_init 111 = .ok (.aload_n 0, 1) := by decide +kernel
theorem dX9_init_112 : decode cX9_init 112 = .ok (.bipush 72, 2) := by decide +kernel
theorem dX9_init_114 : decode cX9_init 114 = .ok (.newarray .int, 2) := by decide +kernel
theorem dX9_init_116 : decode cX9_init 116 = .ok (.putfield 50, 3) := by decide +kernel
theorem dX9_init_119 : decode cX9_init 119 = .ok (.aload_n 0, 1) := by decide +kernel
theorem dX9_init_120 : decode cX9_init 120 = .ok (.sipush 5184, 3) := by decide +kernel
theorem dX9_init_123 : decode cX9_init 123 = .ok (.newarray .int, 2) := by decide +kernel
theorem dX9_init_125 : decode cX9_init 125 = .ok (.putfield 53, 3) := by decide +kernel
theorem dX9_init_128 : decode cX9_init 128 = .ok (.aload_n 0, 1) := by decide +kernel
theorem dX9_init_129 : decode cX9_init 129 = .ok (.bipush 72, 2) := by decide +kernel
theorem dX9_init_131 : decode cX9_init 131 = .ok (.newarray .boolean, 2) := by decide +kernel
theorem dX9_init_133 : decode cX9_init 133 = .ok (.putfield 56, 3) := by decide +kernel
theorem dX9_init_136 : decode cX9_init 136 = .ok (.aload_n 0, 1) := by decide +kernel
theorem dX9_init_137 : decode cX9_init 137 = .ok (.bipush 72, 2) := by decide +kernel
theorem dX9_init_139 : decode cX9_init 139 = .ok (.newarray .boolean, 2) := by decide +kernel
theorem dX9_init_141 : decode cX9_init 141 = .ok (.putfield 59, 3) := by decide +kernel
theorem dX9_init_144 : decode cX9_init 144 = .ok (.aload_n 0, 1) := by decide +kernel
theorem dX9_init_145 : decode cX9_init 145 = .ok (.iconst 1, 1) := by decide +kernel
theorem dX9_init_146 : decode cX9_init 146 = .ok (.putfield 62, 3) := by decide +kernel
theorem dX9_init_149 : decode cX9_init 149 = .ok (.aload_n 0, 1) := by decide +kernel
theorem dX9_init_150 : decode cX9_init 150 = .ok (.bipush 40, 2) := by decide +kernel
theorem dX9_init_152 : decode cX9_init 152 = .ok (.newarray .int, 2) := by decide +kernel
theorem dX9_init_154 : decode cX9_init 154 = .ok (.putfield 66, 3) := by decide +kernel
theorem dX9_init_157 : decode cX9_init 157 = .ok (.aload_n 0, 1) := by decide +kernel
theorem dX9_init_158 : decode cX9_init 158 = .ok (.bipush 40, 2) := by decide +kernel
theorem dX9_init_160 : decode cX9_init 160 = .ok (.newarray .int, 2) := by decide +kernel
theorem dX9_init_162 : decode cX9_init 162 = .ok (.putfield 69, 3) := by decide +kernel
theorem dX9_init_165 : decode cX9_init 165 = .ok (.aload_n 0, 1) := by decide +kernel
theorem dX9_init_166 : decode cX9_init 166 = .ok (.bipush 40, 2) := by decide +kernel
theorem dX9_init_168 : decode cX9_init 168 = .ok (.newarray .boolean, 2) := by decide +kernel
theorem dX9_init_170 : decode cX9_init 170 = .ok (.putfield 72, 3) := by decide +kernel
theorem dX9_init_173 : decode cX9_init 173 = .ok (.aload_n 0, 1) := by decide +kernel
theorem dX9_init_174 : decode cX9_init 174 = .ok (.bipush 40, 2) := by decide +kernel
theorem dX9_init_176 : decode cX9_init 176 = .ok (.newarray .boolean, 2) := by decide +kernel
theorem dX9_init_178 : decode cX9_init 178 = .ok (.putfield 75, 3) := by decide +kernel
theorem dX9_init_181 : decode cX9_init 181 = .ok (.aload_n 0, 1) := by decide +kernel
theorem dX9_init_182 : decode cX9_init 182 = .ok (.bipush 40, 2) := by decide +kernel
theorem dX9_init_184 : decode cX9_init 184 = .ok (.newarray .long, 2) := by decide +kernel
theorem dX9_init_186 : decode cX9_init 186 = .ok (.putfield 78, 3) := by decide +kernel
theorem dX9_init_189 : decode cX9_init 189 = .ok (.aload_n 0, 1) := by decide +kernel
theorem dX9_init_190 : decode cX9_init 190 = .ok (.bipush 40, 2) := by decide +kernel
theorem dX9_init_192 : decode cX9_init 192 = .ok (.newarray .long, 2) := by decide +kernel
theorem dX9_init_194 : decode cX9_init 194 = .ok (.putfield 82, 3) := by decide +kernel
theorem dX9_init_197 : decode cX9_init 197 = .ok (.aload_n 0, 1) := by decide +kernel
theorem dX9_init_198 : decode cX9_init 198 = .ok (.bipush 40, 2) := by decide +kernel
theorem dX9_init_200 : decode cX9_init 200 = .ok (.newarray .int, 2) := by decide +kernel
theorem dX9_init_202 : decode cX9_init 202 = .ok (.putfield 85, 3) := by decide +kernel
theorem dX9_init_205 : decode cX9_init 205 = .ok (.aload_n 0, 1) := by decide +kernel
theorem dX9_init_206 : decode cX9_init 206 = .ok (.bipush 40, 2) := by decide +kernel
theorem dX9_init_208 : decode cX9_init 208 = .ok (.newarray .long, 2) := by decide +kernel
theorem dX9_init_210 : decode cX9_init 210 = .ok (.putfield 88, 3) := by decide +kernel
theorem dX9_init_213 : decode cX9_init 213 = .ok (.aload_n 0, 1) := by decide +kernel
theorem dX9_init_214 : decode cX9_init 214 = .ok (.bipush 40, 2) := by decide +kernel
theorem dX9_init_216 : decode cX9_init 216 = .ok (.newarray .boolean, 2) := by decide +kernel
theorem dX9_init_218 : decode cX9_init 218 = .ok (.putfield 91, 3) := by decide +kernel
theorem dX9_init_221 : decode cX9_init 221 = .ok (.aload_n 0, 1) := by decide +kernel
theorem dX9_init_222 : decode cX9_init 222 = .ok (.bipush 40, 2) := by decide +kernel
theorem dX9_init_224 : decode cX9_init 224 = .ok (.newarray .long, 2) := by decide +kernel
theorem dX9_init_226 : decode cX9_init 226 = .ok (.putfield 94, 3) := by decide +kernel
theorem dX9_init_229 : decode cX9_init 229 = .ok (.aload_n 0, 1) := by decide +kernel
theorem dX9_init_230 : decode cX9_init 230 = .ok (.iconst (-1), 1) := by decide +kernel
theorem dX9_init_231 : decode cX9_init 231 = .ok (.putfield 97, 3) := by decide +kernel
theorem dX9_init_234 : decode cX9_init 234 = .ok (.aload_n 0, 1) := by decide +kernel
theorem dX9_init_235 : decode cX9_init 235 = .ok (.bipush 72, 2) := by decide +kernel
theorem dX9_init_237 : decode cX9_init 237 = .ok (.newarray .boolean, 2) := by decide +kernel
theorem dX9_init_239 : decode cX9_init 239 = .ok (.putfield 101, 3) := by decide +kernel
theorem dX9_init_242 : decode cX9_init 242 = .ok (.return_, 1) := by decide +kernel
theorem dX9_in_0 : decode cX9_in 0 = .ok (.iload_n 0, 1) := by decide +kernel
theorem dX9_in_1 : decode cX9_in 1 = .ok (.iload_n 1, 1) := by decide +kernel
theorem dX9_in_2 : decode cX9_in 2 = .ok (.if_icmp .lt 12, 3) := by decide +kernel
theorem dX9_in_5 : decode cX9_in 5 = .ok (.iload_n 0, 1) := by decide +kernel
theorem dX9_in_6 : decode cX9_in 6 = .ok (.iload_n 2, 1) := by decide +kernel
theorem dX9_in_7 : decode cX9_in 7 = .ok (.if_icmp .gt 7, 3) := by decide +kernel
theorem dX9_in_10 : decode cX9_in 10 = .ok (.iconst 1, 1) := by decide +kernel
theorem dX9_in_11 : decode cX9_in 11 = .ok (.goto 4, 3) := by decide +kernel
theorem dX9_in_14 : decode cX9_in 14 = .ok (.iconst 0, 1) := by decide +kernel
theorem dX9_in_15 : decode cX9_in 15 = .ok (.ireturn, 1) := by decide +kernel
theorem dX9_isCell_0 : decode cX9_isCell 0 = .ok (.iload_n 0, 1) := by decide +kernel
theorem dX9_isCell_1 : decode cX9_isCell 1 = .ok (.iconst 0, 1) := by decide +kernel
theorem dX9_isCell_2 : decode cX9_isCell 2 = .ok (.bipush 71, 2) := by decide +kernel
theorem dX9_isCell_4 : decode cX9_isCell 4 = .ok (.invokestatic 104, 3) := by decide +kernel
theorem dX9_isCell_7 : decode cX9_isCell 7 = .ok (.ireturn, 1) := by decide +kernel
theorem dX9_isFigure_0 : decode cX9_isFigure 0 = .ok (.iload_n 0, 1) := by decide +kernel
theorem dX9_isFigure_1 : decode cX9_isFigure 1 = .ok (.bipush 48, 2) := by decide +kernel
theorem dX9_isFigure_3 : decode cX9_isFigure 3 = .ok (.bipush 57, 2) := by decide +kernel
theorem dX9_isFigure_5 : decode cX9_isFigure 5 = .ok (.invokestatic 104, 3) := by decide +kernel
theorem dX9_isFigure_8 : decode cX9_isFigure 8 = .ok (.ireturn, 1) := by decide +kernel
theorem dX9_isColumn_0 : decode cX9_isColumn 0 = .ok (.iload_n 0, 1) := by decide +kernel
theorem dX9_isColumn_1 : decode cX9_isColumn 1 = .ok (.bipush 97, 2) := by decide +kernel
theorem dX9_isColumn_3 : decode cX9_isColumn 3 = .ok (.bipush 104, 2) := by decide +kernel
theorem dX9_isColumn_5 : decode cX9_isColumn 5 = .ok (.invokestatic 104, 3) := by decide +kernel
theorem dX9_isColumn_8 : decode cX9_isColumn 8 = .ok (.ireturn, 1) := by decide +kernel
theorem dX9_save_0 : decode cX9_save 0 = .ok (.aload_n 0, 1) := by decide +kernel
theorem dX9_save_1 : decode cX9_save 1 = .ok (.getfield 108, 3) := by decide +kernel
theorem dX9_save_4 : decode cX9_save 4 = .ok (.iconst 4, 1) := by decide +kernel
theorem dX9_save_5 : decode cX9_save 5 = .ok (.if_icmp .ne 44, 3) := by decide +kernel
theorem dX9_save_8 : decode cX9_save 8 = .ok (.iconst 0, 1) := by decide +kernel
theorem dX9_save_9 : decode cX9_save 9 = .ok (.istore_n 1, 1) := by decide +kernel
theorem dX9_save_10 : decode cX9_save 10 = .ok (.iload_n 1, 1) := by decide +kernel
theorem dX9_save_11 : decode cX9_save 11 = .ok (.sipush 8334, 3) := by decide +kernel
theorem dX9_save_14 : decode cX9_save 14 = .ok (.if_icmp .ge 25, 3) := by decide +kernel
theorem dX9_save_17 : decode cX9_save 17 = .ok (.aload_n 0, 1) := by decide +kernel
theorem dX9_save_18 : decode cX9_save 18 = .ok (.getfield 13, 3) := by decide +kernel
theorem dX9_save_21 : decode cX9_save 21 = .ok (.iload_n 1, 1) := by decide +kernel
theorem dX9_save_22 : decode cX9_save 22 = .ok (.aload_n 0, 1) := by decide +kernel
theorem dX9_save_23 : decode cX9_save 23 = .ok (.getfield 13, 3) := by decide +kernel
theorem dX9_save_26 : decode cX9_save 26 = .ok (.iload_n 1, 1) := by decide +kernel
theorem dX9_save_27 : decode cX9_save 27 = .ok (.sipush 2778, 3) := by decide +kernel
theorem dX9_save_30 : decode cX9_save 30 = .ok (.iadd, 1) := by decide +kernel
theorem dX9_save_31 : decode cX9_save 31 = .ok (.iaload, 1) := by decide +kernel
theorem dX9_save_32 : decode cX9_save 32 = .ok (.iastore, 1) := by decide +kernel
theorem dX9_save_33 : decode cX9_save 33 = .ok (.iinc 1 1, 3) := by decide +kernel
theorem dX9_save_36 : decode cX9_save 36 = .ok (.goto (-26), 3) := by decide +kernel
theorem dX9_save_39 : decode cX9_save 39 = .ok (.aload_n 0, 1) := by decide +kernel
theorem dX9_save_40 : decode cX9_save 40 = .ok (.dup, 1) := by decide +kernel
theorem dX9_save_41 : decode cX9_save 41 = .ok (.getfield 108, 3) := by decide +kernel
theorem dX9_save_44 : decode cX9_save 44 = .ok (.iconst 1, 1) := by decide +kernel
theorem dX9_save_45 : decode cX9_save 45 = .ok (.isub, 1) := by decide +kernel
theorem dX9_save_46 : decode cX9_save 46 = .ok (.putfield 108, 3) := by decide +kernel
theorem dX9_save_49 : decode cX9_save 49 = .ok (.iconst 0, 1) := by decide +kernel
theorem dX9_save_50 : decode cX9_save 50 = .ok (.istore_n 1, 1) := by decide +kernel
theorem dX9_save_51 : decode cX9_save 51 = .ok (.iload_n 1, 1) := by decide +kernel
theorem dX9_save_52 : decode cX9_save 52 = .ok (.sipush 2778, 3) := by decide +kernel
theorem dX9_save_55 : decode cX9_save 55 = .ok (.if_icmp .ge 30, 3) := by decide +kernel
theorem dX9_save_58 : decode cX9_save 58 = .ok (.aload_n 0, 1) := by decide +kernel
theorem dX9_save_59 : decode cX9_save 59 = .ok (.getfield 13, 3) := by decide +kernel
theorem dX9_save_62 : decode cX9_save 62 = .ok (.sipush 2778, 3) := by decide +kernel
theorem dX9_save_65 : decode cX9_save 65 = .ok (.aload_n 0, 1) := by decide +kernel
theorem dX9_save_66 : decode cX9_save 66 = .ok (.getfield 108, 3) := by decide +kernel
theorem dX9_save_69 : decode cX9_save 69 = .ok (.imul, 1) := by decide +kernel
theorem dX9_save_70 : decode cX9_save 70 = .ok (.iload_n 1, 1) := by decide +kernel
theorem dX9_save_71 : decode cX9_save 71 = .ok (.iadd, 1) := by decide +kernel
theorem dX9_save_72 : decode cX9_save 72 = .ok (.aload_n 0, 1) := by decide +kernel
theorem dX9_save_73 : decode cX9_save 73 = .ok (.getfield 7, 3) := by decide +kernel
theorem dX9_save_76 : decode cX9_save 76 = .ok (.iload_n 1, 1) := by decide +kernel
theorem dX9_save_77 : decode cX9_save 77 = .ok (.iaload, 1) := by decide +kernel
theorem dX9_save_78 : decode cX9_save 78 = .ok (.iastore, 1) := by decide +kernel
theorem dX9_save_79 : decode cX9_save 79 = .ok (.iinc 1 1, 3) := by decide +kernel
theorem dX9_save_82 : decode cX9_save 82 = .ok (.goto (-31), 3) := by decide +kernel
theorem dX9_save_85 : decode cX9_save 85 = .ok (.aload_n 0, 1) := by decide +kernel
theorem dX9_save_86 : decode cX9_save 86 = .ok (.dup, 1) := by decide +kernel
theorem dX9_save_87 : decode cX9_save 87 = .ok (.getfield 108, 3) := by decide +kernel
theorem dX9_save_90 : decode cX9_save 90 = .ok (.iconst 1, 1) := by decide +kernel
theorem dX9_save_91 : decode cX9_save 91 = .ok (.iadd, 1) := by decide +kernel
theorem dX9_save_92 : decode cX9_save 92 = .ok (.putfield 108, 3) := by decide +kernel
theorem dX9_save_95 : decode cX9_save 95 = .ok (.return_, 1) := by decide +kernel
theorem dX9_type_0 : decode cX9_type 0 = .ok (.iload_n 1, 1) := by decide +kernel
theorem dX9_type_1 : decode cX9_type 1 = .ok (.bipush 32, 2) := by decide +kernel
theorem dX9_type_3 : decode cX9_type 3 = .ok (.bipush 126, 2) := by decide +kernel
theorem dX9_type_5 : decode cX9_type 5 = .ok (.invokestatic 104, 3) := by decide +kernel
theorem dX9_type_8 : decode cX9_type 8 = .ok (.ifCond .ne 6, 3) := by decide +kernel
theorem dX9_type_11 : decode cX9_type 11 = .ok (.ldc 111, 2) := by decide +kernel
theorem dX9_type_13 : decode cX9_type 13 = .ok (.ireturn, 1) := by decide +kernel
theorem dX9_type_14 : decode cX9_type 14 = .ok (.aload_n 0, 1) := by decide +kernel
theorem dX9_type_15 : decode cX9_type 15 = .ok (.getfield 112, 3) := by decide +kernel
theorem dX9_type_18 : decode cX9_type 18 = .ok (.bipush 30, 2) := by decide +kernel
theorem dX9_type_20 : decode cX9_type 20 = .ok (.if_icmp .ne 6, 3) := by decide +kernel
theorem dX9_type_23 : decode cX9_type 23 = .ok (.ldc 115, 2) := by decide +kernel
theorem dX9_type_25 : decode cX9_type 25 = .ok (.ireturn, 1) := by decide +kernel
theorem dX9_type_26 : decode cX9_type 26 = .ok (.aload_n 0, 1) := by decide +kernel
theorem dX9_type_27 : decode cX9_type 27 = .ok (.getfield 16, 3) := by decide +kernel
theorem dX9_type_30 : decode cX9_type 30 = .ok (.aload_n 0, 1) := by decide +kernel
theorem dX9_type_31 : decode cX9_type 31 = .ok (.getfield 112, 3) := by decide +kernel
theorem dX9_type_34 : decode cX9_type 34 = .ok (.iload_n 1, 1) := by decide +kernel
theorem dX9_type_35 : decode cX9_type 35 = .ok (.iastore, 1) := by decide +kernel
theorem dX9_type_36 : decode cX9_type 36 = .ok (.aload_n 0, 1) := by decide +kernel
theorem dX9_type_37 : decode cX9_type 37 = .ok (.dup, 1) := by decide +kernel
theorem dX9_type_38 : decode cX9_type 38 = .ok (.getfield 112, 3) := by decide +kernel
theorem dX9_type_41 : decode cX9_type 41 = .ok (.iconst 1, 1) := by decide +kernel
theorem dX9_type_42 : decode cX9_type 42 = .ok (.iadd, 1) := by decide +kernel
theorem dX9_type_43 : decode cX9_type 43 = .ok (.putfield 112, 3) := by decide +kernel
theorem dX9_type_46 : decode cX9_type 46 = .ok (.aload_n 0, 1) := by decide +kernel
theorem dX9_type_47 : decode cX9_type 47 = .ok (.getfield 112, 3) := by decide +kernel
theorem dX9_type_50 : decode cX9_type 50 = .ok (.ireturn, 1) := by decide +kernel
theorem dX9_clearText_0 : decode cX9_clearText 0 = .ok (.aload_n 0, 1) := by decide +kernel
theorem dX9_clearText_1 : decode cX9_clearText 1 = .ok (.getfield 112, 3) := by decide +kernel
theorem dX9_clearText_4 : decode cX9_clearText 4 = .ok (.istore_n 1, 1) := by decide +kernel
theorem dX9_clearText_5 : decode cX9_clearText 5 = .ok (.aload_n 0, 1) := by decide +kernel
theorem dX9_clearText_6 : decode cX9_clearText 6 = .ok (.iconst 0, 1) := by decide +kernel
theorem dX9_clearText_7 : decode cX9_clearText 7 = .ok (.putfield 112, 3) := by decide +kernel
theorem dX9_clearText_10 : decode cX9_clearText 10 = .ok (.iload_n 1, 1) := by decide +kernel
theorem dX9_clearText_11 : decode cX9_clearText 11 = .ok (.ireturn, 1) := by decide +kernel
theorem dX9_here_0 : decode cX9_here 0 = .ok (.aload_n 0, 1) := by decide +kernel
theorem dX9_here_1 : decode cX9_here 1 = .ok (.getfield 116, 3) := by decide +kernel
theorem dX9_here_4 : decode cX9_here 4 = .ok (.aload_n 0, 1) := by decide +kernel
theorem dX9_here_5 : decode cX9_here 5 = .ok (.getfield 112, 3) := by decide +kernel
theorem dX9_here_8 : decode cX9_here 8 = .ok (.if_icmp .ge 15, 3) := by decide +kernel
theorem dX9_here_11 : decode cX9_here 11 = .ok (.aload_n 0, 1) := by decide +kernel
theorem dX9_here_12 : decode cX9_here 12 = .ok (.getfield 16, 3) := by decide +kernel
theorem dX9_here_15 : decode cX9_here 15 = .ok (.aload_n 0, 1) := by decide +kernel
theorem dX9_here_16 : decode cX9_here 16 = .ok (.getfield 116, 3) := by decide +kernel
theorem dX9_here_19 : decode cX9_here 19 = .ok (.iaload, 1) := by decide +kernel
theorem dX9_here_20 : decode cX9_here 20 = .ok (.goto 4, 3) := by decide +kernel
theorem dX9_here_23 : decode cX9_here 23 = .ok (.iconst (-1), 1) := by decide +kernel
theorem dX9_here_24 : decode cX9_here 24 = .ok (.ireturn, 1) := by decide +kernel
theorem dX9_opens_0 : decode cX9_opens 0 = .ok (.aload_n 0, 1) := by decide +kernel
theorem dX9_opens_1 : decode cX9_opens 1 = .ok (.dup, 1) := by decide +kernel
theorem dX9_opens_2 : decode cX9_opens 2 = .ok (.getfield 119, 3) := by decide +kernel
theorem dX9_opens_5 : decode cX9_opens 5 = .ok (.iconst 1, 1) := by decide +kernel
theorem dX9_opens_6 : decode cX9_opens 6 = .ok (.iadd, 1) := by decide +kernel
theorem dX9_opens_7 : decode cX9_opens 7 = .ok (.putfield 119, 3) := by decide +kernel
theorem dX9_opens_10 : decode cX9_opens 10 = .ok (.aload_n 0, 1) := by decide +kernel
theorem dX9_opens_11 : decode cX9_opens 11 = .ok (.getfield 66, 3) := by decide +kernel
theorem dX9_opens_14 : decode cX9_opens 14 = .ok (.aload_n 0, 1) := by decide +kernel
theorem dX9_opens_15 : decode cX9_opens 15 = .ok (.getfield 119, 3) := by decide +kernel
theorem dX9_opens_18 : decode cX9_opens 18 = .ok (.iload_n 1, 1) := by decide +kernel
theorem dX9_opens_19 : decode cX9_opens 19 = .ok (.iastore, 1) := by decide +kernel
theorem dX9_opens_20 : decode cX9_opens 20 = .ok (.aload_n 0, 1) := by decide +kernel
theorem dX9_opens_21 : decode cX9_opens 21 = .ok (.getfield 69, 3) := by decide +kernel
theorem dX9_opens_24 : decode cX9_opens 24 = .ok (.aload_n 0, 1) := by decide +kernel
theorem dX9_opens_25 : decode cX9_opens 25 = .ok (.getfield 119, 3) := by decide +kernel
theorem dX9_opens_28 : decode cX9_opens 28 = .ok (.iconst 0, 1) := by decide +kernel
theorem dX9_opens_29 : decode cX9_opens 29 = .ok (.iastore, 1) := by decide +kernel
theorem dX9_opens_30 : decode cX9_opens 30 = .ok (.return_, 1) := by decide +kernel
theorem dX9_hasParts_0 : decode cX9_hasParts 0 = .ok (.iload_n 0, 1) := by decide +kernel
theorem dX9_hasParts_1 : decode cX9_hasParts 1 = .ok (.bipush 7, 2) := by decide +kernel
theorem dX9_hasParts_3 : decode cX9_hasParts 3 = .ok (.bipush 10, 2) := by decide +kernel
theorem dX9_hasParts_5 : decode cX9_hasParts 5 = .ok (.invokestatic 104, 3) := by decide +kernel
theorem dX9_hasParts_8 : decode cX9_hasParts 8 = .ok (.ireturn, 1) := by decide +kernel
theorem dX9_readCell_0 : decode cX9_readCell 0 = .ok (.aload_n 0, 1) := by decide +kernel
theorem dX9_readCell_1 : decode cX9_readCell 1 = .ok (.invokevirtual 122, 3) := by decide +kernel
theorem dX9_readCell_4 : decode cX9_readCell 4 = .ok (.iload_n 1, 1) := by decide +kernel
theorem dX9_readCell_5 : decode cX9_readCell 5 = .ok (.bipush 104, 2) := by decide +kernel
theorem dX9_readCell_7 : decode cX9_readCell 7 = .ok (.invokestatic 104, 3) := by decide +kernel
theorem dX9_readCell_10 : decode cX9_readCell 10 = .ok (.ifCond .ne 5, 3) := by decide +kernel
theorem dX9_readCell_13 : decode cX9_readCell 13 = .ok (.iconst 0, 1) := by decide +kernel
theorem dX9_readCell_14 : decode cX9_readCell 14 = .ok (.ireturn, 1) := by decide +kernel
theorem dX9_readCell_15 : decode cX9_readCell 15 = .ok (.aload_n 0, 1) := by decide +kernel
theorem dX9_readCell_16 : decode cX9_readCell 16 = .ok (.dup, 1) := by decide +kernel
theorem dX9_readCell_17 : decode cX9_readCell 17 = .ok (.getfield 116, 3) := by decide +kernel
theorem dX9_readCell_20 : decode cX9_readCell 20 = .ok (.iconst 1, 1) := by decide +kernel
theorem dX9_readCell_21 : decode cX9_readCell 21 = .ok (.iadd, 1) := by decide +kernel
theorem dX9_readCell_22 : decode cX9_readCell 22 = .ok (.putfield 116, 3) := by decide +kernel
theorem dX9_readCell_25 : decode cX9_readCell 25 = .ok (.aload_n 0, 1) := by decide +kernel
theorem dX9_readCell_26 : decode cX9_readCell 26 = .ok (.invokevirtual 122, 3) := by decide +kernel
theorem dX9_readCell_29 : decode cX9_readCell 29 = .ok (.iload_n 2, 1) := by decide +kernel
theorem dX9_readCell_30 : decode cX9_readCell 30 = .ok (.bipush 57, 2) := by decide +kernel
theorem dX9_readCell_32 : decode cX9_readCell 32 = .ok (.invokestatic 104, 3) := by decide +kernel
theorem dX9_readCell_35 : decode cX9_readCell 35 = .ok (.ifCond .ne 5, 3) := by decide +kernel
theorem dX9_readCell_38 : decode cX9_readCell 38 = .ok (.iconst 0, 1) := by decide +kernel
theorem dX9_readCell_39 : decode cX9_readCell 39 = .ok (.ireturn, 1) := by decide +kernel
theorem dX9_readCell_40 : decode cX9_readCell 40 = .ok (.aload_n 0, 1) := by decide +kernel
theorem dX9_readCell_41 : decode cX9_readCell 41 = .ok (.dup, 1) := by decide +kernel
theorem dX9_readCell_42 : decode cX9_readCell 42 = .ok (.getfield 116, 3) := by decide +kernel
theorem dX9_readCell_45 : decode cX9_readCell 45 = .ok (.iconst 1, 1) := by decide +kernel
theorem dX9_readCell_46 : decode cX9_readCell 46 = .ok (.iadd, 1) := by decide +kernel
theorem dX9_readCell_47 : decode cX9_readCell 47 = .ok (.putfield 116, 3) := by decide +kernel
theorem dX9_readCell_50 : decode cX9_readCell 50 = .ok (.iconst 1, 1) := by decide +kernel
theorem dX9_readCell_51 : decode cX9_readCell 51 = .ok (.ireturn, 1) := by decide +kernel
theorem dX9_readArea_0 : decode cX9_readArea 0 = .ok (.aload_n 0, 1) := by decide +kernel
theorem dX9_readArea_1 : decode cX9_readArea 1 = .ok (.invokevirtual 122, 3) := by decide +kernel
theorem dX9_readArea_4 : decode cX9_readArea 4 = .ok (.istore_n 1, 1) := by decide +kernel
theorem dX9_readArea_5 : decode cX9_readArea 5 = .ok (.aload_n 0, 1) := by decide +kernel
theorem dX9_readArea_6 : decode cX9_readArea 6 = .ok (.bipush 97, 2) := by decide +kernel
theorem dX9_readArea_8 : decode cX9_readArea 8 = .ok (.bipush 49, 2) := by decide +kernel
theorem dX9_readArea_10 : decode cX9_readArea 10 = .ok (.invokevirtual 126, 3) := by decide +kernel
theorem dX9_readArea_13 : decode cX9_readArea 13 = .ok (.ifCond .ne 5, 3) := by decide +kernel
theorem dX9_readArea_16 : decode cX9_readArea 16 = .ok (.iconst 0, 1) := by decide +kernel
theorem dX9_readArea_17 : decode cX9_readArea 17 = .ok (.ireturn, 1) := by decide +kernel
theorem dX9_readArea_18 : decode cX9_readArea 18 = .ok (.aload_n 0, 1) := by decide +kernel
theorem dX9_readArea_19 : decode cX9_readArea 19 = .ok (.getfield 16, 3) := by decide +kernel
theorem dX9_readArea_22 : decode cX9_readArea 22 = .ok (.aload_n 0, 1) := by decide +kernel
theorem dX9_readArea_23 : decode cX9_readArea 23 = .ok (.getfield 116, 3) := by decide +kernel
theorem dX9_readArea_26 : decode cX9_readArea 26 = .ok (.iconst 1, 1) := by decide +kernel
theorem dX9_readArea_27 : decode cX9_readArea 27 = .ok (.isub, 1) := by decide +kernel
theorem dX9_readArea_28 : decode cX9_readArea 28 = .ok (.iaload, 1) := by decide +kernel
theorem dX9_readArea_29 : decode cX9_readArea 29 = .ok (.istore_n 2, 1) := by decide +kernel
theorem dX9_readArea_30 : decode cX9_readArea 30 = .ok (.aload_n 0, 1) := by decide +kernel
theorem dX9_readArea_31 : decode cX9_readArea 31 = .ok (.aload_n 0, 1) := by decide +kernel
theorem dX9_readArea_32 : decode cX9_readArea 32 = .ok (.invokevirtual 122, 3) := by decide +kernel
theorem dX9_readArea_35 : decode cX9_readArea 35 = .ok (.bipush 58, 2) := by decide +kernel
theorem dX9_readArea_37 : decode cX9_readArea 37 = .ok (.if_icmp .ne 7, 3) := by decide +kernel
theorem dX9_readArea_40 : decode cX9_readArea 40 = .ok (.iconst 1, 1) := by decide +kernel
theorem dX9_readArea_41 : decode cX9_readArea 41 = .ok (.goto 4, 3) := by decide +kernel
theorem dX9_readArea_44 : decode cX9_readArea 44 = .ok (.iconst 0, 1) := by decide +kernel
theorem dX9_readArea_45 : decode cX9_readArea 45 = .ok (.putfield 130, 3) := by decide +kernel
theorem dX9_readArea_48 : decode cX9_readArea 48 = .ok (.aload_n 0, 1) := by decide +kernel
theorem dX9_readArea_49 : decode cX9_readArea 49 = .ok (.dup, 1) := by decide +kernel
theorem dX9_readArea_50 : decode cX9_readArea 50 = .ok (.getfield 116, 3) := by decide +kernel
theorem dX9_readArea_53 : decode cX9_readArea 53 = .ok (.aload_n 0, 1) := by decide +kernel
theorem dX9_readArea_54 : decode cX9_readArea 54 = .ok (.getfield 130, 3) := by decide +kernel
theorem dX9_readArea_57 : decode cX9_readArea 57 = .ok (.ifCond .eq 7, 3) := by decide +kernel
theorem dX9_readArea_60 : decode cX9_readArea 60 = .ok (.iconst 1, 1) := by decide +kernel
theorem dX9_readArea_61 : decode cX9_readArea 61 = .ok (.goto 4, 3) := by decide +kernel
theorem dX9_readArea_64 : decode cX9_readArea 64 = .ok (.iconst 0, 1) := by decide +kernel
theorem dX9_readArea_65 : decode cX9_readArea 65 = .ok (.iadd, 1) := by decide +kernel
theorem dX9_readArea_66 : decode cX9_readArea 66 = .ok (.putfield 116, 3) := by decide +kernel
theorem dX9_readArea_69 : decode cX9_readArea 69 = .ok (.aload_n 0, 1) := by decide +kernel
theorem dX9_readArea_70 : decode cX9_readArea 70 = .ok (.getfield 130, 3) := by decide +kernel
theorem dX9_readArea_73 : decode cX9_readArea 73 = .ok (.ifCond .eq 12, 3) := by decide +kernel
theorem dX9_readArea_76 : decode cX9_readArea 76 = .ok (.aload_n 0, 1) := by decide +kernel
theorem dX9_readArea_77 : decode cX9_readArea 77 = .ok (.iload_n 1, 1) := by decide +kernel
theorem dX9_readArea_78 : decode cX9_readArea 78 = .ok (.iload_n 2, 1) := by decide +kernel
theorem dX9_readArea_79 : decode cX9_readArea 79 = .ok (.invokevirtual 126, 3) := by decide +kernel
theorem dX9_readArea_82 : decode cX9_readArea 82 = .ok (.ifCond .eq 7, 3) := by decide +kernel
theorem dX9_readArea_85 : decode cX9_readArea 85 = .ok (.iconst 1, 1) := by decide +kernel
theorem dX9_readArea_86 : decode cX9_readArea 86 = .ok (.goto 4, 3) := by decide +kernel
theorem dX9_readArea_89 : decode cX9_readArea 89 = .ok (.iconst 0, 1) := by decide +kernel
theorem dX9_readArea_90 : decode cX9_readArea 90 = .ok (.ireturn, 1) := by decide +kernel
theorem dX9_nameOf_0 : decode cX9_nameOf 0 = .ok (.iload_n 0, 1) := by decide +kernel
theorem dX9_nameOf_1 : decode cX9_nameOf 1 = .ok (.tableswitch 79 2 9 #[47, 51, 55, 59, 63, 67, 71, 75], 47) := by decide +kernel
theorem dX9_nameOf_48 : decode cX9_nameOf 48 = .ok (.ldc2_w 133, 3) := by decide +kernel
theorem dX9_nameOf_51 : decode cX9_nameOf 51 = .ok (.lreturn, 1) := by decide +kernel
theorem dX9_nameOf_52 : decode cX9_nameOf 52 = .ok (.ldc2_w 135, 3) := by decide +kernel
theorem dX9_nameOf_55 : decode cX9_nameOf 55 = .ok (.lreturn, 1) := by decide +kernel
theorem dX9_nameOf_56 : decode cX9_nameOf 56 = .ok (.ldc2_w 137, 3) := by decide +kernel
theorem dX9_nameOf_59 : decode cX9_nameOf 59 = .ok (.lreturn, 1) := by decide +kernel
theorem dX9_nameOf_60 : decode cX9_nameOf 60 = .ok (.ldc2_w 139, 3) := by decide +kernel
theorem dX9_nameOf_63 : decode cX9_nameOf 63 = .ok (.lreturn, 1) := by decide +kernel
theorem dX9_nameOf_64 : decode cX9_nameOf 64 = .ok (.ldc2_w 141, 3) := by decide +kernel
theorem dX9_nameOf_67 : decode cX9_nameOf 67 = .ok (.lreturn, 1) := by decide +kernel
theorem dX9_nameOf_68 : decode cX9_nameOf 68 = .ok (.ldc2_w 143, 3) := by decide +kernel
theorem dX9_nameOf_71 : decode cX9_nameOf 71 = .ok (.lreturn, 1) := by decide +kernel
theorem dX9_nameOf_72 : decode cX9_nameOf 72 = .ok (.ldc2_w 145, 3) := by decide +kernel
theorem dX9_nameOf_75 : decode cX9_nameOf 75 = .ok (.lreturn, 1) := by decide +kernel
theorem dX9_nameOf_76 : decode cX9_nameOf 76 = .ok (.ldc2_w 147, 3) := by decide +kernel
theorem dX9_nameOf_79 : decode cX9_nameOf 79 = .ok (.lreturn, 1) := by decide +kernel
theorem dX9_nameOf_80 : decode cX9_nameOf 80 = .ok (.ldc2_w 149, 3) := by decide +kernel
theorem dX9_nameOf_83 : decode cX9_nameOf 83 = .ok (.lreturn, 1) := by decide +kernel
theorem dX9_sizeOf_0 : decode cX9_sizeOf 0 = .ok (.iload_n 0, 1) := by decide +kernel
theorem dX9_sizeOf_1 : decode cX9_sizeOf 1 = .ok (.iconst 2, 1) := by decide +kernel
theorem dX9_sizeOf_2 : decode cX9_sizeOf 2 = .ok (.if_icmp .eq 9, 3) := by decide +kernel
theorem dX9_sizeOf_5 : decode cX9_sizeOf 5 = .ok (.iload_n 0, 1) := by decide +kernel
theorem dX9_sizeOf_6 : decode cX9_sizeOf 6 = .ok (.bipush 6, 2) := by decide +kernel
theorem dX9_sizeOf_8 : decode cX9_sizeOf 8 = .ok (.if_icmp .ne 7, 3) := by decide +kernel
theorem dX9_sizeOf_11 : decode cX9_sizeOf 11 = .ok (.iconst 3, 1) := by decide +kernel
theorem dX9_sizeOf_12 : decode cX9_sizeOf 12 = .ok (.goto 24, 3) := by decide +kernel
theorem dX9_sizeOf_15 : decode cX9_sizeOf 15 = .ok (.iload_n 0, 1) := by decide +kernel
theorem dX9_sizeOf_16 : decode cX9_sizeOf 16 = .ok (.iconst 3, 1) := by decide +kernel
theorem dX9_sizeOf_17 : decode cX9_sizeOf 17 = .ok (.if_icmp .ne 7, 3) := by decide +kernel
theorem dX9_sizeOf_20 : decode cX9_sizeOf 20 = .ok (.iconst 5, 1) := by decide +kernel
theorem dX9_sizeOf_21 : decode cX9_sizeOf 21 = .ok (.goto 15, 3) := by decide +kernel
theorem dX9_sizeOf_24 : decode cX9_sizeOf 24 = .ok (.iload_n 0, 1) := by decide +kernel
theorem dX9_sizeOf_25 : decode cX9_sizeOf 25 = .ok (.bipush 10, 2) := by decide +kernel
theorem dX9_sizeOf_27 : decode cX9_sizeOf 27 = .ok (.if_icmp .ne 8, 3) := by decide +kernel
theorem dX9_sizeOf_30 : decode cX9_sizeOf 30 = .ok (.bipush 6, 2) := by decide +kernel
theorem dX9_sizeOf_32 : decode cX9_sizeOf 32 = .ok (.goto 4, 3) := by decide +kernel
theorem dX9_sizeOf_35 : decode cX9_sizeOf 35 = .ok (.iconst 4, 1) := by decide +kernel
theorem dX9_sizeOf_36 : decode cX9_sizeOf 36 = .ok (.ireturn, 1) := by decide +kernel
theorem dX9_matches_0 : decode cX9_matches 0 = .ok (.iload_n 1, 1) := by decide +kernel
theorem dX9_matches_1 : decode cX9_matches 1 = .ok (.invokestatic 151, 3) := by decide +kernel
theorem dX9_matches_4 : decode cX9_matches 4 = .ok (.istore_n 2, 1) := by decide +kernel
theorem dX9_matches_5 : decode cX9_matches 5 = .ok (.iconst 0, 1) := by decide +kernel
theorem dX9_matches_6 : decode cX9_matches 6 = .ok (.istore_n 3, 1) := by decide +kernel
theorem dX9_matches_7 : decode cX9_matches 7 = .ok (.iload_n 3, 1) := by decide +kernel
theorem dX9_matches_8 : decode cX9_matches 8 = .ok (.iload_n 2, 1) := by decide +kernel
theorem dX9_matches_9 : decode cX9_matches 9 = .ok (.if_icmp .ge 54, 3) := by decide +kernel
theorem dX9_matches_12 : decode cX9_matches 12 = .ok (.aload_n 0, 1) := by decide +kernel
theorem dX9_matches_13 : decode cX9_matches 13 = .ok (.getfield 116, 3) := by decide +kernel
theorem dX9_matches_16 : decode cX9_matches 16 = .ok (.iload_n 3, 1) := by decide +kernel
theorem dX9_matches_17 : decode cX9_matches 17 = .ok (.iadd, 1) := by decide +kernel
theorem dX9_matches_18 : decode cX9_matches 18 = .ok (.aload_n 0, 1) := by decide +kernel
theorem dX9_matches_19 : decode cX9_matches 19 = .ok (.getfield 112, 3) := by decide +kernel
theorem dX9_matches_22 : decode cX9_matches 22 = .ok (.if_icmp .ge 41, 3) := by decide +kernel
theorem dX9_matches_25 : decode cX9_matches 25 = .ok (.aload_n 0, 1) := by decide +kernel
theorem dX9_matches_26 : decode cX9_matches 26 = .ok (.getfield 16, 3) := by decide +kernel
theorem dX9_matches_29 : decode cX9_matches 29 = .ok (.aload_n 0, 1) := by decide +kernel
theorem dX9_matches_30 : decode cX9_matches 30 = .ok (.getfield 116, 3) := by decide +kernel
theorem dX9_matches_33 : decode cX9_matches 33 = .ok (.iload_n 3, 1) := by decide +kernel
theorem dX9_matches_34 : decode cX9_matches 34 = .ok (.iadd, 1) := by decide +kernel
theorem dX9_matches_35 : decode cX9_matches 35 = .ok (.iaload, 1) := by decide +kernel
theorem dX9_matches_36 : decode cX9_matches 36 = .ok (.iload_n 1, 1) := by decide +kernel
theorem dX9_matches_37 : decode cX9_matches 37 = .ok (.invokestatic 155, 3) := by decide +kernel
theorem dX9_matches_40 : decode cX9_matches 40 = .ok (.bipush 8, 2) := by decide +kernel
theorem dX9_matches_42 : decode cX9_matches 42 = .ok (.iload_n 2, 1) := by decide +kernel
theorem dX9_matches_43 : decode cX9_matches 43 = .ok (.iconst 1, 1) := by decide +kernel
theorem dX9_matches_44 : decode cX9_matches 44 = .ok (.isub, 1) := by decide +kernel
theorem dX9_matches_45 : decode cX9_matches 45 = .ok (.iload_n 3, 1) := by decide +kernel
theorem dX9_matches_46 : decode cX9_matches 46 = .ok (.isub, 1) := by decide +kernel
theorem dX9_matches_47 : decode cX9_matches 47 = .ok (.imul, 1) := by decide +kernel
theorem dX9_matches_48 : decode cX9_matches 48 = .ok (.lshr, 1) := by decide +kernel
theorem dX9_matches_49 : decode cX9_matches 49 = .ok (.ldc2_w 159, 3) := by decide +kernel
theorem dX9_matches_52 : decode cX9_matches 52 = .ok (.land, 1) := by decide +kernel
theorem dX9_matches_53 : decode cX9_matches 53 = .ok (.l2i, 1) := by decide +kernel
theorem dX9_matches_54 : decode cX9_matches 54 = .ok (.if_icmp .ne 9, 3) := by decide +kernel
theorem dX9_matches_57 : decode cX9_matches 57 = .ok (.iinc 3 1, 3) := by decide +kernel
theorem dX9_matches_60 : decode cX9_matches 60 = .ok (.goto (-53), 3) := by decide +kernel
theorem dX9_matches_63 : decode cX9_matches 63 = .ok (.iload_n 3, 1) := by decide +kernel
theorem dX9_matches_64 : decode cX9_matches 64 = .ok (.ireturn, 1) := by decide +kernel
theorem dX9_readName_0 : decode cX9_readName 0 = .ok (.aload_n 0, 1) := by decide +kernel
theorem dX9_readName_1 : decode cX9_readName 1 = .ok (.invokevirtual 122, 3) := by decide +kernel
theorem dX9_readName_4 : decode cX9_readName 4 = .ok (.invokestatic 161, 3) := by decide +kernel
theorem dX9_readName_7 : decode cX9_readName 7 = .ok (.ifCond .eq 7, 3) := by decide +kernel
theorem dX9_readName_10 : decode cX9_readName 10 = .ok (.iconst 1, 1) := by decide +kernel
theorem dX9_readName_11 : decode cX9_readName 11 = .ok (.goto 4, 3) := by decide +kernel
theorem dX9_readName_14 : decode cX9_readName 14 = .ok (.iconst 0, 1) := by decide +kernel
theorem dX9_readName_15 : decode cX9_readName 15 = .ok (.istore_n 1, 1) := by decide +kernel
theorem dX9_readName_16 : decode cX9_readName 16 = .ok (.iconst 2, 1) := by decide +kernel
theorem dX9_readName_17 : decode cX9_readName 17 = .ok (.istore_n 2, 1) := by decide +kernel
theorem dX9_readName_18 : decode cX9_readName 18 = .ok (.iload_n 2, 1) := by decide +kernel
theorem dX9_readName_19 : decode cX9_readName 19 = .ok (.bipush 10, 2) := by decide +kernel
theorem dX9_readName_21 : decode cX9_readName 21 = .ok (.if_icmp .gt 59, 3) := by decide +kernel
theorem dX9_readName_24 : decode cX9_readName 24 = .ok (.aload_n 0, 1) := by decide +kernel
theorem dX9_readName_25 : decode cX9_readName 25 = .ok (.iload_n 2, 1) := by decide +kernel
theorem dX9_readName_26 : decode cX9_readName 26 = .ok (.invokevirtual 165, 3) := by decide +kernel
theorem dX9_readName_29 : decode cX9_readName 29 = .ok (.istore_n 3, 1) := by decide +kernel
theorem dX9_readName_30 : decode cX9_readName 30 = .ok (.iload_n 3, 1) := by decide +kernel
theorem dX9_readName_31 : decode cX9_readName 31 = .ok (.iload_n 2, 1) := by decide +kernel
theorem dX9_readName_32 : decode cX9_readName 32 = .ok (.invokestatic 151, 3) := by decide +kernel
theorem dX9_readName_35 : decode cX9_readName 35 = .ok (.if_icmp .ne 28, 3) := by decide +kernel
theorem dX9_readName_38 : decode cX9_readName 38 = .ok (.aload_n 0, 1) := by decide +kernel
theorem dX9_readName_39 : decode cX9_readName 39 = .ok (.dup, 1) := by decide +kernel
theorem dX9_readName_40 : decode cX9_readName 40 = .ok (.getfield 116, 3) := by decide +kernel
theorem dX9_readName_43 : decode cX9_readName 43 = .ok (.iload_n 3, 1) := by decide +kernel
theorem dX9_readName_44 : decode cX9_readName 44 = .ok (.iadd, 1) := by decide +kernel
theorem dX9_readName_45 : decode cX9_readName 45 = .ok (.putfield 116, 3) := by decide +kernel
theorem dX9_readName_48 : decode cX9_readName 48 = .ok (.aload_n 0, 1) := by decide +kernel
theorem dX9_readName_49 : decode cX9_readName 49 = .ok (.iload_n 2, 1) := by decide +kernel
theorem dX9_readName_50 : decode cX9_readName 50 = .ok (.invokevirtual 168, 3) := by decide +kernel
theorem dX9_readName_53 : decode cX9_readName 53 = .ok (.aload_n 0, 1) := by decide +kernel
theorem dX9_readName_54 : decode cX9_readName 54 = .ok (.iload_n 2, 1) := by decide +kernel
theorem dX9_readName_55 : decode cX9_readName 55 = .ok (.invokestatic 172, 3) := by decide +kernel
theorem dX9_readName_58 : decode cX9_readName 58 = .ok (.putfield 175, 3) := by decide +kernel
theorem dX9_readName_61 : decode cX9_readName 61 = .ok (.iconst 1, 1) := by decide +kernel
theorem dX9_readName_62 : decode cX9_readName 62 = .ok (.ireturn, 1) := by decide +kernel
theorem dX9_readName_63 : decode cX9_readName 63 = .ok (.iload_n 3, 1) := by decide +kernel
theorem dX9_readName_64 : decode cX9_readName 64 = .ok (.iload_n 1, 1) := by decide +kernel
theorem dX9_readName_65 : decode cX9_readName 65 = .ok (.if_icmp .le 7, 3) := by decide +kernel
theorem dX9_readName_68 : decode cX9_readName 68 = .ok (.iload_n 3, 1) := by decide +kernel
theorem dX9_readName_69 : decode cX9_readName 69 = .ok (.goto 4, 3) := by decide +kernel
theorem dX9_readName_72 : decode cX9_readName 72 = .ok (.iload_n 1, 1) := by decide +kernel
theorem dX9_readName_73 : decode cX9_readName 73 = .ok (.istore_n 1, 1) := by decide +kernel
theorem dX9_readName_74 : decode cX9_readName 74 = .ok (.iinc 2 1, 3) := by decide +kernel
theorem dX9_readName_77 : decode cX9_readName 77 = .ok (.goto (-59), 3) := by decide +kernel
theorem dX9_readName_80 : decode cX9_readName 80 = .ok (.aload_n 0, 1) := by decide +kernel
theorem dX9_readName_81 : decode cX9_readName 81 = .ok (.dup, 1) := by decide +kernel
theorem dX9_readName_82 : decode cX9_readName 82 = .ok (.getfield 116, 3) := by decide +kernel
theorem dX9_readName_85 : decode cX9_readName 85 = .ok (.iload_n 1, 1) := by decide +kernel
theorem dX9_readName_86 : decode cX9_readName 86 = .ok (.iadd, 1) := by decide +kernel
theorem dX9_readName_87 : decode cX9_readName 87 = .ok (.putfield 116, 3) := by decide +kernel
theorem dX9_readName_90 : decode cX9_readName 90 = .ok (.iconst 0, 1) := by decide +kernel
theorem dX9_readName_91 : decode cX9_readName 91 = .ok (.ireturn, 1) := by decide +kernel
theorem dX9_readFactor_0 : decode cX9_readFactor 0 = .ok (.aload_n 0, 1) := by decide +kernel
theorem dX9_readFactor_1 : decode cX9_readFactor 1 = .ok (.getfield 66, 3) := by decide +kernel
theorem dX9_readFactor_4 : decode cX9_readFactor 4 = .ok (.aload_n 0, 1) := by decide +kernel
theorem dX9_readFactor_5 : decode cX9_readFactor 5 = .ok (.getfield 119, 3) := by decide +kernel
theorem dX9_readFactor_8 : decode cX9_readFactor 8 = .ok (.iaload, 1) := by decide +kernel
theorem dX9_readFactor_9 : decode cX9_readFactor 9 = .ok (.bipush 10, 2) := by decide +kernel
theorem dX9_readFactor_11 : decode cX9_readFactor 11 = .ok (.if_icmp .ne 25, 3) := by decide +kernel
theorem dX9_readFactor_14 : decode cX9_readFactor 14 = .ok (.aload_n 0, 1) := by decide +kernel
theorem dX9_readFactor_15 : decode cX9_readFactor 15 = .ok (.invokevirtual 178, 3) := by decide +kernel
theorem dX9_readFactor_18 : decode cX9_readFactor 18 = .ok (.istore_n 1, 1) := by decide +kernel
theorem dX9_readFactor_19 : decode cX9_readFactor 19 = .ok (.aload_n 0, 1) := by decide +kernel
theorem dX9_readFactor_20 : decode cX9_readFactor 20 = .ok (.iconst 1, 1) := by decide +kernel
theorem dX9_readFactor_21 : decode cX9_readFactor 21 = .ok (.putfield 130, 3) := by decide +kernel
theorem dX9_readFactor_24 : decode cX9_readFactor 24 = .ok (.aload_n 0, 1) := by decide +kernel
theorem dX9_readFactor_25 : decode cX9_readFactor 25 = .ok (.iconst 0, 1) := by decide +kernel
theorem dX9_readFactor_26 : decode cX9_readFactor 26 = .ok (.putfield 175, 3) := by decide +kernel
theorem dX9_readFactor_29 : decode cX9_readFactor 29 = .ok (.aload_n 0, 1) := by decide +kernel
theorem dX9_readFactor_30 : decode cX9_readFactor 30 = .ok (.iconst 0, 1) := by decide +kernel
theorem dX9_readFactor_31 : decode cX9_readFactor 31 = .ok (.putfield 182, 3) := by decide +kernel
theorem dX9_readFactor_34 : decode cX9_readFactor 34 = .ok (.iload_n 1, 1) := by decide +kernel
theorem dX9_readFactor_35 : decode cX9_readFactor 35 = .ok (.ireturn, 1) := by decide +kernel
theorem dX9_readFactor_36 : decode cX9_readFactor 36 = .ok (.aload_n 0, 1) := by decide +kernel
theorem dX9_readFactor_37 : decode cX9_readFactor 37 = .ok (.getfield 175, 3) := by decide +kernel
theorem dX9_readFactor_40 : decode cX9_readFactor 40 = .ok (.istore_n 1, 1) := by decide +kernel
theorem dX9_readFactor_41 : decode cX9_readFactor 41 = .ok (.aload_n 0, 1) := by decide +kernel
theorem dX9_readFactor_42 : decode cX9_readFactor 42 = .ok (.invokevirtual 122, 3) := by decide +kernel
theorem dX9_readFactor_45 : decode cX9_readFactor 45 = .ok (.istore_n 2, 1) := by decide +kernel
theorem dX9_readFactor_46 : decode cX9_readFactor 46 = .ok (.aload_n 0, 1) := by decide +kernel
theorem dX9_readFactor_47 : decode cX9_readFactor 47 = .ok (.iconst 0, 1) := by decide +kernel
theorem dX9_readFactor_48 : decode cX9_readFactor 48 = .ok (.putfield 175, 3) := by decide +kernel
theorem dX9_readFactor_51 : decode cX9_readFactor 51 = .ok (.aload_n 0, 1) := by decide +kernel
theorem dX9_readFactor_52 : decode cX9_readFactor 52 = .ok (.iconst 0, 1) := by decide +kernel
theorem dX9_readFactor_53 : decode cX9_readFactor 53 = .ok (.putfield 130, 3) := by decide +kernel
theorem dX9_readFactor_56 : decode cX9_readFactor 56 = .ok (.iload_n 2, 1) := by decide +kernel
theorem dX9_readFactor_57 : decode cX9_readFactor 57 = .ok (.invokestatic 161, 3) := by decide +kernel
theorem dX9_readFactor_60 : decode cX9_readFactor 60 = .ok (.ifCond .eq 63, 3) := by decide +kernel
theorem dX9_readFactor_63 : decode cX9_readFactor 63 = .ok (.aload_n 0, 1) := by decide +kernel
theorem dX9_readFactor_64 : decode cX9_readFactor 64 = .ok (.getfield 116, 3) := by decide +kernel
theorem dX9_readFactor_67 : decode cX9_readFactor 67 = .ok (.iconst 1, 1) := by decide +kernel
theorem dX9_readFactor_68 : decode cX9_readFactor 68 = .ok (.iadd, 1) := by decide +kernel
theorem dX9_readFactor_69 : decode cX9_readFactor 69 = .ok (.aload_n 0, 1) := by decide +kernel
theorem dX9_readFactor_70 : decode cX9_readFactor 70 = .ok (.getfield 112, 3) := by decide +kernel
theorem dX9_readFactor_73 : decode cX9_readFactor 73 = .ok (.if_icmp .ge 50, 3) := by decide +kernel
theorem dX9_readFactor_76 : decode cX9_readFactor 76 = .ok (.aload_n 0, 1) := by decide +kernel
theorem dX9_readFactor_77 : decode cX9_readFactor 77 = .ok (.getfield 16, 3) := by decide +kernel
theorem dX9_readFactor_80 : decode cX9_readFactor 80 = .ok (.aload_n 0, 1) := by decide +kernel
theorem dX9_readFactor_81 : decode cX9_readFactor 81 = .ok (.getfield 116, 3) := by decide +kernel
theorem dX9_readFactor_84 : decode cX9_readFactor 84 = .ok (.iconst 1, 1) := by decide +kernel
theorem dX9_readFactor_85 : decode cX9_readFactor 85 = .ok (.iadd, 1) := by decide +kernel
theorem dX9_readFactor_86 : decode cX9_readFactor 86 = .ok (.iaload, 1) := by decide +kernel
theorem dX9_readFactor_87 : decode cX9_readFactor 87 = .ok (.bipush 49, 2) := by decide +kernel
theorem dX9_readFactor_89 : decode cX9_readFactor 89 = .ok (.bipush 57, 2) := by decide +kernel
theorem dX9_readFactor_91 : decode cX9_readFactor 91 = .ok (.invokestatic 104, 3) := by decide +kernel
theorem dX9_readFactor_94 : decode cX9_readFactor 94 = .ok (.ifCond .eq 29, 3) := by decide +kernel
theorem dX9_readFactor_97 : decode cX9_readFactor 97 = .ok (.aload_n 0, 1) := by decide +kernel
theorem dX9_readFactor_98 : decode cX9_readFactor 98 = .ok (.iconst 0, 1) := by decide +kernel
theorem dX9_readFactor_99 : decode cX9_readFactor 99 = .ok (.putfield 182, 3) := by decide +kernel
theorem dX9_readFactor_102 : decode cX9_readFactor 102 = .ok (.iload_n 1, 1) := by decide +kernel
theorem dX9_readFactor_103 : decode cX9_readFactor 103 = .ok (.ifCond .eq 8, 3) := by decide +kernel
theorem dX9_readFactor_106 : decode cX9_readFactor 106 = .ok (.aload_n 0, 1) := by decide +kernel
theorem dX9_readFactor_107 : decode cX9_readFactor 107 = .ok (.invokevirtual 178, 3) := by decide +kernel
theorem dX9_readFactor_110 : decode cX9_readFactor 110 = .ok (.ireturn, 1) := by decide +kernel
theorem dX9_readFactor_111 : decode cX9_readFactor 111 = .ok (.aload_n 0, 1) := by decide +kernel
theorem dX9_readFactor_112 : decode cX9_readFactor 112 = .ok (.dup, 1) := by decide +kernel
theorem dX9_readFactor_113 : decode cX9_readFactor 113 = .ok (.getfield 116, 3) := by decide +kernel
theorem dX9_readFactor_116 : decode cX9_readFactor 116 = .ok (.iconst 2, 1) := by decide +kernel
theorem dX9_readFactor_117 : decode cX9_readFactor 117 = .ok (.iadd, 1) := by decide +kernel
theorem dX9_readFactor_118 : decode cX9_readFactor 118 = .ok (.putfield 116, 3) := by decide +kernel
theorem dX9_readFactor_121 : decode cX9_readFactor 121 = .ok (.iconst 1, 1) := by decide +kernel
theorem dX9_readFactor_122 : decode cX9_readFactor 122 = .ok (.ireturn, 1) := by decide +kernel
theorem dX9_readFactor_123 : decode cX9_readFactor 123 = .ok (.iload_n 2, 1) := by decide +kernel
theorem dX9_readFactor_124 : decode cX9_readFactor 124 = .ok (.bipush 45, 2) := by decide +kernel
theorem dX9_readFactor_126 : decode cX9_readFactor 126 = .ok (.if_icmp .ne 15, 3) := by decide +kernel
theorem dX9_readFactor_129 : decode cX9_readFactor 129 = .ok (.aload_n 0, 1) := by decide +kernel
theorem dX9_readFactor_130 : decode cX9_readFactor 130 = .ok (.dup, 1) := by decide +kernel
theorem dX9_readFactor_131 : decode cX9_readFactor 131 = .ok (.getfield 116, 3) := by decide +kernel
theorem dX9_readFactor_134 : decode cX9_readFactor 134 = .ok (.iconst 1, 1) := by decide +kernel
theorem dX9_readFactor_135 : decode cX9_readFactor 135 = .ok (.iadd, 1) := by decide +kernel
theorem dX9_readFactor_136 : decode cX9_readFactor 136 = .ok (.putfield 116, 3) := by decide +kernel
theorem dX9_readFactor_139 : decode cX9_readFactor 139 = .ok (.iconst 1, 1) := by decide +kernel
theorem dX9_readFactor_140 : decode cX9_readFactor 140 = .ok (.ireturn, 1) := by decide +kernel
theorem dX9_readFactor_141 : decode cX9_readFactor 141 = .ok (.iload_n 2, 1) := by decide +kernel
theorem dX9_readFactor_142 : decode cX9_readFactor 142 = .ok (.invokestatic 185, 3) := by decide +kernel
theorem dX9_readFactor_145 : decode cX9_readFactor 145 = .ok (.ifCond .eq 49, 3) := by decide +kernel
theorem dX9_readFactor_148 : decode cX9_readFactor 148 = .ok (.aload_n 0, 1) := by decide +kernel
theorem dX9_readFactor_149 : decode cX9_readFactor 149 = .ok (.getfield 116, 3) := by decide +kernel
theorem dX9_readFactor_152 : decode cX9_readFactor 152 = .ok (.istore_n 3, 1) := by decide +kernel
theorem dX9_readFactor_153 : decode cX9_readFactor 153 = .ok (.aload_n 0, 1) := by decide +kernel
theorem dX9_readFactor_154 : decode cX9_readFactor 154 = .ok (.invokevirtual 122, 3) := by decide +kernel
theorem dX9_readFactor_157 : decode cX9_readFactor 157 = .ok (.invokestatic 185, 3) := by decide +kernel
theorem dX9_readFactor_160 : decode cX9_readFactor 160 = .ok (.ifCond .eq 27, 3) := by decide +kernel
theorem dX9_readFactor_163 : decode cX9_readFactor 163 = .ok (.aload_n 0, 1) := by decide +kernel
theorem dX9_readFactor_164 : decode cX9_readFactor 164 = .ok (.getfield 116, 3) := by decide +kernel
theorem dX9_readFactor_167 : decode cX9_readFactor 167 = .ok (.iload_n 3, 1) := by decide +kernel
theorem dX9_readFactor_168 : decode cX9_readFactor 168 = .ok (.bipush 6, 2) := by decide +kernel
theorem dX9_readFactor_170 : decode cX9_readFactor 170 = .ok (.iadd, 1) := by decide +kernel
theorem dX9_readFactor_171 : decode cX9_readFactor 171 = .ok (.if_icmp .ge 16, 3) := by decide +kernel
theorem dX9_readFactor_174 : decode cX9_readFactor 174 = .ok (.aload_n 0, 1) := by decide +kernel
theorem dX9_readFactor_175 : decode cX9_readFactor 175 = .ok (.dup, 1) := by decide +kernel
theorem dX9_readFactor_176 : decode cX9_readFactor 176 = .ok (.getfield 116, 3) := by decide +kernel
theorem dX9_readFactor_179 : decode cX9_readFactor 179 = .ok (.iconst 1, 1) := by decide +kernel
theorem dX9_readFactor_180 : decode cX9_readFactor 180 = .ok (.iadd, 1) := by decide +kernel
theorem dX9_readFactor_181 : decode cX9_readFactor 181 = .ok (.putfield 116, 3) := by decide +kernel
theorem dX9_readFactor_184 : decode cX9_readFactor 184 = .ok (.goto (-31), 3) := by decide +kernel
theorem dX9_readFactor_187 : decode cX9_readFactor 187 = .ok (.aload_n 0, 1) := by decide +kernel
theorem dX9_readFactor_188 : decode cX9_readFactor 188 = .ok (.iconst 0, 1) := by decide +kernel
theorem dX9_readFactor_189 : decode cX9_readFactor 189 = .ok (.putfield 182, 3) := by decide +kernel
theorem dX9_readFactor_192 : decode cX9_readFactor 192 = .ok (.iconst 1, 1) := by decide +kernel
theorem dX9_readFactor_193 : decode cX9_readFactor 193 = .ok (.ireturn, 1) := by decide +kernel
theorem dX9_readFactor_194 : decode cX9_readFactor 194 = .ok (.iload_n 2, 1) := by decide +kernel
theorem dX9_readFactor_195 : decode cX9_readFactor 195 = .ok (.bipush 40, 2) := by decide +kernel
theorem dX9_readFactor_197 : decode cX9_readFactor 197 = .ok (.if_icmp .ne 20, 3) := by decide +kernel
theorem dX9_readFactor_200 : decode cX9_readFactor 200 = .ok (.aload_n 0, 1) := by decide +kernel
theorem dX9_readFactor_201 : decode cX9_readFactor 201 = .ok (.dup, 1) := by decide +kernel
theorem dX9_readFactor_202 : decode cX9_readFactor 202 = .ok (.getfield 116, 3) := by decide +kernel
theorem dX9_readFactor_205 : decode cX9_readFactor 205 = .ok (.iconst 1, 1) := by decide +kernel
theorem dX9_readFactor_206 : decode cX9_readFactor 206 = .ok (.iadd, 1) := by decide +kernel
theorem dX9_readFactor_207 : decode cX9_readFactor 207 = .ok (.putfield 116, 3) := by decide +kernel
theorem dX9_readFactor_210 : decode cX9_readFactor 210 = .ok (.aload_n 0, 1) := by decide +kernel
theorem dX9_readFactor_211 : decode cX9_readFactor 211 = .ok (.iconst 1, 1) := by decide +kernel
theorem dX9_readFactor_212 : decode cX9_readFactor 212 = .ok (.invokevirtual 168, 3) := by decide +kernel
theorem dX9_readFactor_215 : decode cX9_readFactor 215 = .ok (.iconst 1, 1) := by decide +kernel
theorem dX9_readFactor_216 : decode cX9_readFactor 216 = .ok (.ireturn, 1) := by decide +kernel
theorem dX9_readFactor_217 : decode cX9_readFactor 217 = .ok (.aload_n 0, 1) := by decide +kernel
theorem dX9_readFactor_218 : decode cX9_readFactor 218 = .ok (.invokevirtual 188, 3) := by decide +kernel
theorem dX9_readFactor_221 : decode cX9_readFactor 221 = .ok (.ireturn, 1) := by decide +kernel
theorem dX9_mostParts_0 : decode cX9_mostParts 0 = .ok (.iload_n 0, 1) := by decide +kernel
theorem dX9_mostParts_1 : decode cX9_mostParts 1 = .ok (.iconst 2, 1) := by decide +kernel
theorem dX9_mostParts_2 : decode cX9_mostParts 2 = .ok (.if_icmp .ne 7, 3) := by decide +kernel
theorem dX9_mostParts_5 : decode cX9_mostParts 5 = .ok (.iconst 2, 1) := by decide +kernel
theorem dX9_mostParts_6 : decode cX9_mostParts 6 = .ok (.goto 38, 3) := by decide +kernel
theorem dX9_mostParts_9 : decode cX9_mostParts 9 = .ok (.iload_n 0, 1) := by decide +kernel
theorem dX9_mostParts_10 : decode cX9_mostParts 10 = .ok (.iconst 3, 1) := by decide +kernel
theorem dX9_mostParts_11 : decode cX9_mostParts 11 = .ok (.if_icmp .ne 7, 3) := by decide +kernel
theorem dX9_mostParts_14 : decode cX9_mostParts 14 = .ok (.iconst 4, 1) := by decide +kernel
theorem dX9_mostParts_15 : decode cX9_mostParts 15 = .ok (.goto 29, 3) := by decide +kernel
theorem dX9_mostParts_18 : decode cX9_mostParts 18 = .ok (.iload_n 0, 1) := by decide +kernel
theorem dX9_mostParts_19 : decode cX9_mostParts 19 = .ok (.iconst 4, 1) := by decide +kernel
theorem dX9_mostParts_20 : decode cX9_mostParts 20 = .ok (.bipush 6, 2) := by decide +kernel
theorem dX9_mostParts_22 : decode cX9_mostParts 22 = .ok (.invokestatic 104, 3) := by decide +kernel
theorem dX9_mostParts_25 : decode cX9_mostParts 25 = .ok (.ifCond .eq 7, 3) := by decide +kernel
theorem dX9_mostParts_28 : decode cX9_mostParts 28 = .ok (.iconst 1, 1) := by decide +kernel
theorem dX9_mostParts_29 : decode cX9_mostParts 29 = .ok (.goto 15, 3) := by decide +kernel
theorem dX9_mostParts_32 : decode cX9_mostParts 32 = .ok (.iload_n 0, 1) := by decide +kernel
theorem dX9_mostParts_33 : decode cX9_mostParts 33 = .ok (.invokestatic 172, 3) := by decide +kernel
theorem dX9_mostParts_36 : decode cX9_mostParts 36 = .ok (.ifCond .eq 7, 3) := by decide +kernel
theorem dX9_mostParts_39 : decode cX9_mostParts 39 = .ok (.iconst 3, 1) := by decide +kernel
theorem dX9_mostParts_40 : decode cX9_mostParts 40 = .ok (.goto 4, 3) := by decide +kernel
theorem dX9_mostParts_43 : decode cX9_mostParts 43 = .ok (.iconst 0, 1) := by decide +kernel
theorem dX9_mostParts_44 : decode cX9_mostParts 44 = .ok (.ireturn, 1) := by decide +kernel
theorem dX9_mayClose_0 : decode cX9_mayClose 0 = .ok (.iload_n 0, 1) := by decide +kernel
theorem dX9_mayClose_1 : decode cX9_mayClose 1 = .ok (.iconst 1, 1) := by decide +kernel
theorem dX9_mayClose_2 : decode cX9_mayClose 2 = .ok (.if_icmp .eq 44, 3) := by decide +kernel
theorem dX9_mayClose_5 : decode cX9_mayClose 5 = .ok (.iload_n 0, 1) := by decide +kernel
theorem dX9_mayClose_6 : decode cX9_mayClose 6 = .ok (.invokestatic 172, 3) := by decide +kernel
theorem dX9_mayClose_9 : decode cX9_mayClose 9 = .ok (.ifCond .ne 37, 3) := by decide +kernel
theorem dX9_mayClose_12 : decode cX9_mayClose 12 = .ok (.iload_n 0, 1) := by decide +kernel
theorem dX9_mayClose_13 : decode cX9_mayClose 13 = .ok (.iconst 2, 1) := by decide +kernel
theorem dX9_mayClose_14 : decode cX9_mayClose 14 = .ok (.if_icmp .ne 8, 3) := by decide +kernel
theorem dX9_mayClose_17 : decode cX9_mayClose 17 = .ok (.iload_n 1, 1) := by decide +kernel
theorem dX9_mayClose_18 : decode cX9_mayClose 18 = .ok (.iconst 2, 1) := by decide +kernel
theorem dX9_mayClose_19 : decode cX9_mayClose 19 = .ok (.if_icmp .eq 27, 3) := by decide +kernel
theorem dX9_mayClose_22 : decode cX9_mayClose 22 = .ok (.iload_n 0, 1) := by decide +kernel
theorem dX9_mayClose_23 : decode cX9_mayClose 23 = .ok (.iconst 3, 1) := by decide +kernel
theorem dX9_mayClose_24 : decode cX9_mayClose 24 = .ok (.if_icmp .ne 7, 3) := by decide +kernel
theorem dX9_mayClose_27 : decode cX9_mayClose 27 = .ok (.iload_n 1, 1) := by decide +kernel
theorem dX9_mayClose_28 : decode cX9_mayClose 28 = .ok (.ifCond .gt 18, 3) := by decide +kernel
theorem dX9_mayClose_31 : decode cX9_mayClose 31 = .ok (.iload_n 0, 1) := by decide +kernel
theorem dX9_mayClose_32 : decode cX9_mayClose 32 = .ok (.iconst 4, 1) := by decide +kernel
theorem dX9_mayClose_33 : decode cX9_mayClose 33 = .ok (.bipush 6, 2) := by decide +kernel
theorem dX9_mayClose_35 : decode cX9_mayClose 35 = .ok (.invokestatic 104, 3) := by decide +kernel
theorem dX9_mayClose_38 : decode cX9_mayClose 38 = .ok (.ifCond .eq 12, 3) := by decide +kernel
theorem dX9_mayClose_41 : decode cX9_mayClose 41 = .ok (.iload_n 1, 1) := by decide +kernel
theorem dX9_mayClose_42 : decode cX9_mayClose 42 = .ok (.iconst 1, 1) := by decide +kernel
theorem dX9_mayClose_43 : decode cX9_mayClose 43 = .ok (.if_icmp .ne 7, 3) := by decide +kernel
theorem dX9_mayClose_46 : decode cX9_mayClose 46 = .ok (.iconst 1, 1) := by decide +kernel
theorem dX9_mayClose_47 : decode cX9_mayClose 47 = .ok (.goto 4, 3) := by decide +kernel
theorem dX9_mayClose_50 : decode cX9_mayClose 50 = .ok (.iconst 0, 1) := by decide +kernel
theorem dX9_mayClose_51 : decode cX9_mayClose 51 = .ok (.ireturn, 1) := by decide +kernel
theorem dX9_readBehind_0 : decode cX9_readBehind 0 = .ok (.aload_n 0, 1) := by decide +kernel
theorem dX9_readBehind_1 : decode cX9_readBehind 1 = .ok (.invokevirtual 122, 3) := by decide +kernel
theorem dX9_readBehind_4 : decode cX9_readBehind 4 = .ok (.istore_n 1, 1) := by decide +kernel
theorem dX9_readBehind_5 : decode cX9_readBehind 5 = .ok (.aload_n 0, 1) := by decide +kernel
theorem dX9_readBehind_6 : decode cX9_readBehind 6 = .ok (.getfield 66, 3) := by decide +kernel
theorem dX9_readBehind_9 : decode cX9_readBehind 9 = .ok (.aload_n 0, 1) := by decide +kernel
theorem dX9_readBehind_10 : decode cX9_readBehind 10 = .ok (.getfield 119, 3) := by decide +kernel
theorem dX9_readBehind_13 : decode cX9_readBehind 13 = .ok (.iaload, 1) := by decide +kernel
theorem dX9_readBehind_14 : decode cX9_readBehind 14 = .ok (.istore_n 2, 1) := by decide +kernel
theorem dX9_readBehind_15 : decode cX9_readBehind 15 = .ok (.iload_n 1, 1) := by decide +kernel
theorem dX9_readBehind_16 : decode cX9_readBehind 16 = .ok (.bipush 42, 2) := by decide +kernel
theorem dX9_readBehind_18 : decode cX9_readBehind 18 = .ok (.if_icmp .eq 15, 3) := by decide +kernel
theorem dX9_readBehind_21 : decode cX9_readBehind 21 = .ok (.iload_n 1, 1) := by decide +kernel
theorem dX9_readBehind_22 : decode cX9_readBehind 22 = .ok (.bipush 43, 2) := by decide +kernel
theorem dX9_readBehind_24 : decode cX9_readBehind 24 = .ok (.if_icmp .eq 9, 3) := by decide +kernel
theorem dX9_readBehind_27 : decode cX9_readBehind 27 = .ok (.iload_n 1, 1) := by decide +kernel
theorem dX9_readBehind_28 : decode cX9_readBehind 28 = .ok (.bipush 45, 2) := by decide +kernel
theorem dX9_readBehind_30 : decode cX9_readBehind 30 = .ok (.if_icmp .ne 29, 3) := by decide +kernel
theorem dX9_readBehind_33 : decode cX9_readBehind 33 = .ok (.aload_n 0, 1) := by decide +kernel
theorem dX9_readBehind_34 : decode cX9_readBehind 34 = .ok (.getfield 130, 3) := by decide +kernel
theorem dX9_readBehind_37 : decode cX9_readBehind 37 = .ok (.ifCond .eq 5, 3) := by decide +kernel
theorem dX9_readBehind_40 : decode cX9_readBehind 40 = .ok (.iconst 0, 1) := by decide +kernel
theorem dX9_readBehind_41 : decode cX9_readBehind 41 = .ok (.ireturn, 1) := by decide +kernel
theorem dX9_readBehind_42 : decode cX9_readBehind 42 = .ok (.aload_n 0, 1) := by decide +kernel
theorem dX9_readBehind_43 : decode cX9_readBehind 43 = .ok (.dup, 1) := by decide +kernel
theorem dX9_readBehind_44 : decode cX9_readBehind 44 = .ok (.getfield 116, 3) := by decide +kernel
theorem dX9_readBehind_47 : decode cX9_readBehind 47 = .ok (.iconst 1, 1) := by decide +kernel
theorem dX9_readBehind_48 : decode cX9_readBehind 48 = .ok (.iadd, 1) := by decide +kernel
theorem dX9_readBehind_49 : decode cX9_readBehind 49 = .ok (.putfield 116, 3) := by decide +kernel
theorem dX9_readBehind_52 : decode cX9_readBehind 52 = .ok (.aload_n 0, 1) := by decide +kernel
theorem dX9_readBehind_53 : decode cX9_readBehind 53 = .ok (.iconst 1, 1) := by decide +kernel
theorem dX9_readBehind_54 : decode cX9_readBehind 54 = .ok (.putfield 182, 3) := by decide +kernel
theorem dX9_readBehind_57 : decode cX9_readBehind 57 = .ok (.iconst 1, 1) := by decide +kernel
theorem dX9_readBehind_58 : decode cX9_readBehind 58 = .ok (.ireturn, 1) := by decide +kernel
theorem dX9_readBehind_59 : decode cX9_readBehind 59 = .ok (.iload_n 1, 1) := by decide +kernel
theorem dX9_readBehind_60 : decode cX9_readBehind 60 = .ok (.bipush 44, 2) := by decide +kernel
theorem dX9_readBehind_62 : decode cX9_readBehind 62 = .ok (.if_icmp .ne 62, 3) := by decide +kernel
theorem dX9_readBehind_65 : decode cX9_readBehind 65 = .ok (.aload_n 0, 1) := by decide +kernel
theorem dX9_readBehind_66 : decode cX9_readBehind 66 = .ok (.getfield 69, 3) := by decide +kernel
theorem dX9_readBehind_69 : decode cX9_readBehind 69 = .ok (.aload_n 0, 1) := by decide +kernel
theorem dX9_readBehind_70 : decode cX9_readBehind 70 = .ok (.getfield 119, 3) := by decide +kernel
theorem dX9_readBehind_73 : decode cX9_readBehind 73 = .ok (.iaload, 1) := by decide +kernel
theorem dX9_readBehind_74 : decode cX9_readBehind 74 = .ok (.iload_n 2, 1) := by decide +kernel
theorem dX9_readBehind_75 : decode cX9_readBehind 75 = .ok (.invokestatic 191, 3) := by decide +kernel
theorem dX9_readBehind_78 : decode cX9_readBehind 78 = .ok (.if_icmp .ge 46, 3) := by decide +kernel
theorem dX9_readBehind_81 : decode cX9_readBehind 81 = .ok (.aload_n 0, 1) := by decide +kernel
theorem dX9_readBehind_82 : decode cX9_readBehind 82 = .ok (.dup, 1) := by decide +kernel
theorem dX9_readBehind_83 : decode cX9_readBehind 83 = .ok (.getfield 116, 3) := by decide +kernel
theorem dX9_readBehind_86 : decode cX9_readBehind 86 = .ok (.iconst 1, 1) := by decide +kernel
theorem dX9_readBehind_87 : decode cX9_readBehind 87 = .ok (.iadd, 1) := by decide +kernel
theorem dX9_readBehind_88 : decode cX9_readBehind 88 = .ok (.putfield 116, 3) := by decide +kernel
theorem dX9_readBehind_91 : decode cX9_readBehind 91 = .ok (.aload_n 0, 1) := by decide +kernel
theorem dX9_readBehind_92 : decode cX9_readBehind 92 = .ok (.getfield 69, 3) := by decide +kernel
theorem dX9_readBehind_95 : decode cX9_readBehind 95 = .ok (.aload_n 0, 1) := by decide +kernel
theorem dX9_readBehind_96 : decode cX9_readBehind 96 = .ok (.getfield 119, 3) := by decide +kernel
theorem dX9_readBehind_99 : decode cX9_readBehind 99 = .ok (.dup2, 1) := by decide +kernel
theorem dX9_readBehind_100 : decode cX9_readBehind 100 = .ok (.iaload, 1) := by decide +kernel
theorem dX9_readBehind_101 : decode cX9_readBehind 101 = .ok (.iconst 1, 1) := by decide +kernel
theorem dX9_readBehind_102 : decode cX9_readBehind 102 = .ok (.iadd, 1) := by decide +kernel
theorem dX9_readBehind_103 : decode cX9_readBehind 103 = .ok (.iastore, 1) := by decide +kernel
theorem dX9_readBehind_104 : decode cX9_readBehind 104 = .ok (.aload_n 0, 1) := by decide +kernel
theorem dX9_readBehind_105 : decode cX9_readBehind 105 = .ok (.iconst 1, 1) := by decide +kernel
theorem dX9_readBehind_106 : decode cX9_readBehind 106 = .ok (.putfield 182, 3) := by decide +kernel
theorem dX9_readBehind_109 : decode cX9_readBehind 109 = .ok (.aload_n 0, 1) := by decide +kernel
theorem dX9_readBehind_110 : decode cX9_readBehind 110 = .ok (.iload_n 2, 1) := by decide +kernel
theorem dX9_readBehind_111 : decode cX9_readBehind 111 = .ok (.invokestatic 172, 3) := by decide +kernel
theorem dX9_readBehind_114 : decode cX9_readBehind 114 = .ok (.putfield 175, 3) := by decide +kernel
theorem dX9_readBehind_117 : decode cX9_readBehind 117 = .ok (.aload_n 0, 1) := by decide +kernel
theorem dX9_readBehind_118 : decode cX9_readBehind 118 = .ok (.iconst 0, 1) := by decide +kernel
theorem dX9_readBehind_119 : decode cX9_readBehind 119 = .ok (.putfield 130, 3) := by decide +kernel
theorem dX9_readBehind_122 : decode cX9_readBehind 122 = .ok (.iconst 1, 1) := by decide +kernel
theorem dX9_readBehind_123 : decode cX9_readBehind 123 = .ok (.ireturn, 1) := by decide +kernel
theorem dX9_readBehind_124 : decode cX9_readBehind 124 = .ok (.iload_n 1, 1) := by decide +kernel
theorem dX9_readBehind_125 : decode cX9_readBehind 125 = .ok (.bipush 41, 2) := by decide +kernel
theorem dX9_readBehind_127 : decode cX9_readBehind 127 = .ok (.if_icmp .ne 46, 3) := by decide +kernel
theorem dX9_readBehind_130 : decode cX9_readBehind 130 = .ok (.iload_n 2, 1) := by decide +kernel
theorem dX9_readBehind_131 : decode cX9_readBehind 131 = .ok (.aload_n 0, 1) := by decide +kernel
theorem dX9_readBehind_132 : decode cX9_readBehind 132 = .ok (.getfield 69, 3) := by decide +kernel
theorem dX9_readBehind_135 : decode cX9_readBehind 135 = .ok (.aload_n 0, 1) := by decide +kernel
theorem dX9_readBehind_136 : decode cX9_readBehind 136 = .ok (.getfield 119, 3) := by decide +kernel
theorem dX9_readBehind_139 : decode cX9_readBehind 139 = .ok (.iaload, 1) := by decide +kernel
theorem dX9_readBehind_140 : decode cX9_readBehind 140 = .ok (.invokestatic 194, 3) := by decide +kernel
theorem dX9_readBehind_143 : decode cX9_readBehind 143 = .ok (.ifCond .eq 30, 3) := by decide +kernel
theorem dX9_readBehind_146 : decode cX9_readBehind 146 = .ok (.aload_n 0, 1) := by decide +kernel
theorem dX9_readBehind_147 : decode cX9_readBehind 147 = .ok (.dup, 1) := by decide +kernel
theorem dX9_readBehind_148 : decode cX9_readBehind 148 = .ok (.getfield 116, 3) := by decide +kernel
theorem dX9_readBehind_151 : decode cX9_readBehind 151 = .ok (.iconst 1, 1) := by decide +kernel
theorem dX9_readBehind_152 : decode cX9_readBehind 152 = .ok (.iadd, 1) := by decide +kernel
theorem dX9_readBehind_153 : decode cX9_readBehind 153 = .ok (.putfield 116, 3) := by decide +kernel
theorem dX9_readBehind_156 : decode cX9_readBehind 156 = .ok (.aload_n 0, 1) := by decide +kernel
theorem dX9_readBehind_157 : decode cX9_readBehind 157 = .ok (.dup, 1) := by decide +kernel
theorem dX9_readBehind_158 : decode cX9_readBehind 158 = .ok (.getfield 119, 3) := by decide +kernel
theorem dX9_readBehind_161 : decode cX9_readBehind 161 = .ok (.iconst 1, 1) := by decide +kernel
theorem dX9_readBehind_162 : decode cX9_readBehind 162 = .ok (.isub, 1) := by decide +kernel
theorem dX9_readBehind_163 : decode cX9_readBehind 163 = .ok (.putfield 119, 3) := by decide +kernel
theorem dX9_readBehind_166 : decode cX9_readBehind 166 = .ok (.aload_n 0, 1) := by decide +kernel
theorem dX9_readBehind_167 : decode cX9_readBehind 167 = .ok (.iconst 0, 1) := by decide +kernel
theorem dX9_readBehind_168 : decode cX9_readBehind 168 = .ok (.putfield 130, 3) := by decide +kernel
theorem dX9_readBehind_171 : decode cX9_readBehind 171 = .ok (.iconst 1, 1) := by decide +kernel
theorem dX9_readBehind_172 : decode cX9_readBehind 172 = .ok (.ireturn, 1) := by decide +kernel
theorem dX9_readBehind_173 : decode cX9_readBehind 173 = .ok (.iconst 0, 1) := by decide +kernel
theorem dX9_readBehind_174 : decode cX9_readBehind 174 = .ok (.ireturn, 1) := by decide +kernel
theorem dX9_faultOf_0 : decode cX9_faultOf 0 = .ok (.aload_n 0, 1) := by decide +kernel
theorem dX9_faultOf_1 : decode cX9_faultOf 1 = .ok (.iconst 0, 1) := by decide +kernel
theorem dX9_faultOf_2 : decode cX9_faultOf 2 = .ok (.putfield 116, 3) := by decide +kernel
theorem dX9_faultOf_5 : decode cX9_faultOf 5 = .ok (.aload_n 0, 1) := by decide +kernel
theorem dX9_faultOf_6 : decode cX9_faultOf 6 = .ok (.iconst 0, 1) := by decide +kernel
theorem dX9_faultOf_7 : decode cX9_faultOf 7 = .ok (.putfield 119, 3) := by decide +kernel
theorem dX9_faultOf_10 : decode cX9_faultOf 10 = .ok (.aload_n 0, 1) := by decide +kernel
theorem dX9_faultOf_11 : decode cX9_faultOf 11 = .ok (.getfield 66, 3) := by decide +kernel
theorem dX9_faultOf_14 : decode cX9_faultOf 14 = .ok (.iconst 0, 1) := by decide +kernel
theorem dX9_faultOf_15 : decode cX9_faultOf 15 = .ok (.iconst 0, 1) := by decide +kernel
theorem dX9_faultOf_16 : decode cX9_faultOf 16 = .ok (.iastore, 1) := by decide +kernel
theorem dX9_faultOf_17 : decode cX9_faultOf 17 = .ok (.aload_n 0, 1) := by decide +kernel
theorem dX9_faultOf_18 : decode cX9_faultOf 18 = .ok (.getfield 69, 3) := by decide +kernel
theorem dX9_faultOf_21 : decode cX9_faultOf 21 = .ok (.iconst 0, 1) := by decide +kernel
theorem dX9_faultOf_22 : decode cX9_faultOf 22 = .ok (.iconst 0, 1) := by decide +kernel
theorem dX9_faultOf_23 : decode cX9_faultOf 23 = .ok (.iastore, 1) := by decide +kernel
theorem dX9_faultOf_24 : decode cX9_faultOf 24 = .ok (.aload_n 0, 1) := by decide +kernel
theorem dX9_faultOf_25 : decode cX9_faultOf 25 = .ok (.iconst 1, 1) := by decide +kernel
theorem dX9_faultOf_26 : decode cX9_faultOf 26 = .ok (.putfield 182, 3) := by decide +kernel
theorem dX9_faultOf_29 : decode cX9_faultOf 29 = .ok (.aload_n 0, 1) := by decide +kernel
theorem dX9_faultOf_30 : decode cX9_faultOf 30 = .ok (.iconst 0, 1) := by decide +kernel
theorem dX9_faultOf_31 : decode cX9_faultOf 31 = .ok (.putfield 175, 3) := by decide +kernel
theorem dX9_faultOf_34 : decode cX9_faultOf 34 = .ok (.aload_n 0, 1) := by decide +kernel
theorem dX9_faultOf_35 : decode cX9_faultOf 35 = .ok (.iconst 0, 1) := by decide +kernel
theorem dX9_faultOf_36 : decode cX9_faultOf 36 = .ok (.putfield 130, 3) := by decide +kernel
theorem dX9_faultOf_39 : decode cX9_faultOf 39 = .ok (.aload_n 0, 1) := by decide +kernel
theorem dX9_faultOf_40 : decode cX9_faultOf 40 = .ok (.getfield 112, 3) := by decide +kernel
theorem dX9_faultOf_43 : decode cX9_faultOf 43 = .ok (.ifCond .le 7, 3) := by decide +kernel
theorem dX9_faultOf_46 : decode cX9_faultOf 46 = .ok (.iconst 1, 1) := by decide +kernel
theorem dX9_faultOf_47 : decode cX9_faultOf 47 = .ok (.goto 4, 3) := by decide +kernel
theorem dX9_faultOf_50 : decode cX9_faultOf 50 = .ok (.iconst 0, 1) := by decide +kernel
theorem dX9_faultOf_51 : decode cX9_faultOf 51 = .ok (.istore_n 1, 1) := by decide +kernel
theorem dX9_faultOf_52 : decode cX9_faultOf 52 = .ok (.iload_n 1, 1) := by decide +kernel
theorem dX9_faultOf_53 : decode cX9_faultOf 53 = .ok (.ifCond .eq 45, 3) := by decide +kernel
theorem dX9_faultOf_56 : decode cX9_faultOf 56 = .ok (.aload_n 0, 1) := by decide +kernel
theorem dX9_faultOf_57 : decode cX9_faultOf 57 = .ok (.getfield 182, 3) := by decide +kernel
theorem dX9_faultOf_60 : decode cX9_faultOf 60 = .ok (.ifCond .eq 11, 3) := by decide +kernel
theorem dX9_faultOf_63 : decode cX9_faultOf 63 = .ok (.aload_n 0, 1) := by decide +kernel
theorem dX9_faultOf_64 : decode cX9_faultOf 64 = .ok (.invokevirtual 197, 3) := by decide +kernel
theorem dX9_faultOf_67 : decode cX9_faultOf 67 = .ok (.istore_n 1, 1) := by decide +kernel
theorem dX9_faultOf_68 : decode cX9_faultOf 68 = .ok (.goto (-16), 3) := by decide +kernel
theorem dX9_faultOf_71 : decode cX9_faultOf 71 = .ok (.aload_n 0, 1) := by decide +kernel
theorem dX9_faultOf_72 : decode cX9_faultOf 72 = .ok (.getfield 116, 3) := by decide +kernel
theorem dX9_faultOf_75 : decode cX9_faultOf 75 = .ok (.aload_n 0, 1) := by decide +kernel
theorem dX9_faultOf_76 : decode cX9_faultOf 76 = .ok (.getfield 112, 3) := by decide +kernel
theorem dX9_faultOf_79 : decode cX9_faultOf 79 = .ok (.if_icmp .ge 14, 3) := by decide +kernel
theorem dX9_faultOf_82 : decode cX9_faultOf 82 = .ok (.aload_n 0, 1) := by decide +kernel
theorem dX9_faultOf_83 : decode cX9_faultOf 83 = .ok (.invokevirtual 200, 3) := by decide +kernel
theorem dX9_faultOf_86 : decode cX9_faultOf 86 = .ok (.ifCond .eq 7, 3) := by decide +kernel
theorem dX9_faultOf_89 : decode cX9_faultOf 89 = .ok (.iconst 1, 1) := by decide +kernel
theorem dX9_faultOf_90 : decode cX9_faultOf 90 = .ok (.goto 4, 3) := by decide +kernel
theorem dX9_faultOf_93 : decode cX9_faultOf 93 = .ok (.iconst 0, 1) := by decide +kernel
theorem dX9_faultOf_94 : decode cX9_faultOf 94 = .ok (.istore_n 1, 1) := by decide +kernel
theorem dX9_faultOf_95 : decode cX9_faultOf 95 = .ok (.goto (-43), 3) := by decide +kernel
theorem dX9_faultOf_98 : decode cX9_faultOf 98 = .ok (.aload_n 0, 1) := by decide +kernel
theorem dX9_faultOf_99 : decode cX9_faultOf 99 = .ok (.getfield 112, 3) := by decide +kernel
theorem dX9_faultOf_102 : decode cX9_faultOf 102 = .ok (.ifCond .eq 28, 3) := by decide +kernel
theorem dX9_faultOf_105 : decode cX9_faultOf 105 = .ok (.aload_n 0, 1) := by decide +kernel
theorem dX9_faultOf_106 : decode cX9_faultOf 106 = .ok (.getfield 182, 3) := by decide +kernel
theorem dX9_faultOf_109 : decode cX9_faultOf 109 = .ok (.ifCond .ne 25, 3) := by decide +kernel
theorem dX9_faultOf_112 : decode cX9_faultOf 112 = .ok (.aload_n 0, 1) := by decide +kernel
theorem dX9_faultOf_113 : decode cX9_faultOf 113 = .ok (.getfield 116, 3) := by decide +kernel
theorem dX9_faultOf_116 : decode cX9_faultOf 116 = .ok (.aload_n 0, 1) := by decide +kernel
theorem dX9_faultOf_117 : decode cX9_faultOf 117 = .ok (.getfield 112, 3) := by decide +kernel
theorem dX9_faultOf_120 : decode cX9_faultOf 120 = .ok (.if_icmp .ne 14, 3) := by decide +kernel
theorem dX9_faultOf_123 : decode cX9_faultOf 123 = .ok (.aload_n 0, 1) := by decide +kernel
theorem dX9_faultOf_124 : decode cX9_faultOf 124 = .ok (.getfield 119, 3) := by decide +kernel
theorem dX9_faultOf_127 : decode cX9_faultOf 127 = .ok (.ifCond .ne 7, 3) := by decide +kernel
theorem dX9_faultOf_130 : decode cX9_faultOf 130 = .ok (.iconst (-1), 1) := by decide +kernel
theorem dX9_faultOf_131 : decode cX9_faultOf 131 = .ok (.goto 7, 3) := by decide +kernel
theorem dX9_faultOf_134 : decode cX9_faultOf 134 = .ok (.aload_n 0, 1) := by decide +kernel
theorem dX9_faultOf_135 : decode cX9_faultOf 135 = .ok (.getfield 116, 3) := by decide +kernel
theorem dX9_faultOf_138 : decode cX9_faultOf 138 = .ok (.ireturn, 1) := by decide +kernel
theorem dX9_fault_0 : decode cX9_fault 0 = .ok (.aload_n 0, 1) := by decide +kernel
theorem dX9_fault_1 : decode cX9_fault 1 = .ok (.invokevirtual 203, 3) := by decide +kernel
theorem dX9_fault_4 : decode cX9_fault 4 = .ok (.istore_n 1, 1) := by decide +kernel
theorem dX9_fault_5 : decode cX9_fault 5 = .ok (.iload_n 1, 1) := by decide +kernel
theorem dX9_fault_6 : decode cX9_fault 6 = .ok (.ifCond .ge 8, 3) := by decide +kernel
theorem dX9_fault_9 : decode cX9_fault 9 = .ok (.ldc 206, 2) := by decide +kernel
theorem dX9_fault_11 : decode cX9_fault 11 = .ok (.goto 4, 3) := by decide +kernel
theorem dX9_fault_14 : decode cX9_fault 14 = .ok (.iload_n 1, 1) := by decide +kernel
theorem dX9_fault_15 : decode cX9_fault 15 = .ok (.ireturn, 1) := by decide +kernel
theorem dX9_slotOf_0 : decode cX9_slotOf 0 = .ok (.iconst 0, 1) := by decide +kernel
theorem dX9_slotOf_1 : decode cX9_slotOf 1 = .ok (.istore_n 2, 1) := by decide +kernel
theorem dX9_slotOf_2 : decode cX9_slotOf 2 = .ok (.iload_n 2, 1) := by decide +kernel
theorem dX9_slotOf_3 : decode cX9_slotOf 3 = .ok (.aload_n 0, 1) := by decide +kernel
theorem dX9_slotOf_4 : decode cX9_slotOf 4 = .ok (.getfield 7, 3) := by decide +kernel
theorem dX9_slotOf_7 : decode cX9_slotOf 7 = .ok (.sipush 2521, 3) := by decide +kernel
theorem dX9_slotOf_10 : decode cX9_slotOf 10 = .ok (.iaload, 1) := by decide +kernel
theorem dX9_slotOf_11 : decode cX9_slotOf 11 = .ok (.if_icmp .ge 28, 3) := by decide +kernel
theorem dX9_slotOf_14 : decode cX9_slotOf 14 = .ok (.aload_n 0, 1) := by decide +kernel
theorem dX9_slotOf_15 : decode cX9_slotOf 15 = .ok (.getfield 7, 3) := by decide +kernel
theorem dX9_slotOf_18 : decode cX9_slotOf 18 = .ok (.sipush 2522, 3) := by decide +kernel
theorem dX9_slotOf_21 : decode cX9_slotOf 21 = .ok (.bipush 32, 2) := by decide +kernel
theorem dX9_slotOf_23 : decode cX9_slotOf 23 = .ok (.iload_n 2, 1) := by decide +kernel
theorem dX9_slotOf_24 : decode cX9_slotOf 24 = .ok (.imul, 1) := by decide +kernel
theorem dX9_slotOf_25 : decode cX9_slotOf 25 = .ok (.iadd, 1) := by decide +kernel
theorem dX9_slotOf_26 : decode cX9_slotOf 26 = .ok (.iaload, 1) := by decide +kernel
theorem dX9_slotOf_27 : decode cX9_slotOf 27 = .ok (.iload_n 1, 1) := by decide +kernel
theorem dX9_slotOf_28 : decode cX9_slotOf 28 = .ok (.if_icmp .ne 5, 3) := by decide +kernel
theorem dX9_slotOf_31 : decode cX9_slotOf 31 = .ok (.iload_n 2, 1) := by decide +kernel
theorem dX9_slotOf_32 : decode cX9_slotOf 32 = .ok (.ireturn, 1) := by decide +kernel
theorem dX9_slotOf_33 : decode cX9_slotOf 33 = .ok (.iinc 2 1, 3) := by decide +kernel
theorem dX9_slotOf_36 : decode cX9_slotOf 36 = .ok (.goto (-34), 3) := by decide +kernel
theorem dX9_slotOf_39 : decode cX9_slotOf 39 = .ok (.iconst (-1), 1) := by decide +kernel
theorem dX9_slotOf_40 : decode cX9_slotOf 40 = .ok (.ireturn, 1) := by decide +kernel
theorem dX9_isFull_0 : decode cX9_isFull 0 = .ok (.aload_n 0, 1) := by decide +kernel
theorem dX9_isFull_1 : decode cX9_isFull 1 = .ok (.getfield 7, 3) := by decide +kernel
theorem dX9_isFull_4 : decode cX9_isFull 4 = .ok (.sipush 2521, 3) := by decide +kernel
theorem dX9_isFull_7 : decode cX9_isFull 7 = .ok (.iaload, 1) := by decide +kernel
theorem dX9_isFull_8 : decode cX9_isFull 8 = .ok (.bipush 8, 2) := by decide +kernel
theorem dX9_isFull_10 : decode cX9_isFull 10 = .ok (.if_icmp .ne 15, 3) := by decide +kernel
theorem dX9_isFull_13 : decode cX9_isFull 13 = .ok (.aload_n 0, 1) := by decide +kernel
theorem dX9_isFull_14 : decode cX9_isFull 14 = .ok (.iload_n 1, 1) := by decide +kernel
theorem dX9_isFull_15 : decode cX9_isFull 15 = .ok (.invokevirtual 207, 3) := by decide +kernel
theorem dX9_isFull_18 : decode cX9_isFull 18 = .ok (.ifCond .ge 7, 3) := by decide +kernel
theorem dX9_isFull_21 : decode cX9_isFull 21 = .ok (.iconst 1, 1) := by decide +kernel
theorem dX9_isFull_22 : decode cX9_isFull 22 = .ok (.goto 4, 3) := by decide +kernel
theorem dX9_isFull_25 : decode cX9_isFull 25 = .ok (.iconst 0, 1) := by decide +kernel
theorem dX9_isFull_26 : decode cX9_isFull 26 = .ok (.ireturn, 1) := by decide +kernel
theorem dX9_waits_0 : decode cX9_waits 0 = .ok (.aload_n 0, 1) := by decide +kernel
theorem dX9_waits_1 : decode cX9_waits 1 = .ok (.iload_n 1, 1) := by decide +kernel
theorem dX9_waits_2 : decode cX9_waits 2 = .ok (.invokevirtual 207, 3) := by decide +kernel
theorem dX9_waits_5 : decode cX9_waits 5 = .ok (.istore_n 3, 1) := by decide +kernel
theorem dX9_waits_6 : decode cX9_waits 6 = .ok (.iload_n 3, 1) := by decide +kernel
theorem dX9_waits_7 : decode cX9_waits 7 = .ok (.ifCond .ge 24, 3) := by decide +kernel
theorem dX9_waits_10 : decode cX9_waits 10 = .ok (.aload_n 0, 1) := by decide +kernel
theorem dX9_waits_11 : decode cX9_waits 11 = .ok (.getfield 7, 3) := by decide +kernel
theorem dX9_waits_14 : decode cX9_waits 14 = .ok (.sipush 2521, 3) := by decide +kernel
theorem dX9_waits_17 : decode cX9_waits 17 = .ok (.iaload, 1) := by decide +kernel
theorem dX9_waits_18 : decode cX9_waits 18 = .ok (.istore_n 3, 1) := by decide +kernel
theorem dX9_waits_19 : decode cX9_waits 19 = .ok (.aload_n 0, 1) := by decide +kernel
theorem dX9_waits_20 : decode cX9_waits 20 = .ok (.getfield 7, 3) := by decide +kernel
theorem dX9_waits_23 : decode cX9_waits 23 = .ok (.sipush 2521, 3) := by decide +kernel
theorem dX9_waits_26 : decode cX9_waits 26 = .ok (.dup2, 1) := by decide +kernel
theorem dX9_waits_27 : decode cX9_waits 27 = .ok (.iaload, 1) := by decide +kernel
theorem dX9_waits_28 : decode cX9_waits 28 = .ok (.iconst 1, 1) := by decide +kernel
theorem dX9_waits_29 : decode cX9_waits 29 = .ok (.iadd, 1) := by decide +kernel
theorem dX9_waits_30 : decode cX9_waits 30 = .ok (.iastore, 1) := by decide +kernel
theorem dX9_waits_31 : decode cX9_waits 31 = .ok (.aload_n 0, 1) := by decide +kernel
theorem dX9_waits_32 : decode cX9_waits 32 = .ok (.getfield 7, 3) := by decide +kernel
theorem dX9_waits_35 : decode cX9_waits 35 = .ok (.sipush 2522, 3) := by decide +kernel
theorem dX9_waits_38 : decode cX9_waits 38 = .ok (.bipush 32, 2) := by decide +kernel
theorem dX9_waits_40 : decode cX9_waits 40 = .ok (.iload_n 3, 1) := by decide +kernel
theorem dX9_waits_41 : decode cX9_waits 41 = .ok (.imul, 1) := by decide +kernel
theorem dX9_waits_42 : decode cX9_waits 42 = .ok (.iadd, 1) := by decide +kernel
theorem dX9_waits_43 : decode cX9_waits 43 = .ok (.iload_n 1, 1) := by decide +kernel
theorem dX9_waits_44 : decode cX9_waits 44 = .ok (.iastore, 1) := by decide +kernel
theorem dX9_waits_45 : decode cX9_waits 45 = .ok (.aload_n 0, 1) := by decide +kernel
theorem dX9_waits_46 : decode cX9_waits 46 = .ok (.getfield 7, 3) := by decide +kernel
theorem dX9_waits_49 : decode cX9_waits 49 = .ok (.sipush 2522, 3) := by decide +kernel
theorem dX9_waits_52 : decode cX9_waits 52 = .ok (.bipush 32, 2) := by decide +kernel
theorem dX9_waits_54 : decode cX9_waits 54 = .ok (.iload_n 3, 1) := by decide +kernel
theorem dX9_waits_55 : decode cX9_waits 55 = .ok (.imul, 1) := by decide +kernel
theorem dX9_waits_56 : decode cX9_waits 56 = .ok (.iadd, 1) := by decide +kernel
theorem dX9_waits_57 : decode cX9_waits 57 = .ok (.iconst 1, 1) := by decide +kernel
theorem dX9_waits_58 : decode cX9_waits 58 = .ok (.iadd, 1) := by decide +kernel
theorem dX9_waits_59 : decode cX9_waits 59 = .ok (.iload_n 2, 1) := by decide +kernel
theorem dX9_waits_60 : decode cX9_waits 60 = .ok (.iastore, 1) := by decide +kernel
theorem dX9_waits_61 : decode cX9_waits 61 = .ok (.sipush 2522, 3) := by decide +kernel
theorem dX9_waits_64 : decode cX9_waits 64 = .ok (.bipush 32, 2) := by decide +kernel
theorem dX9_waits_66 : decode cX9_waits 66 = .ok (.iload_n 3, 1) := by decide +kernel
theorem dX9_waits_67 : decode cX9_waits 67 = .ok (.imul, 1) := by decide +kernel
theorem dX9_waits_68 : decode cX9_waits 68 = .ok (.iadd, 1) := by decide +kernel
theorem dX9_waits_69 : decode cX9_waits 69 = .ok (.iconst 2, 1) := by decide +kernel
theorem dX9_waits_70 : decode cX9_waits 70 = .ok (.iadd, 1) := by decide +kernel
theorem dX9_waits_71 : decode cX9_waits 71 = .ok (.ireturn, 1) := by decide +kernel
theorem dX9_put_0 : decode cX9_put 0 = .ok (.iload_n 1, 1) := by decide +kernel
theorem dX9_put_1 : decode cX9_put 1 = .ok (.invokestatic 210, 3) := by decide +kernel
theorem dX9_put_4 : decode cX9_put 4 = .ok (.ifCond .ne 6, 3) := by decide +kernel
theorem dX9_put_7 : decode cX9_put 7 = .ok (.ldc 111, 2) := by decide +kernel
theorem dX9_put_9 : decode cX9_put 9 = .ok (.ireturn, 1) := by decide +kernel
theorem dX9_put_10 : decode cX9_put 10 = .ok (.aload_n 0, 1) := by decide +kernel
theorem dX9_put_11 : decode cX9_put 11 = .ok (.invokevirtual 203, 3) := by decide +kernel
theorem dX9_put_14 : decode cX9_put 14 = .ok (.ifCond .lt 6, 3) := by decide +kernel
theorem dX9_put_17 : decode cX9_put 17 = .ok (.ldc 213, 2) := by decide +kernel
theorem dX9_put_19 : decode cX9_put 19 = .ok (.ireturn, 1) := by decide +kernel
theorem dX9_put_20 : decode cX9_put 20 = .ok (.aload_n 0, 1) := by decide +kernel
theorem dX9_put_21 : decode cX9_put 21 = .ok (.iload_n 1, 1) := by decide +kernel
theorem dX9_put_22 : decode cX9_put 22 = .ok (.invokevirtual 214, 3) := by decide +kernel
theorem dX9_put_25 : decode cX9_put 25 = .ok (.ifCond .eq 6, 3) := by decide +kernel
theorem dX9_put_28 : decode cX9_put 28 = .ok (.ldc 115, 2) := by decide +kernel
theorem dX9_put_30 : decode cX9_put 30 = .ok (.ireturn, 1) := by decide +kernel
theorem dX9_put_31 : decode cX9_put 31 = .ok (.aload_n 0, 1) := by decide +kernel
theorem dX9_put_32 : decode cX9_put 32 = .ok (.invokevirtual 217, 3) := by decide +kernel
theorem dX9_put_35 : decode cX9_put 35 = .ok (.aload_n 0, 1) := by decide +kernel
theorem dX9_put_36 : decode cX9_put 36 = .ok (.iload_n 1, 1) := by decide +kernel
theorem dX9_put_37 : decode cX9_put 37 = .ok (.aload_n 0, 1) := by decide +kernel
theorem dX9_put_38 : decode cX9_put 38 = .ok (.getfield 112, 3) := by decide +kernel
theorem dX9_put_41 : decode cX9_put 41 = .ok (.invokevirtual 220, 3) := by decide +kernel
theorem dX9_put_44 : decode cX9_put 44 = .ok (.istore_n 2, 1) := by decide +kernel
theorem dX9_put_45 : decode cX9_put 45 = .ok (.iconst 0, 1) := by decide +kernel
theorem dX9_put_46 : decode cX9_put 46 = .ok (.istore_n 3, 1) := by decide +kernel
theorem dX9_put_47 : decode cX9_put 47 = .ok (.iload_n 3, 1) := by decide +kernel
theorem dX9_put_48 : decode cX9_put 48 = .ok (.aload_n 0, 1) := by decide +kernel
theorem dX9_put_49 : decode cX9_put 49 = .ok (.getfield 112, 3) := by decide +kernel
theorem dX9_put_52 : decode cX9_put 52 = .ok (.if_icmp .ge 23, 3) := by decide +kernel
theorem dX9_put_55 : decode cX9_put 55 = .ok (.aload_n 0, 1) := by decide +kernel
theorem dX9_put_56 : decode cX9_put 56 = .ok (.getfield 7, 3) := by decide +kernel
theorem dX9_put_59 : decode cX9_put 59 = .ok (.iload_n 2, 1) := by decide +kernel
theorem dX9_put_60 : decode cX9_put 60 = .ok (.iload_n 3, 1) := by decide +kernel
theorem dX9_put_61 : decode cX9_put 61 = .ok (.iadd, 1) := by decide +kernel
theorem dX9_put_62 : decode cX9_put 62 = .ok (.aload_n 0, 1) := by decide +kernel
theorem dX9_put_63 : decode cX9_put 63 = .ok (.getfield 16, 3) := by decide +kernel
theorem dX9_put_66 : decode cX9_put 66 = .ok (.iload_n 3, 1) := by decide +kernel
theorem dX9_put_67 : decode cX9_put 67 = .ok (.iaload, 1) := by decide +kernel
theorem dX9_put_68 : decode cX9_put 68 = .ok (.iastore, 1) := by decide +kernel
theorem dX9_put_69 : decode cX9_put 69 = .ok (.iinc 3 1, 3) := by decide +kernel
theorem dX9_put_72 : decode cX9_put 72 = .ok (.goto (-25), 3) := by decide +kernel
theorem dX9_put_75 : decode cX9_put 75 = .ok (.aload_n 0, 1) := by decide +kernel
theorem dX9_put_76 : decode cX9_put 76 = .ok (.getfield 7, 3) := by decide +kernel
theorem dX9_put_79 : decode cX9_put 79 = .ok (.sipush 2521, 3) := by decide +kernel
theorem dX9_put_82 : decode cX9_put 82 = .ok (.iaload, 1) := by decide +kernel
theorem dX9_put_83 : decode cX9_put 83 = .ok (.ireturn, 1) := by decide +kernel
theorem dX9_letter_0 : decode cX9_letter 0 = .ok (.aload_n 0, 1) := by decide +kernel
theorem dX9_letter_1 : decode cX9_letter 1 = .ok (.getfield 7, 3) := by decide +kernel
theorem dX9_letter_4 : decode cX9_letter 4 = .ok (.bipush 72, 2) := by decide +kernel
theorem dX9_letter_6 : decode cX9_letter 6 = .ok (.bipush 30, 2) := by decide +kernel
theorem dX9_letter_8 : decode cX9_letter 8 = .ok (.iload_n 1, 1) := by decide +kernel
theorem dX9_letter_9 : decode cX9_letter 9 = .ok (.imul, 1) := by decide +kernel
theorem dX9_letter_10 : decode cX9_letter 10 = .ok (.iadd, 1) := by decide +kernel
theorem dX9_letter_11 : decode cX9_letter 11 = .ok (.iload_n 2, 1) := by decide +kernel
theorem dX9_letter_12 : decode cX9_letter 12 = .ok (.iadd, 1) := by decide +kernel
theorem dX9_letter_13 : decode cX9_letter 13 = .ok (.iaload, 1) := by decide +kernel
theorem dX9_letter_14 : decode cX9_letter 14 = .ok (.ireturn, 1) := by decide +kernel
theorem dX9_isName_0 : decode cX9_isName 0 = .ok (.iload_n 2, 1) := by decide +kernel
theorem dX9_isName_1 : decode cX9_isName 1 = .ok (.iconst 1, 1) := by decide +kernel
theorem dX9_isName_2 : decode cX9_isName 2 = .ok (.iadd, 1) := by decide +kernel
theorem dX9_isName_3 : decode cX9_isName 3 = .ok (.aload_n 0, 1) := by decide +kernel
theorem dX9_isName_4 : decode cX9_isName 4 = .ok (.getfield 7, 3) := by decide +kernel
theorem dX9_isName_7 : decode cX9_isName 7 = .ok (.iconst 0, 1) := by decide +kernel
theorem dX9_isName_8 : decode cX9_isName 8 = .ok (.iload_n 1, 1) := by decide +kernel
theorem dX9_isName_9 : decode cX9_isName 9 = .ok (.iadd, 1) := by decide +kernel
theorem dX9_isName_10 : decode cX9_isName 10 = .ok (.iaload, 1) := by decide +kernel
theorem dX9_isName_11 : decode cX9_isName 11 = .ok (.if_icmp .ge 33, 3) := by decide +kernel
theorem dX9_isName_14 : decode cX9_isName 14 = .ok (.aload_n 0, 1) := by decide +kernel
theorem dX9_isName_15 : decode cX9_isName 15 = .ok (.iload_n 1, 1) := by decide +kernel
theorem dX9_isName_16 : decode cX9_isName 16 = .ok (.iload_n 2, 1) := by decide +kernel
theorem dX9_isName_17 : decode cX9_isName 17 = .ok (.invokevirtual 224, 3) := by decide +kernel
theorem dX9_isName_20 : decode cX9_isName 20 = .ok (.invokestatic 161, 3) := by decide +kernel
theorem dX9_isName_23 : decode cX9_isName 23 = .ok (.ifCond .eq 21, 3) := by decide +kernel
theorem dX9_isName_26 : decode cX9_isName 26 = .ok (.aload_n 0, 1) := by decide +kernel
theorem dX9_isName_27 : decode cX9_isName 27 = .ok (.iload_n 1, 1) := by decide +kernel
theorem dX9_isName_28 : decode cX9_isName 28 = .ok (.iload_n 2, 1) := by decide +kernel
theorem dX9_isName_29 : decode cX9_isName 29 = .ok (.iconst 1, 1) := by decide +kernel
theorem dX9_isName_30 : decode cX9_isName 30 = .ok (.iadd, 1) := by decide +kernel
theorem dX9_isName_31 : decode cX9_isName 31 = .ok (.invokevirtual 224, 3) := by decide +kernel
theorem dX9_isName_34 : decode cX9_isName 34 = .ok (.invokestatic 185, 3) := by decide +kernel
theorem dX9_isName_37 : decode cX9_isName 37 = .ok (.ifCond .eq 7, 3) := by decide +kernel
theorem dX9_isName_40 : decode cX9_isName 40 = .ok (.iconst 1, 1) := by decide +kernel
theorem dX9_isName_41 : decode cX9_isName 41 = .ok (.goto 4, 3) := by decide +kernel
theorem dX9_isName_44 : decode cX9_isName 44 = .ok (.iconst 0, 1) := by decide +kernel
theorem dX9_isName_45 : decode cX9_isName 45 = .ok (.ireturn, 1) := by decide +kernel
theorem dX9_canShift_0 : decode cX9_canShift 0 = .ok (.iconst 1, 1) := by decide +kernel
theorem dX9_canShift_1 : decode cX9_canShift 1 = .ok (.istore 4, 2) := by decide +kernel
theorem dX9_canShift_3 : decode cX9_canShift 3 = .ok (.iconst 0, 1) := by decide +kernel
theorem dX9_canShift_4 : decode cX9_canShift 4 = .ok (.istore 5, 2) := by decide +kernel
theorem dX9_canShift_6 : decode cX9_canShift 6 = .ok (.iload 5, 2) := by decide +kernel
theorem dX9_canShift_8 : decode cX9_canShift 8 = .ok (.aload_n 0, 1) := by decide +kernel
theorem dX9_canShift_9 : decode cX9_canShift 9 = .ok (.getfield 7, 3) := by decide +kernel
theorem dX9_canShift_12 : decode cX9_canShift 12 = .ok (.iconst 0, 1) := by decide +kernel
theorem dX9_canShift_13 : decode cX9_canShift 13 = .ok (.iload_n 1, 1) := by decide +kernel
theorem dX9_canShift_14 : decode cX9_canShift 14 = .ok (.iadd, 1) := by decide +kernel
theorem dX9_canShift_15 : decode cX9_canShift 15 = .ok (.iaload, 1) := by decide +kernel
theorem dX9_canShift_16 : decode cX9_canShift 16 = .ok (.if_icmp .ge 67, 3) := by decide +kernel
theorem dX9_canShift_19 : decode cX9_canShift 19 = .ok (.iload 4, 2) := by decide +kernel
theorem dX9_canShift_21 : decode cX9_canShift 21 = .ok (.ifCond .eq 53, 3) := by decide +kernel
theorem dX9_canShift_24 : decode cX9_canShift 24 = .ok (.aload_n 0, 1) := by decide +kernel
theorem dX9_canShift_25 : decode cX9_canShift 25 = .ok (.iload_n 1, 1) := by decide +kernel
theorem dX9_canShift_26 : decode cX9_canShift 26 = .ok (.iload 5, 2) := by decide +kernel
theorem dX9_canShift_28 : decode cX9_canShift 28 = .ok (.invokevirtual 227, 3) := by decide +kernel
theorem dX9_canShift_31 : decode cX9_canShift 31 = .ok (.ifCond .eq 39, 3) := by decide +kernel
theorem dX9_canShift_34 : decode cX9_canShift 34 = .ok (.aload_n 0, 1) := by decide +kernel
theorem dX9_canShift_35 : decode cX9_canShift 35 = .ok (.iload_n 1, 1) := by decide +kernel
theorem dX9_canShift_36 : decode cX9_canShift 36 = .ok (.iload 5, 2) := by decide +kernel
theorem dX9_canShift_38 : decode cX9_canShift 38 = .ok (.invokevirtual 224, 3) := by decide +kernel
theorem dX9_canShift_41 : decode cX9_canShift 41 = .ok (.iload_n 2, 1) := by decide +kernel
theorem dX9_canShift_42 : decode cX9_canShift 42 = .ok (.iadd, 1) := by decide +kernel
theorem dX9_canShift_43 : decode cX9_canShift 43 = .ok (.invokestatic 161, 3) := by decide +kernel
theorem dX9_canShift_46 : decode cX9_canShift 46 = .ok (.ifCond .eq 28, 3) := by decide +kernel
theorem dX9_canShift_49 : decode cX9_canShift 49 = .ok (.aload_n 0, 1) := by decide +kernel
theorem dX9_canShift_50 : decode cX9_canShift 50 = .ok (.iload_n 1, 1) := by decide +kernel
theorem dX9_canShift_51 : decode cX9_canShift 51 = .ok (.iload 5, 2) := by decide +kernel
theorem dX9_canShift_53 : decode cX9_canShift 53 = .ok (.iconst 1, 1) := by decide +kernel
theorem dX9_canShift_54 : decode cX9_canShift 54 = .ok (.iadd, 1) := by decide +kernel
theorem dX9_canShift_55 : decode cX9_canShift 55 = .ok (.invokevirtual 224, 3) := by decide +kernel
theorem dX9_canShift_58 : decode cX9_canShift 58 = .ok (.iload_n 3, 1) := by decide +kernel
theorem dX9_canShift_59 : decode cX9_canShift 59 = .ok (.iadd, 1) := by decide +kernel
theorem dX9_canShift_60 : decode cX9_canShift 60 = .ok (.bipush 49, 2) := by decide +kernel
theorem dX9_canShift_62 : decode cX9_canShift 62 = .ok (.bipush 57, 2) := by decide +kernel
theorem dX9_canShift_64 : decode cX9_canShift 64 = .ok (.invokestatic 104, 3) := by decide +kernel
theorem dX9_canShift_67 : decode cX9_canShift 67 = .ok (.ifCond .eq 7, 3) := by decide +kernel
theorem dX9_canShift_70 : decode cX9_canShift 70 = .ok (.iconst 1, 1) := by decide +kernel
theorem dX9_canShift_71 : decode cX9_canShift 71 = .ok (.goto 4, 3) := by decide +kernel
theorem dX9_canShift_74 : decode cX9_canShift 74 = .ok (.iconst 0, 1) := by decide +kernel
theorem dX9_canShift_75 : decode cX9_canShift 75 = .ok (.istore 4, 2) := by decide +kernel
theorem dX9_canShift_77 : decode cX9_canShift 77 = .ok (.iinc 5 1, 3) := by decide +kernel
theorem dX9_canShift_80 : decode cX9_canShift 80 = .ok (.goto (-74), 3) := by decide +kernel
theorem dX9_canShift_83 : decode cX9_canShift 83 = .ok (.iload 4, 2) := by decide +kernel
theorem dX9_canShift_85 : decode cX9_canShift 85 = .ok (.ireturn, 1) := by decide +kernel
theorem dX9_copy_0 : decode cX9_copy 0 = .ok (.iload_n 1, 1) := by decide +kernel
theorem dX9_copy_1 : decode cX9_copy 1 = .ok (.invokestatic 210, 3) := by decide +kernel
theorem dX9_copy_4 : decode cX9_copy 4 = .ok (.ifCond .eq 10, 3) := by decide +kernel
theorem dX9_copy_7 : decode cX9_copy 7 = .ok (.iload_n 2, 1) := by decide +kernel
theorem dX9_copy_8 : decode cX9_copy 8 = .ok (.invokestatic 210, 3) := by decide +kernel
theorem dX9_copy_11 : decode cX9_copy 11 = .ok (.ifCond .ne 6, 3) := by decide +kernel
theorem dX9_copy_14 : decode cX9_copy 14 = .ok (.ldc 111, 2) := by decide +kernel
theorem dX9_copy_16 : decode cX9_copy 16 = .ok (.ireturn, 1) := by decide +kernel
theorem dX9_copy_17 : decode cX9_copy 17 = .ok (.iload_n 2, 1) := by decide +kernel
theorem dX9_copy_18 : decode cX9_copy 18 = .ok (.bipush 8, 2) := by decide +kernel
theorem dX9_copy_20 : decode cX9_copy 20 = .ok (.irem, 1) := by decide +kernel
theorem dX9_copy_21 : decode cX9_copy 21 = .ok (.iload_n 1, 1) := by decide +kernel
theorem dX9_copy_22 : decode cX9_copy 22 = .ok (.bipush 8, 2) := by decide +kernel
theorem dX9_copy_24 : decode cX9_copy 24 = .ok (.irem, 1) := by decide +kernel
theorem dX9_copy_25 : decode cX9_copy 25 = .ok (.isub, 1) := by decide +kernel
theorem dX9_copy_26 : decode cX9_copy 26 = .ok (.istore_n 3, 1) := by decide +kernel
theorem dX9_copy_27 : decode cX9_copy 27 = .ok (.iload_n 2, 1) := by decide +kernel
theorem dX9_copy_28 : decode cX9_copy 28 = .ok (.bipush 8, 2) := by decide +kernel
theorem dX9_copy_30 : decode cX9_copy 30 = .ok (.idiv, 1) := by decide +kernel
theorem dX9_copy_31 : decode cX9_copy 31 = .ok (.iload_n 1, 1) := by decide +kernel
theorem dX9_copy_32 : decode cX9_copy 32 = .ok (.bipush 8, 2) := by decide +kernel
theorem dX9_copy_34 : decode cX9_copy 34 = .ok (.idiv, 1) := by decide +kernel
theorem dX9_copy_35 : decode cX9_copy 35 = .ok (.isub, 1) := by decide +kernel
theorem dX9_copy_36 : decode cX9_copy 36 = .ok (.istore 4, 2) := by decide +kernel
theorem dX9_copy_38 : decode cX9_copy 38 = .ok (.aload_n 0, 1) := by decide +kernel
theorem dX9_copy_39 : decode cX9_copy 39 = .ok (.iload_n 1, 1) := by decide +kernel
theorem dX9_copy_40 : decode cX9_copy 40 = .ok (.iload_n 3, 1) := by decide +kernel
theorem dX9_copy_41 : decode cX9_copy 41 = .ok (.iload 4, 2) := by decide +kernel
theorem dX9_copy_43 : decode cX9_copy 43 = .ok (.invokevirtual 230, 3) := by decide +kernel
theorem dX9_copy_46 : decode cX9_copy 46 = .ok (.ifCond .ne 6, 3) := by decide +kernel
theorem dX9_copy_49 : decode cX9_copy 49 = .ok (.ldc 213, 2) := by decide +kernel
theorem dX9_copy_51 : decode cX9_copy 51 = .ok (.ireturn, 1) := by decide +kernel
theorem dX9_copy_52 : decode cX9_copy 52 = .ok (.aload_n 0, 1) := by decide +kernel
theorem dX9_copy_53 : decode cX9_copy 53 = .ok (.iload_n 2, 1) := by decide +kernel
theorem dX9_copy_54 : decode cX9_copy 54 = .ok (.invokevirtual 214, 3) := by decide +kernel
theorem dX9_copy_57 : decode cX9_copy 57 = .ok (.ifCond .eq 6, 3) := by decide +kernel
theorem dX9_copy_60 : decode cX9_copy 60 = .ok (.ldc 115, 2) := by decide +kernel
theorem dX9_copy_62 : decode cX9_copy 62 = .ok (.ireturn, 1) := by decide +kernel
theorem dX9_copy_63 : decode cX9_copy 63 = .ok (.aload_n 0, 1) := by decide +kernel
theorem dX9_copy_64 : decode cX9_copy 64 = .ok (.invokevirtual 217, 3) := by decide +kernel
theorem dX9_copy_67 : decode cX9_copy 67 = .ok (.aload_n 0, 1) := by decide +kernel
theorem dX9_copy_68 : decode cX9_copy 68 = .ok (.iload_n 2, 1) := by decide +kernel
theorem dX9_copy_69 : decode cX9_copy 69 = .ok (.aload_n 0, 1) := by decide +kernel
theorem dX9_copy_70 : decode cX9_copy 70 = .ok (.getfield 7, 3) := by decide +kernel
theorem dX9_copy_73 : decode cX9_copy 73 = .ok (.iconst 0, 1) := by decide +kernel
theorem dX9_copy_74 : decode cX9_copy 74 = .ok (.iload_n 1, 1) := by decide +kernel
theorem dX9_copy_75 : decode cX9_copy 75 = .ok (.iadd, 1) := by decide +kernel
theorem dX9_copy_76 : decode cX9_copy 76 = .ok (.iaload, 1) := by decide +kernel
theorem dX9_copy_77 : decode cX9_copy 77 = .ok (.invokevirtual 220, 3) := by decide +kernel
theorem dX9_copy_80 : decode cX9_copy 80 = .ok (.istore 5, 2) := by decide +kernel
theorem dX9_copy_82 : decode cX9_copy 82 = .ok (.iconst 0, 1) := by decide +kernel
theorem dX9_copy_83 : decode cX9_copy 83 = .ok (.istore 6, 2) := by decide +kernel
theorem dX9_copy_85 : decode cX9_copy 85 = .ok (.iload 6, 2) := by decide +kernel
theorem dX9_copy_87 : decode cX9_copy 87 = .ok (.aload_n 0, 1) := by decide +kernel
theorem dX9_copy_88 : decode cX9_copy 88 = .ok (.getfield 7, 3) := by decide +kernel
theorem dX9_copy_91 : decode cX9_copy 91 = .ok (.iconst 0, 1) := by decide +kernel
theorem dX9_copy_92 : decode cX9_copy 92 = .ok (.iload_n 1, 1) := by decide +kernel
theorem dX9_copy_93 : decode cX9_copy 93 = .ok (.iadd, 1) := by decide +kernel
theorem dX9_copy_94 : decode cX9_copy 94 = .ok (.iaload, 1) := by decide +kernel
theorem dX9_copy_95 : decode cX9_copy 95 = .ok (.if_icmp .ge 76, 3) := by decide +kernel
theorem dX9_copy_98 : decode cX9_copy 98 = .ok (.iload 6, 2) := by decide +kernel
theorem dX9_copy_100 : decode cX9_copy 100 = .ok (.ifCond .le 19, 3) := by decide +kernel
theorem dX9_copy_103 : decode cX9_copy 103 = .ok (.aload_n 0, 1) := by decide +kernel
theorem dX9_copy_104 : decode cX9_copy 104 = .ok (.iload_n 1, 1) := by decide +kernel
theorem dX9_copy_105 : decode cX9_copy 105 = .ok (.iload 6, 2) := by decide +kernel
theorem dX9_copy_107 : decode cX9_copy 107 = .ok (.iconst 1, 1) := by decide +kernel
theorem dX9_copy_108 : decode cX9_copy 108 = .ok (.isub, 1) := by decide +kernel
theorem dX9_copy_109 : decode cX9_copy 109 = .ok (.invokevirtual 227, 3) := by decide +kernel
theorem dX9_copy_112 : decode cX9_copy 112 = .ok (.ifCond .eq 7, 3) := by decide +kernel
theorem dX9_copy_115 : decode cX9_copy 115 = .ok (.iconst 1, 1) := by decide +kernel
theorem dX9_copy_116 : decode cX9_copy 116 = .ok (.goto 4, 3) := by decide +kernel
theorem dX9_copy_119 : decode cX9_copy 119 = .ok (.iconst 0, 1) := by decide +kernel
theorem dX9_copy_120 : decode cX9_copy 120 = .ok (.istore 7, 2) := by decide +kernel
theorem dX9_copy_122 : decode cX9_copy 122 = .ok (.aload_n 0, 1) := by decide +kernel
theorem dX9_copy_123 : decode cX9_copy 123 = .ok (.getfield 7, 3) := by decide +kernel
theorem dX9_copy_126 : decode cX9_copy 126 = .ok (.iload 5, 2) := by decide +kernel
theorem dX9_copy_128 : decode cX9_copy 128 = .ok (.iload 6, 2) := by decide +kernel
theorem dX9_copy_130 : decode cX9_copy 130 = .ok (.iadd, 1) := by decide +kernel
theorem dX9_copy_131 : decode cX9_copy 131 = .ok (.aload_n 0, 1) := by decide +kernel
theorem dX9_copy_132 : decode cX9_copy 132 = .ok (.iload_n 1, 1) := by decide +kernel
theorem dX9_copy_133 : decode cX9_copy 133 = .ok (.iload 6, 2) := by decide +kernel
theorem dX9_copy_135 : decode cX9_copy 135 = .ok (.invokevirtual 224, 3) := by decide +kernel
theorem dX9_copy_138 : decode cX9_copy 138 = .ok (.aload_n 0, 1) := by decide +kernel
theorem dX9_copy_139 : decode cX9_copy 139 = .ok (.iload_n 1, 1) := by decide +kernel
theorem dX9_copy_140 : decode cX9_copy 140 = .ok (.iload 6, 2) := by decide +kernel
theorem dX9_copy_142 : decode cX9_copy 142 = .ok (.invokevirtual 227, 3) := by decide +kernel
theorem dX9_copy_145 : decode cX9_copy 145 = .ok (.ifCond .eq 7, 3) := by decide +kernel
theorem dX9_copy_148 : decode cX9_copy 148 = .ok (.iload_n 3, 1) := by decide +kernel
theorem dX9_copy_149 : decode cX9_copy 149 = .ok (.goto 14, 3) := by decide +kernel
theorem dX9_copy_152 : decode cX9_copy 152 = .ok (.iload 7, 2) := by decide +kernel
theorem dX9_copy_154 : decode cX9_copy 154 = .ok (.ifCond .eq 8, 3) := by decide +kernel
theorem dX9_copy_157 : decode cX9_copy 157 = .ok (.iload 4, 2) := by decide +kernel
theorem dX9_copy_159 : decode cX9_copy 159 = .ok (.goto 4, 3) := by decide +kernel
theorem dX9_copy_162 : decode cX9_copy 162 = .ok (.iconst 0, 1) := by decide +kernel
theorem dX9_copy_163 : decode cX9_copy 163 = .ok (.iadd, 1) := by decide +kernel
theorem dX9_copy_164 : decode cX9_copy 164 = .ok (.iastore, 1) := by decide +kernel
theorem dX9_copy_165 : decode cX9_copy 165 = .ok (.iinc 6 1, 3) := by decide +kernel
theorem dX9_copy_168 : decode cX9_copy 168 = .ok (.goto (-83), 3) := by decide +kernel
theorem dX9_copy_171 : decode cX9_copy 171 = .ok (.aload_n 0, 1) := by decide +kernel
theorem dX9_copy_172 : decode cX9_copy 172 = .ok (.getfield 7, 3) := by decide +kernel
theorem dX9_copy_175 : decode cX9_copy 175 = .ok (.sipush 2521, 3) := by decide +kernel
theorem dX9_copy_178 : decode cX9_copy 178 = .ok (.iaload, 1) := by decide +kernel
theorem dX9_copy_179 : decode cX9_copy 179 = .ok (.ireturn, 1) := by decide +kernel
theorem dX9_drop_0 : decode cX9_drop 0 = .ok (.aload_n 0, 1) := by decide +kernel
theorem dX9_drop_1 : decode cX9_drop 1 = .ok (.getfield 7, 3) := by decide +kernel
theorem dX9_drop_4 : decode cX9_drop 4 = .ok (.sipush 2521, 3) := by decide +kernel
theorem dX9_drop_7 : decode cX9_drop 7 = .ok (.iaload, 1) := by decide +kernel
theorem dX9_drop_8 : decode cX9_drop 8 = .ok (.ifCond .ne 6, 3) := by decide +kernel
theorem dX9_drop_11 : decode cX9_drop 11 = .ok (.ldc 213, 2) := by decide +kernel
theorem dX9_drop_13 : decode cX9_drop 13 = .ok (.ireturn, 1) := by decide +kernel
theorem dX9_drop_14 : decode cX9_drop 14 = .ok (.aload_n 0, 1) := by decide +kernel
theorem dX9_drop_15 : decode cX9_drop 15 = .ok (.invokevirtual 217, 3) := by decide +kernel
theorem dX9_drop_18 : decode cX9_drop 18 = .ok (.aload_n 0, 1) := by decide +kernel
theorem dX9_drop_19 : decode cX9_drop 19 = .ok (.getfield 7, 3) := by decide +kernel
theorem dX9_drop_22 : decode cX9_drop 22 = .ok (.sipush 2521, 3) := by decide +kernel
theorem dX9_drop_25 : decode cX9_drop 25 = .ok (.iaload, 1) := by decide +kernel
theorem dX9_drop_26 : decode cX9_drop 26 = .ok (.istore_n 1, 1) := by decide +kernel
theorem dX9_drop_27 : decode cX9_drop 27 = .ok (.aload_n 0, 1) := by decide +kernel
theorem dX9_drop_28 : decode cX9_drop 28 = .ok (.getfield 7, 3) := by decide +kernel
theorem dX9_drop_31 : decode cX9_drop 31 = .ok (.sipush 2521, 3) := by decide +kernel
theorem dX9_drop_34 : decode cX9_drop 34 = .ok (.iconst 0, 1) := by decide +kernel
theorem dX9_drop_35 : decode cX9_drop 35 = .ok (.iastore, 1) := by decide +kernel
theorem dX9_drop_36 : decode cX9_drop 36 = .ok (.iload_n 1, 1) := by decide +kernel
theorem dX9_drop_37 : decode cX9_drop 37 = .ok (.ireturn, 1) := by decide +kernel
theorem dX9_waitingAt_0 : decode cX9_waitingAt 0 = .ok (.iload_n 1, 1) := by decide +kernel
theorem dX9_waitingAt_1 : decode cX9_waitingAt 1 = .ok (.ifCond .ge 6, 3) := by decide +kernel
theorem dX9_waitingAt_4 : decode cX9_waitingAt 4 = .ok (.ldc 111, 2) := by decide +kernel
theorem dX9_waitingAt_6 : decode cX9_waitingAt 6 = .ok (.ireturn, 1) := by decide +kernel
theorem dX9_waitingAt_7 : decode cX9_waitingAt 7 = .ok (.iconst 0, 1) := by decide +kernel
theorem dX9_waitingAt_8 : decode cX9_waitingAt 8 = .ok (.istore_n 2, 1) := by decide +kernel
theorem dX9_waitingAt_9 : decode cX9_waitingAt 9 = .ok (.iconst 0, 1) := by decide +kernel
theorem dX9_waitingAt_10 : decode cX9_waitingAt 10 = .ok (.istore_n 3, 1) := by decide +kernel
theorem dX9_waitingAt_11 : decode cX9_waitingAt 11 = .ok (.iload_n 3, 1) := by decide +kernel
theorem dX9_waitingAt_12 : decode cX9_waitingAt 12 = .ok (.bipush 72, 2) := by decide +kernel
theorem dX9_waitingAt_14 : decode cX9_waitingAt 14 = .ok (.if_icmp .ge 27, 3) := by decide +kernel
theorem dX9_waitingAt_17 : decode cX9_waitingAt 17 = .ok (.aload_n 0, 1) := by decide +kernel
theorem dX9_waitingAt_18 : decode cX9_waitingAt 18 = .ok (.iload_n 3, 1) := by decide +kernel
theorem dX9_waitingAt_19 : decode cX9_waitingAt 19 = .ok (.invokevirtual 207, 3) := by decide +kernel
theorem dX9_waitingAt_22 : decode cX9_waitingAt 22 = .ok (.ifCond .lt 13, 3) := by decide +kernel
theorem dX9_waitingAt_25 : decode cX9_waitingAt 25 = .ok (.iload_n 2, 1) := by decide +kernel
theorem dX9_waitingAt_26 : decode cX9_waitingAt 26 = .ok (.iload_n 1, 1) := by decide +kernel
theorem dX9_waitingAt_27 : decode cX9_waitingAt 27 = .ok (.if_icmp .ne 5, 3) := by decide +kernel
theorem dX9_waitingAt_30 : decode cX9_waitingAt 30 = .ok (.iload_n 3, 1) := by decide +kernel
theorem dX9_waitingAt_31 : decode cX9_waitingAt 31 = .ok (.ireturn, 1) := by decide +kernel
theorem dX9_waitingAt_32 : decode cX9_waitingAt 32 = .ok (.iinc 2 1, 3) := by decide +kernel
theorem dX9_waitingAt_35 : decode cX9_waitingAt 35 = .ok (.iinc 3 1, 3) := by decide +kernel
theorem dX9_waitingAt_38 : decode cX9_waitingAt 38 = .ok (.goto (-27), 3) := by decide +kernel
theorem dX9_waitingAt_41 : decode cX9_waitingAt 41 = .ok (.ldc 206, 2) := by decide +kernel
theorem dX9_waitingAt_43 : decode cX9_waitingAt 43 = .ok (.ireturn, 1) := by decide +kernel
theorem dX9_sign_0 : decode cX9_sign 0 = .ok (.aload_n 0, 1) := by decide +kernel
theorem dX9_sign_1 : decode cX9_sign 1 = .ok (.getfield 116, 3) := by decide +kernel
theorem dX9_sign_4 : decode cX9_sign 4 = .ok (.aload_n 0, 1) := by decide +kernel
theorem dX9_sign_5 : decode cX9_sign 5 = .ok (.getfield 233, 3) := by decide +kernel
theorem dX9_sign_8 : decode cX9_sign 8 = .ok (.if_icmp .ge 18, 3) := by decide +kernel
theorem dX9_sign_11 : decode cX9_sign 11 = .ok (.aload_n 0, 1) := by decide +kernel
theorem dX9_sign_12 : decode cX9_sign 12 = .ok (.aload_n 0, 1) := by decide +kernel
theorem dX9_sign_13 : decode cX9_sign 13 = .ok (.getfield 236, 3) := by decide +kernel
theorem dX9_sign_16 : decode cX9_sign 16 = .ok (.aload_n 0, 1) := by decide +kernel
theorem dX9_sign_17 : decode cX9_sign 17 = .ok (.getfield 116, 3) := by decide +kernel
theorem dX9_sign_20 : decode cX9_sign 20 = .ok (.invokevirtual 224, 3) := by decide +kernel
theorem dX9_sign_23 : decode cX9_sign 23 = .ok (.goto 4, 3) := by decide +kernel
theorem dX9_sign_26 : decode cX9_sign 26 = .ok (.iconst (-1), 1) := by decide +kernel
theorem dX9_sign_27 : decode cX9_sign 27 = .ok (.ireturn, 1) := by decide +kernel
theorem dX9_behind_0 : decode cX9_behind 0 = .ok (.aload_n 0, 1) := by decide +kernel
theorem dX9_behind_1 : decode cX9_behind 1 = .ok (.getfield 116, 3) := by decide +kernel
theorem dX9_behind_4 : decode cX9_behind 4 = .ok (.iload_n 1, 1) := by decide +kernel
theorem dX9_behind_5 : decode cX9_behind 5 = .ok (.iadd, 1) := by decide +kernel
theorem dX9_behind_6 : decode cX9_behind 6 = .ok (.aload_n 0, 1) := by decide +kernel
theorem dX9_behind_7 : decode cX9_behind 7 = .ok (.getfield 233, 3) := by decide +kernel
theorem dX9_behind_10 : decode cX9_behind 10 = .ok (.if_icmp .ge 20, 3) := by decide +kernel
theorem dX9_behind_13 : decode cX9_behind 13 = .ok (.aload_n 0, 1) := by decide +kernel
theorem dX9_behind_14 : decode cX9_behind 14 = .ok (.aload_n 0, 1) := by decide +kernel
theorem dX9_behind_15 : decode cX9_behind 15 = .ok (.getfield 236, 3) := by decide +kernel
theorem dX9_behind_18 : decode cX9_behind 18 = .ok (.aload_n 0, 1) := by decide +kernel
theorem dX9_behind_19 : decode cX9_behind 19 = .ok (.getfield 116, 3) := by decide +kernel
theorem dX9_behind_22 : decode cX9_behind 22 = .ok (.iload_n 1, 1) := by decide +kernel
theorem dX9_behind_23 : decode cX9_behind 23 = .ok (.iadd, 1) := by decide +kernel
theorem dX9_behind_24 : decode cX9_behind 24 = .ok (.invokevirtual 224, 3) := by decide +kernel
theorem dX9_behind_27 : decode cX9_behind 27 = .ok (.goto 4, 3) := by decide +kernel
theorem dX9_behind_30 : decode cX9_behind 30 = .ok (.iconst (-1), 1) := by decide +kernel
theorem dX9_behind_31 : decode cX9_behind 31 = .ok (.ireturn, 1) := by decide +kernel
theorem dX9_fails_0 : decode cX9_fails 0 = .ok (.aload_n 0, 1) := by decide +kernel
theorem dX9_fails_1 : decode cX9_fails 1 = .ok (.aload_n 0, 1) := by decide +kernel
theorem dX9_fails_2 : decode cX9_fails 2 = .ok (.getfield 239, 3) := by decide +kernel
theorem dX9_fails_5 : decode cX9_fails 5 = .ok (.ifCond .ne 7, 3) := by decide +kernel
theorem dX9_fails_8 : decode cX9_fails 8 = .ok (.iload_n 1, 1) := by decide +kernel
theorem dX9_fails_9 : decode cX9_fails 9 = .ok (.goto 7, 3) := by decide +kernel
theorem dX9_fails_12 : decode cX9_fails 12 = .ok (.aload_n 0, 1) := by decide +kernel
theorem dX9_fails_13 : decode cX9_fails 13 = .ok (.getfield 239, 3) := by decide +kernel
theorem dX9_fails_16 : decode cX9_fails 16 = .ok (.putfield 239, 3) := by decide +kernel
theorem dX9_fails_19 : decode cX9_fails 19 = .ok (.return_, 1) := by decide +kernel
theorem dX9_bound_0 : decode cX9_bound 0 = .ok (.lload_n 1, 1) := by decide +kernel
theorem dX9_bound_1 : decode cX9_bound 1 = .ok (.ldc2_w 242, 3) := by decide +kernel
theorem dX9_bound_4 : decode cX9_bound 4 = .ok (.lcmp, 1) := by decide +kernel
theorem dX9_bound_5 : decode cX9_bound 5 = .ok (.ifCond .gt 11, 3) := by decide +kernel
theorem dX9_bound_8 : decode cX9_bound 8 = .ok (.lload_n 1, 1) := by decide +kernel
theorem dX9_bound_9 : decode cX9_bound 9 = .ok (.ldc2_w 244, 3) := by decide +kernel
theorem dX9_bound_12 : decode cX9_bound 12 = .ok (.lcmp, 1) := by decide +kernel
theorem dX9_bound_13 : decode cX9_bound 13 = .ok (.ifCond .ge 8, 3) := by decide +kernel
theorem dX9_bound_16 : decode cX9_bound 16 = .ok (.aload_n 0, 1) := by decide +kernel
theorem dX9_bound_17 : decode cX9_bound 17 = .ok (.iconst 1, 1) := by decide +kernel
theorem dX9_bound_18 : decode cX9_bound 18 = .ok (.invokevirtual 246, 3) := by decide +kernel
theorem dX9_bound_21 : decode cX9_bound 21 = .ok (.lload_n 1, 1) := by decide +kernel
theorem dX9_bound_22 : decode cX9_bound 22 = .ok (.lreturn, 1) := by decide +kernel
theorem dX9_frame_0 : decode cX9_frame 0 = .ok (.aload_n 0, 1) := by decide +kernel
theorem dX9_frame_1 : decode cX9_frame 1 = .ok (.getfield 72, 3) := by decide +kernel
theorem dX9_frame_4 : decode cX9_frame 4 = .ok (.aload_n 0, 1) := by decide +kernel
theorem dX9_frame_5 : decode cX9_frame 5 = .ok (.getfield 119, 3) := by decide +kernel
theorem dX9_frame_8 : decode cX9_frame 8 = .ok (.iconst 0, 1) := by decide +kernel
theorem dX9_frame_9 : decode cX9_frame 9 = .ok (.bastore, 1) := by decide +kernel
theorem dX9_frame_10 : decode cX9_frame 10 = .ok (.aload_n 0, 1) := by decide +kernel
theorem dX9_frame_11 : decode cX9_frame 11 = .ok (.getfield 75, 3) := by decide +kernel
theorem dX9_frame_14 : decode cX9_frame 14 = .ok (.aload_n 0, 1) := by decide +kernel
theorem dX9_frame_15 : decode cX9_frame 15 = .ok (.getfield 119, 3) := by decide +kernel
theorem dX9_frame_18 : decode cX9_frame 18 = .ok (.iconst 0, 1) := by decide +kernel
theorem dX9_frame_19 : decode cX9_frame 19 = .ok (.bastore, 1) := by decide +kernel
theorem dX9_frame_20 : decode cX9_frame 20 = .ok (.aload_n 0, 1) := by decide +kernel
theorem dX9_frame_21 : decode cX9_frame 21 = .ok (.getfield 85, 3) := by decide +kernel
theorem dX9_frame_24 : decode cX9_frame 24 = .ok (.aload_n 0, 1) := by decide +kernel
theorem dX9_frame_25 : decode cX9_frame 25 = .ok (.getfield 119, 3) := by decide +kernel
theorem dX9_frame_28 : decode cX9_frame 28 = .ok (.iconst 0, 1) := by decide +kernel
theorem dX9_frame_29 : decode cX9_frame 29 = .ok (.iastore, 1) := by decide +kernel
theorem dX9_frame_30 : decode cX9_frame 30 = .ok (.aload_n 0, 1) := by decide +kernel
theorem dX9_frame_31 : decode cX9_frame 31 = .ok (.getfield 82, 3) := by decide +kernel
theorem dX9_frame_34 : decode cX9_frame 34 = .ok (.aload_n 0, 1) := by decide +kernel
theorem dX9_frame_35 : decode cX9_frame 35 = .ok (.getfield 119, 3) := by decide +kernel
theorem dX9_frame_38 : decode cX9_frame 38 = .ok (.lconst 0, 1) := by decide +kernel
theorem dX9_frame_39 : decode cX9_frame 39 = .ok (.lastore, 1) := by decide +kernel
theorem dX9_frame_40 : decode cX9_frame 40 = .ok (.aload_n 0, 1) := by decide +kernel
theorem dX9_frame_41 : decode cX9_frame 41 = .ok (.iconst 1, 1) := by decide +kernel
theorem dX9_frame_42 : decode cX9_frame 42 = .ok (.putfield 182, 3) := by decide +kernel
theorem dX9_frame_45 : decode cX9_frame 45 = .ok (.aload_n 0, 1) := by decide +kernel
theorem dX9_frame_46 : decode cX9_frame 46 = .ok (.aload_n 0, 1) := by decide +kernel
theorem dX9_frame_47 : decode cX9_frame 47 = .ok (.getfield 66, 3) := by decide +kernel
theorem dX9_frame_50 : decode cX9_frame 50 = .ok (.aload_n 0, 1) := by decide +kernel
theorem dX9_frame_51 : decode cX9_frame 51 = .ok (.getfield 119, 3) := by decide +kernel
theorem dX9_frame_54 : decode cX9_frame 54 = .ok (.iaload, 1) := by decide +kernel
theorem dX9_frame_55 : decode cX9_frame 55 = .ok (.invokestatic 172, 3) := by decide +kernel
theorem dX9_frame_58 : decode cX9_frame 58 = .ok (.putfield 175, 3) := by decide +kernel
theorem dX9_frame_61 : decode cX9_frame 61 = .ok (.return_, 1) := by decide +kernel
theorem dX9_enters_0 : decode cX9_enters 0 = .ok (.aload_n 0, 1) := by decide +kernel
theorem dX9_enters_1 : decode cX9_enters 1 = .ok (.dup, 1) := by decide +kernel
theorem dX9_enters_2 : decode cX9_enters 2 = .ok (.getfield 119, 3) := by decide +kernel
theorem dX9_enters_5 : decode cX9_enters 5 = .ok (.iconst 1, 1) := by decide +kernel
theorem dX9_enters_6 : decode cX9_enters 6 = .ok (.iadd, 1) := by decide +kernel
theorem dX9_enters_7 : decode cX9_enters 7 = .ok (.putfield 119, 3) := by decide +kernel
theorem dX9_enters_10 : decode cX9_enters 10 = .ok (.aload_n 0, 1) := by decide +kernel
theorem dX9_enters_11 : decode cX9_enters 11 = .ok (.getfield 66, 3) := by decide +kernel
theorem dX9_enters_14 : decode cX9_enters 14 = .ok (.aload_n 0, 1) := by decide +kernel
theorem dX9_enters_15 : decode cX9_enters 15 = .ok (.getfield 119, 3) := by decide +kernel
theorem dX9_enters_18 : decode cX9_enters 18 = .ok (.iload_n 1, 1) := by decide +kernel
theorem dX9_enters_19 : decode cX9_enters 19 = .ok (.iastore, 1) := by decide +kernel
theorem dX9_enters_20 : decode cX9_enters 20 = .ok (.aload_n 0, 1) := by decide +kernel
theorem dX9_enters_21 : decode cX9_enters 21 = .ok (.getfield 69, 3) := by decide +kernel
theorem dX9_enters_24 : decode cX9_enters 24 = .ok (.aload_n 0, 1) := by decide +kernel
theorem dX9_enters_25 : decode cX9_enters 25 = .ok (.getfield 119, 3) := by decide +kernel
theorem dX9_enters_28 : decode cX9_enters 28 = .ok (.iconst 0, 1) := by decide +kernel
theorem dX9_enters_29 : decode cX9_enters 29 = .ok (.iastore, 1) := by decide +kernel
theorem dX9_enters_30 : decode cX9_enters 30 = .ok (.aload_n 0, 1) := by decide +kernel
theorem dX9_enters_31 : decode cX9_enters 31 = .ok (.getfield 91, 3) := by decide +kernel
theorem dX9_enters_34 : decode cX9_enters 34 = .ok (.aload_n 0, 1) := by decide +kernel
theorem dX9_enters_35 : decode cX9_enters 35 = .ok (.getfield 119, 3) := by decide +kernel
theorem dX9_enters_38 : decode cX9_enters 38 = .ok (.iconst 0, 1) := by decide +kernel
theorem dX9_enters_39 : decode cX9_enters 39 = .ok (.bastore, 1) := by decide +kernel
theorem dX9_enters_40 : decode cX9_enters 40 = .ok (.aload_n 0, 1) := by decide +kernel
theorem dX9_enters_41 : decode cX9_enters 41 = .ok (.getfield 94, 3) := by decide +kernel
theorem dX9_enters_44 : decode cX9_enters 44 = .ok (.aload_n 0, 1) := by decide +kernel
theorem dX9_enters_45 : decode cX9_enters 45 = .ok (.getfield 119, 3) := by decide +kernel
theorem dX9_enters_48 : decode cX9_enters 48 = .ok (.lconst 0, 1) := by decide +kernel
theorem dX9_enters_49 : decode cX9_enters 49 = .ok (.lastore, 1) := by decide +kernel
theorem dX9_enters_50 : decode cX9_enters 50 = .ok (.aload_n 0, 1) := by decide +kernel
theorem dX9_enters_51 : decode cX9_enters 51 = .ok (.invokevirtual 249, 3) := by decide +kernel
theorem dX9_enters_54 : decode cX9_enters 54 = .ok (.return_, 1) := by decide +kernel
theorem dX9_isEmpty_0 : decode cX9_isEmpty 0 = .ok (.aload_n 0, 1) := by decide +kernel
theorem dX9_isEmpty_1 : decode cX9_isEmpty 1 = .ok (.getfield 7, 3) := by decide +kernel
theorem dX9_isEmpty_4 : decode cX9_isEmpty 4 = .ok (.iconst 0, 1) := by decide +kernel
theorem dX9_isEmpty_5 : decode cX9_isEmpty 5 = .ok (.iload_n 1, 1) := by decide +kernel
theorem dX9_isEmpty_6 : decode cX9_isEmpty 6 = .ok (.iadd, 1) := by decide +kernel
theorem dX9_isEmpty_7 : decode cX9_isEmpty 7 = .ok (.iaload, 1) := by decide +kernel
theorem dX9_isEmpty_8 : decode cX9_isEmpty 8 = .ok (.ifCond .ne 15, 3) := by decide +kernel
theorem dX9_isEmpty_11 : decode cX9_isEmpty 11 = .ok (.iload_n 1, 1) := by decide +kernel
theorem dX9_isEmpty_12 : decode cX9_isEmpty 12 = .ok (.aload_n 0, 1) := by decide +kernel
theorem dX9_isEmpty_13 : decode cX9_isEmpty 13 = .ok (.getfield 97, 3) := by decide +kernel
theorem dX9_isEmpty_16 : decode cX9_isEmpty 16 = .ok (.if_icmp .eq 7, 3) := by decide +kernel
theorem dX9_isEmpty_19 : decode cX9_isEmpty 19 = .ok (.iconst 1, 1) := by decide +kernel
theorem dX9_isEmpty_20 : decode cX9_isEmpty 20 = .ok (.goto 4, 3) := by decide +kernel
theorem dX9_isEmpty_23 : decode cX9_isEmpty 23 = .ok (.iconst 0, 1) := by decide +kernel
theorem dX9_isEmpty_24 : decode cX9_isEmpty 24 = .ok (.ireturn, 1) := by decide +kernel
theorem dX9_reading_0 : decode cX9_reading 0 = .ok (.iconst 0, 1) := by decide +kernel
theorem dX9_reading_1 : decode cX9_reading 1 = .ok (.istore_n 2, 1) := by decide +kernel
theorem dX9_reading_2 : decode cX9_reading 2 = .ok (.iconst 0, 1) := by decide +kernel
theorem dX9_reading_3 : decode cX9_reading 3 = .ok (.istore_n 3, 1) := by decide +kernel
theorem dX9_reading_4 : decode cX9_reading 4 = .ok (.iload_n 3, 1) := by decide +kernel
theorem dX9_reading_5 : decode cX9_reading 5 = .ok (.aload_n 0, 1) := by decide +kernel
theorem dX9_reading_6 : decode cX9_reading 6 = .ok (.getfield 32, 3) := by decide +kernel
theorem dX9_reading_9 : decode cX9_reading 9 = .ok (.aload_n 0, 1) := by decide +kernel
theorem dX9_reading_10 : decode cX9_reading 10 = .ok (.getfield 236, 3) := by decide +kernel
theorem dX9_reading_13 : decode cX9_reading 13 = .ok (.iaload, 1) := by decide +kernel
theorem dX9_reading_14 : decode cX9_reading 14 = .ok (.if_icmp .ge 37, 3) := by decide +kernel
theorem dX9_reading_17 : decode cX9_reading 17 = .ok (.iload_n 2, 1) := by decide +kernel
theorem dX9_reading_18 : decode cX9_reading 18 = .ok (.ifCond .ne 21, 3) := by decide +kernel
theorem dX9_reading_21 : decode cX9_reading 21 = .ok (.aload_n 0, 1) := by decide +kernel
theorem dX9_reading_22 : decode cX9_reading 22 = .ok (.getfield 35, 3) := by decide +kernel
theorem dX9_reading_25 : decode cX9_reading 25 = .ok (.bipush 72, 2) := by decide +kernel
theorem dX9_reading_27 : decode cX9_reading 27 = .ok (.aload_n 0, 1) := by decide +kernel
theorem dX9_reading_28 : decode cX9_reading 28 = .ok (.getfield 236, 3) := by decide +kernel
theorem dX9_reading_31 : decode cX9_reading 31 = .ok (.imul, 1) := by decide +kernel
theorem dX9_reading_32 : decode cX9_reading 32 = .ok (.iload_n 3, 1) := by decide +kernel
theorem dX9_reading_33 : decode cX9_reading 33 = .ok (.iadd, 1) := by decide +kernel
theorem dX9_reading_34 : decode cX9_reading 34 = .ok (.iaload, 1) := by decide +kernel
theorem dX9_reading_35 : decode cX9_reading 35 = .ok (.iload_n 1, 1) := by decide +kernel
theorem dX9_reading_36 : decode cX9_reading 36 = .ok (.if_icmp .ne 7, 3) := by decide +kernel
theorem dX9_reading_39 : decode cX9_reading 39 = .ok (.iconst 1, 1) := by decide +kernel
theorem dX9_reading_40 : decode cX9_reading 40 = .ok (.goto 4, 3) := by decide +kernel
theorem dX9_reading_43 : decode cX9_reading 43 = .ok (.iconst 0, 1) := by decide +kernel
theorem dX9_reading_44 : decode cX9_reading 44 = .ok (.istore_n 2, 1) := by decide +kernel
theorem dX9_reading_45 : decode cX9_reading 45 = .ok (.iinc 3 1, 3) := by decide +kernel
theorem dX9_reading_48 : decode cX9_reading 48 = .ok (.goto (-44), 3) := by decide +kernel
theorem dX9_reading_51 : decode cX9_reading 51 = .ok (.iload_n 2, 1) := by decide +kernel
theorem dX9_reading_52 : decode cX9_reading 52 = .ok (.ifCond .ne 39, 3) := by decide +kernel
theorem dX9_reading_55 : decode cX9_reading 55 = .ok (.aload_n 0, 1) := by decide +kernel
theorem dX9_reading_56 : decode cX9_reading 56 = .ok (.getfield 35, 3) := by decide +kernel
theorem dX9_reading_59 : decode cX9_reading 59 = .ok (.bipush 72, 2) := by decide +kernel
theorem dX9_reading_61 : decode cX9_reading 61 = .ok (.aload_n 0, 1) := by decide +kernel
theorem dX9_reading_62 : decode cX9_reading 62 = .ok (.getfield 236, 3) := by decide +kernel
theorem dX9_reading_65 : decode cX9_reading 65 = .ok (.imul, 1) := by decide +kernel
theorem dX9_reading_66 : decode cX9_reading 66 = .ok (.aload_n 0, 1) := by decide +kernel
theorem dX9_reading_67 : decode cX9_reading 67 = .ok (.getfield 32, 3) := by decide +kernel
theorem dX9_reading_70 : decode cX9_reading 70 = .ok (.aload_n 0, 1) := by decide +kernel
theorem dX9_reading_71 : decode cX9_reading 71 = .ok (.getfield 236, 3) := by decide +kernel
theorem dX9_reading_74 : decode cX9_reading 74 = .ok (.iaload, 1) := by decide +kernel
theorem dX9_reading_75 : decode cX9_reading 75 = .ok (.iadd, 1) := by decide +kernel
theorem dX9_reading_76 : decode cX9_reading 76 = .ok (.iload_n 1, 1) := by decide +kernel
theorem dX9_reading_77 : decode cX9_reading 77 = .ok (.iastore, 1) := by decide +kernel
theorem dX9_reading_78 : decode cX9_reading 78 = .ok (.aload_n 0, 1) := by decide +kernel
theorem dX9_reading_79 : decode cX9_reading 79 = .ok (.getfield 32, 3) := by decide +kernel
theorem dX9_reading_82 : decode cX9_reading 82 = .ok (.aload_n 0, 1) := by decide +kernel
theorem dX9_reading_83 : decode cX9_reading 83 = .ok (.getfield 236, 3) := by decide +kernel
theorem dX9_reading_86 : decode cX9_reading 86 = .ok (.dup2, 1) := by decide +kernel
theorem dX9_reading_87 : decode cX9_reading 87 = .ok (.iaload, 1) := by decide +kernel
theorem dX9_reading_88 : decode cX9_reading 88 = .ok (.iconst 1, 1) := by decide +kernel
theorem dX9_reading_89 : decode cX9_reading 89 = .ok (.iadd, 1) := by decide +kernel
theorem dX9_reading_90 : decode cX9_reading 90 = .ok (.iastore, 1) := by decide +kernel
theorem dX9_reading_91 : decode cX9_reading 91 = .ok (.aload_n 0, 1) := by decide +kernel
theorem dX9_reading_92 : decode cX9_reading 92 = .ok (.aload_n 0, 1) := by decide +kernel
theorem dX9_reading_93 : decode cX9_reading 93 = .ok (.getfield 56, 3) := by decide +kernel
theorem dX9_reading_96 : decode cX9_reading 96 = .ok (.iload_n 1, 1) := by decide +kernel
theorem dX9_reading_97 : decode cX9_reading 97 = .ok (.baload, 1) := by decide +kernel
theorem dX9_reading_98 : decode cX9_reading 98 = .ok (.ifCond .ne 7, 3) := by decide +kernel
theorem dX9_reading_101 : decode cX9_reading 101 = .ok (.iconst 1, 1) := by decide +kernel
theorem dX9_reading_102 : decode cX9_reading 102 = .ok (.goto 4, 3) := by decide +kernel
theorem dX9_reading_105 : decode cX9_reading 105 = .ok (.iconst 0, 1) := by decide +kernel
theorem dX9_reading_106 : decode cX9_reading 106 = .ok (.putfield 252, 3) := by decide +kernel
theorem dX9_reading_109 : decode cX9_reading 109 = .ok (.aload_n 0, 1) := by decide +kernel
theorem dX9_reading_110 : decode cX9_reading 110 = .ok (.getfield 252, 3) := by decide +kernel
theorem dX9_reading_113 : decode cX9_reading 113 = .ok (.ifCond .ne 22, 3) := by decide +kernel
theorem dX9_reading_116 : decode cX9_reading 116 = .ok (.aload_n 0, 1) := by decide +kernel
theorem dX9_reading_117 : decode cX9_reading 117 = .ok (.getfield 22, 3) := by decide +kernel
theorem dX9_reading_120 : decode cX9_reading 120 = .ok (.iload_n 1, 1) := by decide +kernel
theorem dX9_reading_121 : decode cX9_reading 121 = .ok (.iaload, 1) := by decide +kernel
theorem dX9_reading_122 : decode cX9_reading 122 = .ok (.ifCond .le 13, 3) := by decide +kernel
theorem dX9_reading_125 : decode cX9_reading 125 = .ok (.aload_n 0, 1) := by decide +kernel
theorem dX9_reading_126 : decode cX9_reading 126 = .ok (.aload_n 0, 1) := by decide +kernel
theorem dX9_reading_127 : decode cX9_reading 127 = .ok (.getfield 22, 3) := by decide +kernel
theorem dX9_reading_130 : decode cX9_reading 130 = .ok (.iload_n 1, 1) := by decide +kernel
theorem dX9_reading_131 : decode cX9_reading 131 = .ok (.iaload, 1) := by decide +kernel
theorem dX9_reading_132 : decode cX9_reading 132 = .ok (.invokevirtual 246, 3) := by decide +kernel
theorem dX9_reading_135 : decode cX9_reading 135 = .ok (.aload_n 0, 1) := by decide +kernel
theorem dX9_reading_136 : decode cX9_reading 136 = .ok (.getfield 19, 3) := by decide +kernel
theorem dX9_reading_139 : decode cX9_reading 139 = .ok (.iload_n 1, 1) := by decide +kernel
theorem dX9_reading_140 : decode cX9_reading 140 = .ok (.iaload, 1) := by decide +kernel
theorem dX9_reading_141 : decode cX9_reading 141 = .ok (.i2l, 1) := by decide +kernel
theorem dX9_reading_142 : decode cX9_reading 142 = .ok (.lreturn, 1) := by decide +kernel
theorem dX9_goesOn_0 : decode cX9_goesOn 0 = .ok (.aload_n 0, 1) := by decide +kernel
theorem dX9_goesOn_1 : decode cX9_goesOn 1 = .ok (.getfield 239, 3) := by decide +kernel
theorem dX9_goesOn_4 : decode cX9_goesOn 4 = .ok (.ifCond .ne 14, 3) := by decide +kernel
theorem dX9_goesOn_7 : decode cX9_goesOn 7 = .ok (.aload_n 0, 1) := by decide +kernel
theorem dX9_goesOn_8 : decode cX9_goesOn 8 = .ok (.getfield 252, 3) := by decide +kernel
theorem dX9_goesOn_11 : decode cX9_goesOn 11 = .ok (.ifCond .ne 7, 3) := by decide +kernel
theorem dX9_goesOn_14 : decode cX9_goesOn 14 = .ok (.iconst 1, 1) := by decide +kernel
theorem dX9_goesOn_15 : decode cX9_goesOn 15 = .ok (.goto 4, 3) := by decide +kernel
theorem dX9_goesOn_18 : decode cX9_goesOn 18 = .ok (.iconst 0, 1) := by decide +kernel
theorem dX9_goesOn_19 : decode cX9_goesOn 19 = .ok (.ireturn, 1) := by decide +kernel
theorem dX9_gives_0 : decode cX9_gives 0 = .ok (.aload_n 0, 1) := by decide +kernel
theorem dX9_gives_1 : decode cX9_gives 1 = .ok (.getfield 72, 3) := by decide +kernel
theorem dX9_gives_4 : decode cX9_gives 4 = .ok (.aload_n 0, 1) := by decide +kernel
theorem dX9_gives_5 : decode cX9_gives 5 = .ok (.getfield 119, 3) := by decide +kernel
theorem dX9_gives_8 : decode cX9_gives 8 = .ok (.baload, 1) := by decide +kernel
theorem dX9_gives_9 : decode cX9_gives 9 = .ok (.ifCond .eq 8, 3) := by decide +kernel
theorem dX9_gives_12 : decode cX9_gives 12 = .ok (.lload_n 1, 1) := by decide +kernel
theorem dX9_gives_13 : decode cX9_gives 13 = .ok (.lneg, 1) := by decide +kernel
theorem dX9_gives_14 : decode cX9_gives 14 = .ok (.goto 4, 3) := by decide +kernel
theorem dX9_gives_17 : decode cX9_gives 17 = .ok (.lload_n 1, 1) := by decide +kernel
theorem dX9_gives_18 : decode cX9_gives 18 = .ok (.lstore_n 3, 1) := by decide +kernel
theorem dX9_gives_19 : decode cX9_gives 19 = .ok (.aload_n 0, 1) := by decide +kernel
theorem dX9_gives_20 : decode cX9_gives 20 = .ok (.getfield 72, 3) := by decide +kernel
theorem dX9_gives_23 : decode cX9_gives 23 = .ok (.aload_n 0, 1) := by decide +kernel
theorem dX9_gives_24 : decode cX9_gives 24 = .ok (.getfield 119, 3) := by decide +kernel
theorem dX9_gives_27 : decode cX9_gives 27 = .ok (.iconst 0, 1) := by decide +kernel
theorem dX9_gives_28 : decode cX9_gives 28 = .ok (.bastore, 1) := by decide +kernel
theorem dX9_gives_29 : decode cX9_gives 29 = .ok (.aload_n 0, 1) := by decide +kernel
theorem dX9_gives_30 : decode cX9_gives 30 = .ok (.getfield 78, 3) := by decide +kernel
theorem dX9_gives_33 : decode cX9_gives 33 = .ok (.aload_n 0, 1) := by decide +kernel
theorem dX9_gives_34 : decode cX9_gives 34 = .ok (.getfield 119, 3) := by decide +kernel
theorem dX9_gives_37 : decode cX9_gives 37 = .ok (.aload_n 0, 1) := by decide +kernel
theorem dX9_gives_38 : decode cX9_gives 38 = .ok (.getfield 75, 3) := by decide +kernel
theorem dX9_gives_41 : decode cX9_gives 41 = .ok (.aload_n 0, 1) := by decide +kernel
theorem dX9_gives_42 : decode cX9_gives 42 = .ok (.getfield 119, 3) := by decide +kernel
theorem dX9_gives_45 : decode cX9_gives 45 = .ok (.baload, 1) := by decide +kernel
theorem dX9_gives_46 : decode cX9_gives 46 = .ok (.ifCond .eq 28, 3) := by decide +kernel
theorem dX9_gives_49 : decode cX9_gives 49 = .ok (.aload_n 0, 1) := by decide +kernel
theorem dX9_gives_50 : decode cX9_gives 50 = .ok (.getfield 239, 3) := by decide +kernel
theorem dX9_gives_53 : decode cX9_gives 53 = .ok (.ifCond .ne 21, 3) := by decide +kernel
theorem dX9_gives_56 : decode cX9_gives 56 = .ok (.aload_n 0, 1) := by decide +kernel
theorem dX9_gives_57 : decode cX9_gives 57 = .ok (.aload_n 0, 1) := by decide +kernel
theorem dX9_gives_58 : decode cX9_gives 58 = .ok (.getfield 78, 3) := by decide +kernel
theorem dX9_gives_61 : decode cX9_gives 61 = .ok (.aload_n 0, 1) := by decide +kernel
theorem dX9_gives_62 : decode cX9_gives 62 = .ok (.getfield 119, 3) := by decide +kernel
theorem dX9_gives_65 : decode cX9_gives 65 = .ok (.laload, 1) := by decide +kernel
theorem dX9_gives_66 : decode cX9_gives 66 = .ok (.lload_n 3, 1) := by decide +kernel
theorem dX9_gives_67 : decode cX9_gives 67 = .ok (.lmul, 1) := by decide +kernel
theorem dX9_gives_68 : decode cX9_gives 68 = .ok (.invokevirtual 255, 3) := by decide +kernel
theorem dX9_gives_71 : decode cX9_gives 71 = .ok (.goto 4, 3) := by decide +kernel
theorem dX9_gives_74 : decode cX9_gives 74 = .ok (.lload_n 3, 1) := by decide +kernel
theorem dX9_gives_75 : decode cX9_gives 75 = .ok (.lastore, 1) := by decide +kernel
theorem dX9_gives_76 : decode cX9_gives 76 = .ok (.aload_n 0, 1) := by decide +kernel
theorem dX9_gives_77 : decode cX9_gives 77 = .ok (.getfield 75, 3) := by decide +kernel
theorem dX9_gives_80 : decode cX9_gives 80 = .ok (.aload_n 0, 1) := by decide +kernel
theorem dX9_gives_81 : decode cX9_gives 81 = .ok (.getfield 119, 3) := by decide +kernel
theorem dX9_gives_84 : decode cX9_gives 84 = .ok (.iconst 1, 1) := by decide +kernel
theorem dX9_gives_85 : decode cX9_gives 85 = .ok (.bastore, 1) := by decide +kernel
theorem dX9_gives_86 : decode cX9_gives 86 = .ok (.aload_n 0, 1) := by decide +kernel
theorem dX9_gives_87 : decode cX9_gives 87 = .ok (.iconst 0, 1) := by decide +kernel
theorem dX9_gives_88 : decode cX9_gives 88 = .ok (.putfield 182, 3) := by decide +kernel
theorem dX9_gives_91 : decode cX9_gives 91 = .ok (.return_, 1) := by decide +kernel
theorem dX9_leaves_0 : decode cX9_leaves 0 = .ok (.aload_n 0, 1) := by decide +kernel
theorem dX9_leaves_1 : decode cX9_leaves 1 = .ok (.dup, 1) := by decide +kernel
theorem dX9_leaves_2 : decode cX9_leaves 2 = .ok (.getfield 116, 3) := by decide +kernel
theorem dX9_leaves_5 : decode cX9_leaves 5 = .ok (.iconst 1, 1) := by decide +kernel
theorem dX9_leaves_6 : decode cX9_leaves 6 = .ok (.iadd, 1) := by decide +kernel
theorem dX9_leaves_7 : decode cX9_leaves 7 = .ok (.putfield 116, 3) := by decide +kernel
theorem dX9_leaves_10 : decode cX9_leaves 10 = .ok (.aload_n 0, 1) := by decide +kernel
theorem dX9_leaves_11 : decode cX9_leaves 11 = .ok (.dup, 1) := by decide +kernel
theorem dX9_leaves_12 : decode cX9_leaves 12 = .ok (.getfield 119, 3) := by decide +kernel
theorem dX9_leaves_15 : decode cX9_leaves 15 = .ok (.iconst 1, 1) := by decide +kernel
theorem dX9_leaves_16 : decode cX9_leaves 16 = .ok (.isub, 1) := by decide +kernel
theorem dX9_leaves_17 : decode cX9_leaves 17 = .ok (.putfield 119, 3) := by decide +kernel
theorem dX9_leaves_20 : decode cX9_leaves 20 = .ok (.aload_n 0, 1) := by decide +kernel
theorem dX9_leaves_21 : decode cX9_leaves 21 = .ok (.lload_n 1, 1) := by decide +kernel
theorem dX9_leaves_22 : decode cX9_leaves 22 = .ok (.invokevirtual 259, 3) := by decide +kernel
theorem dX9_leaves_25 : decode cX9_leaves 25 = .ok (.return_, 1) := by decide +kernel
theorem dX9_folds_0 : decode cX9_folds 0 = .ok (.aload_n 0, 1) := by decide +kernel
theorem dX9_folds_1 : decode cX9_folds 1 = .ok (.getfield 78, 3) := by decide +kernel
theorem dX9_folds_4 : decode cX9_folds 4 = .ok (.aload_n 0, 1) := by decide +kernel
theorem dX9_folds_5 : decode cX9_folds 5 = .ok (.getfield 119, 3) := by decide +kernel
theorem dX9_folds_8 : decode cX9_folds 8 = .ok (.laload, 1) := by decide +kernel
theorem dX9_folds_9 : decode cX9_folds 9 = .ok (.lstore_n 1, 1) := by decide +kernel
theorem dX9_folds_10 : decode cX9_folds 10 = .ok (.aload_n 0, 1) := by decide +kernel
theorem dX9_folds_11 : decode cX9_folds 11 = .ok (.getfield 82, 3) := by decide +kernel
theorem dX9_folds_14 : decode cX9_folds 14 = .ok (.aload_n 0, 1) := by decide +kernel
theorem dX9_folds_15 : decode cX9_folds 15 = .ok (.getfield 119, 3) := by decide +kernel
theorem dX9_folds_18 : decode cX9_folds 18 = .ok (.aload_n 0, 1) := by decide +kernel
theorem dX9_folds_19 : decode cX9_folds 19 = .ok (.aload_n 0, 1) := by decide +kernel
theorem dX9_folds_20 : decode cX9_folds 20 = .ok (.getfield 85, 3) := by decide +kernel
theorem dX9_folds_23 : decode cX9_folds 23 = .ok (.aload_n 0, 1) := by decide +kernel
theorem dX9_folds_24 : decode cX9_folds 24 = .ok (.getfield 119, 3) := by decide +kernel
theorem dX9_folds_27 : decode cX9_folds 27 = .ok (.iaload, 1) := by decide +kernel
theorem dX9_folds_28 : decode cX9_folds 28 = .ok (.ifCond .ne 7, 3) := by decide +kernel
theorem dX9_folds_31 : decode cX9_folds 31 = .ok (.lload_n 1, 1) := by decide +kernel
theorem dX9_folds_32 : decode cX9_folds 32 = .ok (.goto 40, 3) := by decide +kernel
theorem dX9_folds_35 : decode cX9_folds 35 = .ok (.aload_n 0, 1) := by decide +kernel
theorem dX9_folds_36 : decode cX9_folds 36 = .ok (.getfield 85, 3) := by decide +kernel
theorem dX9_folds_39 : decode cX9_folds 39 = .ok (.aload_n 0, 1) := by decide +kernel
theorem dX9_folds_40 : decode cX9_folds 40 = .ok (.getfield 119, 3) := by decide +kernel
theorem dX9_folds_43 : decode cX9_folds 43 = .ok (.iaload, 1) := by decide +kernel
theorem dX9_folds_44 : decode cX9_folds 44 = .ok (.ifCond .le 17, 3) := by decide +kernel
theorem dX9_folds_47 : decode cX9_folds 47 = .ok (.aload_n 0, 1) := by decide +kernel
theorem dX9_folds_48 : decode cX9_folds 48 = .ok (.getfield 82, 3) := by decide +kernel
theorem dX9_folds_51 : decode cX9_folds 51 = .ok (.aload_n 0, 1) := by decide +kernel
theorem dX9_folds_52 : decode cX9_folds 52 = .ok (.getfield 119, 3) := by decide +kernel
theorem dX9_folds_55 : decode cX9_folds 55 = .ok (.laload, 1) := by decide +kernel
theorem dX9_folds_56 : decode cX9_folds 56 = .ok (.lload_n 1, 1) := by decide +kernel
theorem dX9_folds_57 : decode cX9_folds 57 = .ok (.ladd, 1) := by decide +kernel
theorem dX9_folds_58 : decode cX9_folds 58 = .ok (.goto 14, 3) := by decide +kernel
theorem dX9_folds_61 : decode cX9_folds 61 = .ok (.aload_n 0, 1) := by decide +kernel
theorem dX9_folds_62 : decode cX9_folds 62 = .ok (.getfield 82, 3) := by decide +kernel
theorem dX9_folds_65 : decode cX9_folds 65 = .ok (.aload_n 0, 1) := by decide +kernel
theorem dX9_folds_66 : decode cX9_folds 66 = .ok (.getfield 119, 3) := by decide +kernel
theorem dX9_folds_69 : decode cX9_folds 69 = .ok (.laload, 1) := by decide +kernel
theorem dX9_folds_70 : decode cX9_folds 70 = .ok (.lload_n 1, 1) := by decide +kernel
theorem dX9_folds_71 : decode cX9_folds 71 = .ok (.lsub, 1) := by decide +kernel
theorem dX9_folds_72 : decode cX9_folds 72 = .ok (.invokevirtual 255, 3) := by decide +kernel
theorem dX9_folds_75 : decode cX9_folds 75 = .ok (.lastore, 1) := by decide +kernel
theorem dX9_folds_76 : decode cX9_folds 76 = .ok (.aload_n 0, 1) := by decide +kernel
theorem dX9_folds_77 : decode cX9_folds 77 = .ok (.getfield 75, 3) := by decide +kernel
theorem dX9_folds_80 : decode cX9_folds 80 = .ok (.aload_n 0, 1) := by decide +kernel
theorem dX9_folds_81 : decode cX9_folds 81 = .ok (.getfield 119, 3) := by decide +kernel
theorem dX9_folds_84 : decode cX9_folds 84 = .ok (.iconst 0, 1) := by decide +kernel
theorem dX9_folds_85 : decode cX9_folds 85 = .ok (.bastore, 1) := by decide +kernel
theorem dX9_folds_86 : decode cX9_folds 86 = .ok (.return_, 1) := by decide +kernel
theorem dX9_cellHere_0 : decode cX9_cellHere 0 = .ok (.bipush 8, 2) := by decide +kernel
theorem dX9_cellHere_2 : decode cX9_cellHere 2 = .ok (.aload_n 0, 1) := by decide +kernel
theorem dX9_cellHere_3 : decode cX9_cellHere 3 = .ok (.iconst 1, 1) := by decide +kernel
theorem dX9_cellHere_4 : decode cX9_cellHere 4 = .ok (.invokevirtual 263, 3) := by decide +kernel
theorem dX9_cellHere_7 : decode cX9_cellHere 7 = .ok (.bipush 49, 2) := by decide +kernel
theorem dX9_cellHere_9 : decode cX9_cellHere 9 = .ok (.isub, 1) := by decide +kernel
theorem dX9_cellHere_10 : decode cX9_cellHere 10 = .ok (.imul, 1) := by decide +kernel
theorem dX9_cellHere_11 : decode cX9_cellHere 11 = .ok (.aload_n 0, 1) := by decide +kernel
theorem dX9_cellHere_12 : decode cX9_cellHere 12 = .ok (.invokevirtual 266, 3) := by decide +kernel
theorem dX9_cellHere_15 : decode cX9_cellHere 15 = .ok (.iadd, 1) := by decide +kernel
theorem dX9_cellHere_16 : decode cX9_cellHere 16 = .ok (.bipush 97, 2) := by decide +kernel
theorem dX9_cellHere_18 : decode cX9_cellHere 18 = .ok (.isub, 1) := by decide +kernel
theorem dX9_cellHere_19 : decode cX9_cellHere 19 = .ok (.ireturn, 1) := by decide +kernel
theorem dX9_isAreaHere_0 : decode cX9_isAreaHere 0 = .ok (.aload_n 0, 1) := by decide +kernel
theorem dX9_isAreaHere_1 : decode cX9_isAreaHere 1 = .ok (.iconst 2, 1) := by decide +kernel
theorem dX9_isAreaHere_2 : decode cX9_isAreaHere 2 = .ok (.invokevirtual 263, 3) := by decide +kernel
theorem dX9_isAreaHere_5 : decode cX9_isAreaHere 5 = .ok (.istore_n 1, 1) := by decide +kernel
theorem dX9_isAreaHere_6 : decode cX9_isAreaHere 6 = .ok (.aload_n 0, 1) := by decide +kernel
theorem dX9_isAreaHere_7 : decode cX9_isAreaHere 7 = .ok (.invokevirtual 266, 3) := by decide +kernel
theorem dX9_isAreaHere_10 : decode cX9_isAreaHere 10 = .ok (.invokestatic 161, 3) := by decide +kernel
theorem dX9_isAreaHere_13 : decode cX9_isAreaHere 13 = .ok (.ifCond .eq 36, 3) := by decide +kernel
theorem dX9_isAreaHere_16 : decode cX9_isAreaHere 16 = .ok (.aload_n 0, 1) := by decide +kernel
theorem dX9_isAreaHere_17 : decode cX9_isAreaHere 17 = .ok (.iconst 1, 1) := by decide +kernel
theorem dX9_isAreaHere_18 : decode cX9_isAreaHere 18 = .ok (.invokevirtual 263, 3) := by decide +kernel
theorem dX9_isAreaHere_21 : decode cX9_isAreaHere 21 = .ok (.invokestatic 185, 3) := by decide +kernel
theorem dX9_isAreaHere_24 : decode cX9_isAreaHere 24 = .ok (.ifCond .eq 25, 3) := by decide +kernel
theorem dX9_isAreaHere_27 : decode cX9_isAreaHere 27 = .ok (.iload_n 1, 1) := by decide +kernel
theorem dX9_isAreaHere_28 : decode cX9_isAreaHere 28 = .ok (.bipush 58, 2) := by decide +kernel
theorem dX9_isAreaHere_30 : decode cX9_isAreaHere 30 = .ok (.if_icmp .eq 15, 3) := by decide +kernel
theorem dX9_isAreaHere_33 : decode cX9_isAreaHere 33 = .ok (.iload_n 1, 1) := by decide +kernel
theorem dX9_isAreaHere_34 : decode cX9_isAreaHere 34 = .ok (.bipush 44, 2) := by decide +kernel
theorem dX9_isAreaHere_36 : decode cX9_isAreaHere 36 = .ok (.if_icmp .eq 9, 3) := by decide +kernel
theorem dX9_isAreaHere_39 : decode cX9_isAreaHere 39 = .ok (.iload_n 1, 1) := by decide +kernel
theorem dX9_isAreaHere_40 : decode cX9_isAreaHere 40 = .ok (.bipush 41, 2) := by decide +kernel
theorem dX9_isAreaHere_42 : decode cX9_isAreaHere 42 = .ok (.if_icmp .ne 7, 3) := by decide +kernel
theorem dX9_isAreaHere_45 : decode cX9_isAreaHere 45 = .ok (.iconst 1, 1) := by decide +kernel
theorem dX9_isAreaHere_46 : decode cX9_isAreaHere 46 = .ok (.goto 4, 3) := by decide +kernel
theorem dX9_isAreaHere_49 : decode cX9_isAreaHere 49 = .ok (.iconst 0, 1) := by decide +kernel
theorem dX9_isAreaHere_50 : decode cX9_isAreaHere 50 = .ok (.ireturn, 1) := by decide +kernel
theorem dX9_takes_0 : decode cX9_takes 0 = .ok (.aload_n 0, 1) := by decide +kernel
theorem dX9_takes_1 : decode cX9_takes 1 = .ok (.getfield 94, 3) := by decide +kernel
theorem dX9_takes_4 : decode cX9_takes 4 = .ok (.aload_n 0, 1) := by decide +kernel
theorem dX9_takes_5 : decode cX9_takes 5 = .ok (.getfield 119, 3) := by decide +kernel
theorem dX9_takes_8 : decode cX9_takes 8 = .ok (.laload, 1) := by decide +kernel
theorem dX9_takes_9 : decode cX9_takes 9 = .ok (.lstore_n 3, 1) := by decide +kernel
theorem dX9_takes_10 : decode cX9_takes 10 = .ok (.aload_n 0, 1) := by decide +kernel
theorem dX9_takes_11 : decode cX9_takes 11 = .ok (.getfield 66, 3) := by decide +kernel
theorem dX9_takes_14 : decode cX9_takes 14 = .ok (.aload_n 0, 1) := by decide +kernel
theorem dX9_takes_15 : decode cX9_takes 15 = .ok (.getfield 119, 3) := by decide +kernel
theorem dX9_takes_18 : decode cX9_takes 18 = .ok (.iaload, 1) := by decide +kernel
theorem dX9_takes_19 : decode cX9_takes 19 = .ok (.istore 5, 2) := by decide +kernel
theorem dX9_takes_21 : decode cX9_takes 21 = .ok (.iload 5, 2) := by decide +kernel
theorem dX9_takes_23 : decode cX9_takes 23 = .ok (.bipush 10, 2) := by decide +kernel
theorem dX9_takes_25 : decode cX9_takes 25 = .ok (.if_icmp .ne 18, 3) := by decide +kernel
theorem dX9_takes_28 : decode cX9_takes 28 = .ok (.aload_n 0, 1) := by decide +kernel
theorem dX9_takes_29 : decode cX9_takes 29 = .ok (.getfield 94, 3) := by decide +kernel
theorem dX9_takes_32 : decode cX9_takes 32 = .ok (.aload_n 0, 1) := by decide +kernel
theorem dX9_takes_33 : decode cX9_takes 33 = .ok (.getfield 119, 3) := by decide +kernel
theorem dX9_takes_36 : decode cX9_takes 36 = .ok (.lload_n 3, 1) := by decide +kernel
theorem dX9_takes_37 : decode cX9_takes 37 = .ok (.lconst 1, 1) := by decide +kernel
theorem dX9_takes_38 : decode cX9_takes 38 = .ok (.ladd, 1) := by decide +kernel
theorem dX9_takes_39 : decode cX9_takes 39 = .ok (.lastore, 1) := by decide +kernel
theorem dX9_takes_40 : decode cX9_takes 40 = .ok (.goto 89, 3) := by decide +kernel
theorem dX9_takes_43 : decode cX9_takes 43 = .ok (.iload 5, 2) := by decide +kernel
theorem dX9_takes_45 : decode cX9_takes 45 = .ok (.bipush 9, 2) := by decide +kernel
theorem dX9_takes_47 : decode cX9_takes 47 = .ok (.if_icmp .ne 22, 3) := by decide +kernel
theorem dX9_takes_50 : decode cX9_takes 50 = .ok (.aload_n 0, 1) := by decide +kernel
theorem dX9_takes_51 : decode cX9_takes 51 = .ok (.getfield 94, 3) := by decide +kernel
theorem dX9_takes_54 : decode cX9_takes 54 = .ok (.aload_n 0, 1) := by decide +kernel
theorem dX9_takes_55 : decode cX9_takes 55 = .ok (.getfield 119, 3) := by decide +kernel
theorem dX9_takes_58 : decode cX9_takes 58 = .ok (.aload_n 0, 1) := by decide +kernel
theorem dX9_takes_59 : decode cX9_takes 59 = .ok (.lload_n 3, 1) := by decide +kernel
theorem dX9_takes_60 : decode cX9_takes 60 = .ok (.lload_n 1, 1) := by decide +kernel
theorem dX9_takes_61 : decode cX9_takes 61 = .ok (.ladd, 1) := by decide +kernel
theorem dX9_takes_62 : decode cX9_takes 62 = .ok (.invokevirtual 255, 3) := by decide +kernel
theorem dX9_takes_65 : decode cX9_takes 65 = .ok (.lastore, 1) := by decide +kernel
theorem dX9_takes_66 : decode cX9_takes 66 = .ok (.goto 63, 3) := by decide +kernel
theorem dX9_takes_69 : decode cX9_takes 69 = .ok (.aload_n 0, 1) := by decide +kernel
theorem dX9_takes_70 : decode cX9_takes 70 = .ok (.getfield 91, 3) := by decide +kernel
theorem dX9_takes_73 : decode cX9_takes 73 = .ok (.aload_n 0, 1) := by decide +kernel
theorem dX9_takes_74 : decode cX9_takes 74 = .ok (.getfield 119, 3) := by decide +kernel
theorem dX9_takes_77 : decode cX9_takes 77 = .ok (.baload, 1) := by decide +kernel
theorem dX9_takes_78 : decode cX9_takes 78 = .ok (.ifCond .eq 25, 3) := by decide +kernel
theorem dX9_takes_81 : decode cX9_takes 81 = .ok (.iload 5, 2) := by decide +kernel
theorem dX9_takes_83 : decode cX9_takes 83 = .ok (.bipush 7, 2) := by decide +kernel
theorem dX9_takes_85 : decode cX9_takes 85 = .ok (.if_icmp .ne 12, 3) := by decide +kernel
theorem dX9_takes_88 : decode cX9_takes 88 = .ok (.lload_n 1, 1) := by decide +kernel
theorem dX9_takes_89 : decode cX9_takes 89 = .ok (.lload_n 3, 1) := by decide +kernel
theorem dX9_takes_90 : decode cX9_takes 90 = .ok (.lcmp, 1) := by decide +kernel
theorem dX9_takes_91 : decode cX9_takes 91 = .ok (.ifCond .ge 16, 3) := by decide +kernel
theorem dX9_takes_94 : decode cX9_takes 94 = .ok (.goto 9, 3) := by decide +kernel
theorem dX9_takes_97 : decode cX9_takes 97 = .ok (.lload_n 1, 1) := by decide +kernel
theorem dX9_takes_98 : decode cX9_takes 98 = .ok (.lload_n 3, 1) := by decide +kernel
theorem dX9_takes_99 : decode cX9_takes 99 = .ok (.lcmp, 1) := by decide +kernel
theorem dX9_takes_100 : decode cX9_takes 100 = .ok (.ifCond .le 7, 3) := by decide +kernel
theorem dX9_takes_103 : decode cX9_takes 103 = .ok (.iconst 1, 1) := by decide +kernel
theorem dX9_takes_104 : decode cX9_takes 104 = .ok (.goto 4, 3) := by decide +kernel
theorem dX9_takes_107 : decode cX9_takes 107 = .ok (.iconst 0, 1) := by decide +kernel
theorem dX9_takes_108 : decode cX9_takes 108 = .ok (.istore 6, 2) := by decide +kernel
theorem dX9_takes_110 : decode cX9_takes 110 = .ok (.aload_n 0, 1) := by decide +kernel
theorem dX9_takes_111 : decode cX9_takes 111 = .ok (.getfield 94, 3) := by decide +kernel
theorem dX9_takes_114 : decode cX9_takes 114 = .ok (.aload_n 0, 1) := by decide +kernel
theorem dX9_takes_115 : decode cX9_takes 115 = .ok (.getfield 119, 3) := by decide +kernel
theorem dX9_takes_118 : decode cX9_takes 118 = .ok (.iload 6, 2) := by decide +kernel
theorem dX9_takes_120 : decode cX9_takes 120 = .ok (.ifCond .eq 7, 3) := by decide +kernel
theorem dX9_takes_123 : decode cX9_takes 123 = .ok (.lload_n 1, 1) := by decide +kernel
theorem dX9_takes_124 : decode cX9_takes 124 = .ok (.goto 4, 3) := by decide +kernel
theorem dX9_takes_127 : decode cX9_takes 127 = .ok (.lload_n 3, 1) := by decide +kernel
theorem dX9_takes_128 : decode cX9_takes 128 = .ok (.lastore, 1) := by decide +kernel
theorem dX9_takes_129 : decode cX9_takes 129 = .ok (.aload_n 0, 1) := by decide +kernel
theorem dX9_takes_130 : decode cX9_takes 130 = .ok (.getfield 91, 3) := by decide +kernel
theorem dX9_takes_133 : decode cX9_takes 133 = .ok (.aload_n 0, 1) := by decide +kernel
theorem dX9_takes_134 : decode cX9_takes 134 = .ok (.getfield 119, 3) := by decide +kernel
theorem dX9_takes_137 : decode cX9_takes 137 = .ok (.iconst 1, 1) := by decide +kernel
theorem dX9_takes_138 : decode cX9_takes 138 = .ok (.bastore, 1) := by decide +kernel
theorem dX9_takes_139 : decode cX9_takes 139 = .ok (.return_, 1) := by decide +kernel
theorem dX9_nextPart_0 : decode cX9_nextPart 0 = .ok (.aload_n 0, 1) := by decide +kernel
theorem dX9_nextPart_1 : decode cX9_nextPart 1 = .ok (.invokevirtual 266, 3) := by decide +kernel
theorem dX9_nextPart_4 : decode cX9_nextPart 4 = .ok (.bipush 44, 2) := by decide +kernel
theorem dX9_nextPart_6 : decode cX9_nextPart 6 = .ok (.if_icmp .ne 20, 3) := by decide +kernel
theorem dX9_nextPart_9 : decode cX9_nextPart 9 = .ok (.aload_n 0, 1) := by decide +kernel
theorem dX9_nextPart_10 : decode cX9_nextPart 10 = .ok (.dup, 1) := by decide +kernel
theorem dX9_nextPart_11 : decode cX9_nextPart 11 = .ok (.getfield 116, 3) := by decide +kernel
theorem dX9_nextPart_14 : decode cX9_nextPart 14 = .ok (.iconst 1, 1) := by decide +kernel
theorem dX9_nextPart_15 : decode cX9_nextPart 15 = .ok (.iadd, 1) := by decide +kernel
theorem dX9_nextPart_16 : decode cX9_nextPart 16 = .ok (.putfield 116, 3) := by decide +kernel
theorem dX9_nextPart_19 : decode cX9_nextPart 19 = .ok (.aload_n 0, 1) := by decide +kernel
theorem dX9_nextPart_20 : decode cX9_nextPart 20 = .ok (.invokevirtual 249, 3) := by decide +kernel
theorem dX9_nextPart_23 : decode cX9_nextPart 23 = .ok (.goto 16, 3) := by decide +kernel
theorem dX9_nextPart_26 : decode cX9_nextPart 26 = .ok (.aload_n 0, 1) := by decide +kernel
theorem dX9_nextPart_27 : decode cX9_nextPart 27 = .ok (.aload_n 0, 1) := by decide +kernel
theorem dX9_nextPart_28 : decode cX9_nextPart 28 = .ok (.getfield 94, 3) := by decide +kernel
theorem dX9_nextPart_31 : decode cX9_nextPart 31 = .ok (.aload_n 0, 1) := by decide +kernel
theorem dX9_nextPart_32 : decode cX9_nextPart 32 = .ok (.getfield 119, 3) := by decide +kernel
theorem dX9_nextPart_35 : decode cX9_nextPart 35 = .ok (.laload, 1) := by decide +kernel
theorem dX9_nextPart_36 : decode cX9_nextPart 36 = .ok (.invokevirtual 269, 3) := by decide +kernel
theorem dX9_nextPart_39 : decode cX9_nextPart 39 = .ok (.return_, 1) := by decide +kernel
theorem dX9_readsArea_0 : decode cX9_readsArea 0 = .ok (.aload_n 0, 1) := by decide +kernel
theorem dX9_readsArea_1 : decode cX9_readsArea 1 = .ok (.invokevirtual 272, 3) := by decide +kernel
theorem dX9_readsArea_4 : decode cX9_readsArea 4 = .ok (.istore_n 1, 1) := by decide +kernel
theorem dX9_readsArea_5 : decode cX9_readsArea 5 = .ok (.aload_n 0, 1) := by decide +kernel
theorem dX9_readsArea_6 : decode cX9_readsArea 6 = .ok (.dup, 1) := by decide +kernel
theorem dX9_readsArea_7 : decode cX9_readsArea 7 = .ok (.getfield 116, 3) := by decide +kernel
theorem dX9_readsArea_10 : decode cX9_readsArea 10 = .ok (.iconst 2, 1) := by decide +kernel
theorem dX9_readsArea_11 : decode cX9_readsArea 11 = .ok (.iadd, 1) := by decide +kernel
theorem dX9_readsArea_12 : decode cX9_readsArea 12 = .ok (.putfield 116, 3) := by decide +kernel
theorem dX9_readsArea_15 : decode cX9_readsArea 15 = .ok (.iload_n 1, 1) := by decide +kernel
theorem dX9_readsArea_16 : decode cX9_readsArea 16 = .ok (.istore_n 2, 1) := by decide +kernel
theorem dX9_readsArea_17 : decode cX9_readsArea 17 = .ok (.aload_n 0, 1) := by decide +kernel
theorem dX9_readsArea_18 : decode cX9_readsArea 18 = .ok (.invokevirtual 266, 3) := by decide +kernel
theorem dX9_readsArea_21 : decode cX9_readsArea 21 = .ok (.bipush 58, 2) := by decide +kernel
theorem dX9_readsArea_23 : decode cX9_readsArea 23 = .ok (.if_icmp .ne 28, 3) := by decide +kernel
theorem dX9_readsArea_26 : decode cX9_readsArea 26 = .ok (.aload_n 0, 1) := by decide +kernel
theorem dX9_readsArea_27 : decode cX9_readsArea 27 = .ok (.dup, 1) := by decide +kernel
theorem dX9_readsArea_28 : decode cX9_readsArea 28 = .ok (.getfield 116, 3) := by decide +kernel
theorem dX9_readsArea_31 : decode cX9_readsArea 31 = .ok (.iconst 1, 1) := by decide +kernel
theorem dX9_readsArea_32 : decode cX9_readsArea 32 = .ok (.iadd, 1) := by decide +kernel
theorem dX9_readsArea_33 : decode cX9_readsArea 33 = .ok (.putfield 116, 3) := by decide +kernel
theorem dX9_readsArea_36 : decode cX9_readsArea 36 = .ok (.aload_n 0, 1) := by decide +kernel
theorem dX9_readsArea_37 : decode cX9_readsArea 37 = .ok (.invokevirtual 272, 3) := by decide +kernel
theorem dX9_readsArea_40 : decode cX9_readsArea 40 = .ok (.istore_n 2, 1) := by decide +kernel
theorem dX9_readsArea_41 : decode cX9_readsArea 41 = .ok (.aload_n 0, 1) := by decide +kernel
theorem dX9_readsArea_42 : decode cX9_readsArea 42 = .ok (.dup, 1) := by decide +kernel
theorem dX9_readsArea_43 : decode cX9_readsArea 43 = .ok (.getfield 116, 3) := by decide +kernel
theorem dX9_readsArea_46 : decode cX9_readsArea 46 = .ok (.iconst 2, 1) := by decide +kernel
theorem dX9_readsArea_47 : decode cX9_readsArea 47 = .ok (.iadd, 1) := by decide +kernel
theorem dX9_readsArea_48 : decode cX9_readsArea 48 = .ok (.putfield 116, 3) := by decide +kernel
theorem dX9_readsArea_51 : decode cX9_readsArea 51 = .ok (.iload_n 1, 1) := by decide +kernel
theorem dX9_readsArea_52 : decode cX9_readsArea 52 = .ok (.bipush 8, 2) := by decide +kernel
theorem dX9_readsArea_54 : decode cX9_readsArea 54 = .ok (.idiv, 1) := by decide +kernel
theorem dX9_readsArea_55 : decode cX9_readsArea 55 = .ok (.istore_n 3, 1) := by decide +kernel
theorem dX9_readsArea_56 : decode cX9_readsArea 56 = .ok (.iload_n 3, 1) := by decide +kernel
theorem dX9_readsArea_57 : decode cX9_readsArea 57 = .ok (.iload_n 2, 1) := by decide +kernel
theorem dX9_readsArea_58 : decode cX9_readsArea 58 = .ok (.bipush 8, 2) := by decide +kernel
theorem dX9_readsArea_60 : decode cX9_readsArea 60 = .ok (.idiv, 1) := by decide +kernel
theorem dX9_readsArea_61 : decode cX9_readsArea 61 = .ok (.if_icmp .gt 83, 3) := by decide +kernel
theorem dX9_readsArea_64 : decode cX9_readsArea 64 = .ok (.aload_n 0, 1) := by decide +kernel
theorem dX9_readsArea_65 : decode cX9_readsArea 65 = .ok (.invokevirtual 275, 3) := by decide +kernel
theorem dX9_readsArea_68 : decode cX9_readsArea 68 = .ok (.ifCond .eq 76, 3) := by decide +kernel
theorem dX9_readsArea_71 : decode cX9_readsArea 71 = .ok (.iload_n 1, 1) := by decide +kernel
theorem dX9_readsArea_72 : decode cX9_readsArea 72 = .ok (.bipush 8, 2) := by decide +kernel
theorem dX9_readsArea_74 : decode cX9_readsArea 74 = .ok (.irem, 1) := by decide +kernel
theorem dX9_readsArea_75 : decode cX9_readsArea 75 = .ok (.istore 4, 2) := by decide +kernel
theorem dX9_readsArea_77 : decode cX9_readsArea 77 = .ok (.iload 4, 2) := by decide +kernel
theorem dX9_readsArea_79 : decode cX9_readsArea 79 = .ok (.iload_n 2, 1) := by decide +kernel
theorem dX9_readsArea_80 : decode cX9_readsArea 80 = .ok (.bipush 8, 2) := by decide +kernel
theorem dX9_readsArea_82 : decode cX9_readsArea 82 = .ok (.irem, 1) := by decide +kernel
theorem dX9_readsArea_83 : decode cX9_readsArea 83 = .ok (.if_icmp .gt 55, 3) := by decide +kernel
theorem dX9_readsArea_86 : decode cX9_readsArea 86 = .ok (.aload_n 0, 1) := by decide +kernel
theorem dX9_readsArea_87 : decode cX9_readsArea 87 = .ok (.invokevirtual 275, 3) := by decide +kernel
theorem dX9_readsArea_90 : decode cX9_readsArea 90 = .ok (.ifCond .eq 48, 3) := by decide +kernel
theorem dX9_readsArea_93 : decode cX9_readsArea 93 = .ok (.bipush 8, 2) := by decide +kernel
theorem dX9_readsArea_95 : decode cX9_readsArea 95 = .ok (.iload_n 3, 1) := by decide +kernel
theorem dX9_readsArea_96 : decode cX9_readsArea 96 = .ok (.imul, 1) := by decide +kernel
theorem dX9_readsArea_97 : decode cX9_readsArea 97 = .ok (.iload 4, 2) := by decide +kernel
theorem dX9_readsArea_99 : decode cX9_readsArea 99 = .ok (.iadd, 1) := by decide +kernel
theorem dX9_readsArea_100 : decode cX9_readsArea 100 = .ok (.istore 5, 2) := by decide +kernel
theorem dX9_readsArea_102 : decode cX9_readsArea 102 = .ok (.aload_n 0, 1) := by decide +kernel
theorem dX9_readsArea_103 : decode cX9_readsArea 103 = .ok (.iload 5, 2) := by decide +kernel
theorem dX9_readsArea_105 : decode cX9_readsArea 105 = .ok (.invokevirtual 278, 3) := by decide +kernel
theorem dX9_readsArea_108 : decode cX9_readsArea 108 = .ok (.lstore 6, 2) := by decide +kernel
theorem dX9_readsArea_110 : decode cX9_readsArea 110 = .ok (.aload_n 0, 1) := by decide +kernel
theorem dX9_readsArea_111 : decode cX9_readsArea 111 = .ok (.invokevirtual 275, 3) := by decide +kernel
theorem dX9_readsArea_114 : decode cX9_readsArea 114 = .ok (.ifCond .eq 18, 3) := by decide +kernel
theorem dX9_readsArea_117 : decode cX9_readsArea 117 = .ok (.aload_n 0, 1) := by decide +kernel
theorem dX9_readsArea_118 : decode cX9_readsArea 118 = .ok (.iload 5, 2) := by decide +kernel
theorem dX9_readsArea_120 : decode cX9_readsArea 120 = .ok (.invokevirtual 281, 3) := by decide +kernel
theorem dX9_readsArea_123 : decode cX9_readsArea 123 = .ok (.ifCond .ne 9, 3) := by decide +kernel
theorem dX9_readsArea_126 : decode cX9_readsArea 126 = .ok (.aload_n 0, 1) := by decide +kernel
theorem dX9_readsArea_127 : decode cX9_readsArea 127 = .ok (.lload 6, 2) := by decide +kernel
theorem dX9_readsArea_129 : decode cX9_readsArea 129 = .ok (.invokevirtual 284, 3) := by decide +kernel
theorem dX9_readsArea_132 : decode cX9_readsArea 132 = .ok (.iinc 4 1, 3) := by decide +kernel
theorem dX9_readsArea_135 : decode cX9_readsArea 135 = .ok (.goto (-58), 3) := by decide +kernel
theorem dX9_readsArea_138 : decode cX9_readsArea 138 = .ok (.iinc 3 1, 3) := by decide +kernel
theorem dX9_readsArea_141 : decode cX9_readsArea 141 = .ok (.goto (-85), 3) := by decide +kernel
theorem dX9_readsArea_144 : decode cX9_readsArea 144 = .ok (.aload_n 0, 1) := by decide +kernel
theorem dX9_readsArea_145 : decode cX9_readsArea 145 = .ok (.invokevirtual 275, 3) := by decide +kernel
theorem dX9_readsArea_148 : decode cX9_readsArea 148 = .ok (.ifCond .eq 7, 3) := by decide +kernel
theorem dX9_readsArea_151 : decode cX9_readsArea 151 = .ok (.aload_n 0, 1) := by decide +kernel
theorem dX9_readsArea_152 : decode cX9_readsArea 152 = .ok (.invokevirtual 287, 3) := by decide +kernel
theorem dX9_readsArea_155 : decode cX9_readsArea 155 = .ok (.return_, 1) := by decide +kernel
theorem dX9_function_0 : decode cX9_function 0 = .ok (.aload_n 0, 1) := by decide +kernel
theorem dX9_function_1 : decode cX9_function 1 = .ok (.invokevirtual 266, 3) := by decide +kernel
theorem dX9_function_4 : decode cX9_function 4 = .ok (.istore_n 1, 1) := by decide +kernel
theorem dX9_function_5 : decode cX9_function 5 = .ok (.aload_n 0, 1) := by decide +kernel
theorem dX9_function_6 : decode cX9_function 6 = .ok (.iconst 1, 1) := by decide +kernel
theorem dX9_function_7 : decode cX9_function 7 = .ok (.invokevirtual 263, 3) := by decide +kernel
theorem dX9_function_10 : decode cX9_function 10 = .ok (.istore_n 2, 1) := by decide +kernel
theorem dX9_function_11 : decode cX9_function 11 = .ok (.iload_n 1, 1) := by decide +kernel
theorem dX9_function_12 : decode cX9_function 12 = .ok (.bipush 109, 2) := by decide +kernel
theorem dX9_function_14 : decode cX9_function 14 = .ok (.if_icmp .ne 27, 3) := by decide +kernel
theorem dX9_function_17 : decode cX9_function 17 = .ok (.iload_n 2, 1) := by decide +kernel
theorem dX9_function_18 : decode cX9_function 18 = .ok (.bipush 111, 2) := by decide +kernel
theorem dX9_function_20 : decode cX9_function 20 = .ok (.if_icmp .ne 7, 3) := by decide +kernel
theorem dX9_function_23 : decode cX9_function 23 = .ok (.iconst 5, 1) := by decide +kernel
theorem dX9_function_24 : decode cX9_function 24 = .ok (.goto 16, 3) := by decide +kernel
theorem dX9_function_27 : decode cX9_function 27 = .ok (.iload_n 2, 1) := by decide +kernel
theorem dX9_function_28 : decode cX9_function 28 = .ok (.bipush 105, 2) := by decide +kernel
theorem dX9_function_30 : decode cX9_function 30 = .ok (.if_icmp .ne 8, 3) := by decide +kernel
theorem dX9_function_33 : decode cX9_function 33 = .ok (.bipush 7, 2) := by decide +kernel
theorem dX9_function_35 : decode cX9_function 35 = .ok (.goto 5, 3) := by decide +kernel
theorem dX9_function_38 : decode cX9_function 38 = .ok (.bipush 8, 2) := by decide +kernel
theorem dX9_function_40 : decode cX9_function 40 = .ok (.ireturn, 1) := by decide +kernel
theorem dX9_function_41 : decode cX9_function 41 = .ok (.iload_n 1, 1) := by decide +kernel
theorem dX9_function_42 : decode cX9_function 42 = .ok (.bipush 105, 2) := by decide +kernel
theorem dX9_function_44 : decode cX9_function 44 = .ok (.if_icmp .ne 7, 3) := by decide +kernel
theorem dX9_function_47 : decode cX9_function 47 = .ok (.iconst 2, 1) := by decide +kernel
theorem dX9_function_48 : decode cX9_function 48 = .ok (.goto 47, 3) := by decide +kernel
theorem dX9_function_51 : decode cX9_function 51 = .ok (.iload_n 1, 1) := by decide +kernel
theorem dX9_function_52 : decode cX9_function 52 = .ok (.bipush 112, 2) := by decide +kernel
theorem dX9_function_54 : decode cX9_function 54 = .ok (.if_icmp .ne 7, 3) := by decide +kernel
theorem dX9_function_57 : decode cX9_function 57 = .ok (.iconst 3, 1) := by decide +kernel
theorem dX9_function_58 : decode cX9_function 58 = .ok (.goto 37, 3) := by decide +kernel
theorem dX9_function_61 : decode cX9_function 61 = .ok (.iload_n 1, 1) := by decide +kernel
theorem dX9_function_62 : decode cX9_function 62 = .ok (.bipush 100, 2) := by decide +kernel
theorem dX9_function_64 : decode cX9_function 64 = .ok (.if_icmp .ne 7, 3) := by decide +kernel
theorem dX9_function_67 : decode cX9_function 67 = .ok (.iconst 4, 1) := by decide +kernel
theorem dX9_function_68 : decode cX9_function 68 = .ok (.goto 27, 3) := by decide +kernel
theorem dX9_function_71 : decode cX9_function 71 = .ok (.iload_n 1, 1) := by decide +kernel
theorem dX9_function_72 : decode cX9_function 72 = .ok (.bipush 97, 2) := by decide +kernel
theorem dX9_function_74 : decode cX9_function 74 = .ok (.if_icmp .ne 8, 3) := by decide +kernel
theorem dX9_function_77 : decode cX9_function 77 = .ok (.bipush 6, 2) := by decide +kernel
theorem dX9_function_79 : decode cX9_function 79 = .ok (.goto 16, 3) := by decide +kernel
theorem dX9_function_82 : decode cX9_function 82 = .ok (.iload_n 1, 1) := by decide +kernel
theorem dX9_function_83 : decode cX9_function 83 = .ok (.bipush 115, 2) := by decide +kernel
theorem dX9_function_85 : decode cX9_function 85 = .ok (.if_icmp .ne 8, 3) := by decide +kernel
theorem dX9_function_88 : decode cX9_function 88 = .ok (.bipush 9, 2) := by decide +kernel
theorem dX9_function_90 : decode cX9_function 90 = .ok (.goto 5, 3) := by decide +kernel
theorem dX9_function_93 : decode cX9_function 93 = .ok (.bipush 10, 2) := by decide +kernel
theorem dX9_function_95 : decode cX9_function 95 = .ok (.ireturn, 1) := by decide +kernel
theorem dX9_factor_0 : decode cX9_factor 0 = .ok (.aload_n 0, 1) := by decide +kernel
theorem dX9_factor_1 : decode cX9_factor 1 = .ok (.getfield 175, 3) := by decide +kernel
theorem dX9_factor_4 : decode cX9_factor 4 = .ok (.istore_n 1, 1) := by decide +kernel
theorem dX9_factor_5 : decode cX9_factor 5 = .ok (.aload_n 0, 1) := by decide +kernel
theorem dX9_factor_6 : decode cX9_factor 6 = .ok (.invokevirtual 266, 3) := by decide +kernel
theorem dX9_factor_9 : decode cX9_factor 9 = .ok (.istore_n 2, 1) := by decide +kernel
theorem dX9_factor_10 : decode cX9_factor 10 = .ok (.aload_n 0, 1) := by decide +kernel
theorem dX9_factor_11 : decode cX9_factor 11 = .ok (.iconst 0, 1) := by decide +kernel
theorem dX9_factor_12 : decode cX9_factor 12 = .ok (.putfield 175, 3) := by decide +kernel
theorem dX9_factor_15 : decode cX9_factor 15 = .ok (.iload_n 1, 1) := by decide +kernel
theorem dX9_factor_16 : decode cX9_factor 16 = .ok (.ifCond .eq 17, 3) := by decide +kernel
theorem dX9_factor_19 : decode cX9_factor 19 = .ok (.aload_n 0, 1) := by decide +kernel
theorem dX9_factor_20 : decode cX9_factor 20 = .ok (.invokevirtual 290, 3) := by decide +kernel
theorem dX9_factor_23 : decode cX9_factor 23 = .ok (.ifCond .eq 10, 3) := by decide +kernel
theorem dX9_factor_26 : decode cX9_factor 26 = .ok (.aload_n 0, 1) := by decide +kernel
theorem dX9_factor_27 : decode cX9_factor 27 = .ok (.invokevirtual 293, 3) := by decide +kernel
theorem dX9_factor_30 : decode cX9_factor 30 = .ok (.goto 207, 3) := by decide +kernel
theorem dX9_factor_33 : decode cX9_factor 33 = .ok (.iload_n 2, 1) := by decide +kernel
theorem dX9_factor_34 : decode cX9_factor 34 = .ok (.bipush 45, 2) := by decide +kernel
theorem dX9_factor_36 : decode cX9_factor 36 = .ok (.if_icmp .ne 42, 3) := by decide +kernel
theorem dX9_factor_39 : decode cX9_factor 39 = .ok (.aload_n 0, 1) := by decide +kernel
theorem dX9_factor_40 : decode cX9_factor 40 = .ok (.getfield 72, 3) := by decide +kernel
theorem dX9_factor_43 : decode cX9_factor 43 = .ok (.aload_n 0, 1) := by decide +kernel
theorem dX9_factor_44 : decode cX9_factor 44 = .ok (.getfield 119, 3) := by decide +kernel
theorem dX9_factor_47 : decode cX9_factor 47 = .ok (.aload_n 0, 1) := by decide +kernel
theorem dX9_factor_48 : decode cX9_factor 48 = .ok (.getfield 72, 3) := by decide +kernel
theorem dX9_factor_51 : decode cX9_factor 51 = .ok (.aload_n 0, 1) := by decide +kernel
theorem dX9_factor_52 : decode cX9_factor 52 = .ok (.getfield 119, 3) := by decide +kernel
theorem dX9_factor_55 : decode cX9_factor 55 = .ok (.baload, 1) := by decide +kernel
theorem dX9_factor_56 : decode cX9_factor 56 = .ok (.ifCond .ne 7, 3) := by decide +kernel
theorem dX9_factor_59 : decode cX9_factor 59 = .ok (.iconst 1, 1) := by decide +kernel
theorem dX9_factor_60 : decode cX9_factor 60 = .ok (.goto 4, 3) := by decide +kernel
theorem dX9_factor_63 : decode cX9_factor 63 = .ok (.iconst 0, 1) := by decide +kernel
theorem dX9_factor_64 : decode cX9_factor 64 = .ok (.bastore, 1) := by decide +kernel
theorem dX9_factor_65 : decode cX9_factor 65 = .ok (.aload_n 0, 1) := by decide +kernel
theorem dX9_factor_66 : decode cX9_factor 66 = .ok (.dup, 1) := by decide +kernel
theorem dX9_factor_67 : decode cX9_factor 67 = .ok (.getfield 116, 3) := by decide +kernel
theorem dX9_factor_70 : decode cX9_factor 70 = .ok (.iconst 1, 1) := by decide +kernel
theorem dX9_factor_71 : decode cX9_factor 71 = .ok (.iadd, 1) := by decide +kernel
theorem dX9_factor_72 : decode cX9_factor 72 = .ok (.putfield 116, 3) := by decide +kernel
theorem dX9_factor_75 : decode cX9_factor 75 = .ok (.goto 162, 3) := by decide +kernel
theorem dX9_factor_78 : decode cX9_factor 78 = .ok (.iload_n 2, 1) := by decide +kernel
theorem dX9_factor_79 : decode cX9_factor 79 = .ok (.invokestatic 185, 3) := by decide +kernel
theorem dX9_factor_82 : decode cX9_factor 82 = .ok (.ifCond .eq 52, 3) := by decide +kernel
theorem dX9_factor_85 : decode cX9_factor 85 = .ok (.lconst 0, 1) := by decide +kernel
theorem dX9_factor_86 : decode cX9_factor 86 = .ok (.lstore_n 3, 1) := by decide +kernel
theorem dX9_factor_87 : decode cX9_factor 87 = .ok (.aload_n 0, 1) := by decide +kernel
theorem dX9_factor_88 : decode cX9_factor 88 = .ok (.invokevirtual 266, 3) := by decide +kernel
theorem dX9_factor_91 : decode cX9_factor 91 = .ok (.invokestatic 185, 3) := by decide +kernel
theorem dX9_factor_94 : decode cX9_factor 94 = .ok (.ifCond .eq 32, 3) := by decide +kernel
theorem dX9_factor_97 : decode cX9_factor 97 = .ok (.ldc2_w 296, 3) := by decide +kernel
theorem dX9_factor_100 : decode cX9_factor 100 = .ok (.lload_n 3, 1) := by decide +kernel
theorem dX9_factor_101 : decode cX9_factor 101 = .ok (.lmul, 1) := by decide +kernel
theorem dX9_factor_102 : decode cX9_factor 102 = .ok (.aload_n 0, 1) := by decide +kernel
theorem dX9_factor_103 : decode cX9_factor 103 = .ok (.invokevirtual 266, 3) := by decide +kernel
theorem dX9_factor_106 : decode cX9_factor 106 = .ok (.i2l, 1) := by decide +kernel
theorem dX9_factor_107 : decode cX9_factor 107 = .ok (.ladd, 1) := by decide +kernel
theorem dX9_factor_108 : decode cX9_factor 108 = .ok (.ldc2_w 298, 3) := by decide +kernel
theorem dX9_factor_111 : decode cX9_factor 111 = .ok (.lsub, 1) := by decide +kernel
theorem dX9_factor_112 : decode cX9_factor 112 = .ok (.lstore_n 3, 1) := by decide +kernel
theorem dX9_factor_113 : decode cX9_factor 113 = .ok (.aload_n 0, 1) := by decide +kernel
theorem dX9_factor_114 : decode cX9_factor 114 = .ok (.dup, 1) := by decide +kernel
theorem dX9_factor_115 : decode cX9_factor 115 = .ok (.getfield 116, 3) := by decide +kernel
theorem dX9_factor_118 : decode cX9_factor 118 = .ok (.iconst 1, 1) := by decide +kernel
theorem dX9_factor_119 : decode cX9_factor 119 = .ok (.iadd, 1) := by decide +kernel
theorem dX9_factor_120 : decode cX9_factor 120 = .ok (.putfield 116, 3) := by decide +kernel
theorem dX9_factor_123 : decode cX9_factor 123 = .ok (.goto (-36), 3) := by decide +kernel
theorem dX9_factor_126 : decode cX9_factor 126 = .ok (.aload_n 0, 1) := by decide +kernel
theorem dX9_factor_127 : decode cX9_factor 127 = .ok (.lload_n 3, 1) := by decide +kernel
theorem dX9_factor_128 : decode cX9_factor 128 = .ok (.invokevirtual 259, 3) := by decide +kernel
theorem dX9_factor_131 : decode cX9_factor 131 = .ok (.goto 106, 3) := by decide +kernel
theorem dX9_factor_134 : decode cX9_factor 134 = .ok (.iload_n 2, 1) := by decide +kernel
theorem dX9_factor_135 : decode cX9_factor 135 = .ok (.bipush 40, 2) := by decide +kernel
theorem dX9_factor_137 : decode cX9_factor 137 = .ok (.if_icmp .ne 21, 3) := by decide +kernel
theorem dX9_factor_140 : decode cX9_factor 140 = .ok (.aload_n 0, 1) := by decide +kernel
theorem dX9_factor_141 : decode cX9_factor 141 = .ok (.dup, 1) := by decide +kernel
theorem dX9_factor_142 : decode cX9_factor 142 = .ok (.getfield 116, 3) := by decide +kernel
theorem dX9_factor_145 : decode cX9_factor 145 = .ok (.iconst 1, 1) := by decide +kernel
theorem dX9_factor_146 : decode cX9_factor 146 = .ok (.iadd, 1) := by decide +kernel
theorem dX9_factor_147 : decode cX9_factor 147 = .ok (.putfield 116, 3) := by decide +kernel
theorem dX9_factor_150 : decode cX9_factor 150 = .ok (.aload_n 0, 1) := by decide +kernel
theorem dX9_factor_151 : decode cX9_factor 151 = .ok (.iconst 1, 1) := by decide +kernel
theorem dX9_factor_152 : decode cX9_factor 152 = .ok (.invokevirtual 300, 3) := by decide +kernel
theorem dX9_factor_155 : decode cX9_factor 155 = .ok (.goto 82, 3) := by decide +kernel
theorem dX9_factor_158 : decode cX9_factor 158 = .ok (.iload_n 2, 1) := by decide +kernel
theorem dX9_factor_159 : decode cX9_factor 159 = .ok (.invokestatic 161, 3) := by decide +kernel
theorem dX9_factor_162 : decode cX9_factor 162 = .ok (.ifCond .eq 52, 3) := by decide +kernel
theorem dX9_factor_165 : decode cX9_factor 165 = .ok (.aload_n 0, 1) := by decide +kernel
theorem dX9_factor_166 : decode cX9_factor 166 = .ok (.iconst 1, 1) := by decide +kernel
theorem dX9_factor_167 : decode cX9_factor 167 = .ok (.invokevirtual 263, 3) := by decide +kernel
theorem dX9_factor_170 : decode cX9_factor 170 = .ok (.invokestatic 185, 3) := by decide +kernel
theorem dX9_factor_173 : decode cX9_factor 173 = .ok (.ifCond .eq 41, 3) := by decide +kernel
theorem dX9_factor_176 : decode cX9_factor 176 = .ok (.aload_n 0, 1) := by decide +kernel
theorem dX9_factor_177 : decode cX9_factor 177 = .ok (.invokevirtual 272, 3) := by decide +kernel
theorem dX9_factor_180 : decode cX9_factor 180 = .ok (.istore_n 3, 1) := by decide +kernel
theorem dX9_factor_181 : decode cX9_factor 181 = .ok (.aload_n 0, 1) := by decide +kernel
theorem dX9_factor_182 : decode cX9_factor 182 = .ok (.dup, 1) := by decide +kernel
theorem dX9_factor_183 : decode cX9_factor 183 = .ok (.getfield 116, 3) := by decide +kernel
theorem dX9_factor_186 : decode cX9_factor 186 = .ok (.iconst 2, 1) := by decide +kernel
theorem dX9_factor_187 : decode cX9_factor 187 = .ok (.iadd, 1) := by decide +kernel
theorem dX9_factor_188 : decode cX9_factor 188 = .ok (.putfield 116, 3) := by decide +kernel
theorem dX9_factor_191 : decode cX9_factor 191 = .ok (.aload_n 0, 1) := by decide +kernel
theorem dX9_factor_192 : decode cX9_factor 192 = .ok (.iload_n 3, 1) := by decide +kernel
theorem dX9_factor_193 : decode cX9_factor 193 = .ok (.invokevirtual 278, 3) := by decide +kernel
theorem dX9_factor_196 : decode cX9_factor 196 = .ok (.lstore 4, 2) := by decide +kernel
theorem dX9_factor_198 : decode cX9_factor 198 = .ok (.aload_n 0, 1) := by decide +kernel
theorem dX9_factor_199 : decode cX9_factor 199 = .ok (.invokevirtual 275, 3) := by decide +kernel
theorem dX9_factor_202 : decode cX9_factor 202 = .ok (.ifCond .eq 9, 3) := by decide +kernel
theorem dX9_factor_205 : decode cX9_factor 205 = .ok (.aload_n 0, 1) := by decide +kernel
theorem dX9_factor_206 : decode cX9_factor 206 = .ok (.lload 4, 2) := by decide +kernel
theorem dX9_factor_208 : decode cX9_factor 208 = .ok (.invokevirtual 259, 3) := by decide +kernel
theorem dX9_factor_211 : decode cX9_factor 211 = .ok (.goto 26, 3) := by decide +kernel
theorem dX9_factor_214 : decode cX9_factor 214 = .ok (.aload_n 0, 1) := by decide +kernel
theorem dX9_factor_215 : decode cX9_factor 215 = .ok (.invokevirtual 303, 3) := by decide +kernel
theorem dX9_factor_218 : decode cX9_factor 218 = .ok (.istore_n 3, 1) := by decide +kernel
theorem dX9_factor_219 : decode cX9_factor 219 = .ok (.aload_n 0, 1) := by decide +kernel
theorem dX9_factor_220 : decode cX9_factor 220 = .ok (.dup, 1) := by decide +kernel
theorem dX9_factor_221 : decode cX9_factor 221 = .ok (.getfield 116, 3) := by decide +kernel
theorem dX9_factor_224 : decode cX9_factor 224 = .ok (.iload_n 3, 1) := by decide +kernel
theorem dX9_factor_225 : decode cX9_factor 225 = .ok (.invokestatic 151, 3) := by decide +kernel
theorem dX9_factor_228 : decode cX9_factor 228 = .ok (.iadd, 1) := by decide +kernel
theorem dX9_factor_229 : decode cX9_factor 229 = .ok (.putfield 116, 3) := by decide +kernel
theorem dX9_factor_232 : decode cX9_factor 232 = .ok (.aload_n 0, 1) := by decide +kernel
theorem dX9_factor_233 : decode cX9_factor 233 = .ok (.iload_n 3, 1) := by decide +kernel
theorem dX9_factor_234 : decode cX9_factor 234 = .ok (.invokevirtual 300, 3) := by decide +kernel
theorem dX9_factor_237 : decode cX9_factor 237 = .ok (.return_, 1) := by decide +kernel
theorem dX9_skip_0 : decode cX9_skip 0 = .ok (.iconst 0, 1) := by decide +kernel
theorem dX9_skip_1 : decode cX9_skip 1 = .ok (.istore_n 1, 1) := by decide +kernel
theorem dX9_skip_2 : decode cX9_skip 2 = .ok (.iload_n 1, 1) := by decide +kernel
theorem dX9_skip_3 : decode cX9_skip 3 = .ok (.ifCond .gt 21, 3) := by decide +kernel
theorem dX9_skip_6 : decode cX9_skip 6 = .ok (.aload_n 0, 1) := by decide +kernel
theorem dX9_skip_7 : decode cX9_skip 7 = .ok (.invokevirtual 266, 3) := by decide +kernel
theorem dX9_skip_10 : decode cX9_skip 10 = .ok (.bipush 44, 2) := by decide +kernel
theorem dX9_skip_12 : decode cX9_skip 12 = .ok (.if_icmp .eq 55, 3) := by decide +kernel
theorem dX9_skip_15 : decode cX9_skip 15 = .ok (.aload_n 0, 1) := by decide +kernel
theorem dX9_skip_16 : decode cX9_skip 16 = .ok (.invokevirtual 266, 3) := by decide +kernel
theorem dX9_skip_19 : decode cX9_skip 19 = .ok (.bipush 41, 2) := by decide +kernel
theorem dX9_skip_21 : decode cX9_skip 21 = .ok (.if_icmp .eq 46, 3) := by decide +kernel
theorem dX9_skip_24 : decode cX9_skip 24 = .ok (.iload_n 1, 1) := by decide +kernel
theorem dX9_skip_25 : decode cX9_skip 25 = .ok (.aload_n 0, 1) := by decide +kernel
theorem dX9_skip_26 : decode cX9_skip 26 = .ok (.invokevirtual 266, 3) := by decide +kernel
theorem dX9_skip_29 : decode cX9_skip 29 = .ok (.bipush 40, 2) := by decide +kernel
theorem dX9_skip_31 : decode cX9_skip 31 = .ok (.if_icmp .ne 7, 3) := by decide +kernel
theorem dX9_skip_34 : decode cX9_skip 34 = .ok (.iconst 1, 1) := by decide +kernel
theorem dX9_skip_35 : decode cX9_skip 35 = .ok (.goto 17, 3) := by decide +kernel
theorem dX9_skip_38 : decode cX9_skip 38 = .ok (.aload_n 0, 1) := by decide +kernel
theorem dX9_skip_39 : decode cX9_skip 39 = .ok (.invokevirtual 266, 3) := by decide +kernel
theorem dX9_skip_42 : decode cX9_skip 42 = .ok (.bipush 41, 2) := by decide +kernel
theorem dX9_skip_44 : decode cX9_skip 44 = .ok (.if_icmp .ne 7, 3) := by decide +kernel
theorem dX9_skip_47 : decode cX9_skip 47 = .ok (.iconst (-1), 1) := by decide +kernel
theorem dX9_skip_48 : decode cX9_skip 48 = .ok (.goto 4, 3) := by decide +kernel
theorem dX9_skip_51 : decode cX9_skip 51 = .ok (.iconst 0, 1) := by decide +kernel
theorem dX9_skip_52 : decode cX9_skip 52 = .ok (.iadd, 1) := by decide +kernel
theorem dX9_skip_53 : decode cX9_skip 53 = .ok (.istore_n 1, 1) := by decide +kernel
theorem dX9_skip_54 : decode cX9_skip 54 = .ok (.aload_n 0, 1) := by decide +kernel
theorem dX9_skip_55 : decode cX9_skip 55 = .ok (.dup, 1) := by decide +kernel
theorem dX9_skip_56 : decode cX9_skip 56 = .ok (.getfield 116, 3) := by decide +kernel
theorem dX9_skip_59 : decode cX9_skip 59 = .ok (.iconst 1, 1) := by decide +kernel
theorem dX9_skip_60 : decode cX9_skip 60 = .ok (.iadd, 1) := by decide +kernel
theorem dX9_skip_61 : decode cX9_skip 61 = .ok (.putfield 116, 3) := by decide +kernel
theorem dX9_skip_64 : decode cX9_skip 64 = .ok (.goto (-62), 3) := by decide +kernel
theorem dX9_skip_67 : decode cX9_skip 67 = .ok (.return_, 1) := by decide +kernel
theorem dX9_ifs_0 : decode cX9_ifs 0 = .ok (.aload_n 0, 1) := by decide +kernel
theorem dX9_ifs_1 : decode cX9_ifs 1 = .ok (.getfield 69, 3) := by decide +kernel
theorem dX9_ifs_4 : decode cX9_ifs 4 = .ok (.aload_n 0, 1) := by decide +kernel
theorem dX9_ifs_5 : decode cX9_ifs 5 = .ok (.getfield 119, 3) := by decide +kernel
theorem dX9_ifs_8 : decode cX9_ifs 8 = .ok (.iaload, 1) := by decide +kernel
theorem dX9_ifs_9 : decode cX9_ifs 9 = .ok (.ifCond .le 36, 3) := by decide +kernel
theorem dX9_ifs_12 : decode cX9_ifs 12 = .ok (.aload_n 0, 1) := by decide +kernel
theorem dX9_ifs_13 : decode cX9_ifs 13 = .ok (.getfield 69, 3) := by decide +kernel
theorem dX9_ifs_16 : decode cX9_ifs 16 = .ok (.aload_n 0, 1) := by decide +kernel
theorem dX9_ifs_17 : decode cX9_ifs 17 = .ok (.getfield 119, 3) := by decide +kernel
theorem dX9_ifs_20 : decode cX9_ifs 20 = .ok (.iaload, 1) := by decide +kernel
theorem dX9_ifs_21 : decode cX9_ifs 21 = .ok (.iconst 1, 1) := by decide +kernel
theorem dX9_ifs_22 : decode cX9_ifs 22 = .ok (.if_icmp .ne 17, 3) := by decide +kernel
theorem dX9_ifs_25 : decode cX9_ifs 25 = .ok (.aload_n 0, 1) := by decide +kernel
theorem dX9_ifs_26 : decode cX9_ifs 26 = .ok (.dup, 1) := by decide +kernel
theorem dX9_ifs_27 : decode cX9_ifs 27 = .ok (.getfield 116, 3) := by decide +kernel
theorem dX9_ifs_30 : decode cX9_ifs 30 = .ok (.iconst 1, 1) := by decide +kernel
theorem dX9_ifs_31 : decode cX9_ifs 31 = .ok (.iadd, 1) := by decide +kernel
theorem dX9_ifs_32 : decode cX9_ifs 32 = .ok (.putfield 116, 3) := by decide +kernel
theorem dX9_ifs_35 : decode cX9_ifs 35 = .ok (.aload_n 0, 1) := by decide +kernel
theorem dX9_ifs_36 : decode cX9_ifs 36 = .ok (.invokevirtual 306, 3) := by decide +kernel
theorem dX9_ifs_39 : decode cX9_ifs 39 = .ok (.aload_n 0, 1) := by decide +kernel
theorem dX9_ifs_40 : decode cX9_ifs 40 = .ok (.lload_n 1, 1) := by decide +kernel
theorem dX9_ifs_41 : decode cX9_ifs 41 = .ok (.invokevirtual 269, 3) := by decide +kernel
theorem dX9_ifs_44 : decode cX9_ifs 44 = .ok (.return_, 1) := by decide +kernel
theorem dX9_ifs_45 : decode cX9_ifs 45 = .ok (.aload_n 0, 1) := by decide +kernel
theorem dX9_ifs_46 : decode cX9_ifs 46 = .ok (.dup, 1) := by decide +kernel
theorem dX9_ifs_47 : decode cX9_ifs 47 = .ok (.getfield 116, 3) := by decide +kernel
theorem dX9_ifs_50 : decode cX9_ifs 50 = .ok (.iconst 1, 1) := by decide +kernel
theorem dX9_ifs_51 : decode cX9_ifs 51 = .ok (.iadd, 1) := by decide +kernel
theorem dX9_ifs_52 : decode cX9_ifs 52 = .ok (.putfield 116, 3) := by decide +kernel
theorem dX9_ifs_55 : decode cX9_ifs 55 = .ok (.lload_n 1, 1) := by decide +kernel
theorem dX9_ifs_56 : decode cX9_ifs 56 = .ok (.lconst 0, 1) := by decide +kernel
theorem dX9_ifs_57 : decode cX9_ifs 57 = .ok (.lcmp, 1) := by decide +kernel
theorem dX9_ifs_58 : decode cX9_ifs 58 = .ok (.ifCond .ne 17, 3) := by decide +kernel
theorem dX9_ifs_61 : decode cX9_ifs 61 = .ok (.aload_n 0, 1) := by decide +kernel
theorem dX9_ifs_62 : decode cX9_ifs 62 = .ok (.invokevirtual 306, 3) := by decide +kernel
theorem dX9_ifs_65 : decode cX9_ifs 65 = .ok (.aload_n 0, 1) := by decide +kernel
theorem dX9_ifs_66 : decode cX9_ifs 66 = .ok (.dup, 1) := by decide +kernel
theorem dX9_ifs_67 : decode cX9_ifs 67 = .ok (.getfield 116, 3) := by decide +kernel
theorem dX9_ifs_70 : decode cX9_ifs 70 = .ok (.iconst 1, 1) := by decide +kernel
theorem dX9_ifs_71 : decode cX9_ifs 71 = .ok (.iadd, 1) := by decide +kernel
theorem dX9_ifs_72 : decode cX9_ifs 72 = .ok (.putfield 116, 3) := by decide +kernel
theorem dX9_ifs_75 : decode cX9_ifs 75 = .ok (.aload_n 0, 1) := by decide +kernel
theorem dX9_ifs_76 : decode cX9_ifs 76 = .ok (.getfield 69, 3) := by decide +kernel
theorem dX9_ifs_79 : decode cX9_ifs 79 = .ok (.aload_n 0, 1) := by decide +kernel
theorem dX9_ifs_80 : decode cX9_ifs 80 = .ok (.getfield 119, 3) := by decide +kernel
theorem dX9_ifs_83 : decode cX9_ifs 83 = .ok (.lload_n 1, 1) := by decide +kernel
theorem dX9_ifs_84 : decode cX9_ifs 84 = .ok (.lconst 0, 1) := by decide +kernel
theorem dX9_ifs_85 : decode cX9_ifs 85 = .ok (.lcmp, 1) := by decide +kernel
theorem dX9_ifs_86 : decode cX9_ifs 86 = .ok (.ifCond .ne 7, 3) := by decide +kernel
theorem dX9_ifs_89 : decode cX9_ifs 89 = .ok (.iconst 2, 1) := by decide +kernel
theorem dX9_ifs_90 : decode cX9_ifs 90 = .ok (.goto 4, 3) := by decide +kernel
theorem dX9_ifs_93 : decode cX9_ifs 93 = .ok (.iconst 1, 1) := by decide +kernel
theorem dX9_ifs_94 : decode cX9_ifs 94 = .ok (.iastore, 1) := by decide +kernel
theorem dX9_ifs_95 : decode cX9_ifs 95 = .ok (.aload_n 0, 1) := by decide +kernel
theorem dX9_ifs_96 : decode cX9_ifs 96 = .ok (.invokevirtual 249, 3) := by decide +kernel
theorem dX9_ifs_99 : decode cX9_ifs 99 = .ok (.return_, 1) := by decide +kernel
theorem dX9_others_0 : decode cX9_others 0 = .ok (.aload_n 0, 1) := by decide +kernel
theorem dX9_others_1 : decode cX9_others 1 = .ok (.getfield 116, 3) := by decide +kernel
theorem dX9_others_4 : decode cX9_others 4 = .ok (.istore_n 1, 1) := by decide +kernel
theorem dX9_others_5 : decode cX9_others 5 = .ok (.iconst 0, 1) := by decide +kernel
theorem dX9_others_6 : decode cX9_others 6 = .ok (.istore_n 2, 1) := by decide +kernel
theorem dX9_others_7 : decode cX9_others 7 = .ok (.aload_n 0, 1) := by decide +kernel
theorem dX9_others_8 : decode cX9_others 8 = .ok (.invokevirtual 266, 3) := by decide +kernel
theorem dX9_others_11 : decode cX9_others 11 = .ok (.bipush 44, 2) := by decide +kernel
theorem dX9_others_13 : decode cX9_others 13 = .ok (.if_icmp .ne 23, 3) := by decide +kernel
theorem dX9_others_16 : decode cX9_others 16 = .ok (.iinc 2 1, 3) := by decide +kernel
theorem dX9_others_19 : decode cX9_others 19 = .ok (.aload_n 0, 1) := by decide +kernel
theorem dX9_others_20 : decode cX9_others 20 = .ok (.dup, 1) := by decide +kernel
theorem dX9_others_21 : decode cX9_others 21 = .ok (.getfield 116, 3) := by decide +kernel
theorem dX9_others_24 : decode cX9_others 24 = .ok (.iconst 1, 1) := by decide +kernel
theorem dX9_others_25 : decode cX9_others 25 = .ok (.iadd, 1) := by decide +kernel
theorem dX9_others_26 : decode cX9_others 26 = .ok (.putfield 116, 3) := by decide +kernel
theorem dX9_others_29 : decode cX9_others 29 = .ok (.aload_n 0, 1) := by decide +kernel
theorem dX9_others_30 : decode cX9_others 30 = .ok (.invokevirtual 306, 3) := by decide +kernel
theorem dX9_others_33 : decode cX9_others 33 = .ok (.goto (-26), 3) := by decide +kernel
theorem dX9_others_36 : decode cX9_others 36 = .ok (.aload_n 0, 1) := by decide +kernel
theorem dX9_others_37 : decode cX9_others 37 = .ok (.iload_n 1, 1) := by decide +kernel
theorem dX9_others_38 : decode cX9_others 38 = .ok (.putfield 116, 3) := by decide +kernel
theorem dX9_others_41 : decode cX9_others 41 = .ok (.iload_n 2, 1) := by decide +kernel
theorem dX9_others_42 : decode cX9_others 42 = .ok (.ireturn, 1) := by decide +kernel
theorem dX9_picks_0 : decode cX9_picks 0 = .ok (.aload_n 0, 1) := by decide +kernel
theorem dX9_picks_1 : decode cX9_picks 1 = .ok (.getfield 69, 3) := by decide +kernel
theorem dX9_picks_4 : decode cX9_picks 4 = .ok (.aload_n 0, 1) := by decide +kernel
theorem dX9_picks_5 : decode cX9_picks 5 = .ok (.getfield 119, 3) := by decide +kernel
theorem dX9_picks_8 : decode cX9_picks 8 = .ok (.iaload, 1) := by decide +kernel
theorem dX9_picks_9 : decode cX9_picks 9 = .ok (.ifCond .le 35, 3) := by decide +kernel
theorem dX9_picks_12 : decode cX9_picks 12 = .ok (.aload_n 0, 1) := by decide +kernel
theorem dX9_picks_13 : decode cX9_picks 13 = .ok (.invokevirtual 266, 3) := by decide +kernel
theorem dX9_picks_16 : decode cX9_picks 16 = .ok (.bipush 44, 2) := by decide +kernel
theorem dX9_picks_18 : decode cX9_picks 18 = .ok (.if_icmp .ne 20, 3) := by decide +kernel
theorem dX9_picks_21 : decode cX9_picks 21 = .ok (.aload_n 0, 1) := by decide +kernel
theorem dX9_picks_22 : decode cX9_picks 22 = .ok (.dup, 1) := by decide +kernel
theorem dX9_picks_23 : decode cX9_picks 23 = .ok (.getfield 116, 3) := by decide +kernel
theorem dX9_picks_26 : decode cX9_picks 26 = .ok (.iconst 1, 1) := by decide +kernel
theorem dX9_picks_27 : decode cX9_picks 27 = .ok (.iadd, 1) := by decide +kernel
theorem dX9_picks_28 : decode cX9_picks 28 = .ok (.putfield 116, 3) := by decide +kernel
theorem dX9_picks_31 : decode cX9_picks 31 = .ok (.aload_n 0, 1) := by decide +kernel
theorem dX9_picks_32 : decode cX9_picks 32 = .ok (.invokevirtual 306, 3) := by decide +kernel
theorem dX9_picks_35 : decode cX9_picks 35 = .ok (.goto (-23), 3) := by decide +kernel
theorem dX9_picks_38 : decode cX9_picks 38 = .ok (.aload_n 0, 1) := by decide +kernel
theorem dX9_picks_39 : decode cX9_picks 39 = .ok (.lload_n 1, 1) := by decide +kernel
theorem dX9_picks_40 : decode cX9_picks 40 = .ok (.invokevirtual 269, 3) := by decide +kernel
theorem dX9_picks_43 : decode cX9_picks 43 = .ok (.return_, 1) := by decide +kernel
theorem dX9_picks_44 : decode cX9_picks 44 = .ok (.lload_n 1, 1) := by decide +kernel
theorem dX9_picks_45 : decode cX9_picks 45 = .ok (.lconst 1, 1) := by decide +kernel
theorem dX9_picks_46 : decode cX9_picks 46 = .ok (.lcmp, 1) := by decide +kernel
theorem dX9_picks_47 : decode cX9_picks 47 = .ok (.ifCond .lt 13, 3) := by decide +kernel
theorem dX9_picks_50 : decode cX9_picks 50 = .ok (.lload_n 1, 1) := by decide +kernel
theorem dX9_picks_51 : decode cX9_picks 51 = .ok (.aload_n 0, 1) := by decide +kernel
theorem dX9_picks_52 : decode cX9_picks 52 = .ok (.invokevirtual 309, 3) := by decide +kernel
theorem dX9_picks_55 : decode cX9_picks 55 = .ok (.i2l, 1) := by decide +kernel
theorem dX9_picks_56 : decode cX9_picks 56 = .ok (.lcmp, 1) := by decide +kernel
theorem dX9_picks_57 : decode cX9_picks 57 = .ok (.ifCond .le 9, 3) := by decide +kernel
theorem dX9_picks_60 : decode cX9_picks 60 = .ok (.aload_n 0, 1) := by decide +kernel
theorem dX9_picks_61 : decode cX9_picks 61 = .ok (.iconst 3, 1) := by decide +kernel
theorem dX9_picks_62 : decode cX9_picks 62 = .ok (.invokevirtual 246, 3) := by decide +kernel
theorem dX9_picks_65 : decode cX9_picks 65 = .ok (.return_, 1) := by decide +kernel
theorem dX9_picks_66 : decode cX9_picks 66 = .ok (.aload_n 0, 1) := by decide +kernel
theorem dX9_picks_67 : decode cX9_picks 67 = .ok (.dup, 1) := by decide +kernel
theorem dX9_picks_68 : decode cX9_picks 68 = .ok (.getfield 116, 3) := by decide +kernel
theorem dX9_picks_71 : decode cX9_picks 71 = .ok (.iconst 1, 1) := by decide +kernel
theorem dX9_picks_72 : decode cX9_picks 72 = .ok (.iadd, 1) := by decide +kernel
theorem dX9_picks_73 : decode cX9_picks 73 = .ok (.putfield 116, 3) := by decide +kernel
theorem dX9_picks_76 : decode cX9_picks 76 = .ok (.lconst 1, 1) := by decide +kernel
theorem dX9_picks_77 : decode cX9_picks 77 = .ok (.lstore_n 3, 1) := by decide +kernel
theorem dX9_picks_78 : decode cX9_picks 78 = .ok (.lload_n 3, 1) := by decide +kernel
theorem dX9_picks_79 : decode cX9_picks 79 = .ok (.lload_n 1, 1) := by decide +kernel
theorem dX9_picks_80 : decode cX9_picks 80 = .ok (.lcmp, 1) := by decide +kernel
theorem dX9_picks_81 : decode cX9_picks 81 = .ok (.ifCond .ge 24, 3) := by decide +kernel
theorem dX9_picks_84 : decode cX9_picks 84 = .ok (.aload_n 0, 1) := by decide +kernel
theorem dX9_picks_85 : decode cX9_picks 85 = .ok (.invokevirtual 306, 3) := by decide +kernel
theorem dX9_picks_88 : decode cX9_picks 88 = .ok (.aload_n 0, 1) := by decide +kernel
theorem dX9_picks_89 : decode cX9_picks 89 = .ok (.dup, 1) := by decide +kernel
theorem dX9_picks_90 : decode cX9_picks 90 = .ok (.getfield 116, 3) := by decide +kernel
theorem dX9_picks_93 : decode cX9_picks 93 = .ok (.iconst 1, 1) := by decide +kernel
theorem dX9_picks_94 : decode cX9_picks 94 = .ok (.iadd, 1) := by decide +kernel
theorem dX9_picks_95 : decode cX9_picks 95 = .ok (.putfield 116, 3) := by decide +kernel
theorem dX9_picks_98 : decode cX9_picks 98 = .ok (.lload_n 3, 1) := by decide +kernel
theorem dX9_picks_99 : decode cX9_picks 99 = .ok (.lconst 1, 1) := by decide +kernel
theorem dX9_picks_100 : decode cX9_picks 100 = .ok (.ladd, 1) := by decide +kernel
theorem dX9_picks_101 : decode cX9_picks 101 = .ok (.lstore_n 3, 1) := by decide +kernel
theorem dX9_picks_102 : decode cX9_picks 102 = .ok (.goto (-24), 3) := by decide +kernel
theorem dX9_picks_105 : decode cX9_picks 105 = .ok (.aload_n 0, 1) := by decide +kernel
theorem dX9_picks_106 : decode cX9_picks 106 = .ok (.getfield 69, 3) := by decide +kernel
theorem dX9_picks_109 : decode cX9_picks 109 = .ok (.aload_n 0, 1) := by decide +kernel
theorem dX9_picks_110 : decode cX9_picks 110 = .ok (.getfield 119, 3) := by decide +kernel
theorem dX9_picks_113 : decode cX9_picks 113 = .ok (.iconst 1, 1) := by decide +kernel
theorem dX9_picks_114 : decode cX9_picks 114 = .ok (.iastore, 1) := by decide +kernel
theorem dX9_picks_115 : decode cX9_picks 115 = .ok (.aload_n 0, 1) := by decide +kernel
theorem dX9_picks_116 : decode cX9_picks 116 = .ok (.invokevirtual 249, 3) := by decide +kernel
theorem dX9_picks_119 : decode cX9_picks 119 = .ok (.return_, 1) := by decide +kernel
theorem dX9_floor_0 : decode cX9_floor 0 = .ok (.lload_n 0, 1) := by decide +kernel
theorem dX9_floor_1 : decode cX9_floor 1 = .ok (.lload_n 2, 1) := by decide +kernel
theorem dX9_floor_2 : decode cX9_floor 2 = .ok (.ldiv, 1) := by decide +kernel
theorem dX9_floor_3 : decode cX9_floor 3 = .ok (.lstore 4, 2) := by decide +kernel
theorem dX9_floor_5 : decode cX9_floor 5 = .ok (.lload_n 0, 1) := by decide +kernel
theorem dX9_floor_6 : decode cX9_floor 6 = .ok (.lload_n 2, 1) := by decide +kernel
theorem dX9_floor_7 : decode cX9_floor 7 = .ok (.lrem, 1) := by decide +kernel
theorem dX9_floor_8 : decode cX9_floor 8 = .ok (.lconst 0, 1) := by decide +kernel
theorem dX9_floor_9 : decode cX9_floor 9 = .ok (.lcmp, 1) := by decide +kernel
theorem dX9_floor_10 : decode cX9_floor 10 = .ok (.ifCond .eq 35, 3) := by decide +kernel
theorem dX9_floor_13 : decode cX9_floor 13 = .ok (.lload_n 0, 1) := by decide +kernel
theorem dX9_floor_14 : decode cX9_floor 14 = .ok (.lconst 0, 1) := by decide +kernel
theorem dX9_floor_15 : decode cX9_floor 15 = .ok (.lcmp, 1) := by decide +kernel
theorem dX9_floor_16 : decode cX9_floor 16 = .ok (.ifCond .ge 7, 3) := by decide +kernel
theorem dX9_floor_19 : decode cX9_floor 19 = .ok (.iconst 1, 1) := by decide +kernel
theorem dX9_floor_20 : decode cX9_floor 20 = .ok (.goto 4, 3) := by decide +kernel
theorem dX9_floor_23 : decode cX9_floor 23 = .ok (.iconst 0, 1) := by decide +kernel
theorem dX9_floor_24 : decode cX9_floor 24 = .ok (.lload_n 2, 1) := by decide +kernel
theorem dX9_floor_25 : decode cX9_floor 25 = .ok (.lconst 0, 1) := by decide +kernel
theorem dX9_floor_26 : decode cX9_floor 26 = .ok (.lcmp, 1) := by decide +kernel
theorem dX9_floor_27 : decode cX9_floor 27 = .ok (.ifCond .ge 7, 3) := by decide +kernel
theorem dX9_floor_30 : decode cX9_floor 30 = .ok (.iconst 1, 1) := by decide +kernel
theorem dX9_floor_31 : decode cX9_floor 31 = .ok (.goto 4, 3) := by decide +kernel
theorem dX9_floor_34 : decode cX9_floor 34 = .ok (.iconst 0, 1) := by decide +kernel
theorem dX9_floor_35 : decode cX9_floor 35 = .ok (.if_icmp .eq 10, 3) := by decide +kernel
theorem dX9_floor_38 : decode cX9_floor 38 = .ok (.lload 4, 2) := by decide +kernel
theorem dX9_floor_40 : decode cX9_floor 40 = .ok (.lconst 1, 1) := by decide +kernel
theorem dX9_floor_41 : decode cX9_floor 41 = .ok (.lsub, 1) := by decide +kernel
theorem dX9_floor_42 : decode cX9_floor 42 = .ok (.goto 5, 3) := by decide +kernel
theorem dX9_floor_45 : decode cX9_floor 45 = .ok (.lload 4, 2) := by decide +kernel
theorem dX9_floor_47 : decode cX9_floor 47 = .ok (.lreturn, 1) := by decide +kernel
theorem dX9_twos_0 : decode cX9_twos 0 = .ok (.aload_n 0, 1) := by decide +kernel
theorem dX9_twos_1 : decode cX9_twos 1 = .ok (.getfield 69, 3) := by decide +kernel
theorem dX9_twos_4 : decode cX9_twos 4 = .ok (.aload_n 0, 1) := by decide +kernel
theorem dX9_twos_5 : decode cX9_twos 5 = .ok (.getfield 119, 3) := by decide +kernel
theorem dX9_twos_8 : decode cX9_twos 8 = .ok (.iaload, 1) := by decide +kernel
theorem dX9_twos_9 : decode cX9_twos 9 = .ok (.ifCond .ne 38, 3) := by decide +kernel
theorem dX9_twos_12 : decode cX9_twos 12 = .ok (.aload_n 0, 1) := by decide +kernel
theorem dX9_twos_13 : decode cX9_twos 13 = .ok (.getfield 88, 3) := by decide +kernel
theorem dX9_twos_16 : decode cX9_twos 16 = .ok (.aload_n 0, 1) := by decide +kernel
theorem dX9_twos_17 : decode cX9_twos 17 = .ok (.getfield 119, 3) := by decide +kernel
theorem dX9_twos_20 : decode cX9_twos 20 = .ok (.lload_n 1, 1) := by decide +kernel
theorem dX9_twos_21 : decode cX9_twos 21 = .ok (.lastore, 1) := by decide +kernel
theorem dX9_twos_22 : decode cX9_twos 22 = .ok (.aload_n 0, 1) := by decide +kernel
theorem dX9_twos_23 : decode cX9_twos 23 = .ok (.getfield 69, 3) := by decide +kernel
theorem dX9_twos_26 : decode cX9_twos 26 = .ok (.aload_n 0, 1) := by decide +kernel
theorem dX9_twos_27 : decode cX9_twos 27 = .ok (.getfield 119, 3) := by decide +kernel
theorem dX9_twos_30 : decode cX9_twos 30 = .ok (.iconst 1, 1) := by decide +kernel
theorem dX9_twos_31 : decode cX9_twos 31 = .ok (.iastore, 1) := by decide +kernel
theorem dX9_twos_32 : decode cX9_twos 32 = .ok (.aload_n 0, 1) := by decide +kernel
theorem dX9_twos_33 : decode cX9_twos 33 = .ok (.dup, 1) := by decide +kernel
theorem dX9_twos_34 : decode cX9_twos 34 = .ok (.getfield 116, 3) := by decide +kernel
theorem dX9_twos_37 : decode cX9_twos 37 = .ok (.iconst 1, 1) := by decide +kernel
theorem dX9_twos_38 : decode cX9_twos 38 = .ok (.iadd, 1) := by decide +kernel
theorem dX9_twos_39 : decode cX9_twos 39 = .ok (.putfield 116, 3) := by decide +kernel
theorem dX9_twos_42 : decode cX9_twos 42 = .ok (.aload_n 0, 1) := by decide +kernel
theorem dX9_twos_43 : decode cX9_twos 43 = .ok (.invokevirtual 249, 3) := by decide +kernel
theorem dX9_twos_46 : decode cX9_twos 46 = .ok (.return_, 1) := by decide +kernel
theorem dX9_twos_47 : decode cX9_twos 47 = .ok (.aload_n 0, 1) := by decide +kernel
theorem dX9_twos_48 : decode cX9_twos 48 = .ok (.getfield 88, 3) := by decide +kernel
theorem dX9_twos_51 : decode cX9_twos 51 = .ok (.aload_n 0, 1) := by decide +kernel
theorem dX9_twos_52 : decode cX9_twos 52 = .ok (.getfield 119, 3) := by decide +kernel
theorem dX9_twos_55 : decode cX9_twos 55 = .ok (.laload, 1) := by decide +kernel
theorem dX9_twos_56 : decode cX9_twos 56 = .ok (.lstore_n 3, 1) := by decide +kernel
theorem dX9_twos_57 : decode cX9_twos 57 = .ok (.aload_n 0, 1) := by decide +kernel
theorem dX9_twos_58 : decode cX9_twos 58 = .ok (.getfield 66, 3) := by decide +kernel
theorem dX9_twos_61 : decode cX9_twos 61 = .ok (.aload_n 0, 1) := by decide +kernel
theorem dX9_twos_62 : decode cX9_twos 62 = .ok (.getfield 119, 3) := by decide +kernel
theorem dX9_twos_65 : decode cX9_twos 65 = .ok (.iaload, 1) := by decide +kernel
theorem dX9_twos_66 : decode cX9_twos 66 = .ok (.bipush 6, 2) := by decide +kernel
theorem dX9_twos_68 : decode cX9_twos 68 = .ok (.if_icmp .ne 65, 3) := by decide +kernel
theorem dX9_twos_71 : decode cX9_twos 71 = .ok (.lload_n 3, 1) := by decide +kernel
theorem dX9_twos_72 : decode cX9_twos 72 = .ok (.lconst 0, 1) := by decide +kernel
theorem dX9_twos_73 : decode cX9_twos 73 = .ok (.lcmp, 1) := by decide +kernel
theorem dX9_twos_74 : decode cX9_twos 74 = .ok (.ifCond .lt 25, 3) := by decide +kernel
theorem dX9_twos_77 : decode cX9_twos 77 = .ok (.lload_n 3, 1) := by decide +kernel
theorem dX9_twos_78 : decode cX9_twos 78 = .ok (.ldc2_w 312, 3) := by decide +kernel
theorem dX9_twos_81 : decode cX9_twos 81 = .ok (.lcmp, 1) := by decide +kernel
theorem dX9_twos_82 : decode cX9_twos 82 = .ok (.ifCond .gt 17, 3) := by decide +kernel
theorem dX9_twos_85 : decode cX9_twos 85 = .ok (.lload_n 1, 1) := by decide +kernel
theorem dX9_twos_86 : decode cX9_twos 86 = .ok (.lconst 0, 1) := by decide +kernel
theorem dX9_twos_87 : decode cX9_twos 87 = .ok (.lcmp, 1) := by decide +kernel
theorem dX9_twos_88 : decode cX9_twos 88 = .ok (.ifCond .lt 11, 3) := by decide +kernel
theorem dX9_twos_91 : decode cX9_twos 91 = .ok (.lload_n 1, 1) := by decide +kernel
theorem dX9_twos_92 : decode cX9_twos 92 = .ok (.ldc2_w 314, 3) := by decide +kernel
theorem dX9_twos_95 : decode cX9_twos 95 = .ok (.lcmp, 1) := by decide +kernel
theorem dX9_twos_96 : decode cX9_twos 96 = .ok (.ifCond .le 9, 3) := by decide +kernel
theorem dX9_twos_99 : decode cX9_twos 99 = .ok (.aload_n 0, 1) := by decide +kernel
theorem dX9_twos_100 : decode cX9_twos 100 = .ok (.iconst 3, 1) := by decide +kernel
theorem dX9_twos_101 : decode cX9_twos 101 = .ok (.invokevirtual 246, 3) := by decide +kernel
theorem dX9_twos_104 : decode cX9_twos 104 = .ok (.return_, 1) := by decide +kernel
theorem dX9_twos_105 : decode cX9_twos 105 = .ok (.aload_n 0, 1) := by decide +kernel
theorem dX9_twos_106 : decode cX9_twos 106 = .ok (.ldc2_w 314, 3) := by decide +kernel
theorem dX9_twos_109 : decode cX9_twos 109 = .ok (.lload_n 1, 1) := by decide +kernel
theorem dX9_twos_110 : decode cX9_twos 110 = .ok (.lmul, 1) := by decide +kernel
theorem dX9_twos_111 : decode cX9_twos 111 = .ok (.lload_n 3, 1) := by decide +kernel
theorem dX9_twos_112 : decode cX9_twos 112 = .ok (.ladd, 1) := by decide +kernel
theorem dX9_twos_113 : decode cX9_twos 113 = .ok (.l2i, 1) := by decide +kernel
theorem dX9_twos_114 : decode cX9_twos 114 = .ok (.invokevirtual 278, 3) := by decide +kernel
theorem dX9_twos_117 : decode cX9_twos 117 = .ok (.lstore 5, 2) := by decide +kernel
theorem dX9_twos_119 : decode cX9_twos 119 = .ok (.aload_n 0, 1) := by decide +kernel
theorem dX9_twos_120 : decode cX9_twos 120 = .ok (.invokevirtual 275, 3) := by decide +kernel
theorem dX9_twos_123 : decode cX9_twos 123 = .ok (.ifCond .eq 9, 3) := by decide +kernel
theorem dX9_twos_126 : decode cX9_twos 126 = .ok (.aload_n 0, 1) := by decide +kernel
theorem dX9_twos_127 : decode cX9_twos 127 = .ok (.lload 5, 2) := by decide +kernel
theorem dX9_twos_129 : decode cX9_twos 129 = .ok (.invokevirtual 269, 3) := by decide +kernel
theorem dX9_twos_132 : decode cX9_twos 132 = .ok (.return_, 1) := by decide +kernel
theorem dX9_twos_133 : decode cX9_twos 133 = .ok (.lload_n 1, 1) := by decide +kernel
theorem dX9_twos_134 : decode cX9_twos 134 = .ok (.lconst 0, 1) := by decide +kernel
theorem dX9_twos_135 : decode cX9_twos 135 = .ok (.lcmp, 1) := by decide +kernel
theorem dX9_twos_136 : decode cX9_twos 136 = .ok (.ifCond .ne 9, 3) := by decide +kernel
theorem dX9_twos_139 : decode cX9_twos 139 = .ok (.aload_n 0, 1) := by decide +kernel
theorem dX9_twos_140 : decode cX9_twos 140 = .ok (.iconst 2, 1) := by decide +kernel
theorem dX9_twos_141 : decode cX9_twos 141 = .ok (.invokevirtual 246, 3) := by decide +kernel
theorem dX9_twos_144 : decode cX9_twos 144 = .ok (.return_, 1) := by decide +kernel
theorem dX9_twos_145 : decode cX9_twos 145 = .ok (.aload_n 0, 1) := by decide +kernel
theorem dX9_twos_146 : decode cX9_twos 146 = .ok (.aload_n 0, 1) := by decide +kernel
theorem dX9_twos_147 : decode cX9_twos 147 = .ok (.getfield 66, 3) := by decide +kernel
theorem dX9_twos_150 : decode cX9_twos 150 = .ok (.aload_n 0, 1) := by decide +kernel
theorem dX9_twos_151 : decode cX9_twos 151 = .ok (.getfield 119, 3) := by decide +kernel
theorem dX9_twos_154 : decode cX9_twos 154 = .ok (.iaload, 1) := by decide +kernel
theorem dX9_twos_155 : decode cX9_twos 155 = .ok (.iconst 4, 1) := by decide +kernel
theorem dX9_twos_156 : decode cX9_twos 156 = .ok (.if_icmp .ne 11, 3) := by decide +kernel
theorem dX9_twos_159 : decode cX9_twos 159 = .ok (.lload_n 3, 1) := by decide +kernel
theorem dX9_twos_160 : decode cX9_twos 160 = .ok (.lload_n 1, 1) := by decide +kernel
theorem dX9_twos_161 : decode cX9_twos 161 = .ok (.invokestatic 316, 3) := by decide +kernel
theorem dX9_twos_164 : decode cX9_twos 164 = .ok (.goto 12, 3) := by decide +kernel
theorem dX9_twos_167 : decode cX9_twos 167 = .ok (.lload_n 3, 1) := by decide +kernel
theorem dX9_twos_168 : decode cX9_twos 168 = .ok (.lload_n 1, 1) := by decide +kernel
theorem dX9_twos_169 : decode cX9_twos 169 = .ok (.lload_n 3, 1) := by decide +kernel
theorem dX9_twos_170 : decode cX9_twos 170 = .ok (.lload_n 1, 1) := by decide +kernel
theorem dX9_twos_171 : decode cX9_twos 171 = .ok (.invokestatic 316, 3) := by decide +kernel
theorem dX9_twos_174 : decode cX9_twos 174 = .ok (.lmul, 1) := by decide +kernel
theorem dX9_twos_175 : decode cX9_twos 175 = .ok (.lsub, 1) := by decide +kernel
theorem dX9_twos_176 : decode cX9_twos 176 = .ok (.invokevirtual 269, 3) := by decide +kernel
theorem dX9_twos_179 : decode cX9_twos 179 = .ok (.return_, 1) := by decide +kernel
theorem dX9_closes_0 : decode cX9_closes 0 = .ok (.aload_n 0, 1) := by decide +kernel
theorem dX9_closes_1 : decode cX9_closes 1 = .ok (.invokevirtual 266, 3) := by decide +kernel
theorem dX9_closes_4 : decode cX9_closes 4 = .ok (.istore_n 1, 1) := by decide +kernel
theorem dX9_closes_5 : decode cX9_closes 5 = .ok (.iload_n 1, 1) := by decide +kernel
theorem dX9_closes_6 : decode cX9_closes 6 = .ok (.bipush 42, 2) := by decide +kernel
theorem dX9_closes_8 : decode cX9_closes 8 = .ok (.if_icmp .ne 19, 3) := by decide +kernel
theorem dX9_closes_11 : decode cX9_closes 11 = .ok (.aload_n 0, 1) := by decide +kernel
theorem dX9_closes_12 : decode cX9_closes 12 = .ok (.dup, 1) := by decide +kernel
theorem dX9_closes_13 : decode cX9_closes 13 = .ok (.getfield 116, 3) := by decide +kernel
theorem dX9_closes_16 : decode cX9_closes 16 = .ok (.iconst 1, 1) := by decide +kernel
theorem dX9_closes_17 : decode cX9_closes 17 = .ok (.iadd, 1) := by decide +kernel
theorem dX9_closes_18 : decode cX9_closes 18 = .ok (.putfield 116, 3) := by decide +kernel
theorem dX9_closes_21 : decode cX9_closes 21 = .ok (.aload_n 0, 1) := by decide +kernel
theorem dX9_closes_22 : decode cX9_closes 22 = .ok (.iconst 1, 1) := by decide +kernel
theorem dX9_closes_23 : decode cX9_closes 23 = .ok (.putfield 182, 3) := by decide +kernel
theorem dX9_closes_26 : decode cX9_closes 26 = .ok (.return_, 1) := by decide +kernel
theorem dX9_closes_27 : decode cX9_closes 27 = .ok (.aload_n 0, 1) := by decide +kernel
theorem dX9_closes_28 : decode cX9_closes 28 = .ok (.invokevirtual 320, 3) := by decide +kernel
theorem dX9_closes_31 : decode cX9_closes 31 = .ok (.aload_n 0, 1) := by decide +kernel
theorem dX9_closes_32 : decode cX9_closes 32 = .ok (.getfield 239, 3) := by decide +kernel
theorem dX9_closes_35 : decode cX9_closes 35 = .ok (.ifCond .le 4, 3) := by decide +kernel
theorem dX9_closes_38 : decode cX9_closes 38 = .ok (.return_, 1) := by decide +kernel
theorem dX9_closes_39 : decode cX9_closes 39 = .ok (.iload_n 1, 1) := by decide +kernel
theorem dX9_closes_40 : decode cX9_closes 40 = .ok (.bipush 43, 2) := by decide +kernel
theorem dX9_closes_42 : decode cX9_closes 42 = .ok (.if_icmp .eq 9, 3) := by decide +kernel
theorem dX9_closes_45 : decode cX9_closes 45 = .ok (.iload_n 1, 1) := by decide +kernel
theorem dX9_closes_46 : decode cX9_closes 46 = .ok (.bipush 45, 2) := by decide +kernel
theorem dX9_closes_48 : decode cX9_closes 48 = .ok (.if_icmp .ne 39, 3) := by decide +kernel
theorem dX9_closes_51 : decode cX9_closes 51 = .ok (.aload_n 0, 1) := by decide +kernel
theorem dX9_closes_52 : decode cX9_closes 52 = .ok (.getfield 85, 3) := by decide +kernel
theorem dX9_closes_55 : decode cX9_closes 55 = .ok (.aload_n 0, 1) := by decide +kernel
theorem dX9_closes_56 : decode cX9_closes 56 = .ok (.getfield 119, 3) := by decide +kernel
theorem dX9_closes_59 : decode cX9_closes 59 = .ok (.iload_n 1, 1) := by decide +kernel
theorem dX9_closes_60 : decode cX9_closes 60 = .ok (.bipush 43, 2) := by decide +kernel
theorem dX9_closes_62 : decode cX9_closes 62 = .ok (.if_icmp .ne 7, 3) := by decide +kernel
theorem dX9_closes_65 : decode cX9_closes 65 = .ok (.iconst 1, 1) := by decide +kernel
theorem dX9_closes_66 : decode cX9_closes 66 = .ok (.goto 4, 3) := by decide +kernel
theorem dX9_closes_69 : decode cX9_closes 69 = .ok (.iconst (-1), 1) := by decide +kernel
theorem dX9_closes_70 : decode cX9_closes 70 = .ok (.iastore, 1) := by decide +kernel
theorem dX9_closes_71 : decode cX9_closes 71 = .ok (.aload_n 0, 1) := by decide +kernel
theorem dX9_closes_72 : decode cX9_closes 72 = .ok (.dup, 1) := by decide +kernel
theorem dX9_closes_73 : decode cX9_closes 73 = .ok (.getfield 116, 3) := by decide +kernel
theorem dX9_closes_76 : decode cX9_closes 76 = .ok (.iconst 1, 1) := by decide +kernel
theorem dX9_closes_77 : decode cX9_closes 77 = .ok (.iadd, 1) := by decide +kernel
theorem dX9_closes_78 : decode cX9_closes 78 = .ok (.putfield 116, 3) := by decide +kernel
theorem dX9_closes_81 : decode cX9_closes 81 = .ok (.aload_n 0, 1) := by decide +kernel
theorem dX9_closes_82 : decode cX9_closes 82 = .ok (.iconst 1, 1) := by decide +kernel
theorem dX9_closes_83 : decode cX9_closes 83 = .ok (.putfield 182, 3) := by decide +kernel
theorem dX9_closes_86 : decode cX9_closes 86 = .ok (.return_, 1) := by decide +kernel
theorem dX9_closes_87 : decode cX9_closes 87 = .ok (.aload_n 0, 1) := by decide +kernel
theorem dX9_closes_88 : decode cX9_closes 88 = .ok (.getfield 82, 3) := by decide +kernel
theorem dX9_closes_91 : decode cX9_closes 91 = .ok (.aload_n 0, 1) := by decide +kernel
theorem dX9_closes_92 : decode cX9_closes 92 = .ok (.getfield 119, 3) := by decide +kernel
theorem dX9_closes_95 : decode cX9_closes 95 = .ok (.laload, 1) := by decide +kernel
theorem dX9_closes_96 : decode cX9_closes 96 = .ok (.lstore_n 2, 1) := by decide +kernel
theorem dX9_closes_97 : decode cX9_closes 97 = .ok (.aload_n 0, 1) := by decide +kernel
theorem dX9_closes_98 : decode cX9_closes 98 = .ok (.getfield 66, 3) := by decide +kernel
theorem dX9_closes_101 : decode cX9_closes 101 = .ok (.aload_n 0, 1) := by decide +kernel
theorem dX9_closes_102 : decode cX9_closes 102 = .ok (.getfield 119, 3) := by decide +kernel
theorem dX9_closes_105 : decode cX9_closes 105 = .ok (.iaload, 1) := by decide +kernel
theorem dX9_closes_106 : decode cX9_closes 106 = .ok (.tableswitch 87 0 6 #[42, 55, 63, 71, 79, 79, 79], 42) := by decide +kernel
theorem dX9_closes_148 : decode cX9_closes 148 = .ok (.aload_n 0, 1) := by decide +kernel
theorem dX9_closes_149 : decode cX9_closes 149 = .ok (.lload_n 2, 1) := by decide +kernel
theorem dX9_closes_150 : decode cX9_closes 150 = .ok (.putfield 323, 3) := by decide +kernel
theorem dX9_closes_153 : decode cX9_closes 153 = .ok (.aload_n 0, 1) := by decide +kernel
theorem dX9_closes_154 : decode cX9_closes 154 = .ok (.iconst 1, 1) := by decide +kernel
theorem dX9_closes_155 : decode cX9_closes 155 = .ok (.putfield 327, 3) := by decide +kernel
theorem dX9_closes_158 : decode cX9_closes 158 = .ok (.goto 51, 3) := by decide +kernel
theorem dX9_closes_161 : decode cX9_closes 161 = .ok (.aload_n 0, 1) := by decide +kernel
theorem dX9_closes_162 : decode cX9_closes 162 = .ok (.lload_n 2, 1) := by decide +kernel
theorem dX9_closes_163 : decode cX9_closes 163 = .ok (.invokevirtual 269, 3) := by decide +kernel
theorem dX9_closes_166 : decode cX9_closes 166 = .ok (.goto 43, 3) := by decide +kernel
theorem dX9_closes_169 : decode cX9_closes 169 = .ok (.aload_n 0, 1) := by decide +kernel
theorem dX9_closes_170 : decode cX9_closes 170 = .ok (.lload_n 2, 1) := by decide +kernel
theorem dX9_closes_171 : decode cX9_closes 171 = .ok (.invokevirtual 330, 3) := by decide +kernel
theorem dX9_closes_174 : decode cX9_closes 174 = .ok (.goto 35, 3) := by decide +kernel
theorem dX9_closes_177 : decode cX9_closes 177 = .ok (.aload_n 0, 1) := by decide +kernel
theorem dX9_closes_178 : decode cX9_closes 178 = .ok (.lload_n 2, 1) := by decide +kernel
theorem dX9_closes_179 : decode cX9_closes 179 = .ok (.invokevirtual 333, 3) := by decide +kernel
theorem dX9_closes_182 : decode cX9_closes 182 = .ok (.goto 27, 3) := by decide +kernel
theorem dX9_closes_185 : decode cX9_closes 185 = .ok (.aload_n 0, 1) := by decide +kernel
theorem dX9_closes_186 : decode cX9_closes 186 = .ok (.lload_n 2, 1) := by decide +kernel
theorem dX9_closes_187 : decode cX9_closes 187 = .ok (.invokevirtual 336, 3) := by decide +kernel
theorem dX9_closes_190 : decode cX9_closes 190 = .ok (.goto 19, 3) := by decide +kernel
theorem dX9_closes_193 : decode cX9_closes 193 = .ok (.aload_n 0, 1) := by decide +kernel
theorem dX9_closes_194 : decode cX9_closes 194 = .ok (.lload_n 2, 1) := by decide +kernel
theorem dX9_closes_195 : decode cX9_closes 195 = .ok (.invokevirtual 284, 3) := by decide +kernel
theorem dX9_closes_198 : decode cX9_closes 198 = .ok (.aload_n 0, 1) := by decide +kernel
theorem dX9_closes_199 : decode cX9_closes 199 = .ok (.invokevirtual 275, 3) := by decide +kernel
theorem dX9_closes_202 : decode cX9_closes 202 = .ok (.ifCond .eq 7, 3) := by decide +kernel
theorem dX9_closes_205 : decode cX9_closes 205 = .ok (.aload_n 0, 1) := by decide +kernel
theorem dX9_closes_206 : decode cX9_closes 206 = .ok (.invokevirtual 287, 3) := by decide +kernel
theorem dX9_closes_209 : decode cX9_closes 209 = .ok (.return_, 1) := by decide +kernel
theorem dX9_works_0 : decode cX9_works 0 = .ok (.aload_n 0, 1) := by decide +kernel
theorem dX9_works_1 : decode cX9_works 1 = .ok (.getfield 32, 3) := by decide +kernel
theorem dX9_works_4 : decode cX9_works 4 = .ok (.iload_n 1, 1) := by decide +kernel
theorem dX9_works_5 : decode cX9_works 5 = .ok (.iconst 0, 1) := by decide +kernel
theorem dX9_works_6 : decode cX9_works 6 = .ok (.iastore, 1) := by decide +kernel
theorem dX9_works_7 : decode cX9_works 7 = .ok (.aload_n 0, 1) := by decide +kernel
theorem dX9_works_8 : decode cX9_works 8 = .ok (.iconst 0, 1) := by decide +kernel
theorem dX9_works_9 : decode cX9_works 9 = .ok (.putfield 239, 3) := by decide +kernel
theorem dX9_works_12 : decode cX9_works 12 = .ok (.aload_n 0, 1) := by decide +kernel
theorem dX9_works_13 : decode cX9_works 13 = .ok (.iconst 0, 1) := by decide +kernel
theorem dX9_works_14 : decode cX9_works 14 = .ok (.putfield 252, 3) := by decide +kernel
theorem dX9_works_17 : decode cX9_works 17 = .ok (.aload_n 0, 1) := by decide +kernel
theorem dX9_works_18 : decode cX9_works 18 = .ok (.iload_n 1, 1) := by decide +kernel
theorem dX9_works_19 : decode cX9_works 19 = .ok (.aload_n 0, 1) := by decide +kernel
theorem dX9_works_20 : decode cX9_works 20 = .ok (.getfield 97, 3) := by decide +kernel
theorem dX9_works_23 : decode cX9_works 23 = .ok (.if_icmp .ne 7, 3) := by decide +kernel
theorem dX9_works_26 : decode cX9_works 26 = .ok (.iconst 1, 1) := by decide +kernel
theorem dX9_works_27 : decode cX9_works 27 = .ok (.goto 4, 3) := by decide +kernel
theorem dX9_works_30 : decode cX9_works 30 = .ok (.iconst 0, 1) := by decide +kernel
theorem dX9_works_31 : decode cX9_works 31 = .ok (.putfield 327, 3) := by decide +kernel
theorem dX9_works_34 : decode cX9_works 34 = .ok (.aload_n 0, 1) := by decide +kernel
theorem dX9_works_35 : decode cX9_works 35 = .ok (.aload_n 0, 1) := by decide +kernel
theorem dX9_works_36 : decode cX9_works 36 = .ok (.getfield 339, 3) := by decide +kernel
theorem dX9_works_39 : decode cX9_works 39 = .ok (.i2l, 1) := by decide +kernel
theorem dX9_works_40 : decode cX9_works 40 = .ok (.putfield 323, 3) := by decide +kernel
theorem dX9_works_43 : decode cX9_works 43 = .ok (.aload_n 0, 1) := by decide +kernel
theorem dX9_works_44 : decode cX9_works 44 = .ok (.iload_n 1, 1) := by decide +kernel
theorem dX9_works_45 : decode cX9_works 45 = .ok (.putfield 236, 3) := by decide +kernel
theorem dX9_works_48 : decode cX9_works 48 = .ok (.aload_n 0, 1) := by decide +kernel
theorem dX9_works_49 : decode cX9_works 49 = .ok (.aload_n 0, 1) := by decide +kernel
theorem dX9_works_50 : decode cX9_works 50 = .ok (.getfield 7, 3) := by decide +kernel
theorem dX9_works_53 : decode cX9_works 53 = .ok (.iconst 0, 1) := by decide +kernel
theorem dX9_works_54 : decode cX9_works 54 = .ok (.iload_n 1, 1) := by decide +kernel
theorem dX9_works_55 : decode cX9_works 55 = .ok (.iadd, 1) := by decide +kernel
theorem dX9_works_56 : decode cX9_works 56 = .ok (.iaload, 1) := by decide +kernel
theorem dX9_works_57 : decode cX9_works 57 = .ok (.putfield 233, 3) := by decide +kernel
theorem dX9_works_60 : decode cX9_works 60 = .ok (.aload_n 0, 1) := by decide +kernel
theorem dX9_works_61 : decode cX9_works 61 = .ok (.iconst 0, 1) := by decide +kernel
theorem dX9_works_62 : decode cX9_works 62 = .ok (.putfield 116, 3) := by decide +kernel
theorem dX9_works_65 : decode cX9_works 65 = .ok (.aload_n 0, 1) := by decide +kernel
theorem dX9_works_66 : decode cX9_works 66 = .ok (.iconst 0, 1) := by decide +kernel
theorem dX9_works_67 : decode cX9_works 67 = .ok (.putfield 119, 3) := by decide +kernel
theorem dX9_works_70 : decode cX9_works 70 = .ok (.aload_n 0, 1) := by decide +kernel
theorem dX9_works_71 : decode cX9_works 71 = .ok (.getfield 66, 3) := by decide +kernel
theorem dX9_works_74 : decode cX9_works 74 = .ok (.iconst 0, 1) := by decide +kernel
theorem dX9_works_75 : decode cX9_works 75 = .ok (.iconst 0, 1) := by decide +kernel
theorem dX9_works_76 : decode cX9_works 76 = .ok (.iastore, 1) := by decide +kernel
theorem dX9_works_77 : decode cX9_works 77 = .ok (.aload_n 0, 1) := by decide +kernel
theorem dX9_works_78 : decode cX9_works 78 = .ok (.getfield 69, 3) := by decide +kernel
theorem dX9_works_81 : decode cX9_works 81 = .ok (.iconst 0, 1) := by decide +kernel
theorem dX9_works_82 : decode cX9_works 82 = .ok (.iconst 0, 1) := by decide +kernel
theorem dX9_works_83 : decode cX9_works 83 = .ok (.iastore, 1) := by decide +kernel
theorem dX9_works_84 : decode cX9_works 84 = .ok (.aload_n 0, 1) := by decide +kernel
theorem dX9_works_85 : decode cX9_works 85 = .ok (.invokevirtual 249, 3) := by decide +kernel
theorem dX9_works_88 : decode cX9_works 88 = .ok (.aload_n 0, 1) := by decide +kernel
theorem dX9_works_89 : decode cX9_works 89 = .ok (.getfield 327, 3) := by decide +kernel
theorem dX9_works_92 : decode cX9_works 92 = .ok (.ifCond .ne 31, 3) := by decide +kernel
theorem dX9_works_95 : decode cX9_works 95 = .ok (.aload_n 0, 1) := by decide +kernel
theorem dX9_works_96 : decode cX9_works 96 = .ok (.invokevirtual 275, 3) := by decide +kernel
theorem dX9_works_99 : decode cX9_works 99 = .ok (.ifCond .eq 24, 3) := by decide +kernel
theorem dX9_works_102 : decode cX9_works 102 = .ok (.aload_n 0, 1) := by decide +kernel
theorem dX9_works_103 : decode cX9_works 103 = .ok (.getfield 182, 3) := by decide +kernel
theorem dX9_works_106 : decode cX9_works 106 = .ok (.ifCond .eq 10, 3) := by decide +kernel
theorem dX9_works_109 : decode cX9_works 109 = .ok (.aload_n 0, 1) := by decide +kernel
theorem dX9_works_110 : decode cX9_works 110 = .ok (.invokevirtual 342, 3) := by decide +kernel
theorem dX9_works_113 : decode cX9_works 113 = .ok (.goto (-25), 3) := by decide +kernel
theorem dX9_works_116 : decode cX9_works 116 = .ok (.aload_n 0, 1) := by decide +kernel
theorem dX9_works_117 : decode cX9_works 117 = .ok (.invokevirtual 345, 3) := by decide +kernel
theorem dX9_works_120 : decode cX9_works 120 = .ok (.goto (-32), 3) := by decide +kernel
theorem dX9_works_123 : decode cX9_works 123 = .ok (.return_, 1) := by decide +kernel
theorem dX9_lays_0 : decode cX9_lays 0 = .ok (.aload_n 0, 1) := by decide +kernel
theorem dX9_lays_1 : decode cX9_lays 1 = .ok (.getfield 22, 3) := by decide +kernel
theorem dX9_lays_4 : decode cX9_lays 4 = .ok (.iload_n 1, 1) := by decide +kernel
theorem dX9_lays_5 : decode cX9_lays 5 = .ok (.aload_n 0, 1) := by decide +kernel
theorem dX9_lays_6 : decode cX9_lays 6 = .ok (.getfield 239, 3) := by decide +kernel
theorem dX9_lays_9 : decode cX9_lays 9 = .ok (.iastore, 1) := by decide +kernel
theorem dX9_lays_10 : decode cX9_lays 10 = .ok (.aload_n 0, 1) := by decide +kernel
theorem dX9_lays_11 : decode cX9_lays 11 = .ok (.getfield 19, 3) := by decide +kernel
theorem dX9_lays_14 : decode cX9_lays 14 = .ok (.iload_n 1, 1) := by decide +kernel
theorem dX9_lays_15 : decode cX9_lays 15 = .ok (.aload_n 0, 1) := by decide +kernel
theorem dX9_lays_16 : decode cX9_lays 16 = .ok (.getfield 239, 3) := by decide +kernel
theorem dX9_lays_19 : decode cX9_lays 19 = .ok (.ifCond .le 7, 3) := by decide +kernel
theorem dX9_lays_22 : decode cX9_lays 22 = .ok (.iconst 0, 1) := by decide +kernel
theorem dX9_lays_23 : decode cX9_lays 23 = .ok (.goto 8, 3) := by decide +kernel
theorem dX9_lays_26 : decode cX9_lays 26 = .ok (.aload_n 0, 1) := by decide +kernel
theorem dX9_lays_27 : decode cX9_lays 27 = .ok (.getfield 323, 3) := by decide +kernel
theorem dX9_lays_30 : decode cX9_lays 30 = .ok (.l2i, 1) := by decide +kernel
theorem dX9_lays_31 : decode cX9_lays 31 = .ok (.iastore, 1) := by decide +kernel
theorem dX9_lays_32 : decode cX9_lays 32 = .ok (.return_, 1) := by decide +kernel
theorem dX9_heightOf_0 : decode cX9_heightOf 0 = .ok (.iconst (-1), 1) := by decide +kernel
theorem dX9_heightOf_1 : decode cX9_heightOf 1 = .ok (.istore_n 2, 1) := by decide +kernel
theorem dX9_heightOf_2 : decode cX9_heightOf 2 = .ok (.iconst 0, 1) := by decide +kernel
theorem dX9_heightOf_3 : decode cX9_heightOf 3 = .ok (.istore_n 3, 1) := by decide +kernel
theorem dX9_heightOf_4 : decode cX9_heightOf 4 = .ok (.iload_n 3, 1) := by decide +kernel
theorem dX9_heightOf_5 : decode cX9_heightOf 5 = .ok (.aload_n 0, 1) := by decide +kernel
theorem dX9_heightOf_6 : decode cX9_heightOf 6 = .ok (.getfield 32, 3) := by decide +kernel
theorem dX9_heightOf_9 : decode cX9_heightOf 9 = .ok (.iload_n 1, 1) := by decide +kernel
theorem dX9_heightOf_10 : decode cX9_heightOf 10 = .ok (.iaload, 1) := by decide +kernel
theorem dX9_heightOf_11 : decode cX9_heightOf 11 = .ok (.if_icmp .ge 45, 3) := by decide +kernel
theorem dX9_heightOf_14 : decode cX9_heightOf 14 = .ok (.aload_n 0, 1) := by decide +kernel
theorem dX9_heightOf_15 : decode cX9_heightOf 15 = .ok (.getfield 35, 3) := by decide +kernel
theorem dX9_heightOf_18 : decode cX9_heightOf 18 = .ok (.bipush 72, 2) := by decide +kernel
theorem dX9_heightOf_20 : decode cX9_heightOf 20 = .ok (.iload_n 1, 1) := by decide +kernel
theorem dX9_heightOf_21 : decode cX9_heightOf 21 = .ok (.imul, 1) := by decide +kernel
theorem dX9_heightOf_22 : decode cX9_heightOf 22 = .ok (.iload_n 3, 1) := by decide +kernel
theorem dX9_heightOf_23 : decode cX9_heightOf 23 = .ok (.iadd, 1) := by decide +kernel
theorem dX9_heightOf_24 : decode cX9_heightOf 24 = .ok (.iaload, 1) := by decide +kernel
theorem dX9_heightOf_25 : decode cX9_heightOf 25 = .ok (.istore 4, 2) := by decide +kernel
theorem dX9_heightOf_27 : decode cX9_heightOf 27 = .ok (.aload_n 0, 1) := by decide +kernel
theorem dX9_heightOf_28 : decode cX9_heightOf 28 = .ok (.getfield 29, 3) := by decide +kernel
theorem dX9_heightOf_31 : decode cX9_heightOf 31 = .ok (.iload 4, 2) := by decide +kernel
theorem dX9_heightOf_33 : decode cX9_heightOf 33 = .ok (.iaload, 1) := by decide +kernel
theorem dX9_heightOf_34 : decode cX9_heightOf 34 = .ok (.iload_n 2, 1) := by decide +kernel
theorem dX9_heightOf_35 : decode cX9_heightOf 35 = .ok (.if_icmp .le 13, 3) := by decide +kernel
theorem dX9_heightOf_38 : decode cX9_heightOf 38 = .ok (.aload_n 0, 1) := by decide +kernel
theorem dX9_heightOf_39 : decode cX9_heightOf 39 = .ok (.getfield 29, 3) := by decide +kernel
theorem dX9_heightOf_42 : decode cX9_heightOf 42 = .ok (.iload 4, 2) := by decide +kernel
theorem dX9_heightOf_44 : decode cX9_heightOf 44 = .ok (.iaload, 1) := by decide +kernel
theorem dX9_heightOf_45 : decode cX9_heightOf 45 = .ok (.goto 4, 3) := by decide +kernel
theorem dX9_heightOf_48 : decode cX9_heightOf 48 = .ok (.iload_n 2, 1) := by decide +kernel
theorem dX9_heightOf_49 : decode cX9_heightOf 49 = .ok (.istore_n 2, 1) := by decide +kernel
theorem dX9_heightOf_50 : decode cX9_heightOf 50 = .ok (.iinc 3 1, 3) := by decide +kernel
theorem dX9_heightOf_53 : decode cX9_heightOf 53 = .ok (.goto (-49), 3) := by decide +kernel
theorem dX9_heightOf_56 : decode cX9_heightOf 56 = .ok (.iload_n 2, 1) := by decide +kernel
theorem dX9_heightOf_57 : decode cX9_heightOf 57 = .ok (.iconst 1, 1) := by decide +kernel
theorem dX9_heightOf_58 : decode cX9_heightOf 58 = .ok (.iadd, 1) := by decide +kernel
theorem dX9_heightOf_59 : decode cX9_heightOf 59 = .ok (.ireturn, 1) := by decide +kernel
theorem dX9_passes_0 : decode cX9_passes 0 = .ok (.iconst 0, 1) := by decide +kernel
theorem dX9_passes_1 : decode cX9_passes 1 = .ok (.istore_n 1, 1) := by decide +kernel
theorem dX9_passes_2 : decode cX9_passes 2 = .ok (.iload_n 1, 1) := by decide +kernel
theorem dX9_passes_3 : decode cX9_passes 3 = .ok (.bipush 72, 2) := by decide +kernel
theorem dX9_passes_5 : decode cX9_passes 5 = .ok (.if_icmp .ge 55, 3) := by decide +kernel
theorem dX9_passes_8 : decode cX9_passes 8 = .ok (.aload_n 0, 1) := by decide +kernel
theorem dX9_passes_9 : decode cX9_passes 9 = .ok (.getfield 56, 3) := by decide +kernel
theorem dX9_passes_12 : decode cX9_passes 12 = .ok (.iload_n 1, 1) := by decide +kernel
theorem dX9_passes_13 : decode cX9_passes 13 = .ok (.aload_n 0, 1) := by decide +kernel
theorem dX9_passes_14 : decode cX9_passes 14 = .ok (.iload_n 1, 1) := by decide +kernel
theorem dX9_passes_15 : decode cX9_passes 15 = .ok (.invokevirtual 281, 3) := by decide +kernel
theorem dX9_passes_18 : decode cX9_passes 18 = .ok (.bastore, 1) := by decide +kernel
theorem dX9_passes_19 : decode cX9_passes 19 = .ok (.aload_n 0, 1) := by decide +kernel
theorem dX9_passes_20 : decode cX9_passes 20 = .ok (.getfield 25, 3) := by decide +kernel
theorem dX9_passes_23 : decode cX9_passes 23 = .ok (.iload_n 1, 1) := by decide +kernel
theorem dX9_passes_24 : decode cX9_passes 24 = .ok (.iconst 0, 1) := by decide +kernel
theorem dX9_passes_25 : decode cX9_passes 25 = .ok (.bastore, 1) := by decide +kernel
theorem dX9_passes_26 : decode cX9_passes 26 = .ok (.aload_n 0, 1) := by decide +kernel
theorem dX9_passes_27 : decode cX9_passes 27 = .ok (.getfield 19, 3) := by decide +kernel
theorem dX9_passes_30 : decode cX9_passes 30 = .ok (.iload_n 1, 1) := by decide +kernel
theorem dX9_passes_31 : decode cX9_passes 31 = .ok (.iconst 0, 1) := by decide +kernel
theorem dX9_passes_32 : decode cX9_passes 32 = .ok (.iastore, 1) := by decide +kernel
theorem dX9_passes_33 : decode cX9_passes 33 = .ok (.aload_n 0, 1) := by decide +kernel
theorem dX9_passes_34 : decode cX9_passes 34 = .ok (.getfield 22, 3) := by decide +kernel
theorem dX9_passes_37 : decode cX9_passes 37 = .ok (.iload_n 1, 1) := by decide +kernel
theorem dX9_passes_38 : decode cX9_passes 38 = .ok (.iconst 0, 1) := by decide +kernel
theorem dX9_passes_39 : decode cX9_passes 39 = .ok (.iastore, 1) := by decide +kernel
theorem dX9_passes_40 : decode cX9_passes 40 = .ok (.aload_n 0, 1) := by decide +kernel
theorem dX9_passes_41 : decode cX9_passes 41 = .ok (.getfield 29, 3) := by decide +kernel
theorem dX9_passes_44 : decode cX9_passes 44 = .ok (.iload_n 1, 1) := by decide +kernel
theorem dX9_passes_45 : decode cX9_passes 45 = .ok (.iconst 0, 1) := by decide +kernel
theorem dX9_passes_46 : decode cX9_passes 46 = .ok (.iastore, 1) := by decide +kernel
theorem dX9_passes_47 : decode cX9_passes 47 = .ok (.aload_n 0, 1) := by decide +kernel
theorem dX9_passes_48 : decode cX9_passes 48 = .ok (.getfield 32, 3) := by decide +kernel
theorem dX9_passes_51 : decode cX9_passes 51 = .ok (.iload_n 1, 1) := by decide +kernel
theorem dX9_passes_52 : decode cX9_passes 52 = .ok (.iconst 0, 1) := by decide +kernel
theorem dX9_passes_53 : decode cX9_passes 53 = .ok (.iastore, 1) := by decide +kernel
theorem dX9_passes_54 : decode cX9_passes 54 = .ok (.iinc 1 1, 3) := by decide +kernel
theorem dX9_passes_57 : decode cX9_passes 57 = .ok (.goto (-55), 3) := by decide +kernel
theorem dX9_passes_60 : decode cX9_passes 60 = .ok (.iconst 1, 1) := by decide +kernel
theorem dX9_passes_61 : decode cX9_passes 61 = .ok (.istore_n 1, 1) := by decide +kernel
theorem dX9_passes_62 : decode cX9_passes 62 = .ok (.iload_n 1, 1) := by decide +kernel
theorem dX9_passes_63 : decode cX9_passes 63 = .ok (.ifCond .eq 68, 3) := by decide +kernel
theorem dX9_passes_66 : decode cX9_passes 66 = .ok (.iconst 0, 1) := by decide +kernel
theorem dX9_passes_67 : decode cX9_passes 67 = .ok (.istore_n 1, 1) := by decide +kernel
theorem dX9_passes_68 : decode cX9_passes 68 = .ok (.iconst 0, 1) := by decide +kernel
theorem dX9_passes_69 : decode cX9_passes 69 = .ok (.istore_n 2, 1) := by decide +kernel
theorem dX9_passes_70 : decode cX9_passes 70 = .ok (.iload_n 2, 1) := by decide +kernel
theorem dX9_passes_71 : decode cX9_passes 71 = .ok (.bipush 72, 2) := by decide +kernel
theorem dX9_passes_73 : decode cX9_passes 73 = .ok (.if_icmp .ge 55, 3) := by decide +kernel
theorem dX9_passes_76 : decode cX9_passes 76 = .ok (.aload_n 0, 1) := by decide +kernel
theorem dX9_passes_77 : decode cX9_passes 77 = .ok (.getfield 56, 3) := by decide +kernel
theorem dX9_passes_80 : decode cX9_passes 80 = .ok (.iload_n 2, 1) := by decide +kernel
theorem dX9_passes_81 : decode cX9_passes 81 = .ok (.baload, 1) := by decide +kernel
theorem dX9_passes_82 : decode cX9_passes 82 = .ok (.ifCond .ne 40, 3) := by decide +kernel
theorem dX9_passes_85 : decode cX9_passes 85 = .ok (.aload_n 0, 1) := by decide +kernel
theorem dX9_passes_86 : decode cX9_passes 86 = .ok (.iload_n 2, 1) := by decide +kernel
theorem dX9_passes_87 : decode cX9_passes 87 = .ok (.invokevirtual 348, 3) := by decide +kernel
theorem dX9_passes_90 : decode cX9_passes 90 = .ok (.aload_n 0, 1) := by decide +kernel
theorem dX9_passes_91 : decode cX9_passes 91 = .ok (.getfield 252, 3) := by decide +kernel
theorem dX9_passes_94 : decode cX9_passes 94 = .ok (.ifCond .ne 28, 3) := by decide +kernel
theorem dX9_passes_97 : decode cX9_passes 97 = .ok (.aload_n 0, 1) := by decide +kernel
theorem dX9_passes_98 : decode cX9_passes 98 = .ok (.iload_n 2, 1) := by decide +kernel
theorem dX9_passes_99 : decode cX9_passes 99 = .ok (.invokevirtual 351, 3) := by decide +kernel
theorem dX9_passes_102 : decode cX9_passes 102 = .ok (.aload_n 0, 1) := by decide +kernel
theorem dX9_passes_103 : decode cX9_passes 103 = .ok (.getfield 29, 3) := by decide +kernel
theorem dX9_passes_106 : decode cX9_passes 106 = .ok (.iload_n 2, 1) := by decide +kernel
theorem dX9_passes_107 : decode cX9_passes 107 = .ok (.aload_n 0, 1) := by decide +kernel
theorem dX9_passes_108 : decode cX9_passes 108 = .ok (.iload_n 2, 1) := by decide +kernel
theorem dX9_passes_109 : decode cX9_passes 109 = .ok (.invokevirtual 354, 3) := by decide +kernel
theorem dX9_passes_112 : decode cX9_passes 112 = .ok (.iastore, 1) := by decide +kernel
theorem dX9_passes_113 : decode cX9_passes 113 = .ok (.aload_n 0, 1) := by decide +kernel
theorem dX9_passes_114 : decode cX9_passes 114 = .ok (.getfield 56, 3) := by decide +kernel
theorem dX9_passes_117 : decode cX9_passes 117 = .ok (.iload_n 2, 1) := by decide +kernel
theorem dX9_passes_118 : decode cX9_passes 118 = .ok (.iconst 1, 1) := by decide +kernel
theorem dX9_passes_119 : decode cX9_passes 119 = .ok (.bastore, 1) := by decide +kernel
theorem dX9_passes_120 : decode cX9_passes 120 = .ok (.iconst 1, 1) := by decide +kernel
theorem dX9_passes_121 : decode cX9_passes 121 = .ok (.istore_n 1, 1) := by decide +kernel
theorem dX9_passes_122 : decode cX9_passes 122 = .ok (.iinc 2 1, 3) := by decide +kernel
theorem dX9_passes_125 : decode cX9_passes 125 = .ok (.goto (-55), 3) := by decide +kernel
theorem dX9_passes_128 : decode cX9_passes 128 = .ok (.goto (-66), 3) := by decide +kernel
theorem dX9_passes_131 : decode cX9_passes 131 = .ok (.return_, 1) := by decide +kernel
theorem dX9_cyclic_0 : decode cX9_cyclic 0 = .ok (.iconst 0, 1) := by decide +kernel
theorem dX9_cyclic_1 : decode cX9_cyclic 1 = .ok (.istore_n 1, 1) := by decide +kernel
theorem dX9_cyclic_2 : decode cX9_cyclic 2 = .ok (.iconst 0, 1) := by decide +kernel
theorem dX9_cyclic_3 : decode cX9_cyclic 3 = .ok (.istore_n 2, 1) := by decide +kernel
theorem dX9_cyclic_4 : decode cX9_cyclic 4 = .ok (.iload_n 2, 1) := by decide +kernel
theorem dX9_cyclic_5 : decode cX9_cyclic 5 = .ok (.bipush 72, 2) := by decide +kernel
theorem dX9_cyclic_7 : decode cX9_cyclic 7 = .ok (.if_icmp .ge 26, 3) := by decide +kernel
theorem dX9_cyclic_10 : decode cX9_cyclic 10 = .ok (.iload_n 1, 1) := by decide +kernel
theorem dX9_cyclic_11 : decode cX9_cyclic 11 = .ok (.aload_n 0, 1) := by decide +kernel
theorem dX9_cyclic_12 : decode cX9_cyclic 12 = .ok (.getfield 25, 3) := by decide +kernel
theorem dX9_cyclic_15 : decode cX9_cyclic 15 = .ok (.iload_n 2, 1) := by decide +kernel
theorem dX9_cyclic_16 : decode cX9_cyclic 16 = .ok (.baload, 1) := by decide +kernel
theorem dX9_cyclic_17 : decode cX9_cyclic 17 = .ok (.ifCond .eq 7, 3) := by decide +kernel
theorem dX9_cyclic_20 : decode cX9_cyclic 20 = .ok (.iconst 1, 1) := by decide +kernel
theorem dX9_cyclic_21 : decode cX9_cyclic 21 = .ok (.goto 4, 3) := by decide +kernel
theorem dX9_cyclic_24 : decode cX9_cyclic 24 = .ok (.iconst 0, 1) := by decide +kernel
theorem dX9_cyclic_25 : decode cX9_cyclic 25 = .ok (.iadd, 1) := by decide +kernel
theorem dX9_cyclic_26 : decode cX9_cyclic 26 = .ok (.istore_n 1, 1) := by decide +kernel
theorem dX9_cyclic_27 : decode cX9_cyclic 27 = .ok (.iinc 2 1, 3) := by decide +kernel
theorem dX9_cyclic_30 : decode cX9_cyclic 30 = .ok (.goto (-26), 3) := by decide +kernel
theorem dX9_cyclic_33 : decode cX9_cyclic 33 = .ok (.iload_n 1, 1) := by decide +kernel
theorem dX9_cyclic_34 : decode cX9_cyclic 34 = .ok (.ireturn, 1) := by decide +kernel
theorem dX9_round_0 : decode cX9_round 0 = .ok (.iconst 0, 1) := by decide +kernel
theorem dX9_round_1 : decode cX9_round 1 = .ok (.istore_n 1, 1) := by decide +kernel
theorem dX9_round_2 : decode cX9_round 2 = .ok (.iconst 0, 1) := by decide +kernel
theorem dX9_round_3 : decode cX9_round 3 = .ok (.istore_n 2, 1) := by decide +kernel
theorem dX9_round_4 : decode cX9_round 4 = .ok (.iload_n 2, 1) := by decide +kernel
theorem dX9_round_5 : decode cX9_round 5 = .ok (.bipush 72, 2) := by decide +kernel
theorem dX9_round_7 : decode cX9_round 7 = .ok (.if_icmp .ge 74, 3) := by decide +kernel
theorem dX9_round_10 : decode cX9_round 10 = .ok (.aload_n 0, 1) := by decide +kernel
theorem dX9_round_11 : decode cX9_round 11 = .ok (.getfield 25, 3) := by decide +kernel
theorem dX9_round_14 : decode cX9_round 14 = .ok (.iload_n 2, 1) := by decide +kernel
theorem dX9_round_15 : decode cX9_round 15 = .ok (.baload, 1) := by decide +kernel
theorem dX9_round_16 : decode cX9_round 16 = .ok (.ifCond .eq 59, 3) := by decide +kernel
theorem dX9_round_19 : decode cX9_round 19 = .ok (.aload_n 0, 1) := by decide +kernel
theorem dX9_round_20 : decode cX9_round 20 = .ok (.getfield 19, 3) := by decide +kernel
theorem dX9_round_23 : decode cX9_round 23 = .ok (.iload_n 2, 1) := by decide +kernel
theorem dX9_round_24 : decode cX9_round 24 = .ok (.iaload, 1) := by decide +kernel
theorem dX9_round_25 : decode cX9_round 25 = .ok (.istore_n 3, 1) := by decide +kernel
theorem dX9_round_26 : decode cX9_round 26 = .ok (.aload_n 0, 1) := by decide +kernel
theorem dX9_round_27 : decode cX9_round 27 = .ok (.getfield 22, 3) := by decide +kernel
theorem dX9_round_30 : decode cX9_round 30 = .ok (.iload_n 2, 1) := by decide +kernel
theorem dX9_round_31 : decode cX9_round 31 = .ok (.iaload, 1) := by decide +kernel
theorem dX9_round_32 : decode cX9_round 32 = .ok (.istore 4, 2) := by decide +kernel
theorem dX9_round_34 : decode cX9_round 34 = .ok (.aload_n 0, 1) := by decide +kernel
theorem dX9_round_35 : decode cX9_round 35 = .ok (.iload_n 2, 1) := by decide +kernel
theorem dX9_round_36 : decode cX9_round 36 = .ok (.invokevirtual 348, 3) := by decide +kernel
theorem dX9_round_39 : decode cX9_round 39 = .ok (.aload_n 0, 1) := by decide +kernel
theorem dX9_round_40 : decode cX9_round 40 = .ok (.iload_n 2, 1) := by decide +kernel
theorem dX9_round_41 : decode cX9_round 41 = .ok (.invokevirtual 351, 3) := by decide +kernel
theorem dX9_round_44 : decode cX9_round 44 = .ok (.iload_n 1, 1) := by decide +kernel
theorem dX9_round_45 : decode cX9_round 45 = .ok (.ifCond .ne 24, 3) := by decide +kernel
theorem dX9_round_48 : decode cX9_round 48 = .ok (.aload_n 0, 1) := by decide +kernel
theorem dX9_round_49 : decode cX9_round 49 = .ok (.getfield 19, 3) := by decide +kernel
theorem dX9_round_52 : decode cX9_round 52 = .ok (.iload_n 2, 1) := by decide +kernel
theorem dX9_round_53 : decode cX9_round 53 = .ok (.iaload, 1) := by decide +kernel
theorem dX9_round_54 : decode cX9_round 54 = .ok (.iload_n 3, 1) := by decide +kernel
theorem dX9_round_55 : decode cX9_round 55 = .ok (.if_icmp .ne 14, 3) := by decide +kernel
theorem dX9_round_58 : decode cX9_round 58 = .ok (.aload_n 0, 1) := by decide +kernel
theorem dX9_round_59 : decode cX9_round 59 = .ok (.getfield 22, 3) := by decide +kernel
theorem dX9_round_62 : decode cX9_round 62 = .ok (.iload_n 2, 1) := by decide +kernel
theorem dX9_round_63 : decode cX9_round 63 = .ok (.iaload, 1) := by decide +kernel
theorem dX9_round_64 : decode cX9_round 64 = .ok (.iload 4, 2) := by decide +kernel
theorem dX9_round_66 : decode cX9_round 66 = .ok (.if_icmp .eq 7, 3) := by decide +kernel
theorem dX9_round_69 : decode cX9_round 69 = .ok (.iconst 1, 1) := by decide +kernel
theorem dX9_round_70 : decode cX9_round 70 = .ok (.goto 4, 3) := by decide +kernel
theorem dX9_round_73 : decode cX9_round 73 = .ok (.iconst 0, 1) := by decide +kernel
theorem dX9_round_74 : decode cX9_round 74 = .ok (.istore_n 1, 1) := by decide +kernel
theorem dX9_round_75 : decode cX9_round 75 = .ok (.iinc 2 1, 3) := by decide +kernel
theorem dX9_round_78 : decode cX9_round 78 = .ok (.goto (-74), 3) := by decide +kernel
theorem dX9_round_81 : decode cX9_round 81 = .ok (.iload_n 1, 1) := by decide +kernel
theorem dX9_round_82 : decode cX9_round 82 = .ok (.ireturn, 1) := by decide +kernel
theorem dX9_settles_0 : decode cX9_settles 0 = .ok (.aload_n 0, 1) := by decide +kernel
theorem dX9_settles_1 : decode cX9_settles 1 = .ok (.invokevirtual 357, 3) := by decide +kernel
theorem dX9_settles_4 : decode cX9_settles 4 = .ok (.iconst 0, 1) := by decide +kernel
theorem dX9_settles_5 : decode cX9_settles 5 = .ok (.istore_n 1, 1) := by decide +kernel
theorem dX9_settles_6 : decode cX9_settles 6 = .ok (.iload_n 1, 1) := by decide +kernel
theorem dX9_settles_7 : decode cX9_settles 7 = .ok (.bipush 72, 2) := by decide +kernel
theorem dX9_settles_9 : decode cX9_settles 9 = .ok (.if_icmp .ge 65, 3) := by decide +kernel
theorem dX9_settles_12 : decode cX9_settles 12 = .ok (.aload_n 0, 1) := by decide +kernel
theorem dX9_settles_13 : decode cX9_settles 13 = .ok (.getfield 25, 3) := by decide +kernel
theorem dX9_settles_16 : decode cX9_settles 16 = .ok (.iload_n 1, 1) := by decide +kernel
theorem dX9_settles_17 : decode cX9_settles 17 = .ok (.aload_n 0, 1) := by decide +kernel
theorem dX9_settles_18 : decode cX9_settles 18 = .ok (.getfield 56, 3) := by decide +kernel
theorem dX9_settles_21 : decode cX9_settles 21 = .ok (.iload_n 1, 1) := by decide +kernel
theorem dX9_settles_22 : decode cX9_settles 22 = .ok (.baload, 1) := by decide +kernel
theorem dX9_settles_23 : decode cX9_settles 23 = .ok (.ifCond .ne 7, 3) := by decide +kernel
theorem dX9_settles_26 : decode cX9_settles 26 = .ok (.iconst 1, 1) := by decide +kernel
theorem dX9_settles_27 : decode cX9_settles 27 = .ok (.goto 4, 3) := by decide +kernel
theorem dX9_settles_30 : decode cX9_settles 30 = .ok (.iconst 0, 1) := by decide +kernel
theorem dX9_settles_31 : decode cX9_settles 31 = .ok (.bastore, 1) := by decide +kernel
theorem dX9_settles_32 : decode cX9_settles 32 = .ok (.aload_n 0, 1) := by decide +kernel
theorem dX9_settles_33 : decode cX9_settles 33 = .ok (.getfield 22, 3) := by decide +kernel
theorem dX9_settles_36 : decode cX9_settles 36 = .ok (.iload_n 1, 1) := by decide +kernel
theorem dX9_settles_37 : decode cX9_settles 37 = .ok (.aload_n 0, 1) := by decide +kernel
theorem dX9_settles_38 : decode cX9_settles 38 = .ok (.getfield 25, 3) := by decide +kernel
theorem dX9_settles_41 : decode cX9_settles 41 = .ok (.iload_n 1, 1) := by decide +kernel
theorem dX9_settles_42 : decode cX9_settles 42 = .ok (.baload, 1) := by decide +kernel
theorem dX9_settles_43 : decode cX9_settles 43 = .ok (.ifCond .eq 18, 3) := by decide +kernel
theorem dX9_settles_46 : decode cX9_settles 46 = .ok (.aload_n 0, 1) := by decide +kernel
theorem dX9_settles_47 : decode cX9_settles 47 = .ok (.getfield 7, 3) := by decide +kernel
theorem dX9_settles_50 : decode cX9_settles 50 = .ok (.sipush 2520, 3) := by decide +kernel
theorem dX9_settles_53 : decode cX9_settles 53 = .ok (.iaload, 1) := by decide +kernel
theorem dX9_settles_54 : decode cX9_settles 54 = .ok (.ifCond .ne 7, 3) := by decide +kernel
theorem dX9_settles_57 : decode cX9_settles 57 = .ok (.iconst 4, 1) := by decide +kernel
theorem dX9_settles_58 : decode cX9_settles 58 = .ok (.goto 9, 3) := by decide +kernel
theorem dX9_settles_61 : decode cX9_settles 61 = .ok (.aload_n 0, 1) := by decide +kernel
theorem dX9_settles_62 : decode cX9_settles 62 = .ok (.getfield 22, 3) := by decide +kernel
theorem dX9_settles_65 : decode cX9_settles 65 = .ok (.iload_n 1, 1) := by decide +kernel
theorem dX9_settles_66 : decode cX9_settles 66 = .ok (.iaload, 1) := by decide +kernel
theorem dX9_settles_67 : decode cX9_settles 67 = .ok (.iastore, 1) := by decide +kernel
theorem dX9_settles_68 : decode cX9_settles 68 = .ok (.iinc 1 1, 3) := by decide +kernel
theorem dX9_settles_71 : decode cX9_settles 71 = .ok (.goto (-65), 3) := by decide +kernel
theorem dX9_settles_74 : decode cX9_settles 74 = .ok (.iconst 0, 1) := by decide +kernel
theorem dX9_settles_75 : decode cX9_settles 75 = .ok (.istore_n 1, 1) := by decide +kernel
theorem dX9_settles_76 : decode cX9_settles 76 = .ok (.iload_n 1, 1) := by decide +kernel
theorem dX9_settles_77 : decode cX9_settles 77 = .ok (.bipush 72, 2) := by decide +kernel
theorem dX9_settles_79 : decode cX9_settles 79 = .ok (.if_icmp .ge 16, 3) := by decide +kernel
theorem dX9_settles_82 : decode cX9_settles 82 = .ok (.aload_n 0, 1) := by decide +kernel
theorem dX9_settles_83 : decode cX9_settles 83 = .ok (.getfield 56, 3) := by decide +kernel
theorem dX9_settles_86 : decode cX9_settles 86 = .ok (.iload_n 1, 1) := by decide +kernel
theorem dX9_settles_87 : decode cX9_settles 87 = .ok (.iconst 1, 1) := by decide +kernel
theorem dX9_settles_88 : decode cX9_settles 88 = .ok (.bastore, 1) := by decide +kernel
theorem dX9_settles_89 : decode cX9_settles 89 = .ok (.iinc 1 1, 3) := by decide +kernel
theorem dX9_settles_92 : decode cX9_settles 92 = .ok (.goto (-16), 3) := by decide +kernel
theorem dX9_settles_95 : decode cX9_settles 95 = .ok (.aload_n 0, 1) := by decide +kernel
theorem dX9_settles_96 : decode cX9_settles 96 = .ok (.iconst 0, 1) := by decide +kernel
theorem dX9_settles_97 : decode cX9_settles 97 = .ok (.putfield 360, 3) := by decide +kernel
theorem dX9_settles_100 : decode cX9_settles 100 = .ok (.aload_n 0, 1) := by decide +kernel
theorem dX9_settles_101 : decode cX9_settles 101 = .ok (.aload_n 0, 1) := by decide +kernel
theorem dX9_settles_102 : decode cX9_settles 102 = .ok (.invokevirtual 363, 3) := by decide +kernel
theorem dX9_settles_105 : decode cX9_settles 105 = .ok (.ifCond .ne 7, 3) := by decide +kernel
theorem dX9_settles_108 : decode cX9_settles 108 = .ok (.iconst 1, 1) := by decide +kernel
theorem dX9_settles_109 : decode cX9_settles 109 = .ok (.goto 4, 3) := by decide +kernel
theorem dX9_settles_112 : decode cX9_settles 112 = .ok (.iconst 0, 1) := by decide +kernel
theorem dX9_settles_113 : decode cX9_settles 113 = .ok (.putfield 62, 3) := by decide +kernel
theorem dX9_settles_116 : decode cX9_settles 116 = .ok (.aload_n 0, 1) := by decide +kernel
theorem dX9_settles_117 : decode cX9_settles 117 = .ok (.invokevirtual 363, 3) := by decide +kernel
theorem dX9_settles_120 : decode cX9_settles 120 = .ok (.ifCond .le 7, 3) := by decide +kernel
theorem dX9_settles_123 : decode cX9_settles 123 = .ok (.iconst 1, 1) := by decide +kernel
theorem dX9_settles_124 : decode cX9_settles 124 = .ok (.goto 4, 3) := by decide +kernel
theorem dX9_settles_127 : decode cX9_settles 127 = .ok (.iconst 0, 1) := by decide +kernel
theorem dX9_settles_128 : decode cX9_settles 128 = .ok (.istore_n 1, 1) := by decide +kernel
theorem dX9_settles_129 : decode cX9_settles 129 = .ok (.aload_n 0, 1) := by decide +kernel
theorem dX9_settles_130 : decode cX9_settles 130 = .ok (.getfield 7, 3) := by decide +kernel
theorem dX9_settles_133 : decode cX9_settles 133 = .ok (.sipush 2520, 3) := by decide +kernel
theorem dX9_settles_136 : decode cX9_settles 136 = .ok (.iaload, 1) := by decide +kernel
theorem dX9_settles_137 : decode cX9_settles 137 = .ok (.ifCond .ne 22, 3) := by decide +kernel
theorem dX9_settles_140 : decode cX9_settles 140 = .ok (.iload_n 1, 1) := by decide +kernel
theorem dX9_settles_141 : decode cX9_settles 141 = .ok (.ifCond .eq 14, 3) := by decide +kernel
theorem dX9_settles_144 : decode cX9_settles 144 = .ok (.aload_n 0, 1) := by decide +kernel
theorem dX9_settles_145 : decode cX9_settles 145 = .ok (.invokevirtual 366, 3) := by decide +kernel
theorem dX9_settles_148 : decode cX9_settles 148 = .ok (.ifCond .eq 7, 3) := by decide +kernel
theorem dX9_settles_151 : decode cX9_settles 151 = .ok (.iconst 1, 1) := by decide +kernel
theorem dX9_settles_152 : decode cX9_settles 152 = .ok (.goto 4, 3) := by decide +kernel
theorem dX9_settles_155 : decode cX9_settles 155 = .ok (.iconst 0, 1) := by decide +kernel
theorem dX9_settles_156 : decode cX9_settles 156 = .ok (.istore_n 1, 1) := by decide +kernel
theorem dX9_settles_157 : decode cX9_settles 157 = .ok (.iconst 0, 1) := by decide +kernel
theorem dX9_settles_158 : decode cX9_settles 158 = .ok (.istore_n 1, 1) := by decide +kernel
theorem dX9_settles_159 : decode cX9_settles 159 = .ok (.iload_n 1, 1) := by decide +kernel
theorem dX9_settles_160 : decode cX9_settles 160 = .ok (.ifCond .eq 49, 3) := by decide +kernel
theorem dX9_settles_163 : decode cX9_settles 163 = .ok (.aload_n 0, 1) := by decide +kernel
theorem dX9_settles_164 : decode cX9_settles 164 = .ok (.getfield 360, 3) := by decide +kernel
theorem dX9_settles_167 : decode cX9_settles 167 = .ok (.aload_n 0, 1) := by decide +kernel
theorem dX9_settles_168 : decode cX9_settles 168 = .ok (.getfield 7, 3) := by decide +kernel
theorem dX9_settles_171 : decode cX9_settles 171 = .ok (.sipush 2520, 3) := by decide +kernel
theorem dX9_settles_174 : decode cX9_settles 174 = .ok (.iaload, 1) := by decide +kernel
theorem dX9_settles_175 : decode cX9_settles 175 = .ok (.if_icmp .ge 34, 3) := by decide +kernel
theorem dX9_settles_178 : decode cX9_settles 178 = .ok (.aload_n 0, 1) := by decide +kernel
theorem dX9_settles_179 : decode cX9_settles 179 = .ok (.invokevirtual 366, 3) := by decide +kernel
theorem dX9_settles_182 : decode cX9_settles 182 = .ok (.istore_n 1, 1) := by decide +kernel
theorem dX9_settles_183 : decode cX9_settles 183 = .ok (.aload_n 0, 1) := by decide +kernel
theorem dX9_settles_184 : decode cX9_settles 184 = .ok (.dup, 1) := by decide +kernel
theorem dX9_settles_185 : decode cX9_settles 185 = .ok (.getfield 360, 3) := by decide +kernel
theorem dX9_settles_188 : decode cX9_settles 188 = .ok (.iconst 1, 1) := by decide +kernel
theorem dX9_settles_189 : decode cX9_settles 189 = .ok (.iadd, 1) := by decide +kernel
theorem dX9_settles_190 : decode cX9_settles 190 = .ok (.putfield 360, 3) := by decide +kernel
theorem dX9_settles_193 : decode cX9_settles 193 = .ok (.aload_n 0, 1) := by decide +kernel
theorem dX9_settles_194 : decode cX9_settles 194 = .ok (.iload_n 1, 1) := by decide +kernel
theorem dX9_settles_195 : decode cX9_settles 195 = .ok (.ifCond .ne 7, 3) := by decide +kernel
theorem dX9_settles_198 : decode cX9_settles 198 = .ok (.iconst 1, 1) := by decide +kernel
theorem dX9_settles_199 : decode cX9_settles 199 = .ok (.goto 4, 3) := by decide +kernel
theorem dX9_settles_202 : decode cX9_settles 202 = .ok (.iconst 0, 1) := by decide +kernel
theorem dX9_settles_203 : decode cX9_settles 203 = .ok (.putfield 62, 3) := by decide +kernel
theorem dX9_settles_206 : decode cX9_settles 206 = .ok (.goto (-47), 3) := by decide +kernel
theorem dX9_settles_209 : decode cX9_settles 209 = .ok (.return_, 1) := by decide +kernel
theorem dX9_remembers_0 : decode cX9_remembers 0 = .ok (.iconst 0, 1) := by decide +kernel
theorem dX9_remembers_1 : decode cX9_remembers 1 = .ok (.istore_n 1, 1) := by decide +kernel
theorem dX9_remembers_2 : decode cX9_remembers 2 = .ok (.iload_n 1, 1) := by decide +kernel
theorem dX9_remembers_3 : decode cX9_remembers 3 = .ok (.bipush 72, 2) := by decide +kernel
theorem dX9_remembers_5 : decode cX9_remembers 5 = .ok (.if_icmp .ge 75, 3) := by decide +kernel
theorem dX9_remembers_8 : decode cX9_remembers 8 = .ok (.aload_n 0, 1) := by decide +kernel
theorem dX9_remembers_9 : decode cX9_remembers 9 = .ok (.getfield 38, 3) := by decide +kernel
theorem dX9_remembers_12 : decode cX9_remembers 12 = .ok (.iload_n 1, 1) := by decide +kernel
theorem dX9_remembers_13 : decode cX9_remembers 13 = .ok (.aload_n 0, 1) := by decide +kernel
theorem dX9_remembers_14 : decode cX9_remembers 14 = .ok (.getfield 19, 3) := by decide +kernel
theorem dX9_remembers_17 : decode cX9_remembers 17 = .ok (.iload_n 1, 1) := by decide +kernel
theorem dX9_remembers_18 : decode cX9_remembers 18 = .ok (.iaload, 1) := by decide +kernel
theorem dX9_remembers_19 : decode cX9_remembers 19 = .ok (.iastore, 1) := by decide +kernel
theorem dX9_remembers_20 : decode cX9_remembers 20 = .ok (.aload_n 0, 1) := by decide +kernel
theorem dX9_remembers_21 : decode cX9_remembers 21 = .ok (.getfield 41, 3) := by decide +kernel
theorem dX9_remembers_24 : decode cX9_remembers 24 = .ok (.iload_n 1, 1) := by decide +kernel
theorem dX9_remembers_25 : decode cX9_remembers 25 = .ok (.aload_n 0, 1) := by decide +kernel
theorem dX9_remembers_26 : decode cX9_remembers 26 = .ok (.getfield 22, 3) := by decide +kernel
theorem dX9_remembers_29 : decode cX9_remembers 29 = .ok (.iload_n 1, 1) := by decide +kernel
theorem dX9_remembers_30 : decode cX9_remembers 30 = .ok (.iaload, 1) := by decide +kernel
theorem dX9_remembers_31 : decode cX9_remembers 31 = .ok (.iastore, 1) := by decide +kernel
theorem dX9_remembers_32 : decode cX9_remembers 32 = .ok (.aload_n 0, 1) := by decide +kernel
theorem dX9_remembers_33 : decode cX9_remembers 33 = .ok (.getfield 44, 3) := by decide +kernel
theorem dX9_remembers_36 : decode cX9_remembers 36 = .ok (.iload_n 1, 1) := by decide +kernel
theorem dX9_remembers_37 : decode cX9_remembers 37 = .ok (.aload_n 0, 1) := by decide +kernel
theorem dX9_remembers_38 : decode cX9_remembers 38 = .ok (.getfield 25, 3) := by decide +kernel
theorem dX9_remembers_41 : decode cX9_remembers 41 = .ok (.iload_n 1, 1) := by decide +kernel
theorem dX9_remembers_42 : decode cX9_remembers 42 = .ok (.baload, 1) := by decide +kernel
theorem dX9_remembers_43 : decode cX9_remembers 43 = .ok (.bastore, 1) := by decide +kernel
theorem dX9_remembers_44 : decode cX9_remembers 44 = .ok (.aload_n 0, 1) := by decide +kernel
theorem dX9_remembers_45 : decode cX9_remembers 45 = .ok (.getfield 47, 3) := by decide +kernel
theorem dX9_remembers_48 : decode cX9_remembers 48 = .ok (.iload_n 1, 1) := by decide +kernel
theorem dX9_remembers_49 : decode cX9_remembers 49 = .ok (.aload_n 0, 1) := by decide +kernel
theorem dX9_remembers_50 : decode cX9_remembers 50 = .ok (.iload_n 1, 1) := by decide +kernel
theorem dX9_remembers_51 : decode cX9_remembers 51 = .ok (.invokevirtual 281, 3) := by decide +kernel
theorem dX9_remembers_54 : decode cX9_remembers 54 = .ok (.bastore, 1) := by decide +kernel
theorem dX9_remembers_55 : decode cX9_remembers 55 = .ok (.aload_n 0, 1) := by decide +kernel
theorem dX9_remembers_56 : decode cX9_remembers 56 = .ok (.getfield 50, 3) := by decide +kernel
theorem dX9_remembers_59 : decode cX9_remembers 59 = .ok (.iload_n 1, 1) := by decide +kernel
theorem dX9_remembers_60 : decode cX9_remembers 60 = .ok (.aload_n 0, 1) := by decide +kernel
theorem dX9_remembers_61 : decode cX9_remembers 61 = .ok (.getfield 32, 3) := by decide +kernel
theorem dX9_remembers_64 : decode cX9_remembers 64 = .ok (.iload_n 1, 1) := by decide +kernel
theorem dX9_remembers_65 : decode cX9_remembers 65 = .ok (.iaload, 1) := by decide +kernel
theorem dX9_remembers_66 : decode cX9_remembers 66 = .ok (.iastore, 1) := by decide +kernel
theorem dX9_remembers_67 : decode cX9_remembers 67 = .ok (.aload_n 0, 1) := by decide +kernel
theorem dX9_remembers_68 : decode cX9_remembers 68 = .ok (.getfield 59, 3) := by decide +kernel
theorem dX9_remembers_71 : decode cX9_remembers 71 = .ok (.iload_n 1, 1) := by decide +kernel
theorem dX9_remembers_72 : decode cX9_remembers 72 = .ok (.iconst 0, 1) := by decide +kernel
theorem dX9_remembers_73 : decode cX9_remembers 73 = .ok (.bastore, 1) := by decide +kernel
theorem dX9_remembers_74 : decode cX9_remembers 74 = .ok (.iinc 1 1, 3) := by decide +kernel
theorem dX9_remembers_77 : decode cX9_remembers 77 = .ok (.goto (-75), 3) := by decide +kernel
theorem dX9_remembers_80 : decode cX9_remembers 80 = .ok (.iconst 0, 1) := by decide +kernel
theorem dX9_remembers_81 : decode cX9_remembers 81 = .ok (.istore_n 1, 1) := by decide +kernel
theorem dX9_remembers_82 : decode cX9_remembers 82 = .ok (.iload_n 1, 1) := by decide +kernel
theorem dX9_remembers_83 : decode cX9_remembers 83 = .ok (.sipush 5184, 3) := by decide +kernel
theorem dX9_remembers_86 : decode cX9_remembers 86 = .ok (.if_icmp .ge 21, 3) := by decide +kernel
theorem dX9_remembers_89 : decode cX9_remembers 89 = .ok (.aload_n 0, 1) := by decide +kernel
theorem dX9_remembers_90 : decode cX9_remembers 90 = .ok (.getfield 53, 3) := by decide +kernel
theorem dX9_remembers_93 : decode cX9_remembers 93 = .ok (.iload_n 1, 1) := by decide +kernel
theorem dX9_remembers_94 : decode cX9_remembers 94 = .ok (.aload_n 0, 1) := by decide +kernel
theorem dX9_remembers_95 : decode cX9_remembers 95 = .ok (.getfield 35, 3) := by decide +kernel
theorem dX9_remembers_98 : decode cX9_remembers 98 = .ok (.iload_n 1, 1) := by decide +kernel
theorem dX9_remembers_99 : decode cX9_remembers 99 = .ok (.iaload, 1) := by decide +kernel
theorem dX9_remembers_100 : decode cX9_remembers 100 = .ok (.iastore, 1) := by decide +kernel
theorem dX9_remembers_101 : decode cX9_remembers 101 = .ok (.iinc 1 1, 3) := by decide +kernel
theorem dX9_remembers_104 : decode cX9_remembers 104 = .ok (.goto (-22), 3) := by decide +kernel
theorem dX9_remembers_107 : decode cX9_remembers 107 = .ok (.return_, 1) := by decide +kernel
theorem dX9_changedRead_0 : decode cX9_changedRead 0 = .ok (.iconst 0, 1) := by decide +kernel
theorem dX9_changedRead_1 : decode cX9_changedRead 1 = .ok (.istore_n 2, 1) := by decide +kernel
theorem dX9_changedRead_2 : decode cX9_changedRead 2 = .ok (.iload_n 2, 1) := by decide +kernel
theorem dX9_changedRead_3 : decode cX9_changedRead 3 = .ok (.aload_n 0, 1) := by decide +kernel
theorem dX9_changedRead_4 : decode cX9_changedRead 4 = .ok (.getfield 50, 3) := by decide +kernel
theorem dX9_changedRead_7 : decode cX9_changedRead 7 = .ok (.iload_n 1, 1) := by decide +kernel
theorem dX9_changedRead_8 : decode cX9_changedRead 8 = .ok (.iaload, 1) := by decide +kernel
theorem dX9_changedRead_9 : decode cX9_changedRead 9 = .ok (.if_icmp .ge 45, 3) := by decide +kernel
theorem dX9_changedRead_12 : decode cX9_changedRead 12 = .ok (.aload_n 0, 1) := by decide +kernel
theorem dX9_changedRead_13 : decode cX9_changedRead 13 = .ok (.getfield 7, 3) := by decide +kernel
theorem dX9_changedRead_16 : decode cX9_changedRead 16 = .ok (.sipush 2376, 3) := by decide +kernel
theorem dX9_changedRead_19 : decode cX9_changedRead 19 = .ok (.aload_n 0, 1) := by decide +kernel
theorem dX9_changedRead_20 : decode cX9_changedRead 20 = .ok (.getfield 53, 3) := by decide +kernel
theorem dX9_changedRead_23 : decode cX9_changedRead 23 = .ok (.bipush 72, 2) := by decide +kernel
theorem dX9_changedRead_25 : decode cX9_changedRead 25 = .ok (.iload_n 1, 1) := by decide +kernel
theorem dX9_changedRead_26 : decode cX9_changedRead 26 = .ok (.imul, 1) := by decide +kernel
theorem dX9_changedRead_27 : decode cX9_changedRead 27 = .ok (.iload_n 2, 1) := by decide +kernel
theorem dX9_changedRead_28 : decode cX9_changedRead 28 = .ok (.iadd, 1) := by decide +kernel
theorem dX9_changedRead_29 : decode cX9_changedRead 29 = .ok (.iaload, 1) := by decide +kernel
theorem dX9_changedRead_30 : decode cX9_changedRead 30 = .ok (.iadd, 1) := by decide +kernel
theorem dX9_changedRead_31 : decode cX9_changedRead 31 = .ok (.iaload, 1) := by decide +kernel
theorem dX9_changedRead_32 : decode cX9_changedRead 32 = .ok (.iconst 1, 1) := by decide +kernel
theorem dX9_changedRead_33 : decode cX9_changedRead 33 = .ok (.if_icmp .ne 15, 3) := by decide +kernel
theorem dX9_changedRead_36 : decode cX9_changedRead 36 = .ok (.aload_n 0, 1) := by decide +kernel
theorem dX9_changedRead_37 : decode cX9_changedRead 37 = .ok (.getfield 53, 3) := by decide +kernel
theorem dX9_changedRead_40 : decode cX9_changedRead 40 = .ok (.bipush 72, 2) := by decide +kernel
theorem dX9_changedRead_42 : decode cX9_changedRead 42 = .ok (.iload_n 1, 1) := by decide +kernel
theorem dX9_changedRead_43 : decode cX9_changedRead 43 = .ok (.imul, 1) := by decide +kernel
theorem dX9_changedRead_44 : decode cX9_changedRead 44 = .ok (.iload_n 2, 1) := by decide +kernel
theorem dX9_changedRead_45 : decode cX9_changedRead 45 = .ok (.iadd, 1) := by decide +kernel
theorem dX9_changedRead_46 : decode cX9_changedRead 46 = .ok (.iaload, 1) := by decide +kernel
theorem dX9_changedRead_47 : decode cX9_changedRead 47 = .ok (.ireturn, 1) := by decide +kernel
theorem dX9_changedRead_48 : decode cX9_changedRead 48 = .ok (.iinc 2 1, 3) := by decide +kernel
theorem dX9_changedRead_51 : decode cX9_changedRead 51 = .ok (.goto (-49), 3) := by decide +kernel
theorem dX9_changedRead_54 : decode cX9_changedRead 54 = .ok (.iconst (-1), 1) := by decide +kernel
theorem dX9_changedRead_55 : decode cX9_changedRead 55 = .ok (.ireturn, 1) := by decide +kernel
theorem dX9_bringsUp_0 : decode cX9_bringsUp 0 = .ok (.aload_n 0, 1) := by decide +kernel
theorem dX9_bringsUp_1 : decode cX9_bringsUp 1 = .ok (.invokevirtual 369, 3) := by decide +kernel
theorem dX9_bringsUp_4 : decode cX9_bringsUp 4 = .ok (.iconst 0, 1) := by decide +kernel
theorem dX9_bringsUp_5 : decode cX9_bringsUp 5 = .ok (.istore_n 1, 1) := by decide +kernel
theorem dX9_bringsUp_6 : decode cX9_bringsUp 6 = .ok (.iload_n 1, 1) := by decide +kernel
theorem dX9_bringsUp_7 : decode cX9_bringsUp 7 = .ok (.bipush 72, 2) := by decide +kernel
theorem dX9_bringsUp_9 : decode cX9_bringsUp 9 = .ok (.if_icmp .ge 78, 3) := by decide +kernel
theorem dX9_bringsUp_12 : decode cX9_bringsUp 12 = .ok (.aload_n 0, 1) := by decide +kernel
theorem dX9_bringsUp_13 : decode cX9_bringsUp 13 = .ok (.getfield 19, 3) := by decide +kernel
theorem dX9_bringsUp_16 : decode cX9_bringsUp 16 = .ok (.iload_n 1, 1) := by decide +kernel
theorem dX9_bringsUp_17 : decode cX9_bringsUp 17 = .ok (.iaload, 1) := by decide +kernel
theorem dX9_bringsUp_18 : decode cX9_bringsUp 18 = .ok (.aload_n 0, 1) := by decide +kernel
theorem dX9_bringsUp_19 : decode cX9_bringsUp 19 = .ok (.getfield 38, 3) := by decide +kernel
theorem dX9_bringsUp_22 : decode cX9_bringsUp 22 = .ok (.iload_n 1, 1) := by decide +kernel
theorem dX9_bringsUp_23 : decode cX9_bringsUp 23 = .ok (.iaload, 1) := by decide +kernel
theorem dX9_bringsUp_24 : decode cX9_bringsUp 24 = .ok (.if_icmp .ne 32, 3) := by decide +kernel
theorem dX9_bringsUp_27 : decode cX9_bringsUp 27 = .ok (.aload_n 0, 1) := by decide +kernel
theorem dX9_bringsUp_28 : decode cX9_bringsUp 28 = .ok (.getfield 22, 3) := by decide +kernel
theorem dX9_bringsUp_31 : decode cX9_bringsUp 31 = .ok (.iload_n 1, 1) := by decide +kernel
theorem dX9_bringsUp_32 : decode cX9_bringsUp 32 = .ok (.iaload, 1) := by decide +kernel
theorem dX9_bringsUp_33 : decode cX9_bringsUp 33 = .ok (.aload_n 0, 1) := by decide +kernel
theorem dX9_bringsUp_34 : decode cX9_bringsUp 34 = .ok (.getfield 41, 3) := by decide +kernel
theorem dX9_bringsUp_37 : decode cX9_bringsUp 37 = .ok (.iload_n 1, 1) := by decide +kernel
theorem dX9_bringsUp_38 : decode cX9_bringsUp 38 = .ok (.iaload, 1) := by decide +kernel
theorem dX9_bringsUp_39 : decode cX9_bringsUp 39 = .ok (.if_icmp .ne 17, 3) := by decide +kernel
theorem dX9_bringsUp_42 : decode cX9_bringsUp 42 = .ok (.aload_n 0, 1) := by decide +kernel
theorem dX9_bringsUp_43 : decode cX9_bringsUp 43 = .ok (.iload_n 1, 1) := by decide +kernel
theorem dX9_bringsUp_44 : decode cX9_bringsUp 44 = .ok (.invokevirtual 281, 3) := by decide +kernel
theorem dX9_bringsUp_47 : decode cX9_bringsUp 47 = .ok (.aload_n 0, 1) := by decide +kernel
theorem dX9_bringsUp_48 : decode cX9_bringsUp 48 = .ok (.getfield 47, 3) := by decide +kernel
theorem dX9_bringsUp_51 : decode cX9_bringsUp 51 = .ok (.iload_n 1, 1) := by decide +kernel
theorem dX9_bringsUp_52 : decode cX9_bringsUp 52 = .ok (.baload, 1) := by decide +kernel
theorem dX9_bringsUp_53 : decode cX9_bringsUp 53 = .ok (.if_icmp .eq 7, 3) := by decide +kernel
theorem dX9_bringsUp_56 : decode cX9_bringsUp 56 = .ok (.iconst 1, 1) := by decide +kernel
theorem dX9_bringsUp_57 : decode cX9_bringsUp 57 = .ok (.goto 4, 3) := by decide +kernel
theorem dX9_bringsUp_60 : decode cX9_bringsUp 60 = .ok (.iconst 0, 1) := by decide +kernel
theorem dX9_bringsUp_61 : decode cX9_bringsUp 61 = .ok (.istore_n 2, 1) := by decide +kernel
theorem dX9_bringsUp_62 : decode cX9_bringsUp 62 = .ok (.aload_n 0, 1) := by decide +kernel
theorem dX9_bringsUp_63 : decode cX9_bringsUp 63 = .ok (.getfield 7, 3) := by decide +kernel
theorem dX9_bringsUp_66 : decode cX9_bringsUp 66 = .ok (.sipush 2376, 3) := by decide +kernel
theorem dX9_bringsUp_69 : decode cX9_bringsUp 69 = .ok (.iload_n 1, 1) := by decide +kernel
theorem dX9_bringsUp_70 : decode cX9_bringsUp 70 = .ok (.iadd, 1) := by decide +kernel
theorem dX9_bringsUp_71 : decode cX9_bringsUp 71 = .ok (.iload_n 2, 1) := by decide +kernel
theorem dX9_bringsUp_72 : decode cX9_bringsUp 72 = .ok (.ifCond .eq 7, 3) := by decide +kernel
theorem dX9_bringsUp_75 : decode cX9_bringsUp 75 = .ok (.iconst 1, 1) := by decide +kernel
theorem dX9_bringsUp_76 : decode cX9_bringsUp 76 = .ok (.goto 4, 3) := by decide +kernel
theorem dX9_bringsUp_79 : decode cX9_bringsUp 79 = .ok (.iconst 0, 1) := by decide +kernel
theorem dX9_bringsUp_80 : decode cX9_bringsUp 80 = .ok (.iastore, 1) := by decide +kernel
theorem dX9_bringsUp_81 : decode cX9_bringsUp 81 = .ok (.iinc 1 1, 3) := by decide +kernel
theorem dX9_bringsUp_84 : decode cX9_bringsUp 84 = .ok (.goto (-78), 3) := by decide +kernel
theorem dX9_bringsUp_87 : decode cX9_bringsUp 87 = .ok (.iconst 0, 1) := by decide +kernel
theorem dX9_bringsUp_88 : decode cX9_bringsUp 88 = .ok (.istore_n 1, 1) := by decide +kernel
theorem dX9_bringsUp_89 : decode cX9_bringsUp 89 = .ok (.iconst 0, 1) := by decide +kernel
theorem dX9_bringsUp_90 : decode cX9_bringsUp 90 = .ok (.istore_n 2, 1) := by decide +kernel
theorem dX9_bringsUp_91 : decode cX9_bringsUp 91 = .ok (.iload_n 2, 1) := by decide +kernel
theorem dX9_bringsUp_92 : decode cX9_bringsUp 92 = .ok (.bipush 72, 2) := by decide +kernel
theorem dX9_bringsUp_94 : decode cX9_bringsUp 94 = .ok (.if_icmp .ge 141, 3) := by decide +kernel
theorem dX9_bringsUp_97 : decode cX9_bringsUp 97 = .ok (.aload_n 0, 1) := by decide +kernel
theorem dX9_bringsUp_98 : decode cX9_bringsUp 98 = .ok (.getfield 59, 3) := by decide +kernel
theorem dX9_bringsUp_101 : decode cX9_bringsUp 101 = .ok (.iload_n 2, 1) := by decide +kernel
theorem dX9_bringsUp_102 : decode cX9_bringsUp 102 = .ok (.baload, 1) := by decide +kernel
theorem dX9_bringsUp_103 : decode cX9_bringsUp 103 = .ok (.ifCond .eq 7, 3) := by decide +kernel
theorem dX9_bringsUp_106 : decode cX9_bringsUp 106 = .ok (.iload_n 2, 1) := by decide +kernel
theorem dX9_bringsUp_107 : decode cX9_bringsUp 107 = .ok (.goto 8, 3) := by decide +kernel
theorem dX9_bringsUp_110 : decode cX9_bringsUp 110 = .ok (.aload_n 0, 1) := by decide +kernel
theorem dX9_bringsUp_111 : decode cX9_bringsUp 111 = .ok (.iload_n 2, 1) := by decide +kernel
theorem dX9_bringsUp_112 : decode cX9_bringsUp 112 = .ok (.invokevirtual 372, 3) := by decide +kernel
theorem dX9_bringsUp_115 : decode cX9_bringsUp 115 = .ok (.istore_n 3, 1) := by decide +kernel
theorem dX9_bringsUp_116 : decode cX9_bringsUp 116 = .ok (.aload_n 0, 1) := by decide +kernel
theorem dX9_bringsUp_117 : decode cX9_bringsUp 117 = .ok (.getfield 59, 3) := by decide +kernel
theorem dX9_bringsUp_120 : decode cX9_bringsUp 120 = .ok (.iload_n 2, 1) := by decide +kernel
theorem dX9_bringsUp_121 : decode cX9_bringsUp 121 = .ok (.baload, 1) := by decide +kernel
theorem dX9_bringsUp_122 : decode cX9_bringsUp 122 = .ok (.ifCond .ne 25, 3) := by decide +kernel
theorem dX9_bringsUp_125 : decode cX9_bringsUp 125 = .ok (.aload_n 0, 1) := by decide +kernel
theorem dX9_bringsUp_126 : decode cX9_bringsUp 126 = .ok (.getfield 25, 3) := by decide +kernel
theorem dX9_bringsUp_129 : decode cX9_bringsUp 129 = .ok (.iload_n 2, 1) := by decide +kernel
theorem dX9_bringsUp_130 : decode cX9_bringsUp 130 = .ok (.baload, 1) := by decide +kernel
theorem dX9_bringsUp_131 : decode cX9_bringsUp 131 = .ok (.ifCond .ne 16, 3) := by decide +kernel
theorem dX9_bringsUp_134 : decode cX9_bringsUp 134 = .ok (.aload_n 0, 1) := by decide +kernel
theorem dX9_bringsUp_135 : decode cX9_bringsUp 135 = .ok (.getfield 44, 3) := by decide +kernel
theorem dX9_bringsUp_138 : decode cX9_bringsUp 138 = .ok (.iload_n 2, 1) := by decide +kernel
theorem dX9_bringsUp_139 : decode cX9_bringsUp 139 = .ok (.baload, 1) := by decide +kernel
theorem dX9_bringsUp_140 : decode cX9_bringsUp 140 = .ok (.ifCond .ne 7, 3) := by decide +kernel
theorem dX9_bringsUp_143 : decode cX9_bringsUp 143 = .ok (.iload_n 3, 1) := by decide +kernel
theorem dX9_bringsUp_144 : decode cX9_bringsUp 144 = .ok (.ifCond .lt 7, 3) := by decide +kernel
theorem dX9_bringsUp_147 : decode cX9_bringsUp 147 = .ok (.iconst 1, 1) := by decide +kernel
theorem dX9_bringsUp_148 : decode cX9_bringsUp 148 = .ok (.goto 4, 3) := by decide +kernel
theorem dX9_bringsUp_151 : decode cX9_bringsUp 151 = .ok (.iconst 0, 1) := by decide +kernel
theorem dX9_bringsUp_152 : decode cX9_bringsUp 152 = .ok (.istore 4, 2) := by decide +kernel
theorem dX9_bringsUp_154 : decode cX9_bringsUp 154 = .ok (.aload_n 0, 1) := by decide +kernel
theorem dX9_bringsUp_155 : decode cX9_bringsUp 155 = .ok (.getfield 7, 3) := by decide +kernel
theorem dX9_bringsUp_158 : decode cX9_bringsUp 158 = .ok (.sipush 2304, 3) := by decide +kernel
theorem dX9_bringsUp_161 : decode cX9_bringsUp 161 = .ok (.iload_n 2, 1) := by decide +kernel
theorem dX9_bringsUp_162 : decode cX9_bringsUp 162 = .ok (.iadd, 1) := by decide +kernel
theorem dX9_bringsUp_163 : decode cX9_bringsUp 163 = .ok (.iload 4, 2) := by decide +kernel
theorem dX9_bringsUp_165 : decode cX9_bringsUp 165 = .ok (.ifCond .eq 7, 3) := by decide +kernel
theorem dX9_bringsUp_168 : decode cX9_bringsUp 168 = .ok (.iconst 1, 1) := by decide +kernel
theorem dX9_bringsUp_169 : decode cX9_bringsUp 169 = .ok (.goto 4, 3) := by decide +kernel
theorem dX9_bringsUp_172 : decode cX9_bringsUp 172 = .ok (.iconst 0, 1) := by decide +kernel
theorem dX9_bringsUp_173 : decode cX9_bringsUp 173 = .ok (.iastore, 1) := by decide +kernel
theorem dX9_bringsUp_174 : decode cX9_bringsUp 174 = .ok (.aload_n 0, 1) := by decide +kernel
theorem dX9_bringsUp_175 : decode cX9_bringsUp 175 = .ok (.getfield 7, 3) := by decide +kernel
theorem dX9_bringsUp_178 : decode cX9_bringsUp 178 = .ok (.sipush 2232, 3) := by decide +kernel
theorem dX9_bringsUp_181 : decode cX9_bringsUp 181 = .ok (.iload_n 2, 1) := by decide +kernel
theorem dX9_bringsUp_182 : decode cX9_bringsUp 182 = .ok (.iadd, 1) := by decide +kernel
theorem dX9_bringsUp_183 : decode cX9_bringsUp 183 = .ok (.dup2, 1) := by decide +kernel
theorem dX9_bringsUp_184 : decode cX9_bringsUp 184 = .ok (.iaload, 1) := by decide +kernel
theorem dX9_bringsUp_185 : decode cX9_bringsUp 185 = .ok (.aload_n 0, 1) := by decide +kernel
theorem dX9_bringsUp_186 : decode cX9_bringsUp 186 = .ok (.getfield 7, 3) := by decide +kernel
theorem dX9_bringsUp_189 : decode cX9_bringsUp 189 = .ok (.sipush 2304, 3) := by decide +kernel
theorem dX9_bringsUp_192 : decode cX9_bringsUp 192 = .ok (.iload_n 2, 1) := by decide +kernel
theorem dX9_bringsUp_193 : decode cX9_bringsUp 193 = .ok (.iadd, 1) := by decide +kernel
theorem dX9_bringsUp_194 : decode cX9_bringsUp 194 = .ok (.iaload, 1) := by decide +kernel
theorem dX9_bringsUp_195 : decode cX9_bringsUp 195 = .ok (.iadd, 1) := by decide +kernel
theorem dX9_bringsUp_196 : decode cX9_bringsUp 196 = .ok (.iastore, 1) := by decide +kernel
theorem dX9_bringsUp_197 : decode cX9_bringsUp 197 = .ok (.aload_n 0, 1) := by decide +kernel
theorem dX9_bringsUp_198 : decode cX9_bringsUp 198 = .ok (.getfield 7, 3) := by decide +kernel
theorem dX9_bringsUp_201 : decode cX9_bringsUp 201 = .ok (.sipush 2448, 3) := by decide +kernel
theorem dX9_bringsUp_204 : decode cX9_bringsUp 204 = .ok (.iload_n 2, 1) := by decide +kernel
theorem dX9_bringsUp_205 : decode cX9_bringsUp 205 = .ok (.iadd, 1) := by decide +kernel
theorem dX9_bringsUp_206 : decode cX9_bringsUp 206 = .ok (.iload_n 3, 1) := by decide +kernel
theorem dX9_bringsUp_207 : decode cX9_bringsUp 207 = .ok (.ifCond .lt 7, 3) := by decide +kernel
theorem dX9_bringsUp_210 : decode cX9_bringsUp 210 = .ok (.iload_n 3, 1) := by decide +kernel
theorem dX9_bringsUp_211 : decode cX9_bringsUp 211 = .ok (.goto 4, 3) := by decide +kernel
theorem dX9_bringsUp_214 : decode cX9_bringsUp 214 = .ok (.iload_n 2, 1) := by decide +kernel
theorem dX9_bringsUp_215 : decode cX9_bringsUp 215 = .ok (.iastore, 1) := by decide +kernel
theorem dX9_bringsUp_216 : decode cX9_bringsUp 216 = .ok (.iload_n 1, 1) := by decide +kernel
theorem dX9_bringsUp_217 : decode cX9_bringsUp 217 = .ok (.aload_n 0, 1) := by decide +kernel
theorem dX9_bringsUp_218 : decode cX9_bringsUp 218 = .ok (.getfield 7, 3) := by decide +kernel
theorem dX9_bringsUp_221 : decode cX9_bringsUp 221 = .ok (.sipush 2304, 3) := by decide +kernel
theorem dX9_bringsUp_224 : decode cX9_bringsUp 224 = .ok (.iload_n 2, 1) := by decide +kernel
theorem dX9_bringsUp_225 : decode cX9_bringsUp 225 = .ok (.iadd, 1) := by decide +kernel
theorem dX9_bringsUp_226 : decode cX9_bringsUp 226 = .ok (.iaload, 1) := by decide +kernel
theorem dX9_bringsUp_227 : decode cX9_bringsUp 227 = .ok (.iadd, 1) := by decide +kernel
theorem dX9_bringsUp_228 : decode cX9_bringsUp 228 = .ok (.istore_n 1, 1) := by decide +kernel
theorem dX9_bringsUp_229 : decode cX9_bringsUp 229 = .ok (.iinc 2 1, 3) := by decide +kernel
theorem dX9_bringsUp_232 : decode cX9_bringsUp 232 = .ok (.goto (-141), 3) := by decide +kernel
theorem dX9_bringsUp_235 : decode cX9_bringsUp 235 = .ok (.iload_n 1, 1) := by decide +kernel
theorem dX9_bringsUp_236 : decode cX9_bringsUp 236 = .ok (.ireturn, 1) := by decide +kernel
theorem dX9_update_0 : decode cX9_update 0 = .ok (.aload_n 0, 1) := by decide +kernel
theorem dX9_update_1 : decode cX9_update 1 = .ok (.getfield 7, 3) := by decide +kernel
theorem dX9_update_4 : decode cX9_update 4 = .ok (.sipush 2521, 3) := by decide +kernel
theorem dX9_update_7 : decode cX9_update 7 = .ok (.iaload, 1) := by decide +kernel
theorem dX9_update_8 : decode cX9_update 8 = .ok (.ifCond .ne 6, 3) := by decide +kernel
theorem dX9_update_11 : decode cX9_update 11 = .ok (.ldc 213, 2) := by decide +kernel
theorem dX9_update_13 : decode cX9_update 13 = .ok (.ireturn, 1) := by decide +kernel
theorem dX9_update_14 : decode cX9_update 14 = .ok (.aload_n 0, 1) := by decide +kernel
theorem dX9_update_15 : decode cX9_update 15 = .ok (.invokevirtual 217, 3) := by decide +kernel
theorem dX9_update_18 : decode cX9_update 18 = .ok (.aload_n 0, 1) := by decide +kernel
theorem dX9_update_19 : decode cX9_update 19 = .ok (.invokevirtual 375, 3) := by decide +kernel
theorem dX9_update_22 : decode cX9_update 22 = .ok (.iconst 0, 1) := by decide +kernel
theorem dX9_update_23 : decode cX9_update 23 = .ok (.istore_n 1, 1) := by decide +kernel
theorem dX9_update_24 : decode cX9_update 24 = .ok (.iload_n 1, 1) := by decide +kernel
theorem dX9_update_25 : decode cX9_update 25 = .ok (.aload_n 0, 1) := by decide +kernel
theorem dX9_update_26 : decode cX9_update 26 = .ok (.getfield 7, 3) := by decide +kernel
theorem dX9_update_29 : decode cX9_update 29 = .ok (.sipush 2521, 3) := by decide +kernel
theorem dX9_update_32 : decode cX9_update 32 = .ok (.iaload, 1) := by decide +kernel
theorem dX9_update_33 : decode cX9_update 33 = .ok (.if_icmp .ge 90, 3) := by decide +kernel
theorem dX9_update_36 : decode cX9_update 36 = .ok (.sipush 2522, 3) := by decide +kernel
theorem dX9_update_39 : decode cX9_update 39 = .ok (.bipush 32, 2) := by decide +kernel
theorem dX9_update_41 : decode cX9_update 41 = .ok (.iload_n 1, 1) := by decide +kernel
theorem dX9_update_42 : decode cX9_update 42 = .ok (.imul, 1) := by decide +kernel
theorem dX9_update_43 : decode cX9_update 43 = .ok (.iadd, 1) := by decide +kernel
theorem dX9_update_44 : decode cX9_update 44 = .ok (.istore_n 2, 1) := by decide +kernel
theorem dX9_update_45 : decode cX9_update 45 = .ok (.aload_n 0, 1) := by decide +kernel
theorem dX9_update_46 : decode cX9_update 46 = .ok (.getfield 7, 3) := by decide +kernel
theorem dX9_update_49 : decode cX9_update 49 = .ok (.iload_n 2, 1) := by decide +kernel
theorem dX9_update_50 : decode cX9_update 50 = .ok (.iaload, 1) := by decide +kernel
theorem dX9_update_51 : decode cX9_update 51 = .ok (.istore_n 3, 1) := by decide +kernel
theorem dX9_update_52 : decode cX9_update 52 = .ok (.aload_n 0, 1) := by decide +kernel
theorem dX9_update_53 : decode cX9_update 53 = .ok (.getfield 59, 3) := by decide +kernel
theorem dX9_update_56 : decode cX9_update 56 = .ok (.iload_n 3, 1) := by decide +kernel
theorem dX9_update_57 : decode cX9_update 57 = .ok (.iconst 1, 1) := by decide +kernel
theorem dX9_update_58 : decode cX9_update 58 = .ok (.bastore, 1) := by decide +kernel
theorem dX9_update_59 : decode cX9_update 59 = .ok (.aload_n 0, 1) := by decide +kernel
theorem dX9_update_60 : decode cX9_update 60 = .ok (.getfield 7, 3) := by decide +kernel
theorem dX9_update_63 : decode cX9_update 63 = .ok (.iconst 0, 1) := by decide +kernel
theorem dX9_update_64 : decode cX9_update 64 = .ok (.iload_n 3, 1) := by decide +kernel
theorem dX9_update_65 : decode cX9_update 65 = .ok (.iadd, 1) := by decide +kernel
theorem dX9_update_66 : decode cX9_update 66 = .ok (.aload_n 0, 1) := by decide +kernel
theorem dX9_update_67 : decode cX9_update 67 = .ok (.getfield 7, 3) := by decide +kernel
theorem dX9_update_70 : decode cX9_update 70 = .ok (.iload_n 2, 1) := by decide +kernel
theorem dX9_update_71 : decode cX9_update 71 = .ok (.iconst 1, 1) := by decide +kernel
theorem dX9_update_72 : decode cX9_update 72 = .ok (.iadd, 1) := by decide +kernel
theorem dX9_update_73 : decode cX9_update 73 = .ok (.iaload, 1) := by decide +kernel
theorem dX9_update_74 : decode cX9_update 74 = .ok (.iastore, 1) := by decide +kernel
theorem dX9_update_75 : decode cX9_update 75 = .ok (.iconst 0, 1) := by decide +kernel
theorem dX9_update_76 : decode cX9_update 76 = .ok (.istore 4, 2) := by decide +kernel
theorem dX9_update_78 : decode cX9_update 78 = .ok (.iload 4, 2) := by decide +kernel
theorem dX9_update_80 : decode cX9_update 80 = .ok (.bipush 30, 2) := by decide +kernel
theorem dX9_update_82 : decode cX9_update 82 = .ok (.if_icmp .ge 35, 3) := by decide +kernel
theorem dX9_update_85 : decode cX9_update 85 = .ok (.aload_n 0, 1) := by decide +kernel
theorem dX9_update_86 : decode cX9_update 86 = .ok (.getfield 7, 3) := by decide +kernel
theorem dX9_update_89 : decode cX9_update 89 = .ok (.bipush 72, 2) := by decide +kernel
theorem dX9_update_91 : decode cX9_update 91 = .ok (.bipush 30, 2) := by decide +kernel
theorem dX9_update_93 : decode cX9_update 93 = .ok (.iload_n 3, 1) := by decide +kernel
theorem dX9_update_94 : decode cX9_update 94 = .ok (.imul, 1) := by decide +kernel
theorem dX9_update_95 : decode cX9_update 95 = .ok (.iadd, 1) := by decide +kernel
theorem dX9_update_96 : decode cX9_update 96 = .ok (.iload 4, 2) := by decide +kernel
theorem dX9_update_98 : decode cX9_update 98 = .ok (.iadd, 1) := by decide +kernel
theorem dX9_update_99 : decode cX9_update 99 = .ok (.aload_n 0, 1) := by decide +kernel
theorem dX9_update_100 : decode cX9_update 100 = .ok (.getfield 7, 3) := by decide +kernel
theorem dX9_update_103 : decode cX9_update 103 = .ok (.iload_n 2, 1) := by decide +kernel
theorem dX9_update_104 : decode cX9_update 104 = .ok (.iconst 2, 1) := by decide +kernel
theorem dX9_update_105 : decode cX9_update 105 = .ok (.iadd, 1) := by decide +kernel
theorem dX9_update_106 : decode cX9_update 106 = .ok (.iload 4, 2) := by decide +kernel
theorem dX9_update_108 : decode cX9_update 108 = .ok (.iadd, 1) := by decide +kernel
theorem dX9_update_109 : decode cX9_update 109 = .ok (.iaload, 1) := by decide +kernel
theorem dX9_update_110 : decode cX9_update 110 = .ok (.iastore, 1) := by decide +kernel
theorem dX9_update_111 : decode cX9_update 111 = .ok (.iinc 4 1, 3) := by decide +kernel
theorem dX9_update_114 : decode cX9_update 114 = .ok (.goto (-36), 3) := by decide +kernel
theorem dX9_update_117 : decode cX9_update 117 = .ok (.iinc 1 1, 3) := by decide +kernel
theorem dX9_update_120 : decode cX9_update 120 = .ok (.goto (-96), 3) := by decide +kernel
theorem dX9_update_123 : decode cX9_update 123 = .ok (.aload_n 0, 1) := by decide +kernel
theorem dX9_update_124 : decode cX9_update 124 = .ok (.getfield 7, 3) := by decide +kernel
theorem dX9_update_127 : decode cX9_update 127 = .ok (.sipush 2521, 3) := by decide +kernel
theorem dX9_update_130 : decode cX9_update 130 = .ok (.iconst 0, 1) := by decide +kernel
theorem dX9_update_131 : decode cX9_update 131 = .ok (.iastore, 1) := by decide +kernel
theorem dX9_update_132 : decode cX9_update 132 = .ok (.aload_n 0, 1) := by decide +kernel
theorem dX9_update_133 : decode cX9_update 133 = .ok (.invokevirtual 378, 3) := by decide +kernel
theorem dX9_update_136 : decode cX9_update 136 = .ok (.ireturn, 1) := by decide +kernel
theorem dX9_rounds_0 : decode cX9_rounds 0 = .ok (.iload_n 1, 1) := by decide +kernel
theorem dX9_rounds_1 : decode cX9_rounds 1 = .ok (.iconst 0, 1) := by decide +kernel
theorem dX9_rounds_2 : decode cX9_rounds 2 = .ok (.bipush 40, 2) := by decide +kernel
theorem dX9_rounds_4 : decode cX9_rounds 4 = .ok (.invokestatic 104, 3) := by decide +kernel
theorem dX9_rounds_7 : decode cX9_rounds 7 = .ok (.ifCond .ne 6, 3) := by decide +kernel
theorem dX9_rounds_10 : decode cX9_rounds 10 = .ok (.ldc 111, 2) := by decide +kernel
theorem dX9_rounds_12 : decode cX9_rounds 12 = .ok (.ireturn, 1) := by decide +kernel
theorem dX9_rounds_13 : decode cX9_rounds 13 = .ok (.aload_n 0, 1) := by decide +kernel
theorem dX9_rounds_14 : decode cX9_rounds 14 = .ok (.invokevirtual 217, 3) := by decide +kernel
theorem dX9_rounds_17 : decode cX9_rounds 17 = .ok (.aload_n 0, 1) := by decide +kernel
theorem dX9_rounds_18 : decode cX9_rounds 18 = .ok (.invokevirtual 375, 3) := by decide +kernel
theorem dX9_rounds_21 : decode cX9_rounds 21 = .ok (.aload_n 0, 1) := by decide +kernel
theorem dX9_rounds_22 : decode cX9_rounds 22 = .ok (.getfield 7, 3) := by decide +kernel
theorem dX9_rounds_25 : decode cX9_rounds 25 = .ok (.sipush 2520, 3) := by decide +kernel
theorem dX9_rounds_28 : decode cX9_rounds 28 = .ok (.iaload, 1) := by decide +kernel
theorem dX9_rounds_29 : decode cX9_rounds 29 = .ok (.istore_n 2, 1) := by decide +kernel
theorem dX9_rounds_30 : decode cX9_rounds 30 = .ok (.aload_n 0, 1) := by decide +kernel
theorem dX9_rounds_31 : decode cX9_rounds 31 = .ok (.getfield 7, 3) := by decide +kernel
theorem dX9_rounds_34 : decode cX9_rounds 34 = .ok (.sipush 2520, 3) := by decide +kernel
theorem dX9_rounds_37 : decode cX9_rounds 37 = .ok (.iload_n 1, 1) := by decide +kernel
theorem dX9_rounds_38 : decode cX9_rounds 38 = .ok (.iastore, 1) := by decide +kernel
theorem dX9_rounds_39 : decode cX9_rounds 39 = .ok (.aload_n 0, 1) := by decide +kernel
theorem dX9_rounds_40 : decode cX9_rounds 40 = .ok (.invokevirtual 378, 3) := by decide +kernel
theorem dX9_rounds_43 : decode cX9_rounds 43 = .ok (.istore_n 3, 1) := by decide +kernel
theorem dX9_rounds_44 : decode cX9_rounds 44 = .ok (.iload_n 2, 1) := by decide +kernel
theorem dX9_rounds_45 : decode cX9_rounds 45 = .ok (.ireturn, 1) := by decide +kernel
theorem dX9_value_0 : decode cX9_value 0 = .ok (.iload_n 1, 1) := by decide +kernel
theorem dX9_value_1 : decode cX9_value 1 = .ok (.invokestatic 210, 3) := by decide +kernel
theorem dX9_value_4 : decode cX9_value 4 = .ok (.ifCond .ne 8, 3) := by decide +kernel
theorem dX9_value_7 : decode cX9_value 7 = .ok (.ldc 111, 2) := by decide +kernel
theorem dX9_value_9 : decode cX9_value 9 = .ok (.goto 23, 3) := by decide +kernel
theorem dX9_value_12 : decode cX9_value 12 = .ok (.aload_n 0, 1) := by decide +kernel
theorem dX9_value_13 : decode cX9_value 13 = .ok (.getfield 22, 3) := by decide +kernel
theorem dX9_value_16 : decode cX9_value 16 = .ok (.iload_n 1, 1) := by decide +kernel
theorem dX9_value_17 : decode cX9_value 17 = .ok (.iaload, 1) := by decide +kernel
theorem dX9_value_18 : decode cX9_value 18 = .ok (.ifCond .le 8, 3) := by decide +kernel
theorem dX9_value_21 : decode cX9_value 21 = .ok (.ldc 206, 2) := by decide +kernel
theorem dX9_value_23 : decode cX9_value 23 = .ok (.goto 9, 3) := by decide +kernel
theorem dX9_value_26 : decode cX9_value 26 = .ok (.aload_n 0, 1) := by decide +kernel
theorem dX9_value_27 : decode cX9_value 27 = .ok (.getfield 19, 3) := by decide +kernel
theorem dX9_value_30 : decode cX9_value 30 = .ok (.iload_n 1, 1) := by decide +kernel
theorem dX9_value_31 : decode cX9_value 31 = .ok (.iaload, 1) := by decide +kernel
theorem dX9_value_32 : decode cX9_value 32 = .ok (.ireturn, 1) := by decide +kernel
theorem dX9_cellOf_0 : decode cX9_cellOf 0 = .ok (.iload_n 1, 1) := by decide +kernel
theorem dX9_cellOf_1 : decode cX9_cellOf 1 = .ok (.invokestatic 210, 3) := by decide +kernel
theorem dX9_cellOf_4 : decode cX9_cellOf 4 = .ok (.ifCond .eq 13, 3) := by decide +kernel
theorem dX9_cellOf_7 : decode cX9_cellOf 7 = .ok (.iload_n 2, 1) := by decide +kernel
theorem dX9_cellOf_8 : decode cX9_cellOf 8 = .ok (.iconst 0, 1) := by decide +kernel
theorem dX9_cellOf_9 : decode cX9_cellOf 9 = .ok (.bipush 8, 2) := by decide +kernel
theorem dX9_cellOf_11 : decode cX9_cellOf 11 = .ok (.invokestatic 104, 3) := by decide +kernel
theorem dX9_cellOf_14 : decode cX9_cellOf 14 = .ok (.ifCond .ne 6, 3) := by decide +kernel
theorem dX9_cellOf_17 : decode cX9_cellOf 17 = .ok (.ldc 111, 2) := by decide +kernel
theorem dX9_cellOf_19 : decode cX9_cellOf 19 = .ok (.ireturn, 1) := by decide +kernel
theorem dX9_cellOf_20 : decode cX9_cellOf 20 = .ok (.iload_n 2, 1) := by decide +kernel
theorem dX9_cellOf_21 : decode cX9_cellOf 21 = .ok (.tableswitch 144 0 7 #[47, 54, 75, 82, 96, 107, 118, 129], 47) := by decide +kernel
theorem dX9_cellOf_68 : decode cX9_cellOf 68 = .ok (.aload_n 0, 1) := by decide +kernel
theorem dX9_cellOf_69 : decode cX9_cellOf 69 = .ok (.getfield 22, 3) := by decide +kernel
theorem dX9_cellOf_72 : decode cX9_cellOf 72 = .ok (.iload_n 1, 1) := by decide +kernel
theorem dX9_cellOf_73 : decode cX9_cellOf 73 = .ok (.iaload, 1) := by decide +kernel
theorem dX9_cellOf_74 : decode cX9_cellOf 74 = .ok (.ireturn, 1) := by decide +kernel
theorem dX9_cellOf_75 : decode cX9_cellOf 75 = .ok (.aload_n 0, 1) := by decide +kernel
theorem dX9_cellOf_76 : decode cX9_cellOf 76 = .ok (.getfield 25, 3) := by decide +kernel
theorem dX9_cellOf_79 : decode cX9_cellOf 79 = .ok (.iload_n 1, 1) := by decide +kernel
theorem dX9_cellOf_80 : decode cX9_cellOf 80 = .ok (.baload, 1) := by decide +kernel
theorem dX9_cellOf_81 : decode cX9_cellOf 81 = .ok (.ifCond .eq 8, 3) := by decide +kernel
theorem dX9_cellOf_84 : decode cX9_cellOf 84 = .ok (.ldc 206, 2) := by decide +kernel
theorem dX9_cellOf_86 : decode cX9_cellOf 86 = .ok (.goto 9, 3) := by decide +kernel
theorem dX9_cellOf_89 : decode cX9_cellOf 89 = .ok (.aload_n 0, 1) := by decide +kernel
theorem dX9_cellOf_90 : decode cX9_cellOf 90 = .ok (.getfield 29, 3) := by decide +kernel
theorem dX9_cellOf_93 : decode cX9_cellOf 93 = .ok (.iload_n 1, 1) := by decide +kernel
theorem dX9_cellOf_94 : decode cX9_cellOf 94 = .ok (.iaload, 1) := by decide +kernel
theorem dX9_cellOf_95 : decode cX9_cellOf 95 = .ok (.ireturn, 1) := by decide +kernel
theorem dX9_cellOf_96 : decode cX9_cellOf 96 = .ok (.aload_n 0, 1) := by decide +kernel
theorem dX9_cellOf_97 : decode cX9_cellOf 97 = .ok (.getfield 32, 3) := by decide +kernel
theorem dX9_cellOf_100 : decode cX9_cellOf 100 = .ok (.iload_n 1, 1) := by decide +kernel
theorem dX9_cellOf_101 : decode cX9_cellOf 101 = .ok (.iaload, 1) := by decide +kernel
theorem dX9_cellOf_102 : decode cX9_cellOf 102 = .ok (.ireturn, 1) := by decide +kernel
theorem dX9_cellOf_103 : decode cX9_cellOf 103 = .ok (.aload_n 0, 1) := by decide +kernel
theorem dX9_cellOf_104 : decode cX9_cellOf 104 = .ok (.iload_n 1, 1) := by decide +kernel
theorem dX9_cellOf_105 : decode cX9_cellOf 105 = .ok (.invokevirtual 281, 3) := by decide +kernel
theorem dX9_cellOf_108 : decode cX9_cellOf 108 = .ok (.ifCond .eq 7, 3) := by decide +kernel
theorem dX9_cellOf_111 : decode cX9_cellOf 111 = .ok (.iconst 1, 1) := by decide +kernel
theorem dX9_cellOf_112 : decode cX9_cellOf 112 = .ok (.goto 4, 3) := by decide +kernel
theorem dX9_cellOf_115 : decode cX9_cellOf 115 = .ok (.iconst 0, 1) := by decide +kernel
theorem dX9_cellOf_116 : decode cX9_cellOf 116 = .ok (.ireturn, 1) := by decide +kernel
theorem dX9_cellOf_117 : decode cX9_cellOf 117 = .ok (.aload_n 0, 1) := by decide +kernel
theorem dX9_cellOf_118 : decode cX9_cellOf 118 = .ok (.getfield 7, 3) := by decide +kernel
theorem dX9_cellOf_121 : decode cX9_cellOf 121 = .ok (.sipush 2232, 3) := by decide +kernel
theorem dX9_cellOf_124 : decode cX9_cellOf 124 = .ok (.iload_n 1, 1) := by decide +kernel
theorem dX9_cellOf_125 : decode cX9_cellOf 125 = .ok (.iadd, 1) := by decide +kernel
theorem dX9_cellOf_126 : decode cX9_cellOf 126 = .ok (.iaload, 1) := by decide +kernel
theorem dX9_cellOf_127 : decode cX9_cellOf 127 = .ok (.ireturn, 1) := by decide +kernel
theorem dX9_cellOf_128 : decode cX9_cellOf 128 = .ok (.aload_n 0, 1) := by decide +kernel
theorem dX9_cellOf_129 : decode cX9_cellOf 129 = .ok (.getfield 7, 3) := by decide +kernel
theorem dX9_cellOf_132 : decode cX9_cellOf 132 = .ok (.sipush 2304, 3) := by decide +kernel
theorem dX9_cellOf_135 : decode cX9_cellOf 135 = .ok (.iload_n 1, 1) := by decide +kernel
theorem dX9_cellOf_136 : decode cX9_cellOf 136 = .ok (.iadd, 1) := by decide +kernel
theorem dX9_cellOf_137 : decode cX9_cellOf 137 = .ok (.iaload, 1) := by decide +kernel
theorem dX9_cellOf_138 : decode cX9_cellOf 138 = .ok (.ireturn, 1) := by decide +kernel
theorem dX9_cellOf_139 : decode cX9_cellOf 139 = .ok (.aload_n 0, 1) := by decide +kernel
theorem dX9_cellOf_140 : decode cX9_cellOf 140 = .ok (.getfield 7, 3) := by decide +kernel
theorem dX9_cellOf_143 : decode cX9_cellOf 143 = .ok (.sipush 2376, 3) := by decide +kernel
theorem dX9_cellOf_146 : decode cX9_cellOf 146 = .ok (.iload_n 1, 1) := by decide +kernel
theorem dX9_cellOf_147 : decode cX9_cellOf 147 = .ok (.iadd, 1) := by decide +kernel
theorem dX9_cellOf_148 : decode cX9_cellOf 148 = .ok (.iaload, 1) := by decide +kernel
theorem dX9_cellOf_149 : decode cX9_cellOf 149 = .ok (.ireturn, 1) := by decide +kernel
theorem dX9_cellOf_150 : decode cX9_cellOf 150 = .ok (.aload_n 0, 1) := by decide +kernel
theorem dX9_cellOf_151 : decode cX9_cellOf 151 = .ok (.getfield 25, 3) := by decide +kernel
theorem dX9_cellOf_154 : decode cX9_cellOf 154 = .ok (.iload_n 1, 1) := by decide +kernel
theorem dX9_cellOf_155 : decode cX9_cellOf 155 = .ok (.baload, 1) := by decide +kernel
theorem dX9_cellOf_156 : decode cX9_cellOf 156 = .ok (.ifCond .eq 7, 3) := by decide +kernel
theorem dX9_cellOf_159 : decode cX9_cellOf 159 = .ok (.iconst 1, 1) := by decide +kernel
theorem dX9_cellOf_160 : decode cX9_cellOf 160 = .ok (.goto 4, 3) := by decide +kernel
theorem dX9_cellOf_163 : decode cX9_cellOf 163 = .ok (.iconst 0, 1) := by decide +kernel
theorem dX9_cellOf_164 : decode cX9_cellOf 164 = .ok (.ireturn, 1) := by decide +kernel
theorem dX9_cellOf_165 : decode cX9_cellOf 165 = .ok (.aload_n 0, 1) := by decide +kernel
theorem dX9_cellOf_166 : decode cX9_cellOf 166 = .ok (.getfield 7, 3) := by decide +kernel
theorem dX9_cellOf_169 : decode cX9_cellOf 169 = .ok (.iconst 0, 1) := by decide +kernel
theorem dX9_cellOf_170 : decode cX9_cellOf 170 = .ok (.iload_n 1, 1) := by decide +kernel
theorem dX9_cellOf_171 : decode cX9_cellOf 171 = .ok (.iadd, 1) := by decide +kernel
theorem dX9_cellOf_172 : decode cX9_cellOf 172 = .ok (.iaload, 1) := by decide +kernel
theorem dX9_cellOf_173 : decode cX9_cellOf 173 = .ok (.ireturn, 1) := by decide +kernel
theorem dX9_letterAt_0 : decode cX9_letterAt 0 = .ok (.iload_n 1, 1) := by decide +kernel
theorem dX9_letterAt_1 : decode cX9_letterAt 1 = .ok (.invokestatic 210, 3) := by decide +kernel
theorem dX9_letterAt_4 : decode cX9_letterAt 4 = .ok (.ifCond .eq 7, 3) := by decide +kernel
theorem dX9_letterAt_7 : decode cX9_letterAt 7 = .ok (.iload_n 2, 1) := by decide +kernel
theorem dX9_letterAt_8 : decode cX9_letterAt 8 = .ok (.ifCond .ge 6, 3) := by decide +kernel
theorem dX9_letterAt_11 : decode cX9_letterAt 11 = .ok (.ldc 111, 2) := by decide +kernel
theorem dX9_letterAt_13 : decode cX9_letterAt 13 = .ok (.ireturn, 1) := by decide +kernel
theorem dX9_letterAt_14 : decode cX9_letterAt 14 = .ok (.iload_n 2, 1) := by decide +kernel
theorem dX9_letterAt_15 : decode cX9_letterAt 15 = .ok (.aload_n 0, 1) := by decide +kernel
theorem dX9_letterAt_16 : decode cX9_letterAt 16 = .ok (.getfield 7, 3) := by decide +kernel
theorem dX9_letterAt_19 : decode cX9_letterAt 19 = .ok (.iconst 0, 1) := by decide +kernel
theorem dX9_letterAt_20 : decode cX9_letterAt 20 = .ok (.iload_n 1, 1) := by decide +kernel
theorem dX9_letterAt_21 : decode cX9_letterAt 21 = .ok (.iadd, 1) := by decide +kernel
theorem dX9_letterAt_22 : decode cX9_letterAt 22 = .ok (.iaload, 1) := by decide +kernel
theorem dX9_letterAt_23 : decode cX9_letterAt 23 = .ok (.if_icmp .ge 12, 3) := by decide +kernel
theorem dX9_letterAt_26 : decode cX9_letterAt 26 = .ok (.aload_n 0, 1) := by decide +kernel
theorem dX9_letterAt_27 : decode cX9_letterAt 27 = .ok (.iload_n 1, 1) := by decide +kernel
theorem dX9_letterAt_28 : decode cX9_letterAt 28 = .ok (.iload_n 2, 1) := by decide +kernel
theorem dX9_letterAt_29 : decode cX9_letterAt 29 = .ok (.invokevirtual 224, 3) := by decide +kernel
theorem dX9_letterAt_32 : decode cX9_letterAt 32 = .ok (.goto 5, 3) := by decide +kernel
theorem dX9_letterAt_35 : decode cX9_letterAt 35 = .ok (.ldc 206, 2) := by decide +kernel
theorem dX9_letterAt_37 : decode cX9_letterAt 37 = .ok (.ireturn, 1) := by decide +kernel
theorem dX9_readAt_0 : decode cX9_readAt 0 = .ok (.iload_n 1, 1) := by decide +kernel
theorem dX9_readAt_1 : decode cX9_readAt 1 = .ok (.invokestatic 210, 3) := by decide +kernel
theorem dX9_readAt_4 : decode cX9_readAt 4 = .ok (.ifCond .eq 7, 3) := by decide +kernel
theorem dX9_readAt_7 : decode cX9_readAt 7 = .ok (.iload_n 2, 1) := by decide +kernel
theorem dX9_readAt_8 : decode cX9_readAt 8 = .ok (.ifCond .ge 6, 3) := by decide +kernel
theorem dX9_readAt_11 : decode cX9_readAt 11 = .ok (.ldc 111, 2) := by decide +kernel
theorem dX9_readAt_13 : decode cX9_readAt 13 = .ok (.ireturn, 1) := by decide +kernel
theorem dX9_readAt_14 : decode cX9_readAt 14 = .ok (.iload_n 2, 1) := by decide +kernel
theorem dX9_readAt_15 : decode cX9_readAt 15 = .ok (.aload_n 0, 1) := by decide +kernel
theorem dX9_readAt_16 : decode cX9_readAt 16 = .ok (.getfield 32, 3) := by decide +kernel
theorem dX9_readAt_19 : decode cX9_readAt 19 = .ok (.iload_n 1, 1) := by decide +kernel
theorem dX9_readAt_20 : decode cX9_readAt 20 = .ok (.iaload, 1) := by decide +kernel
theorem dX9_readAt_21 : decode cX9_readAt 21 = .ok (.if_icmp .ge 17, 3) := by decide +kernel
theorem dX9_readAt_24 : decode cX9_readAt 24 = .ok (.aload_n 0, 1) := by decide +kernel
theorem dX9_readAt_25 : decode cX9_readAt 25 = .ok (.getfield 35, 3) := by decide +kernel
theorem dX9_readAt_28 : decode cX9_readAt 28 = .ok (.bipush 72, 2) := by decide +kernel
theorem dX9_readAt_30 : decode cX9_readAt 30 = .ok (.iload_n 1, 1) := by decide +kernel
theorem dX9_readAt_31 : decode cX9_readAt 31 = .ok (.imul, 1) := by decide +kernel
theorem dX9_readAt_32 : decode cX9_readAt 32 = .ok (.iload_n 2, 1) := by decide +kernel
theorem dX9_readAt_33 : decode cX9_readAt 33 = .ok (.iadd, 1) := by decide +kernel
theorem dX9_readAt_34 : decode cX9_readAt 34 = .ok (.iaload, 1) := by decide +kernel
theorem dX9_readAt_35 : decode cX9_readAt 35 = .ok (.goto 5, 3) := by decide +kernel
theorem dX9_readAt_38 : decode cX9_readAt 38 = .ok (.ldc 206, 2) := by decide +kernel
theorem dX9_readAt_40 : decode cX9_readAt 40 = .ok (.ireturn, 1) := by decide +kernel
theorem dX9_doesRead_0 : decode cX9_doesRead 0 = .ok (.iconst 0, 1) := by decide +kernel
theorem dX9_doesRead_1 : decode cX9_doesRead 1 = .ok (.istore_n 3, 1) := by decide +kernel
theorem dX9_doesRead_2 : decode cX9_doesRead 2 = .ok (.iconst 0, 1) := by decide +kernel
theorem dX9_doesRead_3 : decode cX9_doesRead 3 = .ok (.istore 4, 2) := by decide +kernel
theorem dX9_doesRead_5 : decode cX9_doesRead 5 = .ok (.iload 4, 2) := by decide +kernel
theorem dX9_doesRead_7 : decode cX9_doesRead 7 = .ok (.aload_n 0, 1) := by decide +kernel
theorem dX9_doesRead_8 : decode cX9_doesRead 8 = .ok (.getfield 32, 3) := by decide +kernel
theorem dX9_doesRead_11 : decode cX9_doesRead 11 = .ok (.iload_n 1, 1) := by decide +kernel
theorem dX9_doesRead_12 : decode cX9_doesRead 12 = .ok (.iaload, 1) := by decide +kernel
theorem dX9_doesRead_13 : decode cX9_doesRead 13 = .ok (.if_icmp .ge 35, 3) := by decide +kernel
theorem dX9_doesRead_16 : decode cX9_doesRead 16 = .ok (.iload_n 3, 1) := by decide +kernel
theorem dX9_doesRead_17 : decode cX9_doesRead 17 = .ok (.ifCond .ne 19, 3) := by decide +kernel
theorem dX9_doesRead_20 : decode cX9_doesRead 20 = .ok (.aload_n 0, 1) := by decide +kernel
theorem dX9_doesRead_21 : decode cX9_doesRead 21 = .ok (.getfield 35, 3) := by decide +kernel
theorem dX9_doesRead_24 : decode cX9_doesRead 24 = .ok (.bipush 72, 2) := by decide +kernel
theorem dX9_doesRead_26 : decode cX9_doesRead 26 = .ok (.iload_n 1, 1) := by decide +kernel
theorem dX9_doesRead_27 : decode cX9_doesRead 27 = .ok (.imul, 1) := by decide +kernel
theorem dX9_doesRead_28 : decode cX9_doesRead 28 = .ok (.iload 4, 2) := by decide +kernel
theorem dX9_doesRead_30 : decode cX9_doesRead 30 = .ok (.iadd, 1) := by decide +kernel
theorem dX9_doesRead_31 : decode cX9_doesRead 31 = .ok (.iaload, 1) := by decide +kernel
theorem dX9_doesRead_32 : decode cX9_doesRead 32 = .ok (.iload_n 2, 1) := by decide +kernel
theorem dX9_doesRead_33 : decode cX9_doesRead 33 = .ok (.if_icmp .ne 7, 3) := by decide +kernel
theorem dX9_doesRead_36 : decode cX9_doesRead 36 = .ok (.iconst 1, 1) := by decide +kernel
theorem dX9_doesRead_37 : decode cX9_doesRead 37 = .ok (.goto 4, 3) := by decide +kernel
theorem dX9_doesRead_40 : decode cX9_doesRead 40 = .ok (.iconst 0, 1) := by decide +kernel
theorem dX9_doesRead_41 : decode cX9_doesRead 41 = .ok (.istore_n 3, 1) := by decide +kernel
theorem dX9_doesRead_42 : decode cX9_doesRead 42 = .ok (.iinc 4 1, 3) := by decide +kernel
theorem dX9_doesRead_45 : decode cX9_doesRead 45 = .ok (.goto (-40), 3) := by decide +kernel
theorem dX9_doesRead_48 : decode cX9_doesRead 48 = .ok (.iload_n 3, 1) := by decide +kernel
theorem dX9_doesRead_49 : decode cX9_doesRead 49 = .ok (.ireturn, 1) := by decide +kernel
theorem dX9_readerAt_0 : decode cX9_readerAt 0 = .ok (.iload_n 1, 1) := by decide +kernel
theorem dX9_readerAt_1 : decode cX9_readerAt 1 = .ok (.invokestatic 210, 3) := by decide +kernel
theorem dX9_readerAt_4 : decode cX9_readerAt 4 = .ok (.ifCond .eq 7, 3) := by decide +kernel
theorem dX9_readerAt_7 : decode cX9_readerAt 7 = .ok (.iload_n 2, 1) := by decide +kernel
theorem dX9_readerAt_8 : decode cX9_readerAt 8 = .ok (.ifCond .ge 6, 3) := by decide +kernel
theorem dX9_readerAt_11 : decode cX9_readerAt 11 = .ok (.ldc 111, 2) := by decide +kernel
theorem dX9_readerAt_13 : decode cX9_readerAt 13 = .ok (.ireturn, 1) := by decide +kernel
theorem dX9_readerAt_14 : decode cX9_readerAt 14 = .ok (.iconst 0, 1) := by decide +kernel
theorem dX9_readerAt_15 : decode cX9_readerAt 15 = .ok (.istore_n 3, 1) := by decide +kernel
theorem dX9_readerAt_16 : decode cX9_readerAt 16 = .ok (.iconst 0, 1) := by decide +kernel
theorem dX9_readerAt_17 : decode cX9_readerAt 17 = .ok (.istore 4, 2) := by decide +kernel
theorem dX9_readerAt_19 : decode cX9_readerAt 19 = .ok (.iload 4, 2) := by decide +kernel
theorem dX9_readerAt_21 : decode cX9_readerAt 21 = .ok (.bipush 72, 2) := by decide +kernel
theorem dX9_readerAt_23 : decode cX9_readerAt 23 = .ok (.if_icmp .ge 30, 3) := by decide +kernel
theorem dX9_readerAt_26 : decode cX9_readerAt 26 = .ok (.aload_n 0, 1) := by decide +kernel
theorem dX9_readerAt_27 : decode cX9_readerAt 27 = .ok (.iload 4, 2) := by decide +kernel
theorem dX9_readerAt_29 : decode cX9_readerAt 29 = .ok (.iload_n 1, 1) := by decide +kernel
theorem dX9_readerAt_30 : decode cX9_readerAt 30 = .ok (.invokevirtual 381, 3) := by decide +kernel
theorem dX9_readerAt_33 : decode cX9_readerAt 33 = .ok (.ifCond .eq 14, 3) := by decide +kernel
theorem dX9_readerAt_36 : decode cX9_readerAt 36 = .ok (.iload_n 3, 1) := by decide +kernel
theorem dX9_readerAt_37 : decode cX9_readerAt 37 = .ok (.iload_n 2, 1) := by decide +kernel
theorem dX9_readerAt_38 : decode cX9_readerAt 38 = .ok (.if_icmp .ne 6, 3) := by decide +kernel
theorem dX9_readerAt_41 : decode cX9_readerAt 41 = .ok (.iload 4, 2) := by decide +kernel
theorem dX9_readerAt_43 : decode cX9_readerAt 43 = .ok (.ireturn, 1) := by decide +kernel
theorem dX9_readerAt_44 : decode cX9_readerAt 44 = .ok (.iinc 3 1, 3) := by decide +kernel
theorem dX9_readerAt_47 : decode cX9_readerAt 47 = .ok (.iinc 4 1, 3) := by decide +kernel
theorem dX9_readerAt_50 : decode cX9_readerAt 50 = .ok (.goto (-31), 3) := by decide +kernel
theorem dX9_readerAt_53 : decode cX9_readerAt 53 = .ok (.ldc 206, 2) := by decide +kernel
theorem dX9_readerAt_55 : decode cX9_readerAt 55 = .ok (.ireturn, 1) := by decide +kernel
theorem dX9_rank_0 : decode cX9_rank 0 = .ok (.aload_n 0, 1) := by decide +kernel
theorem dX9_rank_1 : decode cX9_rank 1 = .ok (.getfield 25, 3) := by decide +kernel
theorem dX9_rank_4 : decode cX9_rank 4 = .ok (.iload_n 1, 1) := by decide +kernel
theorem dX9_rank_5 : decode cX9_rank 5 = .ok (.baload, 1) := by decide +kernel
theorem dX9_rank_6 : decode cX9_rank 6 = .ok (.ifCond .eq 11, 3) := by decide +kernel
theorem dX9_rank_9 : decode cX9_rank 9 = .ok (.sipush 5184, 3) := by decide +kernel
theorem dX9_rank_12 : decode cX9_rank 12 = .ok (.iload_n 1, 1) := by decide +kernel
theorem dX9_rank_13 : decode cX9_rank 13 = .ok (.iadd, 1) := by decide +kernel
theorem dX9_rank_14 : decode cX9_rank 14 = .ok (.goto 14, 3) := by decide +kernel
theorem dX9_rank_17 : decode cX9_rank 17 = .ok (.bipush 72, 2) := by decide +kernel
theorem dX9_rank_19 : decode cX9_rank 19 = .ok (.aload_n 0, 1) := by decide +kernel
theorem dX9_rank_20 : decode cX9_rank 20 = .ok (.getfield 29, 3) := by decide +kernel
theorem dX9_rank_23 : decode cX9_rank 23 = .ok (.iload_n 1, 1) := by decide +kernel
theorem dX9_rank_24 : decode cX9_rank 24 = .ok (.iaload, 1) := by decide +kernel
theorem dX9_rank_25 : decode cX9_rank 25 = .ok (.imul, 1) := by decide +kernel
theorem dX9_rank_26 : decode cX9_rank 26 = .ok (.iload_n 1, 1) := by decide +kernel
theorem dX9_rank_27 : decode cX9_rank 27 = .ok (.iadd, 1) := by decide +kernel
theorem dX9_rank_28 : decode cX9_rank 28 = .ok (.ireturn, 1) := by decide +kernel
theorem dX9_ranAt_0 : decode cX9_ranAt 0 = .ok (.iload_n 1, 1) := by decide +kernel
theorem dX9_ranAt_1 : decode cX9_ranAt 1 = .ok (.ifCond .ge 6, 3) := by decide +kernel
theorem dX9_ranAt_4 : decode cX9_ranAt 4 = .ok (.ldc 111, 2) := by decide +kernel
theorem dX9_ranAt_6 : decode cX9_ranAt 6 = .ok (.ireturn, 1) := by decide +kernel
theorem dX9_ranAt_7 : decode cX9_ranAt 7 = .ok (.iconst 0, 1) := by decide +kernel
theorem dX9_ranAt_8 : decode cX9_ranAt 8 = .ok (.istore_n 2, 1) := by decide +kernel
theorem dX9_ranAt_9 : decode cX9_ranAt 9 = .ok (.iload_n 2, 1) := by decide +kernel
theorem dX9_ranAt_10 : decode cX9_ranAt 10 = .ok (.bipush 72, 2) := by decide +kernel
theorem dX9_ranAt_12 : decode cX9_ranAt 12 = .ok (.if_icmp .ge 85, 3) := by decide +kernel
theorem dX9_ranAt_15 : decode cX9_ranAt 15 = .ok (.iconst 0, 1) := by decide +kernel
theorem dX9_ranAt_16 : decode cX9_ranAt 16 = .ok (.istore_n 3, 1) := by decide +kernel
theorem dX9_ranAt_17 : decode cX9_ranAt 17 = .ok (.iconst 0, 1) := by decide +kernel
theorem dX9_ranAt_18 : decode cX9_ranAt 18 = .ok (.istore 4, 2) := by decide +kernel
theorem dX9_ranAt_20 : decode cX9_ranAt 20 = .ok (.iload 4, 2) := by decide +kernel
theorem dX9_ranAt_22 : decode cX9_ranAt 22 = .ok (.bipush 72, 2) := by decide +kernel
theorem dX9_ranAt_24 : decode cX9_ranAt 24 = .ok (.if_icmp .ge 46, 3) := by decide +kernel
theorem dX9_ranAt_27 : decode cX9_ranAt 27 = .ok (.iload_n 3, 1) := by decide +kernel
theorem dX9_ranAt_28 : decode cX9_ranAt 28 = .ok (.aload_n 0, 1) := by decide +kernel
theorem dX9_ranAt_29 : decode cX9_ranAt 29 = .ok (.getfield 7, 3) := by decide +kernel
theorem dX9_ranAt_32 : decode cX9_ranAt 32 = .ok (.sipush 2304, 3) := by decide +kernel
theorem dX9_ranAt_35 : decode cX9_ranAt 35 = .ok (.iload 4, 2) := by decide +kernel
theorem dX9_ranAt_37 : decode cX9_ranAt 37 = .ok (.iadd, 1) := by decide +kernel
theorem dX9_ranAt_38 : decode cX9_ranAt 38 = .ok (.iaload, 1) := by decide +kernel
theorem dX9_ranAt_39 : decode cX9_ranAt 39 = .ok (.iconst 1, 1) := by decide +kernel
theorem dX9_ranAt_40 : decode cX9_ranAt 40 = .ok (.if_icmp .ne 21, 3) := by decide +kernel
theorem dX9_ranAt_43 : decode cX9_ranAt 43 = .ok (.aload_n 0, 1) := by decide +kernel
theorem dX9_ranAt_44 : decode cX9_ranAt 44 = .ok (.iload 4, 2) := by decide +kernel
theorem dX9_ranAt_46 : decode cX9_ranAt 46 = .ok (.invokevirtual 384, 3) := by decide +kernel
theorem dX9_ranAt_49 : decode cX9_ranAt 49 = .ok (.aload_n 0, 1) := by decide +kernel
theorem dX9_ranAt_50 : decode cX9_ranAt 50 = .ok (.iload_n 2, 1) := by decide +kernel
theorem dX9_ranAt_51 : decode cX9_ranAt 51 = .ok (.invokevirtual 384, 3) := by decide +kernel
theorem dX9_ranAt_54 : decode cX9_ranAt 54 = .ok (.if_icmp .ge 7, 3) := by decide +kernel
theorem dX9_ranAt_57 : decode cX9_ranAt 57 = .ok (.iconst 1, 1) := by decide +kernel
theorem dX9_ranAt_58 : decode cX9_ranAt 58 = .ok (.goto 4, 3) := by decide +kernel
theorem dX9_ranAt_61 : decode cX9_ranAt 61 = .ok (.iconst 0, 1) := by decide +kernel
theorem dX9_ranAt_62 : decode cX9_ranAt 62 = .ok (.iadd, 1) := by decide +kernel
theorem dX9_ranAt_63 : decode cX9_ranAt 63 = .ok (.istore_n 3, 1) := by decide +kernel
theorem dX9_ranAt_64 : decode cX9_ranAt 64 = .ok (.iinc 4 1, 3) := by decide +kernel
theorem dX9_ranAt_67 : decode cX9_ranAt 67 = .ok (.goto (-47), 3) := by decide +kernel
theorem dX9_ranAt_70 : decode cX9_ranAt 70 = .ok (.aload_n 0, 1) := by decide +kernel
theorem dX9_ranAt_71 : decode cX9_ranAt 71 = .ok (.getfield 7, 3) := by decide +kernel
theorem dX9_ranAt_74 : decode cX9_ranAt 74 = .ok (.sipush 2304, 3) := by decide +kernel
theorem dX9_ranAt_77 : decode cX9_ranAt 77 = .ok (.iload_n 2, 1) := by decide +kernel
theorem dX9_ranAt_78 : decode cX9_ranAt 78 = .ok (.iadd, 1) := by decide +kernel
theorem dX9_ranAt_79 : decode cX9_ranAt 79 = .ok (.iaload, 1) := by decide +kernel
theorem dX9_ranAt_80 : decode cX9_ranAt 80 = .ok (.iconst 1, 1) := by decide +kernel
theorem dX9_ranAt_81 : decode cX9_ranAt 81 = .ok (.if_icmp .ne 10, 3) := by decide +kernel
theorem dX9_ranAt_84 : decode cX9_ranAt 84 = .ok (.iload_n 3, 1) := by decide +kernel
theorem dX9_ranAt_85 : decode cX9_ranAt 85 = .ok (.iload_n 1, 1) := by decide +kernel
theorem dX9_ranAt_86 : decode cX9_ranAt 86 = .ok (.if_icmp .ne 5, 3) := by decide +kernel
theorem dX9_ranAt_89 : decode cX9_ranAt 89 = .ok (.iload_n 2, 1) := by decide +kernel
theorem dX9_ranAt_90 : decode cX9_ranAt 90 = .ok (.ireturn, 1) := by decide +kernel
theorem dX9_ranAt_91 : decode cX9_ranAt 91 = .ok (.iinc 2 1, 3) := by decide +kernel
theorem dX9_ranAt_94 : decode cX9_ranAt 94 = .ok (.goto (-85), 3) := by decide +kernel
theorem dX9_ranAt_97 : decode cX9_ranAt 97 = .ok (.ldc 206, 2) := by decide +kernel
theorem dX9_ranAt_99 : decode cX9_ranAt 99 = .ok (.ireturn, 1) := by decide +kernel
theorem dX9_changedAt_0 : decode cX9_changedAt 0 = .ok (.iload_n 1, 1) := by decide +kernel
theorem dX9_changedAt_1 : decode cX9_changedAt 1 = .ok (.ifCond .ge 6, 3) := by decide +kernel
theorem dX9_changedAt_4 : decode cX9_changedAt 4 = .ok (.ldc 111, 2) := by decide +kernel
theorem dX9_changedAt_6 : decode cX9_changedAt 6 = .ok (.ireturn, 1) := by decide +kernel
theorem dX9_changedAt_7 : decode cX9_changedAt 7 = .ok (.iconst 0, 1) := by decide +kernel
theorem dX9_changedAt_8 : decode cX9_changedAt 8 = .ok (.istore_n 2, 1) := by decide +kernel
theorem dX9_changedAt_9 : decode cX9_changedAt 9 = .ok (.iconst 0, 1) := by decide +kernel
theorem dX9_changedAt_10 : decode cX9_changedAt 10 = .ok (.istore_n 3, 1) := by decide +kernel
theorem dX9_changedAt_11 : decode cX9_changedAt 11 = .ok (.iload_n 3, 1) := by decide +kernel
theorem dX9_changedAt_12 : decode cX9_changedAt 12 = .ok (.bipush 72, 2) := by decide +kernel
theorem dX9_changedAt_14 : decode cX9_changedAt 14 = .ok (.if_icmp .ge 33, 3) := by decide +kernel
theorem dX9_changedAt_17 : decode cX9_changedAt 17 = .ok (.aload_n 0, 1) := by decide +kernel
theorem dX9_changedAt_18 : decode cX9_changedAt 18 = .ok (.getfield 7, 3) := by decide +kernel
theorem dX9_changedAt_21 : decode cX9_changedAt 21 = .ok (.sipush 2376, 3) := by decide +kernel
theorem dX9_changedAt_24 : decode cX9_changedAt 24 = .ok (.iload_n 3, 1) := by decide +kernel
theorem dX9_changedAt_25 : decode cX9_changedAt 25 = .ok (.iadd, 1) := by decide +kernel
theorem dX9_changedAt_26 : decode cX9_changedAt 26 = .ok (.iaload, 1) := by decide +kernel
theorem dX9_changedAt_27 : decode cX9_changedAt 27 = .ok (.iconst 1, 1) := by decide +kernel
theorem dX9_changedAt_28 : decode cX9_changedAt 28 = .ok (.if_icmp .ne 13, 3) := by decide +kernel
theorem dX9_changedAt_31 : decode cX9_changedAt 31 = .ok (.iload_n 2, 1) := by decide +kernel
theorem dX9_changedAt_32 : decode cX9_changedAt 32 = .ok (.iload_n 1, 1) := by decide +kernel
theorem dX9_changedAt_33 : decode cX9_changedAt 33 = .ok (.if_icmp .ne 5, 3) := by decide +kernel
theorem dX9_changedAt_36 : decode cX9_changedAt 36 = .ok (.iload_n 3, 1) := by decide +kernel
theorem dX9_changedAt_37 : decode cX9_changedAt 37 = .ok (.ireturn, 1) := by decide +kernel
theorem dX9_changedAt_38 : decode cX9_changedAt 38 = .ok (.iinc 2 1, 3) := by decide +kernel
theorem dX9_changedAt_41 : decode cX9_changedAt 41 = .ok (.iinc 3 1, 3) := by decide +kernel
theorem dX9_changedAt_44 : decode cX9_changedAt 44 = .ok (.goto (-33), 3) := by decide +kernel
theorem dX9_changedAt_47 : decode cX9_changedAt 47 = .ok (.ldc 206, 2) := by decide +kernel
theorem dX9_changedAt_49 : decode cX9_changedAt 49 = .ok (.ireturn, 1) := by decide +kernel
theorem dX9_cause_0 : decode cX9_cause 0 = .ok (.iload_n 1, 1) := by decide +kernel
theorem dX9_cause_1 : decode cX9_cause 1 = .ok (.invokestatic 210, 3) := by decide +kernel
theorem dX9_cause_4 : decode cX9_cause 4 = .ok (.ifCond .ne 8, 3) := by decide +kernel
theorem dX9_cause_7 : decode cX9_cause 7 = .ok (.ldc 111, 2) := by decide +kernel
theorem dX9_cause_9 : decode cX9_cause 9 = .ok (.goto 32, 3) := by decide +kernel
theorem dX9_cause_12 : decode cX9_cause 12 = .ok (.aload_n 0, 1) := by decide +kernel
theorem dX9_cause_13 : decode cX9_cause 13 = .ok (.getfield 7, 3) := by decide +kernel
theorem dX9_cause_16 : decode cX9_cause 16 = .ok (.sipush 2304, 3) := by decide +kernel
theorem dX9_cause_19 : decode cX9_cause 19 = .ok (.iload_n 1, 1) := by decide +kernel
theorem dX9_cause_20 : decode cX9_cause 20 = .ok (.iadd, 1) := by decide +kernel
theorem dX9_cause_21 : decode cX9_cause 21 = .ok (.iaload, 1) := by decide +kernel
theorem dX9_cause_22 : decode cX9_cause 22 = .ok (.iconst 1, 1) := by decide +kernel
theorem dX9_cause_23 : decode cX9_cause 23 = .ok (.if_icmp .ne 16, 3) := by decide +kernel
theorem dX9_cause_26 : decode cX9_cause 26 = .ok (.aload_n 0, 1) := by decide +kernel
theorem dX9_cause_27 : decode cX9_cause 27 = .ok (.getfield 7, 3) := by decide +kernel
theorem dX9_cause_30 : decode cX9_cause 30 = .ok (.sipush 2448, 3) := by decide +kernel
theorem dX9_cause_33 : decode cX9_cause 33 = .ok (.iload_n 1, 1) := by decide +kernel
theorem dX9_cause_34 : decode cX9_cause 34 = .ok (.iadd, 1) := by decide +kernel
theorem dX9_cause_35 : decode cX9_cause 35 = .ok (.iaload, 1) := by decide +kernel
theorem dX9_cause_36 : decode cX9_cause 36 = .ok (.goto 5, 3) := by decide +kernel
theorem dX9_cause_39 : decode cX9_cause 39 = .ok (.ldc 206, 2) := by decide +kernel
theorem dX9_cause_41 : decode cX9_cause 41 = .ok (.ireturn, 1) := by decide +kernel
theorem dX9_chainAt_0 : decode cX9_chainAt 0 = .ok (.iload_n 1, 1) := by decide +kernel
theorem dX9_chainAt_1 : decode cX9_chainAt 1 = .ok (.invokestatic 210, 3) := by decide +kernel
theorem dX9_chainAt_4 : decode cX9_chainAt 4 = .ok (.ifCond .eq 7, 3) := by decide +kernel
theorem dX9_chainAt_7 : decode cX9_chainAt 7 = .ok (.iload_n 2, 1) := by decide +kernel
theorem dX9_chainAt_8 : decode cX9_chainAt 8 = .ok (.ifCond .ge 6, 3) := by decide +kernel
theorem dX9_chainAt_11 : decode cX9_chainAt 11 = .ok (.ldc 111, 2) := by decide +kernel
theorem dX9_chainAt_13 : decode cX9_chainAt 13 = .ok (.ireturn, 1) := by decide +kernel
theorem dX9_chainAt_14 : decode cX9_chainAt 14 = .ok (.iconst 0, 1) := by decide +kernel
theorem dX9_chainAt_15 : decode cX9_chainAt 15 = .ok (.istore_n 3, 1) := by decide +kernel
theorem dX9_chainAt_16 : decode cX9_chainAt 16 = .ok (.iload_n 3, 1) := by decide +kernel
theorem dX9_chainAt_17 : decode cX9_chainAt 17 = .ok (.bipush 72, 2) := by decide +kernel
theorem dX9_chainAt_19 : decode cX9_chainAt 19 = .ok (.if_icmp .ge 33, 3) := by decide +kernel
theorem dX9_chainAt_22 : decode cX9_chainAt 22 = .ok (.aload_n 0, 1) := by decide +kernel
theorem dX9_chainAt_23 : decode cX9_chainAt 23 = .ok (.getfield 101, 3) := by decide +kernel
theorem dX9_chainAt_26 : decode cX9_chainAt 26 = .ok (.iload_n 3, 1) := by decide +kernel
theorem dX9_chainAt_27 : decode cX9_chainAt 27 = .ok (.aload_n 0, 1) := by decide +kernel
theorem dX9_chainAt_28 : decode cX9_chainAt 28 = .ok (.getfield 7, 3) := by decide +kernel
theorem dX9_chainAt_31 : decode cX9_chainAt 31 = .ok (.sipush 2304, 3) := by decide +kernel
theorem dX9_chainAt_34 : decode cX9_chainAt 34 = .ok (.iload_n 3, 1) := by decide +kernel
theorem dX9_chainAt_35 : decode cX9_chainAt 35 = .ok (.iadd, 1) := by decide +kernel
theorem dX9_chainAt_36 : decode cX9_chainAt 36 = .ok (.iaload, 1) := by decide +kernel
theorem dX9_chainAt_37 : decode cX9_chainAt 37 = .ok (.ifCond .ne 7, 3) := by decide +kernel
theorem dX9_chainAt_40 : decode cX9_chainAt 40 = .ok (.iconst 1, 1) := by decide +kernel
theorem dX9_chainAt_41 : decode cX9_chainAt 41 = .ok (.goto 4, 3) := by decide +kernel
theorem dX9_chainAt_44 : decode cX9_chainAt 44 = .ok (.iconst 0, 1) := by decide +kernel
theorem dX9_chainAt_45 : decode cX9_chainAt 45 = .ok (.bastore, 1) := by decide +kernel
theorem dX9_chainAt_46 : decode cX9_chainAt 46 = .ok (.iinc 3 1, 3) := by decide +kernel
theorem dX9_chainAt_49 : decode cX9_chainAt 49 = .ok (.goto (-33), 3) := by decide +kernel
theorem dX9_chainAt_52 : decode cX9_chainAt 52 = .ok (.iload_n 1, 1) := by decide +kernel
theorem dX9_chainAt_53 : decode cX9_chainAt 53 = .ok (.istore_n 3, 1) := by decide +kernel
theorem dX9_chainAt_54 : decode cX9_chainAt 54 = .ok (.iconst 0, 1) := by decide +kernel
theorem dX9_chainAt_55 : decode cX9_chainAt 55 = .ok (.istore 4, 2) := by decide +kernel
theorem dX9_chainAt_57 : decode cX9_chainAt 57 = .ok (.aload_n 0, 1) := by decide +kernel
theorem dX9_chainAt_58 : decode cX9_chainAt 58 = .ok (.getfield 101, 3) := by decide +kernel
theorem dX9_chainAt_61 : decode cX9_chainAt 61 = .ok (.iload_n 3, 1) := by decide +kernel
theorem dX9_chainAt_62 : decode cX9_chainAt 62 = .ok (.baload, 1) := by decide +kernel
theorem dX9_chainAt_63 : decode cX9_chainAt 63 = .ok (.ifCond .ne 35, 3) := by decide +kernel
theorem dX9_chainAt_66 : decode cX9_chainAt 66 = .ok (.iload 4, 2) := by decide +kernel
theorem dX9_chainAt_68 : decode cX9_chainAt 68 = .ok (.iload_n 2, 1) := by decide +kernel
theorem dX9_chainAt_69 : decode cX9_chainAt 69 = .ok (.if_icmp .ne 5, 3) := by decide +kernel
theorem dX9_chainAt_72 : decode cX9_chainAt 72 = .ok (.iload_n 3, 1) := by decide +kernel
theorem dX9_chainAt_73 : decode cX9_chainAt 73 = .ok (.ireturn, 1) := by decide +kernel
theorem dX9_chainAt_74 : decode cX9_chainAt 74 = .ok (.aload_n 0, 1) := by decide +kernel
theorem dX9_chainAt_75 : decode cX9_chainAt 75 = .ok (.getfield 101, 3) := by decide +kernel
theorem dX9_chainAt_78 : decode cX9_chainAt 78 = .ok (.iload_n 3, 1) := by decide +kernel
theorem dX9_chainAt_79 : decode cX9_chainAt 79 = .ok (.iconst 1, 1) := by decide +kernel
theorem dX9_chainAt_80 : decode cX9_chainAt 80 = .ok (.bastore, 1) := by decide +kernel
theorem dX9_chainAt_81 : decode cX9_chainAt 81 = .ok (.aload_n 0, 1) := by decide +kernel
theorem dX9_chainAt_82 : decode cX9_chainAt 82 = .ok (.getfield 7, 3) := by decide +kernel
theorem dX9_chainAt_85 : decode cX9_chainAt 85 = .ok (.sipush 2448, 3) := by decide +kernel
theorem dX9_chainAt_88 : decode cX9_chainAt 88 = .ok (.iload_n 3, 1) := by decide +kernel
theorem dX9_chainAt_89 : decode cX9_chainAt 89 = .ok (.iadd, 1) := by decide +kernel
theorem dX9_chainAt_90 : decode cX9_chainAt 90 = .ok (.iaload, 1) := by decide +kernel
theorem dX9_chainAt_91 : decode cX9_chainAt 91 = .ok (.istore_n 3, 1) := by decide +kernel
theorem dX9_chainAt_92 : decode cX9_chainAt 92 = .ok (.iinc 4 1, 3) := by decide +kernel
theorem dX9_chainAt_95 : decode cX9_chainAt 95 = .ok (.goto (-38), 3) := by decide +kernel
theorem dX9_chainAt_98 : decode cX9_chainAt 98 = .ok (.ldc 206, 2) := by decide +kernel
theorem dX9_chainAt_100 : decode cX9_chainAt 100 = .ok (.ireturn, 1) := by decide +kernel
theorem dX9_whatIf_0 : decode cX9_whatIf 0 = .ok (.iload_n 1, 1) := by decide +kernel
theorem dX9_whatIf_1 : decode cX9_whatIf 1 = .ok (.invokestatic 210, 3) := by decide +kernel
theorem dX9_whatIf_4 : decode cX9_whatIf 4 = .ok (.ifCond .eq 23, 3) := by decide +kernel
theorem dX9_whatIf_7 : decode cX9_whatIf 7 = .ok (.iload_n 2, 1) := by decide +kernel
theorem dX9_whatIf_8 : decode cX9_whatIf 8 = .ok (.ldc_w 387, 3) := by decide +kernel
theorem dX9_whatIf_11 : decode cX9_whatIf 11 = .ok (.ldc_w 388, 3) := by decide +kernel
theorem dX9_whatIf_14 : decode cX9_whatIf 14 = .ok (.invokestatic 104, 3) := by decide +kernel
theorem dX9_whatIf_17 : decode cX9_whatIf 17 = .ok (.ifCond .eq 10, 3) := by decide +kernel
theorem dX9_whatIf_20 : decode cX9_whatIf 20 = .ok (.iload_n 3, 1) := by decide +kernel
theorem dX9_whatIf_21 : decode cX9_whatIf 21 = .ok (.invokestatic 210, 3) := by decide +kernel
theorem dX9_whatIf_24 : decode cX9_whatIf 24 = .ok (.ifCond .ne 6, 3) := by decide +kernel
theorem dX9_whatIf_27 : decode cX9_whatIf 27 = .ok (.ldc 111, 2) := by decide +kernel
theorem dX9_whatIf_29 : decode cX9_whatIf 29 = .ok (.ireturn, 1) := by decide +kernel
theorem dX9_whatIf_30 : decode cX9_whatIf 30 = .ok (.aload_n 0, 1) := by decide +kernel
theorem dX9_whatIf_31 : decode cX9_whatIf 31 = .ok (.iload_n 1, 1) := by decide +kernel
theorem dX9_whatIf_32 : decode cX9_whatIf 32 = .ok (.putfield 97, 3) := by decide +kernel
theorem dX9_whatIf_35 : decode cX9_whatIf 35 = .ok (.aload_n 0, 1) := by decide +kernel
theorem dX9_whatIf_36 : decode cX9_whatIf 36 = .ok (.iload_n 2, 1) := by decide +kernel
theorem dX9_whatIf_37 : decode cX9_whatIf 37 = .ok (.putfield 339, 3) := by decide +kernel
theorem dX9_whatIf_40 : decode cX9_whatIf 40 = .ok (.aload_n 0, 1) := by decide +kernel
theorem dX9_whatIf_41 : decode cX9_whatIf 41 = .ok (.invokevirtual 369, 3) := by decide +kernel
theorem dX9_whatIf_44 : decode cX9_whatIf 44 = .ok (.aload_n 0, 1) := by decide +kernel
theorem dX9_whatIf_45 : decode cX9_whatIf 45 = .ok (.getfield 22, 3) := by decide +kernel
theorem dX9_whatIf_48 : decode cX9_whatIf 48 = .ok (.iload_n 3, 1) := by decide +kernel
theorem dX9_whatIf_49 : decode cX9_whatIf 49 = .ok (.iaload, 1) := by decide +kernel
theorem dX9_whatIf_50 : decode cX9_whatIf 50 = .ok (.ifCond .le 8, 3) := by decide +kernel
theorem dX9_whatIf_53 : decode cX9_whatIf 53 = .ok (.ldc 206, 2) := by decide +kernel
theorem dX9_whatIf_55 : decode cX9_whatIf 55 = .ok (.goto 9, 3) := by decide +kernel
theorem dX9_whatIf_58 : decode cX9_whatIf 58 = .ok (.aload_n 0, 1) := by decide +kernel
theorem dX9_whatIf_59 : decode cX9_whatIf 59 = .ok (.getfield 19, 3) := by decide +kernel
theorem dX9_whatIf_62 : decode cX9_whatIf 62 = .ok (.iload_n 3, 1) := by decide +kernel
theorem dX9_whatIf_63 : decode cX9_whatIf 63 = .ok (.iaload, 1) := by decide +kernel
theorem dX9_whatIf_64 : decode cX9_whatIf 64 = .ok (.istore 4, 2) := by decide +kernel
theorem dX9_whatIf_66 : decode cX9_whatIf 66 = .ok (.aload_n 0, 1) := by decide +kernel
theorem dX9_whatIf_67 : decode cX9_whatIf 67 = .ok (.iconst (-1), 1) := by decide +kernel
theorem dX9_whatIf_68 : decode cX9_whatIf 68 = .ok (.putfield 97, 3) := by decide +kernel
theorem dX9_whatIf_71 : decode cX9_whatIf 71 = .ok (.aload_n 0, 1) := by decide +kernel
theorem dX9_whatIf_72 : decode cX9_whatIf 72 = .ok (.invokevirtual 369, 3) := by decide +kernel
theorem dX9_whatIf_75 : decode cX9_whatIf 75 = .ok (.iload 4, 2) := by decide +kernel
theorem dX9_whatIf_77 : decode cX9_whatIf 77 = .ok (.ireturn, 1) := by decide +kernel
theorem dX9_inAll_0 : decode cX9_inAll 0 = .ok (.iconst 0, 1) := by decide +kernel
theorem dX9_inAll_1 : decode cX9_inAll 1 = .ok (.istore_n 2, 1) := by decide +kernel
theorem dX9_inAll_2 : decode cX9_inAll 2 = .ok (.iconst 0, 1) := by decide +kernel
theorem dX9_inAll_3 : decode cX9_inAll 3 = .ok (.istore_n 3, 1) := by decide +kernel
theorem dX9_inAll_4 : decode cX9_inAll 4 = .ok (.iload_n 3, 1) := by decide +kernel
theorem dX9_inAll_5 : decode cX9_inAll 5 = .ok (.bipush 72, 2) := by decide +kernel
theorem dX9_inAll_7 : decode cX9_inAll 7 = .ok (.if_icmp .ge 20, 3) := by decide +kernel
theorem dX9_inAll_10 : decode cX9_inAll 10 = .ok (.iload_n 2, 1) := by decide +kernel
theorem dX9_inAll_11 : decode cX9_inAll 11 = .ok (.aload_n 0, 1) := by decide +kernel
theorem dX9_inAll_12 : decode cX9_inAll 12 = .ok (.getfield 7, 3) := by decide +kernel
theorem dX9_inAll_15 : decode cX9_inAll 15 = .ok (.iload_n 1, 1) := by decide +kernel
theorem dX9_inAll_16 : decode cX9_inAll 16 = .ok (.iload_n 3, 1) := by decide +kernel
theorem dX9_inAll_17 : decode cX9_inAll 17 = .ok (.iadd, 1) := by decide +kernel
theorem dX9_inAll_18 : decode cX9_inAll 18 = .ok (.iaload, 1) := by decide +kernel
theorem dX9_inAll_19 : decode cX9_inAll 19 = .ok (.iadd, 1) := by decide +kernel
theorem dX9_inAll_20 : decode cX9_inAll 20 = .ok (.istore_n 2, 1) := by decide +kernel
theorem dX9_inAll_21 : decode cX9_inAll 21 = .ok (.iinc 3 1, 3) := by decide +kernel
theorem dX9_inAll_24 : decode cX9_inAll 24 = .ok (.goto (-20), 3) := by decide +kernel
theorem dX9_inAll_27 : decode cX9_inAll 27 = .ok (.iload_n 2, 1) := by decide +kernel
theorem dX9_inAll_28 : decode cX9_inAll 28 = .ok (.ireturn, 1) := by decide +kernel
theorem dX9_formulas_0 : decode cX9_formulas 0 = .ok (.iconst 0, 1) := by decide +kernel
theorem dX9_formulas_1 : decode cX9_formulas 1 = .ok (.istore_n 1, 1) := by decide +kernel
theorem dX9_formulas_2 : decode cX9_formulas 2 = .ok (.iconst 0, 1) := by decide +kernel
theorem dX9_formulas_3 : decode cX9_formulas 3 = .ok (.istore_n 2, 1) := by decide +kernel
theorem dX9_formulas_4 : decode cX9_formulas 4 = .ok (.iload_n 2, 1) := by decide +kernel
theorem dX9_formulas_5 : decode cX9_formulas 5 = .ok (.bipush 72, 2) := by decide +kernel
theorem dX9_formulas_7 : decode cX9_formulas 7 = .ok (.if_icmp .ge 25, 3) := by decide +kernel
theorem dX9_formulas_10 : decode cX9_formulas 10 = .ok (.iload_n 1, 1) := by decide +kernel
theorem dX9_formulas_11 : decode cX9_formulas 11 = .ok (.aload_n 0, 1) := by decide +kernel
theorem dX9_formulas_12 : decode cX9_formulas 12 = .ok (.iload_n 2, 1) := by decide +kernel
theorem dX9_formulas_13 : decode cX9_formulas 13 = .ok (.invokevirtual 281, 3) := by decide +kernel
theorem dX9_formulas_16 : decode cX9_formulas 16 = .ok (.ifCond .eq 7, 3) := by decide +kernel
theorem dX9_formulas_19 : decode cX9_formulas 19 = .ok (.iconst 0, 1) := by decide +kernel
theorem dX9_formulas_20 : decode cX9_formulas 20 = .ok (.goto 4, 3) := by decide +kernel
theorem dX9_formulas_23 : decode cX9_formulas 23 = .ok (.iconst 1, 1) := by decide +kernel
theorem dX9_formulas_24 : decode cX9_formulas 24 = .ok (.iadd, 1) := by decide +kernel
theorem dX9_formulas_25 : decode cX9_formulas 25 = .ok (.istore_n 1, 1) := by decide +kernel
theorem dX9_formulas_26 : decode cX9_formulas 26 = .ok (.iinc 2 1, 3) := by decide +kernel
theorem dX9_formulas_29 : decode cX9_formulas 29 = .ok (.goto (-25), 3) := by decide +kernel
theorem dX9_formulas_32 : decode cX9_formulas 32 = .ok (.iload_n 1, 1) := by decide +kernel
theorem dX9_formulas_33 : decode cX9_formulas 33 = .ok (.ireturn, 1) := by decide +kernel
theorem dX9_errors_0 : decode cX9_errors 0 = .ok (.iconst 0, 1) := by decide +kernel
theorem dX9_errors_1 : decode cX9_errors 1 = .ok (.istore_n 1, 1) := by decide +kernel
theorem dX9_errors_2 : decode cX9_errors 2 = .ok (.iconst 0, 1) := by decide +kernel
theorem dX9_errors_3 : decode cX9_errors 3 = .ok (.istore_n 2, 1) := by decide +kernel
theorem dX9_errors_4 : decode cX9_errors 4 = .ok (.iload_n 2, 1) := by decide +kernel
theorem dX9_errors_5 : decode cX9_errors 5 = .ok (.bipush 72, 2) := by decide +kernel
theorem dX9_errors_7 : decode cX9_errors 7 = .ok (.if_icmp .ge 26, 3) := by decide +kernel
theorem dX9_errors_10 : decode cX9_errors 10 = .ok (.iload_n 1, 1) := by decide +kernel
theorem dX9_errors_11 : decode cX9_errors 11 = .ok (.aload_n 0, 1) := by decide +kernel
theorem dX9_errors_12 : decode cX9_errors 12 = .ok (.getfield 22, 3) := by decide +kernel
theorem dX9_errors_15 : decode cX9_errors 15 = .ok (.iload_n 2, 1) := by decide +kernel
theorem dX9_errors_16 : decode cX9_errors 16 = .ok (.iaload, 1) := by decide +kernel
theorem dX9_errors_17 : decode cX9_errors 17 = .ok (.ifCond .le 7, 3) := by decide +kernel
theorem dX9_errors_20 : decode cX9_errors 20 = .ok (.iconst 1, 1) := by decide +kernel
theorem dX9_errors_21 : decode cX9_errors 21 = .ok (.goto 4, 3) := by decide +kernel
theorem dX9_errors_24 : decode cX9_errors 24 = .ok (.iconst 0, 1) := by decide +kernel
theorem dX9_errors_25 : decode cX9_errors 25 = .ok (.iadd, 1) := by decide +kernel
theorem dX9_errors_26 : decode cX9_errors 26 = .ok (.istore_n 1, 1) := by decide +kernel
theorem dX9_errors_27 : decode cX9_errors 27 = .ok (.iinc 2 1, 3) := by decide +kernel
theorem dX9_errors_30 : decode cX9_errors 30 = .ok (.goto (-26), 3) := by decide +kernel
theorem dX9_errors_33 : decode cX9_errors 33 = .ok (.iload_n 1, 1) := by decide +kernel
theorem dX9_errors_34 : decode cX9_errors 34 = .ok (.ireturn, 1) := by decide +kernel
theorem dX9_highest_0 : decode cX9_highest 0 = .ok (.iconst 0, 1) := by decide +kernel
theorem dX9_highest_1 : decode cX9_highest 1 = .ok (.istore_n 1, 1) := by decide +kernel
theorem dX9_highest_2 : decode cX9_highest 2 = .ok (.iconst 0, 1) := by decide +kernel
theorem dX9_highest_3 : decode cX9_highest 3 = .ok (.istore_n 2, 1) := by decide +kernel
theorem dX9_highest_4 : decode cX9_highest 4 = .ok (.iload_n 2, 1) := by decide +kernel
theorem dX9_highest_5 : decode cX9_highest 5 = .ok (.bipush 72, 2) := by decide +kernel
theorem dX9_highest_7 : decode cX9_highest 7 = .ok (.if_icmp .ge 39, 3) := by decide +kernel
theorem dX9_highest_10 : decode cX9_highest 10 = .ok (.aload_n 0, 1) := by decide +kernel
theorem dX9_highest_11 : decode cX9_highest 11 = .ok (.getfield 25, 3) := by decide +kernel
theorem dX9_highest_14 : decode cX9_highest 14 = .ok (.iload_n 2, 1) := by decide +kernel
theorem dX9_highest_15 : decode cX9_highest 15 = .ok (.baload, 1) := by decide +kernel
theorem dX9_highest_16 : decode cX9_highest 16 = .ok (.ifCond .ne 22, 3) := by decide +kernel
theorem dX9_highest_19 : decode cX9_highest 19 = .ok (.aload_n 0, 1) := by decide +kernel
theorem dX9_highest_20 : decode cX9_highest 20 = .ok (.getfield 29, 3) := by decide +kernel
theorem dX9_highest_23 : decode cX9_highest 23 = .ok (.iload_n 2, 1) := by decide +kernel
theorem dX9_highest_24 : decode cX9_highest 24 = .ok (.iaload, 1) := by decide +kernel
theorem dX9_highest_25 : decode cX9_highest 25 = .ok (.iload_n 1, 1) := by decide +kernel
theorem dX9_highest_26 : decode cX9_highest 26 = .ok (.if_icmp .le 12, 3) := by decide +kernel
theorem dX9_highest_29 : decode cX9_highest 29 = .ok (.aload_n 0, 1) := by decide +kernel
theorem dX9_highest_30 : decode cX9_highest 30 = .ok (.getfield 29, 3) := by decide +kernel
theorem dX9_highest_33 : decode cX9_highest 33 = .ok (.iload_n 2, 1) := by decide +kernel
theorem dX9_highest_34 : decode cX9_highest 34 = .ok (.iaload, 1) := by decide +kernel
theorem dX9_highest_35 : decode cX9_highest 35 = .ok (.goto 4, 3) := by decide +kernel
theorem dX9_highest_38 : decode cX9_highest 38 = .ok (.iload_n 1, 1) := by decide +kernel
theorem dX9_highest_39 : decode cX9_highest 39 = .ok (.istore_n 1, 1) := by decide +kernel
theorem dX9_highest_40 : decode cX9_highest 40 = .ok (.iinc 2 1, 3) := by decide +kernel
theorem dX9_highest_43 : decode cX9_highest 43 = .ok (.goto (-39), 3) := by decide +kernel
theorem dX9_highest_46 : decode cX9_highest 46 = .ok (.iload_n 1, 1) := by decide +kernel
theorem dX9_highest_47 : decode cX9_highest 47 = .ok (.ireturn, 1) := by decide +kernel
theorem dX9_count_0 : decode cX9_count 0 = .ok (.iload_n 1, 1) := by decide +kernel
theorem dX9_count_1 : decode cX9_count 1 = .ok (.tableswitch 157 0 12 #[67, 72, 81, 89, 97, 102, 115, 120, 125, 130, 139, 144, 149], 67) := by decide +kernel
theorem dX9_count_68 : decode cX9_count 68 = .ok (.aload_n 0, 1) := by decide +kernel
theorem dX9_count_69 : decode cX9_count 69 = .ok (.invokevirtual 389, 3) := by decide +kernel
theorem dX9_count_72 : decode cX9_count 72 = .ok (.ireturn, 1) := by decide +kernel
theorem dX9_count_73 : decode cX9_count 73 = .ok (.aload_n 0, 1) := by decide +kernel
theorem dX9_count_74 : decode cX9_count 74 = .ok (.getfield 7, 3) := by decide +kernel
theorem dX9_count_77 : decode cX9_count 77 = .ok (.sipush 2521, 3) := by decide +kernel
theorem dX9_count_80 : decode cX9_count 80 = .ok (.iaload, 1) := by decide +kernel
theorem dX9_count_81 : decode cX9_count 81 = .ok (.ireturn, 1) := by decide +kernel
theorem dX9_count_82 : decode cX9_count 82 = .ok (.aload_n 0, 1) := by decide +kernel
theorem dX9_count_83 : decode cX9_count 83 = .ok (.sipush 2304, 3) := by decide +kernel
theorem dX9_count_86 : decode cX9_count 86 = .ok (.invokevirtual 392, 3) := by decide +kernel
theorem dX9_count_89 : decode cX9_count 89 = .ok (.ireturn, 1) := by decide +kernel
theorem dX9_count_90 : decode cX9_count 90 = .ok (.aload_n 0, 1) := by decide +kernel
theorem dX9_count_91 : decode cX9_count 91 = .ok (.sipush 2376, 3) := by decide +kernel
theorem dX9_count_94 : decode cX9_count 94 = .ok (.invokevirtual 392, 3) := by decide +kernel
theorem dX9_count_97 : decode cX9_count 97 = .ok (.ireturn, 1) := by decide +kernel
theorem dX9_count_98 : decode cX9_count 98 = .ok (.aload_n 0, 1) := by decide +kernel
theorem dX9_count_99 : decode cX9_count 99 = .ok (.getfield 360, 3) := by decide +kernel
theorem dX9_count_102 : decode cX9_count 102 = .ok (.ireturn, 1) := by decide +kernel
theorem dX9_count_103 : decode cX9_count 103 = .ok (.aload_n 0, 1) := by decide +kernel
theorem dX9_count_104 : decode cX9_count 104 = .ok (.getfield 62, 3) := by decide +kernel
theorem dX9_count_107 : decode cX9_count 107 = .ok (.ifCond .eq 7, 3) := by decide +kernel
theorem dX9_count_110 : decode cX9_count 110 = .ok (.iconst 1, 1) := by decide +kernel
theorem dX9_count_111 : decode cX9_count 111 = .ok (.goto 4, 3) := by decide +kernel
theorem dX9_count_114 : decode cX9_count 114 = .ok (.iconst 0, 1) := by decide +kernel
theorem dX9_count_115 : decode cX9_count 115 = .ok (.ireturn, 1) := by decide +kernel
theorem dX9_count_116 : decode cX9_count 116 = .ok (.aload_n 0, 1) := by decide +kernel
theorem dX9_count_117 : decode cX9_count 117 = .ok (.invokevirtual 363, 3) := by decide +kernel
theorem dX9_count_120 : decode cX9_count 120 = .ok (.ireturn, 1) := by decide +kernel
theorem dX9_count_121 : decode cX9_count 121 = .ok (.aload_n 0, 1) := by decide +kernel
theorem dX9_count_122 : decode cX9_count 122 = .ok (.invokevirtual 395, 3) := by decide +kernel
theorem dX9_count_125 : decode cX9_count 125 = .ok (.ireturn, 1) := by decide +kernel
theorem dX9_count_126 : decode cX9_count 126 = .ok (.aload_n 0, 1) := by decide +kernel
theorem dX9_count_127 : decode cX9_count 127 = .ok (.invokevirtual 398, 3) := by decide +kernel
theorem dX9_count_130 : decode cX9_count 130 = .ok (.ireturn, 1) := by decide +kernel
theorem dX9_count_131 : decode cX9_count 131 = .ok (.aload_n 0, 1) := by decide +kernel
theorem dX9_count_132 : decode cX9_count 132 = .ok (.getfield 7, 3) := by decide +kernel
theorem dX9_count_135 : decode cX9_count 135 = .ok (.sipush 2520, 3) := by decide +kernel
theorem dX9_count_138 : decode cX9_count 138 = .ok (.iaload, 1) := by decide +kernel
theorem dX9_count_139 : decode cX9_count 139 = .ok (.ireturn, 1) := by decide +kernel
theorem dX9_count_140 : decode cX9_count 140 = .ok (.aload_n 0, 1) := by decide +kernel
theorem dX9_count_141 : decode cX9_count 141 = .ok (.getfield 108, 3) := by decide +kernel
theorem dX9_count_144 : decode cX9_count 144 = .ok (.ireturn, 1) := by decide +kernel
theorem dX9_count_145 : decode cX9_count 145 = .ok (.aload_n 0, 1) := by decide +kernel
theorem dX9_count_146 : decode cX9_count 146 = .ok (.getfield 112, 3) := by decide +kernel
theorem dX9_count_149 : decode cX9_count 149 = .ok (.ireturn, 1) := by decide +kernel
theorem dX9_count_150 : decode cX9_count 150 = .ok (.aload_n 0, 1) := by decide +kernel
theorem dX9_count_151 : decode cX9_count 151 = .ok (.sipush 2232, 3) := by decide +kernel
theorem dX9_count_154 : decode cX9_count 154 = .ok (.invokevirtual 392, 3) := by decide +kernel
theorem dX9_count_157 : decode cX9_count 157 = .ok (.ireturn, 1) := by decide +kernel
theorem dX9_count_158 : decode cX9_count 158 = .ok (.ldc 111, 2) := by decide +kernel
theorem dX9_count_160 : decode cX9_count 160 = .ok (.ireturn, 1) := by decide +kernel
theorem dX9_undo_0 : decode cX9_undo 0 = .ok (.aload_n 0, 1) := by decide +kernel
theorem dX9_undo_1 : decode cX9_undo 1 = .ok (.getfield 108, 3) := by decide +kernel
theorem dX9_undo_4 : decode cX9_undo 4 = .ok (.ifCond .ne 6, 3) := by decide +kernel
theorem dX9_undo_7 : decode cX9_undo 7 = .ok (.ldc 213, 2) := by decide +kernel
theorem dX9_undo_9 : decode cX9_undo 9 = .ok (.ireturn, 1) := by decide +kernel
theorem dX9_undo_10 : decode cX9_undo 10 = .ok (.aload_n 0, 1) := by decide +kernel
theorem dX9_undo_11 : decode cX9_undo 11 = .ok (.dup, 1) := by decide +kernel
theorem dX9_undo_12 : decode cX9_undo 12 = .ok (.getfield 108, 3) := by decide +kernel
theorem dX9_undo_15 : decode cX9_undo 15 = .ok (.iconst 1, 1) := by decide +kernel
theorem dX9_undo_16 : decode cX9_undo 16 = .ok (.isub, 1) := by decide +kernel
theorem dX9_undo_17 : decode cX9_undo 17 = .ok (.putfield 108, 3) := by decide +kernel
theorem dX9_undo_20 : decode cX9_undo 20 = .ok (.iconst 0, 1) := by decide +kernel
theorem dX9_undo_21 : decode cX9_undo 21 = .ok (.istore_n 1, 1) := by decide +kernel
theorem dX9_undo_22 : decode cX9_undo 22 = .ok (.iload_n 1, 1) := by decide +kernel
theorem dX9_undo_23 : decode cX9_undo 23 = .ok (.sipush 2778, 3) := by decide +kernel
theorem dX9_undo_26 : decode cX9_undo 26 = .ok (.if_icmp .ge 30, 3) := by decide +kernel
theorem dX9_undo_29 : decode cX9_undo 29 = .ok (.aload_n 0, 1) := by decide +kernel
theorem dX9_undo_30 : decode cX9_undo 30 = .ok (.getfield 7, 3) := by decide +kernel
theorem dX9_undo_33 : decode cX9_undo 33 = .ok (.iload_n 1, 1) := by decide +kernel
theorem dX9_undo_34 : decode cX9_undo 34 = .ok (.aload_n 0, 1) := by decide +kernel
theorem dX9_undo_35 : decode cX9_undo 35 = .ok (.getfield 13, 3) := by decide +kernel
theorem dX9_undo_38 : decode cX9_undo 38 = .ok (.sipush 2778, 3) := by decide +kernel
theorem dX9_undo_41 : decode cX9_undo 41 = .ok (.aload_n 0, 1) := by decide +kernel
theorem dX9_undo_42 : decode cX9_undo 42 = .ok (.getfield 108, 3) := by decide +kernel
theorem dX9_undo_45 : decode cX9_undo 45 = .ok (.imul, 1) := by decide +kernel
theorem dX9_undo_46 : decode cX9_undo 46 = .ok (.iload_n 1, 1) := by decide +kernel
theorem dX9_undo_47 : decode cX9_undo 47 = .ok (.iadd, 1) := by decide +kernel
theorem dX9_undo_48 : decode cX9_undo 48 = .ok (.iaload, 1) := by decide +kernel
theorem dX9_undo_49 : decode cX9_undo 49 = .ok (.iastore, 1) := by decide +kernel
theorem dX9_undo_50 : decode cX9_undo 50 = .ok (.iinc 1 1, 3) := by decide +kernel
theorem dX9_undo_53 : decode cX9_undo 53 = .ok (.goto (-31), 3) := by decide +kernel
theorem dX9_undo_56 : decode cX9_undo 56 = .ok (.aload_n 0, 1) := by decide +kernel
theorem dX9_undo_57 : decode cX9_undo 57 = .ok (.invokevirtual 369, 3) := by decide +kernel
theorem dX9_undo_60 : decode cX9_undo 60 = .ok (.aload_n 0, 1) := by decide +kernel
theorem dX9_undo_61 : decode cX9_undo 61 = .ok (.getfield 108, 3) := by decide +kernel
theorem dX9_undo_64 : decode cX9_undo 64 = .ok (.ireturn, 1) := by decide +kernel
theorem dL_law_0 : decode cL_law 0 = .ok (.new 7, 3) := by decide +kernel
theorem dL_law_3 : decode cL_law 3 = .ok (.dup, 1) := by decide +kernel
theorem dL_law_4 : decode cL_law 4 = .ok (.invokespecial 9, 3) := by decide +kernel
theorem dL_law_7 : decode cL_law 7 = .ok (.astore_n 1, 1) := by decide +kernel
theorem dL_law_8 : decode cL_law 8 = .ok (.new 10, 3) := by decide +kernel
theorem dL_law_11 : decode cL_law 11 = .ok (.dup, 1) := by decide +kernel
theorem dL_law_12 : decode cL_law 12 = .ok (.invokespecial 12, 3) := by decide +kernel
theorem dL_law_15 : decode cL_law 15 = .ok (.astore_n 2, 1) := by decide +kernel
theorem dL_law_16 : decode cL_law 16 = .ok (.iconst 0, 1) := by decide +kernel
theorem dL_law_17 : decode cL_law 17 = .ok (.istore_n 3, 1) := by decide +kernel
theorem dL_law_18 : decode cL_law 18 = .ok (.iload_n 3, 1) := by decide +kernel
theorem dL_law_19 : decode cL_law 19 = .ok (.aload_n 0, 1) := by decide +kernel
theorem dL_law_20 : decode cL_law 20 = .ok (.arraylength, 1) := by decide +kernel
theorem dL_law_21 : decode cL_law 21 = .ok (.iconst 4, 1) := by decide +kernel
theorem dL_law_22 : decode cL_law 22 = .ok (.isub, 1) := by decide +kernel
theorem dL_law_23 : decode cL_law 23 = .ok (.if_icmp .gt 628, 3) := by decide +kernel
theorem dL_law_26 : decode cL_law 26 = .ok (.aload_n 0, 1) := by decide +kernel
theorem dL_law_27 : decode cL_law 27 = .ok (.iload_n 3, 1) := by decide +kernel
theorem dL_law_28 : decode cL_law 28 = .ok (.iaload, 1) := by decide +kernel
theorem dL_law_29 : decode cL_law 29 = .ok (.bipush 31, 2) := by decide +kernel
theorem dL_law_31 : decode cL_law 31 = .ok (.iand, 1) := by decide +kernel
theorem dL_law_32 : decode cL_law 32 = .ok (.tableswitch 613 0 20 #[100, 123, 136, 149, 172, 205, 218, 241, 254, 277, 300, 333, 366, 399, 432, 455, 478, 501, 534, 577, 600], 100) := by decide +kernel
theorem dL_law_132 : decode cL_law 132 = .ok (.aload_n 1, 1) := by decide +kernel
theorem dL_law_133 : decode cL_law 133 = .ok (.aload_n 0, 1) := by decide +kernel
theorem dL_law_134 : decode cL_law 134 = .ok (.iload_n 3, 1) := by decide +kernel
theorem dL_law_135 : decode cL_law 135 = .ok (.iconst 1, 1) := by decide +kernel
theorem dL_law_136 : decode cL_law 136 = .ok (.iadd, 1) := by decide +kernel
theorem dL_law_137 : decode cL_law 137 = .ok (.iaload, 1) := by decide +kernel
theorem dL_law_138 : decode cL_law 138 = .ok (.invokevirtual 13, 3) := by decide +kernel
theorem dL_law_141 : decode cL_law 141 = .ok (.aload_n 2, 1) := by decide +kernel
theorem dL_law_142 : decode cL_law 142 = .ok (.aload_n 0, 1) := by decide +kernel
theorem dL_law_143 : decode cL_law 143 = .ok (.iload_n 3, 1) := by decide +kernel
theorem dL_law_144 : decode cL_law 144 = .ok (.iconst 1, 1) := by decide +kernel
theorem dL_law_145 : decode cL_law 145 = .ok (.iadd, 1) := by decide +kernel
theorem dL_law_146 : decode cL_law 146 = .ok (.iaload, 1) := by decide +kernel
theorem dL_law_147 : decode cL_law 147 = .ok (.invokevirtual 17, 3) := by decide +kernel
theorem dL_law_150 : decode cL_law 150 = .ok (.if_icmp .eq 495, 3) := by decide +kernel
theorem dL_law_153 : decode cL_law 153 = .ok (.iconst 0, 1) := by decide +kernel
theorem dL_law_154 : decode cL_law 154 = .ok (.ireturn, 1) := by decide +kernel
theorem dL_law_155 : decode cL_law 155 = .ok (.aload_n 1, 1) := by decide +kernel
theorem dL_law_156 : decode cL_law 156 = .ok (.invokevirtual 18, 3) := by decide +kernel
theorem dL_law_159 : decode cL_law 159 = .ok (.aload_n 2, 1) := by decide +kernel
theorem dL_law_160 : decode cL_law 160 = .ok (.invokevirtual 22, 3) := by decide +kernel
theorem dL_law_163 : decode cL_law 163 = .ok (.if_icmp .eq 482, 3) := by decide +kernel
theorem dL_law_166 : decode cL_law 166 = .ok (.iconst 0, 1) := by decide +kernel
theorem dL_law_167 : decode cL_law 167 = .ok (.ireturn, 1) := by decide +kernel
theorem dL_law_168 : decode cL_law 168 = .ok (.aload_n 1, 1) := by decide +kernel
theorem dL_law_169 : decode cL_law 169 = .ok (.invokevirtual 23, 3) := by decide +kernel
theorem dL_law_172 : decode cL_law 172 = .ok (.aload_n 2, 1) := by decide +kernel
theorem dL_law_173 : decode cL_law 173 = .ok (.invokevirtual 26, 3) := by decide +kernel
theorem dL_law_176 : decode cL_law 176 = .ok (.if_icmp .eq 469, 3) := by decide +kernel
theorem dL_law_179 : decode cL_law 179 = .ok (.iconst 0, 1) := by decide +kernel
theorem dL_law_180 : decode cL_law 180 = .ok (.ireturn, 1) := by decide +kernel
theorem dL_law_181 : decode cL_law 181 = .ok (.aload_n 1, 1) := by decide +kernel
theorem dL_law_182 : decode cL_law 182 = .ok (.aload_n 0, 1) := by decide +kernel
theorem dL_law_183 : decode cL_law 183 = .ok (.iload_n 3, 1) := by decide +kernel
theorem dL_law_184 : decode cL_law 184 = .ok (.iconst 1, 1) := by decide +kernel
theorem dL_law_185 : decode cL_law 185 = .ok (.iadd, 1) := by decide +kernel
theorem dL_law_186 : decode cL_law 186 = .ok (.iaload, 1) := by decide +kernel
theorem dL_law_187 : decode cL_law 187 = .ok (.invokevirtual 27, 3) := by decide +kernel
theorem dL_law_190 : decode cL_law 190 = .ok (.aload_n 2, 1) := by decide +kernel
theorem dL_law_191 : decode cL_law 191 = .ok (.aload_n 0, 1) := by decide +kernel
theorem dL_law_192 : decode cL_law 192 = .ok (.iload_n 3, 1) := by decide +kernel
theorem dL_law_193 : decode cL_law 193 = .ok (.iconst 1, 1) := by decide +kernel
theorem dL_law_194 : decode cL_law 194 = .ok (.iadd, 1) := by decide +kernel
theorem dL_law_195 : decode cL_law 195 = .ok (.iaload, 1) := by decide +kernel
theorem dL_law_196 : decode cL_law 196 = .ok (.invokevirtual 30, 3) := by decide +kernel
theorem dL_law_199 : decode cL_law 199 = .ok (.if_icmp .eq 446, 3) := by decide +kernel
theorem dL_law_202 : decode cL_law 202 = .ok (.iconst 0, 1) := by decide +kernel
theorem dL_law_203 : decode cL_law 203 = .ok (.ireturn, 1) := by decide +kernel
theorem dL_law_204 : decode cL_law 204 = .ok (.aload_n 1, 1) := by decide +kernel
theorem dL_law_205 : decode cL_law 205 = .ok (.aload_n 0, 1) := by decide +kernel
theorem dL_law_206 : decode cL_law 206 = .ok (.iload_n 3, 1) := by decide +kernel
theorem dL_law_207 : decode cL_law 207 = .ok (.iconst 1, 1) := by decide +kernel
theorem dL_law_208 : decode cL_law 208 = .ok (.iadd, 1) := by decide +kernel
theorem dL_law_209 : decode cL_law 209 = .ok (.iaload, 1) := by decide +kernel
theorem dL_law_210 : decode cL_law 210 = .ok (.aload_n 0, 1) := by decide +kernel
theorem dL_law_211 : decode cL_law 211 = .ok (.iload_n 3, 1) := by decide +kernel
theorem dL_law_212 : decode cL_law 212 = .ok (.iconst 2, 1) := by decide +kernel
theorem dL_law_213 : decode cL_law 213 = .ok (.iadd, 1) := by decide +kernel
theorem dL_law_214 : decode cL_law 214 = .ok (.iaload, 1) := by decide +kernel
theorem dL_law_215 : decode cL_law 215 = .ok (.invokevirtual 31, 3) := by decide +kernel
theorem dL_law_218 : decode cL_law 218 = .ok (.aload_n 2, 1) := by decide +kernel
theorem dL_law_219 : decode cL_law 219 = .ok (.aload_n 0, 1) := by decide +kernel
theorem dL_law_220 : decode cL_law 220 = .ok (.iload_n 3, 1) := by decide +kernel
theorem dL_law_221 : decode cL_law 221 = .ok (.iconst 1, 1) := by decide +kernel
theorem dL_law_222 : decode cL_law 222 = .ok (.iadd, 1) := by decide +kernel
theorem dL_law_223 : decode cL_law 223 = .ok (.iaload, 1) := by decide +kernel
theorem dL_law_224 : decode cL_law 224 = .ok (.aload_n 0, 1) := by decide +kernel
theorem dL_law_225 : decode cL_law 225 = .ok (.iload_n 3, 1) := by decide +kernel
theorem dL_law_226 : decode cL_law 226 = .ok (.iconst 2, 1) := by decide +kernel
theorem dL_law_227 : decode cL_law 227 = .ok (.iadd, 1) := by decide +kernel
theorem dL_law_228 : decode cL_law 228 = .ok (.iaload, 1) := by decide +kernel
theorem dL_law_229 : decode cL_law 229 = .ok (.invokevirtual 35, 3) := by decide +kernel
theorem dL_law_232 : decode cL_law 232 = .ok (.if_icmp .eq 413, 3) := by decide +kernel
theorem dL_law_235 : decode cL_law 235 = .ok (.iconst 0, 1) := by decide +kernel
theorem dL_law_236 : decode cL_law 236 = .ok (.ireturn, 1) := by decide +kernel
theorem dL_law_237 : decode cL_law 237 = .ok (.aload_n 1, 1) := by decide +kernel
theorem dL_law_238 : decode cL_law 238 = .ok (.invokevirtual 36, 3) := by decide +kernel
theorem dL_law_241 : decode cL_law 241 = .ok (.aload_n 2, 1) := by decide +kernel
theorem dL_law_242 : decode cL_law 242 = .ok (.invokevirtual 39, 3) := by decide +kernel
theorem dL_law_245 : decode cL_law 245 = .ok (.if_icmp .eq 400, 3) := by decide +kernel
theorem dL_law_248 : decode cL_law 248 = .ok (.iconst 0, 1) := by decide +kernel
theorem dL_law_249 : decode cL_law 249 = .ok (.ireturn, 1) := by decide +kernel
theorem dL_law_250 : decode cL_law 250 = .ok (.aload_n 1, 1) := by decide +kernel
theorem dL_law_251 : decode cL_law 251 = .ok (.aload_n 0, 1) := by decide +kernel
theorem dL_law_252 : decode cL_law 252 = .ok (.iload_n 3, 1) := by decide +kernel
theorem dL_law_253 : decode cL_law 253 = .ok (.iconst 1, 1) := by decide +kernel
theorem dL_law_254 : decode cL_law 254 = .ok (.iadd, 1) := by decide +kernel
theorem dL_law_255 : decode cL_law 255 = .ok (.iaload, 1) := by decide +kernel
theorem dL_law_256 : decode cL_law 256 = .ok (.invokevirtual 40, 3) := by decide +kernel
theorem dL_law_259 : decode cL_law 259 = .ok (.aload_n 2, 1) := by decide +kernel
theorem dL_law_260 : decode cL_law 260 = .ok (.aload_n 0, 1) := by decide +kernel
theorem dL_law_261 : decode cL_law 261 = .ok (.iload_n 3, 1) := by decide +kernel
theorem dL_law_262 : decode cL_law 262 = .ok (.iconst 1, 1) := by decide +kernel
theorem dL_law_263 : decode cL_law 263 = .ok (.iadd, 1) := by decide +kernel
theorem dL_law_264 : decode cL_law 264 = .ok (.iaload, 1) := by decide +kernel
theorem dL_law_265 : decode cL_law 265 = .ok (.invokevirtual 43, 3) := by decide +kernel
theorem dL_law_268 : decode cL_law 268 = .ok (.if_icmp .eq 377, 3) := by decide +kernel
theorem dL_law_271 : decode cL_law 271 = .ok (.iconst 0, 1) := by decide +kernel
theorem dL_law_272 : decode cL_law 272 = .ok (.ireturn, 1) := by decide +kernel
theorem dL_law_273 : decode cL_law 273 = .ok (.aload_n 1, 1) := by decide +kernel
theorem dL_law_274 : decode cL_law 274 = .ok (.invokevirtual 44, 3) := by decide +kernel
theorem dL_law_277 : decode cL_law 277 = .ok (.aload_n 2, 1) := by decide +kernel
theorem dL_law_278 : decode cL_law 278 = .ok (.invokevirtual 47, 3) := by decide +kernel
theorem dL_law_281 : decode cL_law 281 = .ok (.if_icmp .eq 364, 3) := by decide +kernel
theorem dL_law_284 : decode cL_law 284 = .ok (.iconst 0, 1) := by decide +kernel
theorem dL_law_285 : decode cL_law 285 = .ok (.ireturn, 1) := by decide +kernel
theorem dL_law_286 : decode cL_law 286 = .ok (.aload_n 1, 1) := by decide +kernel
theorem dL_law_287 : decode cL_law 287 = .ok (.aload_n 0, 1) := by decide +kernel
theorem dL_law_288 : decode cL_law 288 = .ok (.iload_n 3, 1) := by decide +kernel
theorem dL_law_289 : decode cL_law 289 = .ok (.iconst 1, 1) := by decide +kernel
theorem dL_law_290 : decode cL_law 290 = .ok (.iadd, 1) := by decide +kernel
theorem dL_law_291 : decode cL_law 291 = .ok (.iaload, 1) := by decide +kernel
theorem dL_law_292 : decode cL_law 292 = .ok (.invokevirtual 48, 3) := by decide +kernel
theorem dL_law_295 : decode cL_law 295 = .ok (.aload_n 2, 1) := by decide +kernel
theorem dL_law_296 : decode cL_law 296 = .ok (.aload_n 0, 1) := by decide +kernel
theorem dL_law_297 : decode cL_law 297 = .ok (.iload_n 3, 1) := by decide +kernel
theorem dL_law_298 : decode cL_law 298 = .ok (.iconst 1, 1) := by decide +kernel
theorem dL_law_299 : decode cL_law 299 = .ok (.iadd, 1) := by decide +kernel
theorem dL_law_300 : decode cL_law 300 = .ok (.iaload, 1) := by decide +kernel
theorem dL_law_301 : decode cL_law 301 = .ok (.invokevirtual 51, 3) := by decide +kernel
theorem dL_law_304 : decode cL_law 304 = .ok (.if_icmp .eq 341, 3) := by decide +kernel
theorem dL_law_307 : decode cL_law 307 = .ok (.iconst 0, 1) := by decide +kernel
theorem dL_law_308 : decode cL_law 308 = .ok (.ireturn, 1) := by decide +kernel
theorem dL_law_309 : decode cL_law 309 = .ok (.aload_n 1, 1) := by decide +kernel
theorem dL_law_310 : decode cL_law 310 = .ok (.aload_n 0, 1) := by decide +kernel
theorem dL_law_311 : decode cL_law 311 = .ok (.iload_n 3, 1) := by decide +kernel
theorem dL_law_312 : decode cL_law 312 = .ok (.iconst 1, 1) := by decide +kernel
theorem dL_law_313 : decode cL_law 313 = .ok (.iadd, 1) := by decide +kernel
theorem dL_law_314 : decode cL_law 314 = .ok (.iaload, 1) := by decide +kernel
theorem dL_law_315 : decode cL_law 315 = .ok (.invokevirtual 52, 3) := by decide +kernel
theorem dL_law_318 : decode cL_law 318 = .ok (.aload_n 2, 1) := by decide +kernel
theorem dL_law_319 : decode cL_law 319 = .ok (.aload_n 0, 1) := by decide +kernel
theorem dL_law_320 : decode cL_law 320 = .ok (.iload_n 3, 1) := by decide +kernel
theorem dL_law_321 : decode cL_law 321 = .ok (.iconst 1, 1) := by decide +kernel
theorem dL_law_322 : decode cL_law 322 = .ok (.iadd, 1) := by decide +kernel
theorem dL_law_323 : decode cL_law 323 = .ok (.iaload, 1) := by decide +kernel
theorem dL_law_324 : decode cL_law 324 = .ok (.invokevirtual 55, 3) := by decide +kernel
theorem dL_law_327 : decode cL_law 327 = .ok (.if_icmp .eq 318, 3) := by decide +kernel
theorem dL_law_330 : decode cL_law 330 = .ok (.iconst 0, 1) := by decide +kernel
theorem dL_law_331 : decode cL_law 331 = .ok (.ireturn, 1) := by decide +kernel
theorem dL_law_332 : decode cL_law 332 = .ok (.aload_n 1, 1) := by decide +kernel
theorem dL_law_333 : decode cL_law 333 = .ok (.aload_n 0, 1) := by decide +kernel
theorem dL_law_334 : decode cL_law 334 = .ok (.iload_n 3, 1) := by decide +kernel
theorem dL_law_335 : decode cL_law 335 = .ok (.iconst 1, 1) := by decide +kernel
theorem dL_law_336 : decode cL_law 336 = .ok (.iadd, 1) := by decide +kernel
theorem dL_law_337 : decode cL_law 337 = .ok (.iaload, 1) := by decide +kernel
theorem dL_law_338 : decode cL_law 338 = .ok (.aload_n 0, 1) := by decide +kernel
theorem dL_law_339 : decode cL_law 339 = .ok (.iload_n 3, 1) := by decide +kernel
theorem dL_law_340 : decode cL_law 340 = .ok (.iconst 2, 1) := by decide +kernel
theorem dL_law_341 : decode cL_law 341 = .ok (.iadd, 1) := by decide +kernel
theorem dL_law_342 : decode cL_law 342 = .ok (.iaload, 1) := by decide +kernel
theorem dL_law_343 : decode cL_law 343 = .ok (.invokevirtual 56, 3) := by decide +kernel
theorem dL_law_346 : decode cL_law 346 = .ok (.aload_n 2, 1) := by decide +kernel
theorem dL_law_347 : decode cL_law 347 = .ok (.aload_n 0, 1) := by decide +kernel
theorem dL_law_348 : decode cL_law 348 = .ok (.iload_n 3, 1) := by decide +kernel
theorem dL_law_349 : decode cL_law 349 = .ok (.iconst 1, 1) := by decide +kernel
theorem dL_law_350 : decode cL_law 350 = .ok (.iadd, 1) := by decide +kernel
theorem dL_law_351 : decode cL_law 351 = .ok (.iaload, 1) := by decide +kernel
theorem dL_law_352 : decode cL_law 352 = .ok (.aload_n 0, 1) := by decide +kernel
theorem dL_law_353 : decode cL_law 353 = .ok (.iload_n 3, 1) := by decide +kernel
theorem dL_law_354 : decode cL_law 354 = .ok (.iconst 2, 1) := by decide +kernel
theorem dL_law_355 : decode cL_law 355 = .ok (.iadd, 1) := by decide +kernel
theorem dL_law_356 : decode cL_law 356 = .ok (.iaload, 1) := by decide +kernel
theorem dL_law_357 : decode cL_law 357 = .ok (.invokevirtual 59, 3) := by decide +kernel
theorem dL_law_360 : decode cL_law 360 = .ok (.if_icmp .eq 285, 3) := by decide +kernel
theorem dL_law_363 : decode cL_law 363 = .ok (.iconst 0, 1) := by decide +kernel
theorem dL_law_364 : decode cL_law 364 = .ok (.ireturn, 1) := by decide +kernel
theorem dL_law_365 : decode cL_law 365 = .ok (.aload_n 1, 1) := by decide +kernel
theorem dL_law_366 : decode cL_law 366 = .ok (.aload_n 0, 1) := by decide +kernel
theorem dL_law_367 : decode cL_law 367 = .ok (.iload_n 3, 1) := by decide +kernel
theorem dL_law_368 : decode cL_law 368 = .ok (.iconst 1, 1) := by decide +kernel
theorem dL_law_369 : decode cL_law 369 = .ok (.iadd, 1) := by decide +kernel
theorem dL_law_370 : decode cL_law 370 = .ok (.iaload, 1) := by decide +kernel
theorem dL_law_371 : decode cL_law 371 = .ok (.aload_n 0, 1) := by decide +kernel
theorem dL_law_372 : decode cL_law 372 = .ok (.iload_n 3, 1) := by decide +kernel
theorem dL_law_373 : decode cL_law 373 = .ok (.iconst 2, 1) := by decide +kernel
theorem dL_law_374 : decode cL_law 374 = .ok (.iadd, 1) := by decide +kernel
theorem dL_law_375 : decode cL_law 375 = .ok (.iaload, 1) := by decide +kernel
theorem dL_law_376 : decode cL_law 376 = .ok (.invokevirtual 60, 3) := by decide +kernel
theorem dL_law_379 : decode cL_law 379 = .ok (.aload_n 2, 1) := by decide +kernel
theorem dL_law_380 : decode cL_law 380 = .ok (.aload_n 0, 1) := by decide +kernel
theorem dL_law_381 : decode cL_law 381 = .ok (.iload_n 3, 1) := by decide +kernel
theorem dL_law_382 : decode cL_law 382 = .ok (.iconst 1, 1) := by decide +kernel
theorem dL_law_383 : decode cL_law 383 = .ok (.iadd, 1) := by decide +kernel
theorem dL_law_384 : decode cL_law 384 = .ok (.iaload, 1) := by decide +kernel
theorem dL_law_385 : decode cL_law 385 = .ok (.aload_n 0, 1) := by decide +kernel
theorem dL_law_386 : decode cL_law 386 = .ok (.iload_n 3, 1) := by decide +kernel
theorem dL_law_387 : decode cL_law 387 = .ok (.iconst 2, 1) := by decide +kernel
theorem dL_law_388 : decode cL_law 388 = .ok (.iadd, 1) := by decide +kernel
theorem dL_law_389 : decode cL_law 389 = .ok (.iaload, 1) := by decide +kernel
theorem dL_law_390 : decode cL_law 390 = .ok (.invokevirtual 63, 3) := by decide +kernel
theorem dL_law_393 : decode cL_law 393 = .ok (.if_icmp .eq 252, 3) := by decide +kernel
theorem dL_law_396 : decode cL_law 396 = .ok (.iconst 0, 1) := by decide +kernel
theorem dL_law_397 : decode cL_law 397 = .ok (.ireturn, 1) := by decide +kernel
theorem dL_law_398 : decode cL_law 398 = .ok (.aload_n 1, 1) := by decide +kernel
theorem dL_law_399 : decode cL_law 399 = .ok (.aload_n 0, 1) := by decide +kernel
theorem dL_law_400 : decode cL_law 400 = .ok (.iload_n 3, 1) := by decide +kernel
theorem dL_law_401 : decode cL_law 401 = .ok (.iconst 1, 1) := by decide +kernel
theorem dL_law_402 : decode cL_law 402 = .ok (.iadd, 1) := by decide +kernel
theorem dL_law_403 : decode cL_law 403 = .ok (.iaload, 1) := by decide +kernel
theorem dL_law_404 : decode cL_law 404 = .ok (.aload_n 0, 1) := by decide +kernel
theorem dL_law_405 : decode cL_law 405 = .ok (.iload_n 3, 1) := by decide +kernel
theorem dL_law_406 : decode cL_law 406 = .ok (.iconst 2, 1) := by decide +kernel
theorem dL_law_407 : decode cL_law 407 = .ok (.iadd, 1) := by decide +kernel
theorem dL_law_408 : decode cL_law 408 = .ok (.iaload, 1) := by decide +kernel
theorem dL_law_409 : decode cL_law 409 = .ok (.invokevirtual 64, 3) := by decide +kernel
theorem dL_law_412 : decode cL_law 412 = .ok (.aload_n 2, 1) := by decide +kernel
theorem dL_law_413 : decode cL_law 413 = .ok (.aload_n 0, 1) := by decide +kernel
theorem dL_law_414 : decode cL_law 414 = .ok (.iload_n 3, 1) := by decide +kernel
theorem dL_law_415 : decode cL_law 415 = .ok (.iconst 1, 1) := by decide +kernel
theorem dL_law_416 : decode cL_law 416 = .ok (.iadd, 1) := by decide +kernel
theorem dL_law_417 : decode cL_law 417 = .ok (.iaload, 1) := by decide +kernel
theorem dL_law_418 : decode cL_law 418 = .ok (.aload_n 0, 1) := by decide +kernel
theorem dL_law_419 : decode cL_law 419 = .ok (.iload_n 3, 1) := by decide +kernel
theorem dL_law_420 : decode cL_law 420 = .ok (.iconst 2, 1) := by decide +kernel
theorem dL_law_421 : decode cL_law 421 = .ok (.iadd, 1) := by decide +kernel
theorem dL_law_422 : decode cL_law 422 = .ok (.iaload, 1) := by decide +kernel
theorem dL_law_423 : decode cL_law 423 = .ok (.invokevirtual 67, 3) := by decide +kernel
theorem dL_law_426 : decode cL_law 426 = .ok (.if_icmp .eq 219, 3) := by decide +kernel
theorem dL_law_429 : decode cL_law 429 = .ok (.iconst 0, 1) := by decide +kernel
theorem dL_law_430 : decode cL_law 430 = .ok (.ireturn, 1) := by decide +kernel
theorem dL_law_431 : decode cL_law 431 = .ok (.aload_n 1, 1) := by decide +kernel
theorem dL_law_432 : decode cL_law 432 = .ok (.aload_n 0, 1) := by decide +kernel
theorem dL_law_433 : decode cL_law 433 = .ok (.iload_n 3, 1) := by decide +kernel
theorem dL_law_434 : decode cL_law 434 = .ok (.iconst 1, 1) := by decide +kernel
theorem dL_law_435 : decode cL_law 435 = .ok (.iadd, 1) := by decide +kernel
theorem dL_law_436 : decode cL_law 436 = .ok (.iaload, 1) := by decide +kernel
theorem dL_law_437 : decode cL_law 437 = .ok (.aload_n 0, 1) := by decide +kernel
theorem dL_law_438 : decode cL_law 438 = .ok (.iload_n 3, 1) := by decide +kernel
theorem dL_law_439 : decode cL_law 439 = .ok (.iconst 2, 1) := by decide +kernel
theorem dL_law_440 : decode cL_law 440 = .ok (.iadd, 1) := by decide +kernel
theorem dL_law_441 : decode cL_law 441 = .ok (.iaload, 1) := by decide +kernel
theorem dL_law_442 : decode cL_law 442 = .ok (.invokevirtual 68, 3) := by decide +kernel
theorem dL_law_445 : decode cL_law 445 = .ok (.aload_n 2, 1) := by decide +kernel
theorem dL_law_446 : decode cL_law 446 = .ok (.aload_n 0, 1) := by decide +kernel
theorem dL_law_447 : decode cL_law 447 = .ok (.iload_n 3, 1) := by decide +kernel
theorem dL_law_448 : decode cL_law 448 = .ok (.iconst 1, 1) := by decide +kernel
theorem dL_law_449 : decode cL_law 449 = .ok (.iadd, 1) := by decide +kernel
theorem dL_law_450 : decode cL_law 450 = .ok (.iaload, 1) := by decide +kernel
theorem dL_law_451 : decode cL_law 451 = .ok (.aload_n 0, 1) := by decide +kernel
theorem dL_law_452 : decode cL_law 452 = .ok (.iload_n 3, 1) := by decide +kernel
theorem dL_law_453 : decode cL_law 453 = .ok (.iconst 2, 1) := by decide +kernel
theorem dL_law_454 : decode cL_law 454 = .ok (.iadd, 1) := by decide +kernel
theorem dL_law_455 : decode cL_law 455 = .ok (.iaload, 1) := by decide +kernel
theorem dL_law_456 : decode cL_law 456 = .ok (.invokevirtual 71, 3) := by decide +kernel
theorem dL_law_459 : decode cL_law 459 = .ok (.if_icmp .eq 186, 3) := by decide +kernel
theorem dL_law_462 : decode cL_law 462 = .ok (.iconst 0, 1) := by decide +kernel
theorem dL_law_463 : decode cL_law 463 = .ok (.ireturn, 1) := by decide +kernel
theorem dL_law_464 : decode cL_law 464 = .ok (.aload_n 1, 1) := by decide +kernel
theorem dL_law_465 : decode cL_law 465 = .ok (.aload_n 0, 1) := by decide +kernel
theorem dL_law_466 : decode cL_law 466 = .ok (.iload_n 3, 1) := by decide +kernel
theorem dL_law_467 : decode cL_law 467 = .ok (.iconst 1, 1) := by decide +kernel
theorem dL_law_468 : decode cL_law 468 = .ok (.iadd, 1) := by decide +kernel
theorem dL_law_469 : decode cL_law 469 = .ok (.iaload, 1) := by decide +kernel
theorem dL_law_470 : decode cL_law 470 = .ok (.invokevirtual 72, 3) := by decide +kernel
theorem dL_law_473 : decode cL_law 473 = .ok (.aload_n 2, 1) := by decide +kernel
theorem dL_law_474 : decode cL_law 474 = .ok (.aload_n 0, 1) := by decide +kernel
theorem dL_law_475 : decode cL_law 475 = .ok (.iload_n 3, 1) := by decide +kernel
theorem dL_law_476 : decode cL_law 476 = .ok (.iconst 1, 1) := by decide +kernel
theorem dL_law_477 : decode cL_law 477 = .ok (.iadd, 1) := by decide +kernel
theorem dL_law_478 : decode cL_law 478 = .ok (.iaload, 1) := by decide +kernel
theorem dL_law_479 : decode cL_law 479 = .ok (.invokevirtual 75, 3) := by decide +kernel
theorem dL_law_482 : decode cL_law 482 = .ok (.if_icmp .eq 163, 3) := by decide +kernel
theorem dL_law_485 : decode cL_law 485 = .ok (.iconst 0, 1) := by decide +kernel
theorem dL_law_486 : decode cL_law 486 = .ok (.ireturn, 1) := by decide +kernel
theorem dL_law_487 : decode cL_law 487 = .ok (.aload_n 1, 1) := by decide +kernel
theorem dL_law_488 : decode cL_law 488 = .ok (.aload_n 0, 1) := by decide +kernel
theorem dL_law_489 : decode cL_law 489 = .ok (.iload_n 3, 1) := by decide +kernel
theorem dL_law_490 : decode cL_law 490 = .ok (.iconst 1, 1) := by decide +kernel
theorem dL_law_491 : decode cL_law 491 = .ok (.iadd, 1) := by decide +kernel
theorem dL_law_492 : decode cL_law 492 = .ok (.iaload, 1) := by decide +kernel
theorem dL_law_493 : decode cL_law 493 = .ok (.invokevirtual 76, 3) := by decide +kernel
theorem dL_law_496 : decode cL_law 496 = .ok (.aload_n 2, 1) := by decide +kernel
theorem dL_law_497 : decode cL_law 497 = .ok (.aload_n 0, 1) := by decide +kernel
theorem dL_law_498 : decode cL_law 498 = .ok (.iload_n 3, 1) := by decide +kernel
theorem dL_law_499 : decode cL_law 499 = .ok (.iconst 1, 1) := by decide +kernel
theorem dL_law_500 : decode cL_law 500 = .ok (.iadd, 1) := by decide +kernel
theorem dL_law_501 : decode cL_law 501 = .ok (.iaload, 1) := by decide +kernel
theorem dL_law_502 : decode cL_law 502 = .ok (.invokevirtual 79, 3) := by decide +kernel
theorem dL_law_505 : decode cL_law 505 = .ok (.if_icmp .eq 140, 3) := by decide +kernel
theorem dL_law_508 : decode cL_law 508 = .ok (.iconst 0, 1) := by decide +kernel
theorem dL_law_509 : decode cL_law 509 = .ok (.ireturn, 1) := by decide +kernel
theorem dL_law_510 : decode cL_law 510 = .ok (.aload_n 1, 1) := by decide +kernel
theorem dL_law_511 : decode cL_law 511 = .ok (.aload_n 0, 1) := by decide +kernel
theorem dL_law_512 : decode cL_law 512 = .ok (.iload_n 3, 1) := by decide +kernel
theorem dL_law_513 : decode cL_law 513 = .ok (.iconst 1, 1) := by decide +kernel
theorem dL_law_514 : decode cL_law 514 = .ok (.iadd, 1) := by decide +kernel
theorem dL_law_515 : decode cL_law 515 = .ok (.iaload, 1) := by decide +kernel
theorem dL_law_516 : decode cL_law 516 = .ok (.invokevirtual 80, 3) := by decide +kernel
theorem dL_law_519 : decode cL_law 519 = .ok (.aload_n 2, 1) := by decide +kernel
theorem dL_law_520 : decode cL_law 520 = .ok (.aload_n 0, 1) := by decide +kernel
theorem dL_law_521 : decode cL_law 521 = .ok (.iload_n 3, 1) := by decide +kernel
theorem dL_law_522 : decode cL_law 522 = .ok (.iconst 1, 1) := by decide +kernel
theorem dL_law_523 : decode cL_law 523 = .ok (.iadd, 1) := by decide +kernel
theorem dL_law_524 : decode cL_law 524 = .ok (.iaload, 1) := by decide +kernel
theorem dL_law_525 : decode cL_law 525 = .ok (.invokevirtual 83, 3) := by decide +kernel
theorem dL_law_528 : decode cL_law 528 = .ok (.if_icmp .eq 117, 3) := by decide +kernel
theorem dL_law_531 : decode cL_law 531 = .ok (.iconst 0, 1) := by decide +kernel
theorem dL_law_532 : decode cL_law 532 = .ok (.ireturn, 1) := by decide +kernel
theorem dL_law_533 : decode cL_law 533 = .ok (.aload_n 1, 1) := by decide +kernel
theorem dL_law_534 : decode cL_law 534 = .ok (.aload_n 0, 1) := by decide +kernel
theorem dL_law_535 : decode cL_law 535 = .ok (.iload_n 3, 1) := by decide +kernel
theorem dL_law_536 : decode cL_law 536 = .ok (.iconst 1, 1) := by decide +kernel
theorem dL_law_537 : decode cL_law 537 = .ok (.iadd, 1) := by decide +kernel
theorem dL_law_538 : decode cL_law 538 = .ok (.iaload, 1) := by decide +kernel
theorem dL_law_539 : decode cL_law 539 = .ok (.aload_n 0, 1) := by decide +kernel
theorem dL_law_540 : decode cL_law 540 = .ok (.iload_n 3, 1) := by decide +kernel
theorem dL_law_541 : decode cL_law 541 = .ok (.iconst 2, 1) := by decide +kernel
theorem dL_law_542 : decode cL_law 542 = .ok (.iadd, 1) := by decide +kernel
theorem dL_law_543 : decode cL_law 543 = .ok (.iaload, 1) := by decide +kernel
theorem dL_law_544 : decode cL_law 544 = .ok (.invokevirtual 84, 3) := by decide +kernel
theorem dL_law_547 : decode cL_law 547 = .ok (.aload_n 2, 1) := by decide +kernel
theorem dL_law_548 : decode cL_law 548 = .ok (.aload_n 0, 1) := by decide +kernel
theorem dL_law_549 : decode cL_law 549 = .ok (.iload_n 3, 1) := by decide +kernel
theorem dL_law_550 : decode cL_law 550 = .ok (.iconst 1, 1) := by decide +kernel
theorem dL_law_551 : decode cL_law 551 = .ok (.iadd, 1) := by decide +kernel
theorem dL_law_552 : decode cL_law 552 = .ok (.iaload, 1) := by decide +kernel
theorem dL_law_553 : decode cL_law 553 = .ok (.aload_n 0, 1) := by decide +kernel
theorem dL_law_554 : decode cL_law 554 = .ok (.iload_n 3, 1) := by decide +kernel
theorem dL_law_555 : decode cL_law 555 = .ok (.iconst 2, 1) := by decide +kernel
theorem dL_law_556 : decode cL_law 556 = .ok (.iadd, 1) := by decide +kernel
theorem dL_law_557 : decode cL_law 557 = .ok (.iaload, 1) := by decide +kernel
theorem dL_law_558 : decode cL_law 558 = .ok (.invokevirtual 87, 3) := by decide +kernel
theorem dL_law_561 : decode cL_law 561 = .ok (.if_icmp .eq 84, 3) := by decide +kernel
theorem dL_law_564 : decode cL_law 564 = .ok (.iconst 0, 1) := by decide +kernel
theorem dL_law_565 : decode cL_law 565 = .ok (.ireturn, 1) := by decide +kernel
theorem dL_law_566 : decode cL_law 566 = .ok (.aload_n 1, 1) := by decide +kernel
theorem dL_law_567 : decode cL_law 567 = .ok (.aload_n 0, 1) := by decide +kernel
theorem dL_law_568 : decode cL_law 568 = .ok (.iload_n 3, 1) := by decide +kernel
theorem dL_law_569 : decode cL_law 569 = .ok (.iconst 1, 1) := by decide +kernel
theorem dL_law_570 : decode cL_law 570 = .ok (.iadd, 1) := by decide +kernel
theorem dL_law_571 : decode cL_law 571 = .ok (.iaload, 1) := by decide +kernel
theorem dL_law_572 : decode cL_law 572 = .ok (.aload_n 0, 1) := by decide +kernel
theorem dL_law_573 : decode cL_law 573 = .ok (.iload_n 3, 1) := by decide +kernel
theorem dL_law_574 : decode cL_law 574 = .ok (.iconst 2, 1) := by decide +kernel
theorem dL_law_575 : decode cL_law 575 = .ok (.iadd, 1) := by decide +kernel
theorem dL_law_576 : decode cL_law 576 = .ok (.iaload, 1) := by decide +kernel
theorem dL_law_577 : decode cL_law 577 = .ok (.aload_n 0, 1) := by decide +kernel
theorem dL_law_578 : decode cL_law 578 = .ok (.iload_n 3, 1) := by decide +kernel
theorem dL_law_579 : decode cL_law 579 = .ok (.iconst 3, 1) := by decide +kernel
theorem dL_law_580 : decode cL_law 580 = .ok (.iadd, 1) := by decide +kernel
theorem dL_law_581 : decode cL_law 581 = .ok (.iaload, 1) := by decide +kernel
theorem dL_law_582 : decode cL_law 582 = .ok (.invokevirtual 88, 3) := by decide +kernel
theorem dL_law_585 : decode cL_law 585 = .ok (.aload_n 2, 1) := by decide +kernel
theorem dL_law_586 : decode cL_law 586 = .ok (.aload_n 0, 1) := by decide +kernel
theorem dL_law_587 : decode cL_law 587 = .ok (.iload_n 3, 1) := by decide +kernel
theorem dL_law_588 : decode cL_law 588 = .ok (.iconst 1, 1) := by decide +kernel
theorem dL_law_589 : decode cL_law 589 = .ok (.iadd, 1) := by decide +kernel
theorem dL_law_590 : decode cL_law 590 = .ok (.iaload, 1) := by decide +kernel
theorem dL_law_591 : decode cL_law 591 = .ok (.aload_n 0, 1) := by decide +kernel
theorem dL_law_592 : decode cL_law 592 = .ok (.iload_n 3, 1) := by decide +kernel
theorem dL_law_593 : decode cL_law 593 = .ok (.iconst 2, 1) := by decide +kernel
theorem dL_law_594 : decode cL_law 594 = .ok (.iadd, 1) := by decide +kernel
theorem dL_law_595 : decode cL_law 595 = .ok (.iaload, 1) := by decide +kernel
theorem dL_law_596 : decode cL_law 596 = .ok (.aload_n 0, 1) := by decide +kernel
theorem dL_law_597 : decode cL_law 597 = .ok (.iload_n 3, 1) := by decide +kernel
theorem dL_law_598 : decode cL_law 598 = .ok (.iconst 3, 1) := by decide +kernel
theorem dL_law_599 : decode cL_law 599 = .ok (.iadd, 1) := by decide +kernel
theorem dL_law_600 : decode cL_law 600 = .ok (.iaload, 1) := by decide +kernel
theorem dL_law_601 : decode cL_law 601 = .ok (.invokevirtual 92, 3) := by decide +kernel
theorem dL_law_604 : decode cL_law 604 = .ok (.if_icmp .eq 41, 3) := by decide +kernel
theorem dL_law_607 : decode cL_law 607 = .ok (.iconst 0, 1) := by decide +kernel
theorem dL_law_608 : decode cL_law 608 = .ok (.ireturn, 1) := by decide +kernel
theorem dL_law_609 : decode cL_law 609 = .ok (.aload_n 1, 1) := by decide +kernel
theorem dL_law_610 : decode cL_law 610 = .ok (.aload_n 0, 1) := by decide +kernel
theorem dL_law_611 : decode cL_law 611 = .ok (.iload_n 3, 1) := by decide +kernel
theorem dL_law_612 : decode cL_law 612 = .ok (.iconst 1, 1) := by decide +kernel
theorem dL_law_613 : decode cL_law 613 = .ok (.iadd, 1) := by decide +kernel
theorem dL_law_614 : decode cL_law 614 = .ok (.iaload, 1) := by decide +kernel
theorem dL_law_615 : decode cL_law 615 = .ok (.invokevirtual 93, 3) := by decide +kernel
theorem dL_law_618 : decode cL_law 618 = .ok (.aload_n 2, 1) := by decide +kernel
theorem dL_law_619 : decode cL_law 619 = .ok (.aload_n 0, 1) := by decide +kernel
theorem dL_law_620 : decode cL_law 620 = .ok (.iload_n 3, 1) := by decide +kernel
theorem dL_law_621 : decode cL_law 621 = .ok (.iconst 1, 1) := by decide +kernel
theorem dL_law_622 : decode cL_law 622 = .ok (.iadd, 1) := by decide +kernel
theorem dL_law_623 : decode cL_law 623 = .ok (.iaload, 1) := by decide +kernel
theorem dL_law_624 : decode cL_law 624 = .ok (.invokevirtual 96, 3) := by decide +kernel
theorem dL_law_627 : decode cL_law 627 = .ok (.if_icmp .eq 18, 3) := by decide +kernel
theorem dL_law_630 : decode cL_law 630 = .ok (.iconst 0, 1) := by decide +kernel
theorem dL_law_631 : decode cL_law 631 = .ok (.ireturn, 1) := by decide +kernel
theorem dL_law_632 : decode cL_law 632 = .ok (.aload_n 1, 1) := by decide +kernel
theorem dL_law_633 : decode cL_law 633 = .ok (.invokevirtual 97, 3) := by decide +kernel
theorem dL_law_636 : decode cL_law 636 = .ok (.aload_n 2, 1) := by decide +kernel
theorem dL_law_637 : decode cL_law 637 = .ok (.invokevirtual 100, 3) := by decide +kernel
theorem dL_law_640 : decode cL_law 640 = .ok (.if_icmp .eq 5, 3) := by decide +kernel
theorem dL_law_643 : decode cL_law 643 = .ok (.iconst 0, 1) := by decide +kernel
theorem dL_law_644 : decode cL_law 644 = .ok (.ireturn, 1) := by decide +kernel
theorem dL_law_645 : decode cL_law 645 = .ok (.iinc 3 4, 3) := by decide +kernel
theorem dL_law_648 : decode cL_law 648 = .ok (.goto (-630), 3) := by decide +kernel
theorem dL_law_651 : decode cL_law 651 = .ok (.iconst 1, 1) := by decide +kernel
theorem dL_law_652 : decode cL_law 652 = .ok (.ireturn, 1) := by decide +kernel
end
section
/-! ===== THE ABSTRACT MACHINE: values are whole numbers, a world is a function of cell and slot ===== -/
abbrev AV : Type := Int ⊕ (Int ⊕ Int)
abbrev Wd : Type := Int → Int → Int
def wset (w : Wd) (c i v : Int) : Wd := fun c' i' => if c' = c ∧ i' = i then v else w c' i'
def in32 (x : Int) : Prop := -2147483648 ≤ x ∧ x ≤ 2147483647
def in64 (x : Int) : Prop := -9223372036854775808 ≤ x ∧ x ≤ 9223372036854775807
def am_rf (ad : Int → Nat) (x : Int) : Value := if x = 0 then .null else .ref (ad x)
def am_cv (ad : Int → Nat) (v : AV) : Value := match v with
  | .inl x => .int (Int32.ofInt x)
  | .inr (.inl x) => .long (Int64.ofInt x)
  | .inr (.inr x) => am_rf ad x
def am_ok (v : AV) : Prop := match v with
  | .inl x => in32 x
  | .inr (.inl x) => in64 x
  | .inr (.inr x) => in32 x
def am_cat (v : AV) : Nat := match v with
  | .inl _ => 1
  | .inr (.inl _) => 2
  | .inr (.inr _) => 1
theorem am_cat_cv (ad : Int → Nat) (v : AV) : (am_cv ad v).category = am_cat v := by
  rcases v with x | x | x
  · rfl
  · rfl
  · show (am_rf ad x).category = 1
    unfold am_rf
    split <;> rfl
theorem am_cats (ad : Int → Nat) (st : List AV) : ((st.map (am_cv ad)).map fun v => v.category).sum = (st.map am_cat).sum := by
  induction st with
  | nil => rfl
  | cons v l ih =>
    simp only [List.map_cons, List.sum_cons, am_cat_cv]
    simp only [List.map_map] at ih ⊢
    rw [ih]
/-- kinds: 0 int[], 1 boolean[], 2 long[], 3 State[], k + 4 an object of class k of vwCl -/
def am_layS (o : Int) : Nat × Nat :=
  if o = 0 then (9, 14) else if o = 1 then (11, 2) else if o = 2 then (0, 2160) else if o = 3 then (0, 72) else if o = 4 then (11, 2) else if o = 5 then (0, 2160) else if o = 6 then (0, 72)
  else if o = 12 then (0, 5184) else (0, 72)
def am_layM (o : Int) : Nat × Nat :=
  if o = 0 then (13, 45) else if o = 1 then (0, 2778) else if o = 2 then (0, 11112) else if o = 3 then (0, 30) else if o = 6 then (1, 72) else if o = 9 then (0, 5184) else if o = 12 then (1, 72) else if o = 13 then (1, 72) else if o = 15 then (0, 5184)
  else if o = 16 then (1, 72) else if o = 17 then (1, 72) else if o = 18 then (0, 40) else if o = 19 then (0, 40) else if o = 20 then (1, 40) else if o = 21 then (1, 40) else if o = 22 then (2, 40) else if o = 23 then (2, 40) else if o = 24 then (0, 40) else if o = 25 then (2, 40) else if o = 26 then (1, 40) else if o = 27 then (2, 40) else if o = 28 then (1, 72)
  else (0, 72)
def am_lay (c : Int) : Nat × Nat :=
  if c ≤ 0 then (99, 0) else
  if c = 1 then (12, 8) else if c = 2 then (10, 2) else if c = 3 then (0, 30) else if c = 4 then (10, 2) else if c = 5 then (0, 30)
  else if c < 38 then am_layS ((c - 6) % 16)
  else if c = 38 then (8, 2) else if c = 39 then (3, 4)
  else if c < 104 then am_layS ((c - 40) % 16)
  else if c = 104 then (5, 1) else if c = 105 then (6, 4) else if c = 106 then (0, 0) else if c = 107 then (4, 2) else if c = 108 then (0, 72) else if c = 109 then (7, 8) else if c = 110 then (6, 4) else if c = 111 then (0, 0) else if c = 112 then (0, 72) else if c = 113 then (0, 72) else if c = 114 then (0, 72)
  else if c < 144 then am_layM (c - 115) else (99, 0)
def am_tyk (k : Nat) : FieldType := match k with
  | 0 => .int
  | 1 => .boolean
  | 2 => .long
  | _ => .object RX5
/-- the sort of a field by its type: 0 int, 1 long, 2 a reference -/
def am_sort (t : FieldType) : Nat := match t with
  | .long => 1
  | .object _ => 2
  | .array _ => 2
  | _ => 0
def am_fty (k : Nat) : Nat → FieldType := match k with
  | 0 => tyX0
  | 1 => tyX1
  | 2 => tyX2
  | 3 => tyX3
  | 4 => tyX4
  | 5 => tyX5
  | 6 => tyX6
  | 7 => tyX7
  | 8 => tyX8
  | _ => tyX9
def am_val (ad : Int → Nat) (s : Nat) (x : Int) : Value := match s with
  | 0 => .int (Int32.ofInt x)
  | 1 => .long (Int64.ofInt x)
  | _ => am_rf ad x
def am_ent (tc : Nat → ClassId) (ad : Int → Nat) (w : Wd) (c : Int) : va_E := match (am_lay c).1 with
  | 0 => .inl (tc 0, (am_lay c).2, .inl (fun j => Int32.ofInt (w c j)))
  | 1 => .inl (tc 1, (am_lay c).2, .inl (fun j => Int32.ofInt (w c j)))
  | 2 => .inl (tc 2, (am_lay c).2, .inr (.inl (fun j => Int64.ofInt (w c j))))
  | 3 => .inl (tc 3, (am_lay c).2, .inr (.inr (.inr (.inr (fun j => if w c j = 0 then none else some (ad (w c j)))))))
  | k + 4 => .inr (k, (List.range (am_lay c).2).map (fun j => am_val ad (am_sort (am_fty k j)) (w c j)))
def am_wl (tc : Nat → ClassId) (ad : Int → Nat) (n : Nat) (w : Wd) : va_W := (List.range n).map (fun k : Nat => (ad ((k : Int) + 1), am_ent tc ad w ((k : Int) + 1)))
def am_isL (c j : Int) : Prop := (am_lay c).1 = 2 ∨ ∃ k, (am_lay c).1 = k + 4 ∧ am_sort (am_fty k j.toNat) = 1
/-- what the final fields of references hold, once all is made -/
def am_fixT (ci : Nat) : List (Option Int) := match ci with
  | 0 => [some 109, some 108]
  | 1 => [some 105]
  | 3 => [some 110, some 112, some 113]
  | 4 => [some 39]
  | 5 => [some 1, some 4, some 7, some 8, some 9, some 10, some 11, some 12, some 13, some 14, some 15]
  | 6 => [some 1]
  | 7 => [some 1, some 2]
  | 8 => [some 2, some 4, some 6, some 22, some 38, some 104, some 107, some 114]
  | 9 => [some 116, some 117, none, some 118, none, some 119, some 120, some 121, some 122, some 123, some 124, some 125, some 126, some 127, some 128, some 129, some 130, some 131, some 132, none, none, some 133, some 134, none, none, none, none, none, some 135, some 136, some 137, some 138, some 139, some 140, some 141, some 142, none, none, none, none, none, none, none, none, some 143]
  | _ => []
def am_fixv (ci k : Nat) (c : Int) : Option Int := ((am_fixT ci).getD k none).map (fun v => if ci = 5 ∨ ci = 6 ∨ ci = 7 then c + v else v)
def am_okw (f : Bool) (w : Wd) : Prop := (∀ c j, (am_isL c j → in64 (w c j)) ∧ (¬ am_isL c j → in32 (w c j))) ∧ (f = true → ∀ (c : Int) (ci k : Nat) (v : Int), (am_lay c).1 = ci + 4 → am_fixv ci k c = some v → w c k = v)
def am_A (base : Nat) : Nat → Prop := fun q => base ≤ q
def am_tys (tc : Nat → ClassId) : List (ClassId × FieldType) := [(tc 0, .int), (tc 1, .boolean), (tc 2, .long), (tc 3, .object RX5)]
def am_AD (ad : Int → Nat) (base : Nat) : Prop := ∀ k : Nat, ad ((k : Int) + 1) = base + k
theorem am_wl_at {tc : Nat → ClassId} {ad : Int → Nat} {n : Nat} {w : Wd} {c : Int} (h1 : 1 ≤ c) (h2 : c ≤ n) : (am_wl tc ad n w)[(c - 1).toNat]? = some (ad c, am_ent tc ad w c) := by
  obtain ⟨k, rfl⟩ : ∃ k : Nat, c = (k : Int) + 1 := ⟨(c - 1).toNat, by omega⟩
  have hk : k < n := by omega
  have e : ((k : Int) + 1 - 1).toNat = k := by omega
  rw [e]
  simp [am_wl, hk]
theorem am_wl_len {tc : Nat → ClassId} {ad : Int → Nat} {n : Nat} {w : Wd} : (am_wl tc ad n w).length = n := by simp [am_wl]
theorem am_wl_get {tc : Nat → ClassId} {ad : Int → Nat} {n : Nat} {w : Wd} {i : Nat} {q : Nat × va_E} (h : (am_wl tc ad n w)[i]? = some q) : i < n ∧ q = (ad ((i : Int) + 1), am_ent tc ad w ((i : Int) + 1)) := by
  have hi : i < n := by
    have := (List.getElem?_eq_some_iff.mp h).1
    rw [am_wl_len] at this
    exact this
  refine ⟨hi, ?_⟩
  have h2 := am_wl_at (tc := tc) (ad := ad) (n := n) (w := w) (c := (i : Int) + 1) (by omega) (by omega)
  rw [show ((i : Int) + 1 - 1).toNat = i by omega, h] at h2
  exact Option.some.inj h2
theorem am_wl_D {tc : Nat → ClassId} {ad : Int → Nat} {n base : Nat} {w : Wd} (h : am_AD ad base) : va_D (am_A base) (am_wl tc ad n w) := by
  refine ⟨fun i j p q hi hj e => ?_, fun k q hk => ?_⟩
  · obtain ⟨-, rfl⟩ := am_wl_get hi
    obtain ⟨-, rfl⟩ := am_wl_get hj
    dsimp only at e
    rw [h i, h j] at e
    omega
  · obtain ⟨-, rfl⟩ := am_wl_get hk
    show base ≤ ad _
    rw [h k]
    omega
/-- writing one entry -/
theorem am_wl_set {tc : Nat → ClassId} {ad : Int → Nat} {n : Nat} {w w' : Wd} {c : Int} (h1 : 1 ≤ c) (he : ∀ c', c' ≠ c → w' c' = w c') : (am_wl tc ad n w).set (c - 1).toNat (ad c, am_ent tc ad w' c) = am_wl tc ad n w' := by
  apply List.ext_getElem?
  intro i
  rw [List.getElem?_set]
  by_cases hi : i < n
  · have hg := fun w : Wd => am_wl_at (tc := tc) (ad := ad) (n := n) (w := w) (c := (i : Int) + 1) (by omega) (by omega)
    simp only [show ((i : Int) + 1 - 1).toNat = i by omega] at hg
    rw [hg, hg]
    by_cases e : (c - 1).toNat = i
    · have hc : c = (i : Int) + 1 := by omega
      subst hc
      rw [if_pos e, if_pos (by rw [am_wl_len]; omega)]
    · rw [if_neg e]
      have : am_ent tc ad w ((i : Int) + 1) = am_ent tc ad w' ((i : Int) + 1) := by
        have hc := he ((i : Int) + 1) (by omega)
        unfold am_ent
        rw [hc]
      rw [this]
  · have hl : ∀ w : Wd, (am_wl tc ad n w)[i]? = none := fun w => List.getElem?_eq_none (by rw [am_wl_len]; omega)
    rw [hl, hl]
    split
    · rw [if_neg (by rw [am_wl_len]; omega)]
    · rfl
/-- locals -/
def am_lv (ad : Int → Nat) (als : List (Option AV)) : List (Nat × Value) := (List.range als.length).filterMap (fun i => match als[i]? with
  | some (some a) => some (i, am_cv ad a)
  | _ => none)
theorem am_lv_mem {ad : Int → Nat} {als : List (Option AV)} {q : Nat × Value} : q ∈ am_lv ad als ↔ ∃ a, als[q.1]? = some (some a) ∧ q.2 = am_cv ad a := by
  unfold am_lv
  rw [List.mem_filterMap]
  constructor
  · rintro ⟨i, -, h⟩
    split at h
    · rename_i a ha
      cases h
      exact ⟨a, ha, rfl⟩
    · cases h
  · rintro ⟨a, ha, hq⟩
    refine ⟨q.1, List.mem_range.mpr (List.getElem?_eq_some_iff.mp ha).1, ?_⟩
    rw [ha]
    show some (q.1, am_cv ad a) = some q
    rw [← hq]
theorem lv_has_mono {ls : Array Slot} {nL : Nat} {l l' : List (Nat × Value)} (h : lv_has ls nL l) (hs : ∀ q ∈ l', q ∈ l) : lv_has ls nL l' := ⟨h.1, h.2.1, fun q hq => h.2.2 q (hs q hq)⟩
def am_kill (als : List (Option AV)) (i : Nat) : List (Option AV) := match i with
  | 0 => als
  | j + 1 => match als[j]? with
    | some (some (.inr (.inl _))) => als.set j none
    | _ => als
def am_s1 (als : List (Option AV)) (i : Nat) (v : AV) : List (Option AV) := (am_kill als i).set i (some v)
def am_s2 (als : List (Option AV)) (i : Nat) (v : AV) : List (Option AV) := ((am_kill als i).set i (some v)).set (i + 1) none
theorem am_kill_get {als : List (Option AV)} {i j : Nat} {a : AV} (h : (am_kill als i)[j]? = some (some a)) : als[j]? = some (some a) ∧ ¬ (j + 1 = i ∧ am_cat a = 2) := by
  unfold am_kill at h
  cases i with
  | zero => exact ⟨h, fun z => by omega⟩
  | succ k =>
    dsimp only at h
    split at h
    · rename_i x hx
      rw [List.getElem?_set] at h
      by_cases e : k = j
      · rw [if_pos e] at h
        split at h <;> cases h
      · rw [if_neg e] at h
        exact ⟨h, fun z => by omega⟩
    · rename_i hx
      refine ⟨h, fun z => ?_⟩
      obtain ⟨z1, z2⟩ := z
      have e : j = k := by omega
      subst e
      rcases a with x | x | x
      · cases z2
      · exact hx x h
      · cases z2
theorem am_s1_sub {ad : Int → Nat} {als : List (Option AV)} {i : Nat} {v : AV} : ∀ q ∈ am_lv ad (am_s1 als i v), q ∈ (i, am_cv ad v) :: (am_lv ad als).filter (fun q => !(q.1 == i) && !(q.1 + 1 == i && q.2.category == 2)) := by
  intro q hq
  obtain ⟨a, ha, he⟩ := am_lv_mem.mp hq
  unfold am_s1 at ha
  rw [List.getElem?_set] at ha
  by_cases e : i = q.1
  · rw [if_pos e] at ha
    split at ha
    · cases ha
      obtain ⟨q1, q2⟩ := q
      dsimp only at e he
      subst e; subst he
      exact List.mem_cons_self
    · cases ha
  · rw [if_neg e] at ha
    obtain ⟨h1, h2⟩ := am_kill_get ha
    refine List.mem_cons_of_mem _ (List.mem_filter.mpr ⟨am_lv_mem.mpr ⟨a, h1, he⟩, ?_⟩)
    rw [he, am_cat_cv]
    have e1 : (q.1 == i) = false := by simpa using fun z => e z.symm
    rw [e1]
    by_cases e2 : q.1 + 1 = i
    · have : ¬ am_cat a = 2 := fun z => h2 ⟨e2, z⟩
      simp [this]
    · simp [e2]
theorem am_s2_sub {ad : Int → Nat} {als : List (Option AV)} {i : Nat} {v : AV} : ∀ q ∈ am_lv ad (am_s2 als i v), q ∈ (i, am_cv ad v) :: (am_lv ad als).filter (fun q => !(q.1 == i) && (!(q.1 == i + 1) && !(q.1 + 1 == i && q.2.category == 2))) := by
  intro q hq
  obtain ⟨a, ha, he⟩ := am_lv_mem.mp hq
  unfold am_s2 at ha
  rw [List.getElem?_set] at ha
  by_cases e0 : i + 1 = q.1
  · rw [if_pos e0] at ha
    split at ha <;> cases ha
  · rw [if_neg e0, List.getElem?_set] at ha
    by_cases e : i = q.1
    · rw [if_pos e] at ha
      split at ha
      · cases ha
        obtain ⟨q1, q2⟩ := q
        dsimp only at e he
        subst e; subst he
        exact List.mem_cons_self
      · cases ha
    · rw [if_neg e] at ha
      obtain ⟨h1, h2⟩ := am_kill_get ha
      refine List.mem_cons_of_mem _ (List.mem_filter.mpr ⟨am_lv_mem.mpr ⟨a, h1, he⟩, ?_⟩)
      rw [he, am_cat_cv]
      have e1 : (q.1 == i) = false := by simpa using fun z => e z.symm
      have e3 : (q.1 == i + 1) = false := by simpa using fun z => e0 z.symm
      rw [e1, e3]
      by_cases e2 : q.1 + 1 = i
      · have : ¬ am_cat a = 2 := fun z => h2 ⟨e2, z⟩
        simp [this]
      · simp [e2]
end
section
/-! ===== contexts ===== -/
abbrev vwCl : List vw_C := [(RX0, TX0, 2), (RX1, TX1, 1), (RX2, TX2, 4), (RX3, TX3, 8), (RX4, TX4, 2), (RX5, TX5, 14), (RX6, TX6, 2), (RX7, TX7, 2), (RX8, TX8, 8), (RX9, TX9, 45)]
def am_G : List Cond := lw_tbl.filter goodWord
def am_isNest (w : Cond) : Bool := match w with
  | .methodLinkNest _ _ _ _ => true
  | .fieldLinkNest _ _ _ _ _ _ => true
  | _ => false
def am_N : List Cond := lw_tbl.filter am_isNest
theorem am_G_good : GoodIn am_G am_G := goodIn_sub (fun _ h => h) (List.all_eq_true.mpr fun _ h => (List.mem_filter.mp h).2)
def am_slen : List Nat := [3, 5, 4, 4, 3, 4, 4, 4, 6]
def am_sbyt : List (List Int32) := [[105, 102, 40], [112, 105, 99, 107, 40], [100, 105, 118, 40], [109, 111, 100, 40], [97, 116, 40], [109, 105, 110, 40], [109, 97, 120, 40], [115, 117, 109, 40], [99, 111, 117, 110, 116, 40]]
def am_stxt : List String := ["if(", "pick(", "div(", "mod(", "at(", "min(", "max(", "sum(", "count("]
def am_least : List Int := [3, 2, 2, 2, 2, 1, 1, 1, 1]
def am_most : List Int := [3, 5, 2, 2, 2, 4, 4, 4, 4]
/-- what lies outside the world: two static arrays (-1, -2), nine texts (-3 .. -11) with their bytes (-12 .. -20), links of nest mates -/
def am_E (ad : Int → Nat) (A : Nat → Prop) (U : State) (H : Heap) : Prop :=
  (va_Z RX8 "LEAST_PARTS" "[I" (.ref (ad (-1))) A U H ∧ va_T .int (ad (-1)) 9 (fun j => .int (Int32.ofInt (am_least.getD j 0))) A U H) ∧
  (va_Z RX8 "MOST_PARTS" "[I" (.ref (ad (-2))) A U H ∧ va_T .int (ad (-2)) 9 (fun j => .int (Int32.ofInt (am_most.getD j 0))) A U H) ∧
  va_Z "java/lang/String" "COMPACT_STRINGS" "Z" (.int 1) A U H ∧
  vk_S 9 am_slen am_sbyt (fun i => ad (-3 - (i : Int))) (fun i => ad (-12 - (i : Int))) A U H ∧
  (∀ i : Nat, i < 9 → vk_R RX8 (224 + 2 * i) (am_stxt.getD i "") (ad (-3 - (i : Int))) U) ∧ va_Z RJ3 "SIOOBE_FORMATTER" "Ljava/util/function/BiFunction;" (.ref (ad (-21))) A U H ∧
  va_AO RX5 U ∧ ∀ w ∈ am_N, va_Nw w U
theorem am_N_warm {s U : State} (hW : s.WarmedH U.vm) {w : Cond} (h : am_isNest w = true) (hZ : va_Nw w s) : va_Nw w U := by
  cases w <;> first | (exact va_Nw.warmM hW hZ) | (exact va_Nw.warmF hW hZ) | (cases h)
/-- the same at a later state over a heap that has kept what is outside A -/
theorem am_E.at {ad : Int → Nat} {A : Nat → Prop} {s U : State} {H : Heap} {locs : List Loc} (h : am_E ad A s s.heap) (hS : va_S A s.heap H locs) (hU : U.heap = H) (hW : s.WarmedH U.vm) : am_E ad A U U.heap := by
  obtain ⟨⟨a1, a2⟩, ⟨b1, b2⟩, c1, d1, e1, g1, k1, f1⟩ := h
  have hvm := hW.alike
  rw [hU]
  exact ⟨⟨(a1.moved hvm).kept hS.2.1, (a2.moved hvm).kept hS.2.1⟩, ⟨(b1.moved hvm).kept hS.2.1, (b2.moved hvm).kept hS.2.1⟩, (c1.moved hvm).kept hS.2.1, (d1.moved hvm).kept hS.2.1, fun i hi => (e1 i hi).warm hW, (g1.moved hvm).kept hS.2.1, k1.moved hvm, fun w hw => am_N_warm hW (List.mem_filter.mp hw).2 (f1 w hw)⟩
theorem am_E.same {ad : Int → Nat} {A : Nat → Prop} {s U : State} (hv : U.vm = s.vm) (hH : U.heap = s.heap) (h : am_E ad A s s.heap) : am_E ad A U U.heap :=
  h.at (locs := []) va_S.rf hH (by rw [hv]; exact State.WarmedH.refl s)
def am_C (y : MethodName) (cc : ByteArray) (nL : Nat) (rt : Option FieldType) (p : Program) (s : State) (m : MethodId) (args : Array Value) (meth : Method) (c : Code) : Prop :=
  p.tables.exec = Jvm.exec ∧ c.code = cc ∧ c.maxLocals = nL ∧ meth.sig.returnType = rt ∧ meth.locks = false ∧ (∀ w ∈ am_G, w.before args s = true) ∧ s.vm.findClass y.cls = some m.cls ∧ meth.name = y.name
/-- the machine stands as the abstract state says -/
def am_X (f : Bool) (D : va_G) (tc : Nat → ClassId) (ad : Int → Nat) (base : Nat) (nL n : Nat) (s : State) (als : List (Option AV)) (st : List AV) (w : Wd) (H : Heap) (locs : List Loc) (ls : Array Slot) (cells : Nat) : Prop :=
  am_E ad (am_A base) s s.heap ∧ va_K D vwCl (am_tys tc) s ∧ am_AD ad base ∧ base ≤ s.heap.size ∧ s.heap.size + cells = base + n ∧ va_P D vwCl (am_wl tc ad n w) H ∧ va_S (am_A base) s.heap H locs ∧ lv_has ls nL (am_lv ad als) ∧ als.length = nL ∧
  am_okw f w ∧ (∀ v, some v ∈ als → am_ok v) ∧ ∀ v ∈ st, am_ok v
def am_Qc (f : Bool) (D : va_G) (tc : Nat → ClassId) (ad : Int → Nat) (base n : Nat) (R : Option AV → Wd → Prop) : Array Value → State → Outcome → State → Prop := fun _ st oc t =>
  (∃ (r : Option AV) (w' : Wd), oc = .returned (r.map (am_cv ad)) ∧ R r w' ∧ am_okw f w' ∧ (∀ v, r = some v → am_ok v) ∧ t.heap.size = base + n ∧ va_P D vwCl (am_wl tc ad n w') t.heap) ∧ va_F (am_A base) st t
def WA (f : Bool) (y : MethodName) (cc : ByteArray) (nL : Nat) (rt : Option FieldType) (d n kc ks pc : Nat) (als : List (Option AV)) (st : List AV) (w : Wd) (R : Option AV → Wd → Prop) : Prop :=
  ∀ (D : va_G) (tc : Nat → ClassId) (ad : Int → Nat) (base : Nat) (p : Program) (l : Launch) (e : Env) (rm : Room) (s : State) (m : MethodId) (args : Array Value) (below : List Frame) (meth : Method) (c : Code) (H : Heap) (locs : List Loc) (ls : Array Slot) (cells slots MC MS : Nat),
    am_C y cc nL rt p s m args meth c → am_X f D tc ad base nL n s als st w H locs ls cells → cells + kc = MC → slots + ks = MS → MC ≤ rm.cells → MS ≤ rm.slots → d ≤ rm.frames → 64 * d ≤ rm.locals →
    W p l e rm s m args below meth c H locs cells slots (MQ below (am_Qc f D tc ad base (n + kc) R) args s MC MS (am_A base)) (F0 m pc ls (st.map (am_cv ad)))
def EvA (f : Bool) (y : MethodName) (cc : ByteArray) (nL : Nat) (rt : Option FieldType) (d n kc ks : Nat) (as : List AV) (w : Wd) (R : Option AV → Wd → Prop) : Prop :=
  ∀ (D : va_G) (tc : Nat → ClassId) (ad : Int → Nat) (base : Nat) (l : Launch), Met l y (Cond.code y cc nL rt :: am_G) { frames := d, cells := kc, slots := ks, locals := 64 * d }
    (va_Pc (as.map (am_cv ad)) (fun U => U.heap.size = base + n ∧ am_E ad (am_A base) U U.heap ∧ va_K D vwCl (am_tys tc) U ∧ am_AD ad base ∧ va_P D vwCl (am_wl tc ad n w) U.heap ∧ am_okw f w ∧ ∀ v ∈ as, am_ok v))
    (am_Qc f D tc ad base (n + kc) R) kc ks (am_A base)
def am_loc (nL : Nat) (as : List AV) : List (Option AV) := (as.flatMap fun v => if am_cat v = 2 then [some v, none] else [some v]) ++ List.replicate (nL - (as.flatMap fun v => if am_cat v = 2 then [some v, none] else [some v]).length) none
theorem am_loc_args (ad : Int → Nat) (as : List AV) : ∀ (i : Nat) (pre : List (Option AV)) (post : List (Option AV)), pre.length = i → (∀ v, some v ∉ post) → ∀ j a, i ≤ j → (pre ++ (as.flatMap fun v => if am_cat v = 2 then [some v, none] else [some v]) ++ post)[j]? = some (some a) → (j, am_cv ad a) ∈ lv_args i (as.map (am_cv ad)) := by
  induction as with
  | nil =>
    intro i pre post hp hn j a hj h
    simp only [List.flatMap_nil, List.append_nil] at h
    rw [List.getElem?_append_right (by omega)] at h
    exact absurd (List.mem_of_getElem? h) (hn a)
  | cons v l ih =>
    intro i pre post hp hn j a hj h
    simp only [List.map_cons, lv_args, am_cat_cv]
    rw [List.flatMap_cons] at h
    by_cases e : j = i
    · subst e
      rw [List.append_assoc, List.getElem?_append_right (by omega), hp] at h
      have : a = v := by
        by_cases c2 : am_cat v = 2
        · rw [if_pos c2] at h
          simp at h
          exact h.symm
        · rw [if_neg c2] at h
          simp at h
          exact h.symm
      rw [this]
      exact List.mem_cons_self
    · refine List.mem_cons_of_mem _ ?_
      by_cases c2 : am_cat v = 2
      · rw [if_pos c2] at h ⊢
        by_cases e2 : j = i + 1
        · subst e2
          rw [List.append_assoc, List.getElem?_append_right (by omega), hp] at h
          simp at h
        · refine ih (i + 2) (pre ++ [some v, none]) post (by simp [hp]) hn j a (by omega) ?_
          simpa using h
      · rw [if_neg c2] at h ⊢
        refine ih (i + 1) (pre ++ [some v]) post (by simp [hp]) hn j a (by omega) ?_
        simpa using h
theorem am_sl_len (ad : Int → Nat) (as : List AV) : (lg_sl (as.map (am_cv ad))).length = (as.flatMap fun v => if am_cat v = 2 then [some v, none] else [some v]).length := by
  induction as with
  | nil => rfl
  | cons v l ih =>
    simp only [List.map_cons, lg_sl, List.flatMap_cons, List.length_append] at ih ⊢
    rw [am_cat_cv]
    rw [ih]
    by_cases c2 : am_cat v = 2
    · simp [c2]
    · simp [c2]
theorem am_loc_has (ad : Int → Nat) (as : List AV) {nL : Nat} (h : (as.flatMap fun v => if am_cat v = 2 then [some v, none] else [some v]).length ≤ nL) : lv_has ((lg_sl (as.map (am_cv ad)) ++ List.replicate (nL - (lg_sl (as.map (am_cv ad))).length) Slot.unset).toArray) nL (am_lv ad (am_loc nL as)) := by
  refine lv_has_mono (lv_entry (as.map (am_cv ad)) (by rw [am_sl_len]; exact h)) (fun q hq => ?_)
  obtain ⟨a, ha, he⟩ := am_lv_mem.mp hq
  have := am_loc_args ad as 0 [] (List.replicate (nL - (as.flatMap fun v => if am_cat v = 2 then [some v, none] else [some v]).length) none) rfl (fun v hv => by have := (List.mem_replicate.mp hv).2; cases this) q.1 a (Nat.zero_le _) (by simpa [am_loc] using ha)
  rw [← he] at this
  exact this
theorem am_loc_ok {as : List AV} {nL : Nat} (h : ∀ v ∈ as, am_ok v) : ∀ v, some v ∈ am_loc nL as → am_ok v := by
  intro v hv
  unfold am_loc at hv
  rcases List.mem_append.mp hv with h1 | h1
  · obtain ⟨x, hx, h2⟩ := List.mem_flatMap.mp h1
    split at h2
    · simp at h2
      rw [h2]; exact h x hx
    · simp at h2
      rw [h2]; exact h x hx
  · have := (List.mem_replicate.mp h1).2
    cases this
/-- from the walk of a body to the contract -/
theorem EvA.of {f : Bool} {y : MethodName} {cc : ByteArray} {nL : Nat} {rt : Option FieldType} {d n kc ks : Nat} {as : List AV} {w : Wd} {R : Option AV → Wd → Prop} (hy : plainName y.cls = true) (hL : (as.flatMap fun v => if am_cat v = 2 then [some v, none] else [some v]).length ≤ nL)
    (h : WA f y cc nL rt d n kc ks 0 (am_loc nL as) [] w R) : EvA f y cc nL rt d n kc ks as w R := by
  intro D tc ad base l
  refine Met.ofW (cc := cc) (maxL := nL) (ret := rt) hy rfl ?_
  intro p e s m args below meth c s₁ B hml hv
  obtain ⟨rfl, hsz, hE, hK, hAD, hP, hw, hok⟩ := hv
  rw [lg_entry_eq]
  have hts0 := atoms_spec (ws := Cond.code y cc nL rt :: am_G) B.pre
  have hC : am_C y cc nL rt p s m (as.map (am_cv ad)).toArray meth c := ⟨B.exec, B.bytes, hml, B.returns, B.notSynchronized, fun w hw => hts0 w (List.mem_cons_of_mem _ hw), findClass_of_methodNamed B.named, (name_of_methodNamed B.named B.method).1⟩
  have hlen : (am_loc nL as).length = nL := by
    simp only [am_loc, List.length_append, List.length_replicate]
    omega
  exact h D tc ad base p l e _ s m _ below meth c s.heap [] _ 0 0 kc ks hC ⟨hE, hK, hAD, by omega, hsz, hP, va_S.rf, am_loc_has ad as hL, hlen, hw, am_loc_ok hok, fun v hv => by cases hv⟩ (Nat.zero_add _) (Nat.zero_add _) (Nat.le_refl _) (Nat.le_refl _) (Nat.le_refl _) (Nat.le_refl _)
theorem EvA.mono {f : Bool} {y : MethodName} {cc : ByteArray} {nL : Nat} {rt : Option FieldType} {d n kc ks : Nat} {as : List AV} {w : Wd} {R R' : Option AV → Wd → Prop} (h : EvA f y cc nL rt d n kc ks as w R) (hR : ∀ r w', R r w' → R' r w') : EvA f y cc nL rt d n kc ks as w R' := by
  intro D tc ad base l p e h1 h2 h3 s m args below h4 h5 h6 h7
  obtain ⟨k, o, a1, a2, a3, ⟨⟨⟨r, w', b1, b2, b3⟩, b4⟩, a5⟩⟩ := h D tc ad base l p e h1 h2 h3 s m args below h4 h5 h6 h7
  exact ⟨k, o, a1, a2, a3, ⟨⟨⟨r, w', b1, hR r w' b2, b3⟩, b4⟩, a5⟩⟩
theorem WA.mono {f : Bool} {y : MethodName} {cc : ByteArray} {nL : Nat} {rt : Option FieldType} {d n kc ks pc : Nat} {als : List (Option AV)} {st : List AV} {w : Wd} {R R' : Option AV → Wd → Prop} (h : WA f y cc nL rt d n kc ks pc als st w R) (hR : ∀ r w', R r w' → R' r w') : WA f y cc nL rt d n kc ks pc als st w R' := by
  intro D tc ad base p l e rm s m args below meth c H locs ls cells slots MC MS h1 h2 h3 h4 h5 h6 h7 h8 T hT X
  obtain ⟨t, a1, o, a2, a3, ⟨⟨r, w', b1, b2, b3⟩, b4⟩, a5⟩ := h D tc ad base p l e rm s m args below meth c H locs ls cells slots MC MS h1 h2 h3 h4 h5 h6 h7 h8 T hT X
  exact ⟨t, a1, o, a2, a3, ⟨⟨r, w', b1, hR r w' b2, b3⟩, b4⟩, a5⟩
theorem WA.deep {f : Bool} {y : MethodName} {cc : ByteArray} {nL : Nat} {rt : Option FieldType} {d d' n kc ks pc : Nat} {als : List (Option AV)} {st : List AV} {w : Wd} {R : Option AV → Wd → Prop} (h : WA f y cc nL rt d n kc ks pc als st w R) (hd : d ≤ d') : WA f y cc nL rt d' n kc ks pc als st w R := by
  intro D tc ad base p l e rm s m args below meth c H locs ls cells slots MC MS h1 h2 h3 h4 h5 h6 h7 h8
  exact h D tc ad base p l e rm s m args below meth c H locs ls cells slots MC MS h1 h2 h3 h4 h5 h6 (Nat.le_trans hd h7) (by omega)
/-- the heap's size is known: the cells of the world are all that has been made -/
theorem am_size {f : Bool} {D : va_G} {tc : Nat → ClassId} {ad : Int → Nat} {base nL n : Nat} {s : State} {als : List (Option AV)} {st : List AV} {w : Wd} {H : Heap} {locs : List Loc} {ls : Array Slot} {cells slots : Nat} {p : Program} {l : Launch} {e : Env} {rm : Room} {m : MethodId} {args : Array Value} {below : List Frame} {meth : Method} {c : Code} {Q : State → Prop} {g : JFrame}
    (X : am_X f D tc ad base nL n s als st w H locs ls cells) (h : H.size = base + n → W p l e rm s m args below meth c H locs cells slots Q g) : W p l e rm s m args below meth c H locs cells slots Q g := by
  intro T hT S
  obtain ⟨x1, x2, x3, x4, x5, x6, x7, x8, x9, x10, x11, x12⟩ := X
  have h1 := S.heapSize
  rw [hT] at h1
  refine h ?_ T hT S
  have h2 : base + n ≤ H.size := by
    cases n with
    | zero => have := x7.1; omega
    | succ k =>
      have h3 := am_wl_at (tc := tc) (ad := ad) (n := k + 1) (w := w) (c := (k : Int) + 1) (by omega) (by omega)
      have h4 := (x6 _ _ h3).lt
      have h5 : ad ((k : Int) + 1) = base + k := x3 k
      rw [show (ad ((k : Int) + 1), am_ent tc ad w ((k : Int) + 1)).1 = base + k from h5] at h4
      omega
  omega
end
section
/-! ===== one instruction: the rules ===== -/
section AMR
variable {f : Bool} {y : MethodName} {cc : ByteArray} {nL : Nat} {rt : Option FieldType} {d n kc ks pc pc' : Nat} {als : List (Option AV)} {st st' : List AV} {w : Wd} {R : Option AV → Wd → Prop}
/-- a step that moves stack and place alone -/
theorem WA.pure (hok : (∀ v ∈ st, am_ok v) → am_okw f w → (∀ v, some v ∈ als → am_ok v) → ∀ v ∈ st', am_ok v)
    (h : ∀ (D : va_G) (tc : Nat → ClassId) (ad : Int → Nat) (base : Nat) (p : Program) (l : Launch) (e : Env) (rm : Room) (s : State) (m : MethodId) (args : Array Value) (below : List Frame) (meth : Method) (c : Code) (H : Heap) (locs : List Loc) (ls : Array Slot) (cells slots : Nat) (Q : State → Prop),
      am_C y cc nL rt p s m args meth c → am_X f D tc ad base nL n s als st w H locs ls cells → (∀ v ∈ st, am_ok v) → cells ≤ rm.cells → slots ≤ rm.slots → d ≤ rm.frames → 64 * d ≤ rm.locals →
      W p l e rm s m args below meth c H locs cells slots Q (F0 m pc' ls (st'.map (am_cv ad))) → W p l e rm s m args below meth c H locs cells slots Q (F0 m pc ls (st.map (am_cv ad))))
    (k : WA f y cc nL rt d n kc ks pc' als st' w R) : WA f y cc nL rt d n kc ks pc als st w R := by
  intro D tc ad base p l e rm s m args below meth c H locs ls cells slots MC MS C X h3 h4 h5 h6 h7 h8
  obtain ⟨x1, x2, x3, x4, x5, x6, x7, x8, x9, x10, x11, x12⟩ := id X
  exact h D tc ad base p l e rm s m args below meth c H locs ls cells slots _ C X x12 (by omega) (by omega) h7 h8 (k D tc ad base p l e rm s m args below meth c H locs ls cells slots MC MS C ⟨x1, x2, x3, x4, x5, x6, x7, x8, x9, x10, x11, hok x12 x10 x11⟩ h3 h4 h5 h6 h7 h8)
theorem am_ok1 {v : AV} (hv : am_ok v) (h : ∀ x ∈ st, am_ok x) : ∀ x ∈ v :: st, am_ok x := fun x hx => by
  rcases List.mem_cons.mp hx with rfl | hx
  · exact hv
  · exact h x hx
theorem am_tl {v : AV} (h : ∀ x ∈ v :: st, am_ok x) : ∀ x ∈ st, am_ok x := fun x hx => h x (List.mem_cons_of_mem _ hx)
theorem am_hd {v : AV} (h : ∀ x ∈ v :: st, am_ok x) : am_ok v := h v List.mem_cons_self
theorem am_loc_read {ad : Int → Nat} {ls : Array Slot} {i : Nat} {a : AV} (h : lv_has ls nL (am_lv ad als)) (ha : als[i]? = some (some a)) : ls[i]? = some (.val (am_cv ad a)) := h.2.2 (i, am_cv ad a) (am_lv_mem.mpr ⟨a, ha, rfl⟩)
theorem o32 {x : Int} (h : in32 x) : Int32.minValue.toInt ≤ x ∧ x ≤ Int32.maxValue.toInt := h
theorem o64 {x : Int} (h : in64 x) : Int64.minValue.toInt ≤ x ∧ x ≤ Int64.maxValue.toInt := h
theorem i32_le {x y : Int} (hx : in32 x) (hy : in32 y) : Int32.ofInt x ≤ Int32.ofInt y ↔ x ≤ y := Int32.ofInt_le_iff_le (o32 hx).1 (o32 hx).2 (o32 hy).1 (o32 hy).2
theorem i32_lt {x y : Int} (hx : in32 x) (hy : in32 y) : Int32.ofInt x < Int32.ofInt y ↔ x < y := Int32.ofInt_lt_iff_lt (o32 hx).1 (o32 hx).2 (o32 hy).1 (o32 hy).2
theorem i64_lt {x y : Int} (hx : in64 x) (hy : in64 y) : Int64.ofInt x < Int64.ofInt y ↔ x < y := Int64.ofInt_lt_iff_lt (o64 hx).1 (o64 hx).2 (o64 hy).1 (o64 hy).2
theorem i32_toInt {x : Int} (hx : in32 x) : (Int32.ofInt x).toInt = x := Int32.toInt_ofInt_of_le hx.1 (by have := hx.2; omega)
theorem i64_toInt {x : Int} (hx : in64 x) : (Int64.ofInt x).toInt = x := Int64.toInt_ofInt_of_le hx.1 (by have := hx.2; omega)
theorem i32_eq {x y : Int} (hx : in32 x) (hy : in32 y) : Int32.ofInt x = Int32.ofInt y ↔ x = y := ⟨fun h => by rw [← i32_toInt hx, ← i32_toInt hy, h], fun h => by rw [h]⟩
theorem i64_eq {x y : Int} (hx : in64 x) (hy : in64 y) : Int64.ofInt x = Int64.ofInt y ↔ x = y := ⟨fun h => by rw [← i64_toInt hx, ← i64_toInt hy, h], fun h => by rw [h]⟩
theorem in32_0 : in32 0 := ⟨by decide, by decide⟩
theorem am_i {x : Int} (h : in32 x) : am_ok (.inl x) := h
theorem am_j {x : Int} (h : in64 x) : am_ok (.inr (.inl x)) := h
theorem am_r {x : Int} (h : in32 x) : am_ok (.inr (.inr x)) := h
theorem i32_nat {x : Int} (hx : in32 x) (h0 : 0 ≤ x) : (Int32.ofInt x).toNatClampNeg = x.toNat := Int32.toNatClampNeg_ofInt_of_le hx.1 (by have := hx.2; omega)
theorem i32_in {x : Int} {N : Nat} (hx : in32 x) (h0 : 0 ≤ x) (h1 : x < N) : vp_in (Int32.ofInt x) N := by
  intro h
  rcases h with h | h
  · exact absurd ((i32_lt hx in32_0).mp h) (by omega)
  · rw [i32_nat hx h0] at h
    omega
-- constants, locals
theorem WA.iconst {z : Int} (hd : decode cc pc = .ok (.iconst z, 1)) (hz : in32 z) (k : WA f y cc nL rt d n kc ks (pc + 1) als (.inl z :: st) w R) : WA f y cc nL rt d n kc ks pc als st w R :=
  WA.pure (fun h _ _ => am_ok1 (am_i hz) h) (fun _ _ _ _ _ _ _ _ _ _ _ _ _ _ _ _ _ _ _ _ C _ _ _ _ _ _ k => lv_iconst C.1 C.2.1 hd rfl k) k
theorem WA.bipush {z : Int} (hd : decode cc pc = .ok (.bipush z, 2)) (hz : -128 ≤ z ∧ z ≤ 127) (k : WA f y cc nL rt d n kc ks (pc + 2) als (.inl z :: st) w R) : WA f y cc nL rt d n kc ks pc als st w R :=
  WA.pure (fun h _ _ => am_ok1 (am_i (x := z) (⟨by omega, by omega⟩)) h) (fun _ _ _ _ _ _ _ _ _ _ _ _ _ _ _ _ _ _ _ _ C _ _ _ _ _ _ k => lv_bipush C.1 C.2.1 hd (Int8.toInt32_ofInt hz.1 hz.2) k) k
theorem WA.sipush {z : Int} (hd : decode cc pc = .ok (.sipush z, 3)) (hz : -32768 ≤ z ∧ z ≤ 32767) (k : WA f y cc nL rt d n kc ks (pc + 3) als (.inl z :: st) w R) : WA f y cc nL rt d n kc ks pc als st w R :=
  WA.pure (fun h _ _ => am_ok1 (am_i (x := z) (⟨by omega, by omega⟩)) h) (fun _ _ _ _ _ _ _ _ _ _ _ _ _ _ _ _ _ _ _ _ C _ _ _ _ _ _ k => lv_sipush C.1 C.2.1 hd (Int16.toInt32_ofInt hz.1 hz.2) k) k
theorem WA.lconst {z : Fin 2} {x : Int} (hd : decode cc pc = .ok (.lconst z, 1)) (hx : x = (z : Nat)) (k : WA f y cc nL rt d n kc ks (pc + 1) als (.inr (.inl x) :: st) w R) : WA f y cc nL rt d n kc ks pc als st w R :=
  WA.pure (fun h _ _ => am_ok1 (am_j (x := x) (⟨by omega, by omega⟩)) h) (fun _ _ _ _ _ _ _ _ _ _ _ _ _ _ _ _ _ _ _ _ C _ _ _ _ _ _ k => lv_lconst C.1 C.2.1 hd (by subst hx; exact Int64.ofInt_eq_ofNat.symm) k) k
theorem WA.ldc {i : Nat} {v : Int32} {x : Int} (hd : decode cc pc = .ok (.ldc i, 2)) (hw : Cond.constant y.cls i v ∈ am_G) (hx : v.toInt = x) (k : WA f y cc nL rt d n kc ks (pc + 2) als (.inl x :: st) w R) : WA f y cc nL rt d n kc ks pc als st w R :=
  WA.pure (fun h _ _ => am_ok1 (am_i (x := x) (by subst hx; exact ⟨v.minValue_le_toInt, v.toInt_le⟩)) h) (fun _ _ _ _ _ _ _ _ _ _ _ _ _ _ _ _ _ _ _ _ C _ _ _ _ _ _ k => lv_ldc C.1 C.2.1 C.2.2.2.2.2.2.1 (C.2.2.2.2.2.1 _ hw) hd (by subst hx; simpa [am_cv] using k)) k
theorem WA.ldc_w {i : Nat} {v : Int32} {x : Int} (hd : decode cc pc = .ok (.ldc_w i, 3)) (hw : Cond.constant y.cls i v ∈ am_G) (hx : v.toInt = x) (k : WA f y cc nL rt d n kc ks (pc + 3) als (.inl x :: st) w R) : WA f y cc nL rt d n kc ks pc als st w R :=
  WA.pure (fun h _ _ => am_ok1 (am_i (x := x) (by subst hx; exact ⟨v.minValue_le_toInt, v.toInt_le⟩)) h) (fun _ _ _ _ _ _ _ _ _ _ _ _ _ _ _ _ _ _ _ _ C _ _ _ _ _ _ k => lv_ldcw C.1 C.2.1 C.2.2.2.2.2.2.1 (C.2.2.2.2.2.1 _ hw) hd (by subst hx; simpa [am_cv] using k)) k
theorem WA.ldc2 {i : Nat} {v : Int64} {x : Int} (hd : decode cc pc = .ok (.ldc2_w i, 3)) (hw : Cond.constantLong y.cls i v ∈ am_G) (hx : v.toInt = x) (k : WA f y cc nL rt d n kc ks (pc + 3) als (.inr (.inl x) :: st) w R) : WA f y cc nL rt d n kc ks pc als st w R :=
  WA.pure (fun h _ _ => am_ok1 (am_j (x := x) (by subst hx; exact ⟨v.minValue_le_toInt, v.toInt_le⟩)) h) (fun _ _ _ _ _ _ _ _ _ _ _ _ _ _ _ _ _ _ _ _ C _ _ _ _ _ _ k => lv_ldc2 C.1 C.2.1 C.2.2.2.2.2.2.1 (C.2.2.2.2.2.1 _ hw) hd (by subst hx; simpa [am_cv] using k)) k
theorem WA.iload_n {i : Fin 4} {x : Int} (hd : decode cc pc = .ok (.iload_n i, 1)) (hl : als[(i : Nat)]? = some (some (.inl x))) (k : WA f y cc nL rt d n kc ks (pc + 1) als (.inl x :: st) w R) : WA f y cc nL rt d n kc ks pc als st w R :=
  WA.pure (fun h _ h2 => am_ok1 (h2 _ (List.mem_of_getElem? hl)) h) (fun _ _ _ _ _ _ _ _ _ _ _ _ _ _ _ _ _ _ _ _ C X _ _ _ _ _ k => lv_iload_n C.1 C.2.1 hd rfl (am_loc_read X.2.2.2.2.2.2.2.1 hl) k) k
theorem WA.iload {i : Nat} {x : Int} (hd : decode cc pc = .ok (.iload i, 2)) (hl : als[i]? = some (some (.inl x))) (k : WA f y cc nL rt d n kc ks (pc + 2) als (.inl x :: st) w R) : WA f y cc nL rt d n kc ks pc als st w R :=
  WA.pure (fun h _ h2 => am_ok1 (h2 _ (List.mem_of_getElem? hl)) h) (fun _ _ _ _ _ _ _ _ _ _ _ _ _ _ _ _ _ _ _ _ C X _ _ _ _ _ k => lv_iload C.1 C.2.1 hd (am_loc_read X.2.2.2.2.2.2.2.1 hl) k) k
theorem WA.lload_n {i : Fin 4} {x : Int} (hd : decode cc pc = .ok (.lload_n i, 1)) (hl : als[(i : Nat)]? = some (some (.inr (.inl x)))) (k : WA f y cc nL rt d n kc ks (pc + 1) als (.inr (.inl x) :: st) w R) : WA f y cc nL rt d n kc ks pc als st w R :=
  WA.pure (fun h _ h2 => am_ok1 (h2 _ (List.mem_of_getElem? hl)) h) (fun _ _ _ _ _ _ _ _ _ _ _ _ _ _ _ _ _ _ _ _ C X _ _ _ _ _ k => lv_lload_n C.1 C.2.1 hd rfl (am_loc_read X.2.2.2.2.2.2.2.1 hl) k) k
theorem WA.lload {i : Nat} {x : Int} (hd : decode cc pc = .ok (.lload i, 2)) (hl : als[i]? = some (some (.inr (.inl x)))) (k : WA f y cc nL rt d n kc ks (pc + 2) als (.inr (.inl x) :: st) w R) : WA f y cc nL rt d n kc ks pc als st w R :=
  WA.pure (fun h _ h2 => am_ok1 (h2 _ (List.mem_of_getElem? hl)) h) (fun _ _ _ _ _ _ _ _ _ _ _ _ _ _ _ _ _ _ _ _ C X _ _ _ _ _ k => lv_lload C.1 C.2.1 hd (am_loc_read X.2.2.2.2.2.2.2.1 hl) k) k
theorem am_rf1 {ad : Int → Nat} {x : Int} (h : x ≠ 0) : am_rf ad x = .ref (ad x) := if_neg h
theorem am_locr {ad : Int → Nat} {ls : Array Slot} {i : Nat} {x : Int} (h : lv_has ls nL (am_lv ad als)) (hl : als[i]? = some (some (.inr (.inr x)))) (hx : x ≠ 0) : ls[i]? = some (.val (.ref (ad x))) := by
  rw [am_loc_read h hl]
  show some (Slot.val (am_rf ad x)) = _
  rw [am_rf1 hx]
theorem WA.aload_n {i : Fin 4} {x : Int} (hd : decode cc pc = .ok (.aload_n i, 1)) (hl : als[(i : Nat)]? = some (some (.inr (.inr x)))) (hx : x ≠ 0) (k : WA f y cc nL rt d n kc ks (pc + 1) als (.inr (.inr x) :: st) w R) : WA f y cc nL rt d n kc ks pc als st w R :=
  WA.pure (fun h _ h2 => am_ok1 (h2 _ (List.mem_of_getElem? hl)) h) (fun _ _ _ _ _ _ _ _ _ _ _ _ _ _ _ _ _ _ _ _ C X _ _ _ _ _ k => lv_aload_n C.1 C.2.1 hd rfl (am_locr X.2.2.2.2.2.2.2.1 hl hx) (by rw [← am_rf1 hx]; exact k)) k
theorem WA.aload {i : Nat} {x : Int} (hd : decode cc pc = .ok (.aload i, 2)) (hl : als[i]? = some (some (.inr (.inr x)))) (hx : x ≠ 0) (k : WA f y cc nL rt d n kc ks (pc + 2) als (.inr (.inr x) :: st) w R) : WA f y cc nL rt d n kc ks pc als st w R :=
  WA.pure (fun h _ h2 => am_ok1 (h2 _ (List.mem_of_getElem? hl)) h) (fun _ _ _ _ _ _ _ _ _ _ _ _ _ _ _ _ _ _ _ _ C X _ _ _ _ _ k => lv_aload C.1 C.2.1 hd (am_locr X.2.2.2.2.2.2.2.1 hl hx) (by rw [← am_rf1 hx]; exact k)) k
end AMR
end
section
/-! ===== rules: stores, arithmetic, branches, returns ===== -/
section AMR2
variable {f : Bool} {y : MethodName} {cc : ByteArray} {nL : Nat} {rt : Option FieldType} {d n kc ks pc pc' : Nat} {als als' : List (Option AV)} {st st' : List AV} {w : Wd} {R : Option AV → Wd → Prop}
/-- a step that sets locals -/
theorem WA.sto (hlen : als'.length = als.length) (hok : (∀ v ∈ st, am_ok v) → am_okw f w → (∀ v, some v ∈ als → am_ok v) → (∀ v, some v ∈ als' → am_ok v) ∧ ∀ v ∈ st', am_ok v)
    (h : ∀ (D : va_G) (tc : Nat → ClassId) (ad : Int → Nat) (base : Nat) (p : Program) (l : Launch) (e : Env) (rm : Room) (s : State) (m : MethodId) (args : Array Value) (below : List Frame) (meth : Method) (c : Code) (H : Heap) (locs : List Loc) (ls : Array Slot) (cells slots : Nat) (Q : State → Prop),
      am_C y cc nL rt p s m args meth c → lv_has ls nL (am_lv ad als) → als.length = nL →
      (∀ ls', lv_has ls' nL (am_lv ad als') → W p l e rm s m args below meth c H locs cells slots Q (F0 m pc' ls' (st'.map (am_cv ad)))) → W p l e rm s m args below meth c H locs cells slots Q (F0 m pc ls (st.map (am_cv ad))))
    (k : WA f y cc nL rt d n kc ks pc' als' st' w R) : WA f y cc nL rt d n kc ks pc als st w R := by
  intro D tc ad base p l e rm s m args below meth c H locs ls cells slots MC MS C X h3 h4 h5 h6 h7 h8
  obtain ⟨x1, x2, x3, x4, x5, x6, x7, x8, x9, x10, x11, x12⟩ := id X
  exact h D tc ad base p l e rm s m args below meth c H locs ls cells slots _ C x8 x9 (fun ls' hl' => k D tc ad base p l e rm s m args below meth c H locs ls' cells slots MC MS C ⟨x1, x2, x3, x4, x5, x6, x7, hl', by rw [hlen]; exact x9, x10, (hok x12 x10 x11).1, (hok x12 x10 x11).2⟩ h3 h4 h5 h6 h7 h8)
theorem am_kill_len (i : Nat) : (am_kill als i).length = als.length := by
  unfold am_kill
  split
  · rfl
  · split
    · simp
    · rfl
theorem am_s1_len (i : Nat) (v : AV) : (am_s1 als i v).length = als.length := by simp [am_s1, am_kill_len]
theorem am_s2_len (i : Nat) (v : AV) : (am_s2 als i v).length = als.length := by simp [am_s2, am_kill_len]
theorem am_set_ok {l : List (Option AV)} {i : Nat} {z : Option AV} (h : ∀ v, some v ∈ l → am_ok v) (hz : ∀ v, z = some v → am_ok v) : ∀ v, some v ∈ l.set i z → am_ok v := fun v hv => by
  rcases List.mem_or_eq_of_mem_set hv with h1 | h1
  · exact h v h1
  · exact hz v h1.symm
theorem am_kill_ok {i : Nat} (h : ∀ v, some v ∈ als → am_ok v) : ∀ v, some v ∈ am_kill als i → am_ok v := by
  unfold am_kill
  split
  · exact h
  · split
    · exact am_set_ok h (fun v hv => by cases hv)
    · exact h
theorem am_s1_ok {i : Nat} {v : AV} (h : ∀ v, some v ∈ als → am_ok v) (hv : am_ok v) : ∀ u, some u ∈ am_s1 als i v → am_ok u := by unfold am_s1; exact am_set_ok (am_kill_ok h) (fun x hx => by cases hx; exact hv)
theorem am_s2_ok {i : Nat} {v : AV} (h : ∀ v, some v ∈ als → am_ok v) (hv : am_ok v) : ∀ u, some u ∈ am_s2 als i v → am_ok u := by unfold am_s2; exact am_set_ok (am_set_ok (am_kill_ok h) (fun x hx => by cases hx; exact hv)) (fun x hx => by cases hx)
theorem WA.istore_n {i : Fin 4} {x : Int} (hd : decode cc pc = .ok (.istore_n i, 1)) (hi : (i : Nat) < als.length) (he : am_s1 als (i : Nat) (.inl x) = als') (k : WA f y cc nL rt d n kc ks (pc + 1) als' st w R) : WA f y cc nL rt d n kc ks pc als (.inl x :: st) w R := by
  subst he
  exact WA.sto (am_s1_len _ _) (fun h _ h2 => ⟨am_s1_ok h2 (am_hd h), am_tl h⟩) (fun _ _ _ _ _ _ _ _ _ _ _ _ _ _ _ _ _ _ _ _ C h hn k => lv_istore_n C.1 C.2.1 hd rfl h (by rw [← hn]; exact hi) rfl (fun ls' hl => k ls' (lv_has_mono hl am_s1_sub))) k
theorem WA.istore {i : Nat} {x : Int} (hd : decode cc pc = .ok (.istore i, 2)) (hi : i < als.length) (he : am_s1 als i (.inl x) = als') (k : WA f y cc nL rt d n kc ks (pc + 2) als' st w R) : WA f y cc nL rt d n kc ks pc als (.inl x :: st) w R := by
  subst he
  exact WA.sto (am_s1_len _ _) (fun h _ h2 => ⟨am_s1_ok h2 (am_hd h), am_tl h⟩) (fun _ _ _ _ _ _ _ _ _ _ _ _ _ _ _ _ _ _ _ _ C h hn k => lv_istore C.1 C.2.1 hd h (by rw [← hn]; exact hi) rfl (fun ls' hl => k ls' (lv_has_mono hl am_s1_sub))) k
theorem WA.astore_n {i : Fin 4} {x : Int} (hd : decode cc pc = .ok (.astore_n i, 1)) (hx : x ≠ 0) (hi : (i : Nat) < als.length) (he : am_s1 als (i : Nat) (.inr (.inr x)) = als') (k : WA f y cc nL rt d n kc ks (pc + 1) als' st w R) : WA f y cc nL rt d n kc ks pc als (.inr (.inr x) :: st) w R := by
  subst he
  exact WA.sto (am_s1_len _ _) (fun h _ h2 => ⟨am_s1_ok h2 (am_hd h), am_tl h⟩) (fun D tc ad base p l e rm s m args below meth c H locs ls cells slots Q C h hn k => by
    show W p l e rm s m args below meth c H locs cells slots Q (F0 m pc ls (am_rf ad x :: st.map (am_cv ad)))
    rw [am_rf1 hx]
    exact lv_astore_n C.1 C.2.1 hd rfl h (by rw [← hn]; exact hi) rfl (fun ls' hl => k ls' (lv_has_mono hl (fun q hq => by have h9 := am_s1_sub q hq; rw [show am_cv ad (.inr (.inr x)) = Value.ref (ad x) from am_rf1 hx] at h9; exact h9)))) k
theorem WA.astore {i : Nat} {x : Int} (hd : decode cc pc = .ok (.astore i, 2)) (hx : x ≠ 0) (hi : i < als.length) (he : am_s1 als i (.inr (.inr x)) = als') (k : WA f y cc nL rt d n kc ks (pc + 2) als' st w R) : WA f y cc nL rt d n kc ks pc als (.inr (.inr x) :: st) w R := by
  subst he
  exact WA.sto (am_s1_len _ _) (fun h _ h2 => ⟨am_s1_ok h2 (am_hd h), am_tl h⟩) (fun D tc ad base p l e rm s m args below meth c H locs ls cells slots Q C h hn k => by
    show W p l e rm s m args below meth c H locs cells slots Q (F0 m pc ls (am_rf ad x :: st.map (am_cv ad)))
    rw [am_rf1 hx]
    exact lv_astore C.1 C.2.1 hd h (by rw [← hn]; exact hi) rfl (fun ls' hl => k ls' (lv_has_mono hl (fun q hq => by have h9 := am_s1_sub q hq; rw [show am_cv ad (.inr (.inr x)) = Value.ref (ad x) from am_rf1 hx] at h9; exact h9)))) k
theorem WA.lstore_n {i : Fin 4} {x : Int} (hd : decode cc pc = .ok (.lstore_n i, 1)) (hi : (i : Nat) + 1 < als.length) (he : am_s2 als (i : Nat) (.inr (.inl x)) = als') (k : WA f y cc nL rt d n kc ks (pc + 1) als' st w R) : WA f y cc nL rt d n kc ks pc als (.inr (.inl x) :: st) w R := by
  subst he
  exact WA.sto (am_s2_len _ _) (fun h _ h2 => ⟨am_s2_ok h2 (am_hd h), am_tl h⟩) (fun _ _ _ _ _ _ _ _ _ _ _ _ _ _ _ _ _ _ _ _ C h hn k => lv_lstore_n C.1 C.2.1 hd rfl h (by rw [← hn]; exact hi) rfl (fun ls' hl => k ls' (lv_has_mono hl am_s2_sub))) k
theorem WA.lstore {i : Nat} {x : Int} (hd : decode cc pc = .ok (.lstore i, 2)) (hi : i + 1 < als.length) (he : am_s2 als i (.inr (.inl x)) = als') (k : WA f y cc nL rt d n kc ks (pc + 2) als' st w R) : WA f y cc nL rt d n kc ks pc als (.inr (.inl x) :: st) w R := by
  subst he
  exact WA.sto (am_s2_len _ _) (fun h _ h2 => ⟨am_s2_ok h2 (am_hd h), am_tl h⟩) (fun _ _ _ _ _ _ _ _ _ _ _ _ _ _ _ _ _ _ _ _ C h hn k => lv_lstore C.1 C.2.1 hd h (by rw [← hn]; exact hi) rfl (fun ls' hl => k ls' (lv_has_mono hl am_s2_sub))) k
theorem WA.iinc {i : Nat} {z x : Int} (hd : decode cc pc = .ok (.iinc i z, 3)) (hl : als[i]? = some (some (.inl x))) (hz : in32 (x + z)) (he : am_s1 als i (.inl (x + z)) = als') (k : WA f y cc nL rt d n kc ks (pc + 3) als' st w R) : WA f y cc nL rt d n kc ks pc als st w R := by
  subst he
  exact WA.sto (am_s1_len _ _) (fun h _ h2 => ⟨am_s1_ok h2 (am_i hz), h⟩) (fun _ _ ad _ _ _ _ _ _ _ _ _ _ _ _ _ _ _ _ _ C h hn k => by
    obtain ⟨j, hj⟩ := List.getElem?_of_mem (am_lv_mem.mpr ⟨_, hl, rfl⟩ : (i, am_cv ad (.inl x)) ∈ am_lv ad als)
    exact lv_iinc C.1 C.2.1 hd h hj (Int32.ofInt_add x z).symm (by rw [← hn]; exact (List.getElem?_eq_some_iff.mp hl).1) rfl (fun ls' hl => k ls' (lv_has_mono hl am_s1_sub))) k
theorem WA.dup {v : AV} (hd : decode cc pc = .ok (.dup, 1)) (hv : am_cat v = 1) (k : WA f y cc nL rt d n kc ks (pc + 1) als (v :: v :: st) w R) : WA f y cc nL rt d n kc ks pc als (v :: st) w R :=
  WA.pure (fun h _ _ => am_ok1 (am_hd h) h) (fun _ _ _ _ _ _ _ _ _ _ _ _ _ _ _ _ _ _ _ _ C X ho _ _ _ _ k => lv_dup C.1 C.2.1 hd (by rw [am_cat_cv]; exact hv) k) k
theorem WA.pop {v : AV} (hd : decode cc pc = .ok (.pop, 1)) (hv : am_cat v = 1) (k : WA f y cc nL rt d n kc ks (pc + 1) als st w R) : WA f y cc nL rt d n kc ks pc als (v :: st) w R :=
  WA.pure (fun h _ _ => am_tl h) (fun _ _ _ _ _ _ _ _ _ _ _ _ _ _ _ _ _ _ _ _ C X ho _ _ _ _ k => lv_pop C.1 C.2.1 hd (by rw [am_cat_cv]; exact hv) k) k
theorem WA.dup2 {v u : AV} (hd : decode cc pc = .ok (.dup2, 1)) (hv : am_cat v = 1) (hu : am_cat u = 1) (k : WA f y cc nL rt d n kc ks (pc + 1) als (v :: u :: v :: u :: st) w R) : WA f y cc nL rt d n kc ks pc als (v :: u :: st) w R :=
  WA.pure (fun h _ _ => am_ok1 (am_hd h) (am_ok1 (am_hd (am_tl h)) h)) (fun _ _ _ _ _ _ _ _ _ _ _ _ _ _ _ _ _ _ _ _ C X ho _ _ _ _ k => lv_dup2_11 C.1 C.2.1 hd (by rw [am_cat_cv]; exact hv) (by rw [am_cat_cv]; exact hu) k) k
theorem WA.iadd {x z : Int} (hd : decode cc pc = .ok (.iadd, 1)) (hz : in32 (x + z)) (k : WA f y cc nL rt d n kc ks (pc + 1) als (.inl (x + z) :: st) w R) : WA f y cc nL rt d n kc ks pc als (.inl z :: .inl x :: st) w R :=
  WA.pure (fun h _ _ => am_ok1 (am_i hz) (am_tl (am_tl h))) (fun _ _ _ _ _ _ _ _ _ _ _ _ _ _ _ _ _ _ _ _ C X ho _ _ _ _ k => lv_iadd C.1 C.2.1 hd (by rw [← Int32.ofInt_add]; exact k)) k
theorem WA.isub {x z : Int} (hd : decode cc pc = .ok (.isub, 1)) (hz : in32 (x - z)) (k : WA f y cc nL rt d n kc ks (pc + 1) als (.inl (x - z) :: st) w R) : WA f y cc nL rt d n kc ks pc als (.inl z :: .inl x :: st) w R :=
  WA.pure (fun h _ _ => am_ok1 (am_i hz) (am_tl (am_tl h))) (fun _ _ _ _ _ _ _ _ _ _ _ _ _ _ _ _ _ _ _ _ C X ho _ _ _ _ k => lv_isub C.1 C.2.1 hd (by rw [← Int32.ofInt_sub]; exact k)) k
theorem WA.imul {x z : Int} (hd : decode cc pc = .ok (.imul, 1)) (hz : in32 (x * z)) (k : WA f y cc nL rt d n kc ks (pc + 1) als (.inl (x * z) :: st) w R) : WA f y cc nL rt d n kc ks pc als (.inl z :: .inl x :: st) w R :=
  WA.pure (fun h _ _ => am_ok1 (am_i hz) (am_tl (am_tl h))) (fun _ _ _ _ _ _ _ _ _ _ _ _ _ _ _ _ _ _ _ _ C X ho _ _ _ _ k => lv_imul C.1 C.2.1 hd (by rw [← Int32.ofInt_mul]; exact k)) k
theorem WA.ladd {x z : Int} (hd : decode cc pc = .ok (.ladd, 1)) (hz : in64 (x + z)) (k : WA f y cc nL rt d n kc ks (pc + 1) als (.inr (.inl (x + z)) :: st) w R) : WA f y cc nL rt d n kc ks pc als (.inr (.inl z) :: .inr (.inl x) :: st) w R :=
  WA.pure (fun h _ _ => am_ok1 (am_j hz) (am_tl (am_tl h))) (fun _ _ _ _ _ _ _ _ _ _ _ _ _ _ _ _ _ _ _ _ C X ho _ _ _ _ k => lv_ladd C.1 C.2.1 hd (by rw [← Int64.ofInt_add]; exact k)) k
theorem WA.lsub {x z : Int} (hd : decode cc pc = .ok (.lsub, 1)) (hz : in64 (x - z)) (k : WA f y cc nL rt d n kc ks (pc + 1) als (.inr (.inl (x - z)) :: st) w R) : WA f y cc nL rt d n kc ks pc als (.inr (.inl z) :: .inr (.inl x) :: st) w R :=
  WA.pure (fun h _ _ => am_ok1 (am_j hz) (am_tl (am_tl h))) (fun _ _ _ _ _ _ _ _ _ _ _ _ _ _ _ _ _ _ _ _ C X ho _ _ _ _ k => lv_lsub C.1 C.2.1 hd (by rw [← Int64.ofInt_sub]; exact k)) k
theorem WA.lmul {x z : Int} (hd : decode cc pc = .ok (.lmul, 1)) (hz : in64 (x * z)) (k : WA f y cc nL rt d n kc ks (pc + 1) als (.inr (.inl (x * z)) :: st) w R) : WA f y cc nL rt d n kc ks pc als (.inr (.inl z) :: .inr (.inl x) :: st) w R :=
  WA.pure (fun h _ _ => am_ok1 (am_j hz) (am_tl (am_tl h))) (fun _ _ _ _ _ _ _ _ _ _ _ _ _ _ _ _ _ _ _ _ C X ho _ _ _ _ k => lv_lmul C.1 C.2.1 hd (by rw [← Int64.ofInt_mul]; exact k)) k
theorem i32_div {x z : Int} (hx : in32 x) (hz : in32 z) (h0 : 0 ≤ x) : Int32.ofInt x / Int32.ofInt z = Int32.ofInt (x / z) := by
  rw [← Int.tdiv_eq_ediv_of_nonneg h0]
  exact (Int32.ofInt_tdiv (o32 hx).1 (o32 hx).2 (o32 hz).1 (o32 hz).2).symm
theorem i64_div {x z : Int} (hx : in64 x) (hz : in64 z) : Int64.ofInt x / Int64.ofInt z = Int64.ofInt (x.tdiv z) := (Int64.ofInt_tdiv (o64 hx).1 (o64 hx).2 (o64 hz).1 (o64 hz).2).symm
theorem i32_ne0 {z : Int} (hz : in32 z) (h : z ≠ 0) : ¬ Int32.ofInt z = 0 := fun q => h ((i32_eq hz in32_0).mp q)
theorem in64_0 : in64 0 := ⟨by decide, by decide⟩
theorem i64_ne0 {z : Int} (hz : in64 z) (h : z ≠ 0) : ¬ Int64.ofInt z = 0 := fun q => h ((i64_eq hz in64_0).mp q)
theorem div_in {x z : Int} (hx : in32 x) (h0 : 0 ≤ x) (hz : 0 < z) : in32 (x / z) := by
  have h1 : 0 ≤ x / z := Int.ediv_nonneg h0 (by omega)
  have h2 : x / z ≤ x := Int.ediv_le_self _ h0
  have := hx.2
  exact ⟨by omega, by omega⟩
theorem mod_in {x z : Int} (hz : in32 z) (h : 0 < z) : in32 (x % z) := by
  have h1 := Int.emod_nonneg x (show z ≠ 0 by omega)
  have h2 := Int.emod_lt_of_pos x h
  have := hz.2
  exact ⟨by omega, by omega⟩
theorem WA.idiv {x z : Int} (hd : decode cc pc = .ok (.idiv, 1)) (h0 : 0 ≤ x) (h1 : 0 < z) (k : WA f y cc nL rt d n kc ks (pc + 1) als (.inl (x / z) :: st) w R) : WA f y cc nL rt d n kc ks pc als (.inl z :: .inl x :: st) w R :=
  WA.pure (fun h _ _ => am_ok1 (am_i (div_in (am_hd (am_tl h)) h0 h1)) (am_tl (am_tl h))) (fun _ _ _ _ _ _ _ _ _ _ _ _ _ _ _ _ _ _ _ _ C X ho _ _ _ _ k => lv_idiv C.1 C.2.1 hd (i32_ne0 (am_hd ho) (by omega)) (by rw [i32_div (am_hd (am_tl ho)) (am_hd ho) h0]; exact k)) k
theorem WA.irem {x z : Int} (hd : decode cc pc = .ok (.irem, 1)) (h0 : 0 ≤ x) (h1 : 0 < z) (k : WA f y cc nL rt d n kc ks (pc + 1) als (.inl (x % z) :: st) w R) : WA f y cc nL rt d n kc ks pc als (.inl z :: .inl x :: st) w R :=
  WA.pure (fun h _ _ => am_ok1 (am_i (mod_in (am_hd h) h1)) (am_tl (am_tl h))) (fun _ _ _ _ _ _ _ _ _ _ _ _ _ _ _ _ _ _ _ _ C X ho _ _ _ _ k => lv_irem C.1 C.2.1 hd (i32_ne0 (am_hd ho) (by omega)) (by rw [i32_div (am_hd (am_tl ho)) (am_hd ho) h0, ← Int32.ofInt_mul, ← Int32.ofInt_sub, show x - x / z * z = x % z by rw [Int.emod_def, Int.mul_comm]]; exact k)) k
theorem WA.ldiv {x z : Int} (hd : decode cc pc = .ok (.ldiv, 1)) (h1 : z ≠ 0) (h2 : in64 (x.tdiv z)) (k : WA f y cc nL rt d n kc ks (pc + 1) als (.inr (.inl (x.tdiv z)) :: st) w R) : WA f y cc nL rt d n kc ks pc als (.inr (.inl z) :: .inr (.inl x) :: st) w R :=
  WA.pure (fun h _ _ => am_ok1 (am_j h2) (am_tl (am_tl h))) (fun _ _ _ _ _ _ _ _ _ _ _ _ _ _ _ _ _ _ _ _ C X ho _ _ _ _ k => lv_ldiv C.1 C.2.1 hd (i64_ne0 (am_hd ho) h1) (by rw [i64_div (am_hd (am_tl ho)) (am_hd ho)]; exact k)) k
theorem WA.lrem {x z : Int} (hd : decode cc pc = .ok (.lrem, 1)) (h1 : z ≠ 0) (h2 : in64 (x.tmod z)) (k : WA f y cc nL rt d n kc ks (pc + 1) als (.inr (.inl (x.tmod z)) :: st) w R) : WA f y cc nL rt d n kc ks pc als (.inr (.inl z) :: .inr (.inl x) :: st) w R :=
  WA.pure (fun h _ _ => am_ok1 (am_j h2) (am_tl (am_tl h))) (fun _ _ _ _ _ _ _ _ _ _ _ _ _ _ _ _ _ _ _ _ C X ho _ _ _ _ k => lv_lrem C.1 C.2.1 hd (i64_ne0 (am_hd ho) h1) (by rw [i64_div (am_hd (am_tl ho)) (am_hd ho), ← Int64.ofInt_mul, ← Int64.ofInt_sub, show x - x.tdiv z * z = x.tmod z by rw [Int.tmod_def, Int.mul_comm]]; exact k)) k
theorem WA.lneg {x : Int} (hd : decode cc pc = .ok (.lneg, 1)) (hz : in64 (-x)) (k : WA f y cc nL rt d n kc ks (pc + 1) als (.inr (.inl (-x)) :: st) w R) : WA f y cc nL rt d n kc ks pc als (.inr (.inl x) :: st) w R :=
  WA.pure (fun h _ _ => am_ok1 (am_j hz) (am_tl h)) (fun _ _ _ _ _ _ _ _ _ _ _ _ _ _ _ _ _ _ _ _ C X ho _ _ _ _ k => lv_lneg C.1 C.2.1 hd (by rw [← Int64.ofInt_neg]; exact k)) k
theorem WA.ineg {x : Int} (hd : decode cc pc = .ok (.ineg, 1)) (hz : in32 (-x)) (k : WA f y cc nL rt d n kc ks (pc + 1) als (.inl (-x) :: st) w R) : WA f y cc nL rt d n kc ks pc als (.inl x :: st) w R :=
  WA.pure (fun h _ _ => am_ok1 (am_i hz) (am_tl h)) (fun _ _ _ _ _ _ _ _ _ _ _ _ _ _ _ _ _ _ _ _ C X ho _ _ _ _ k => lv_ineg C.1 C.2.1 hd (by rw [← Int32.ofInt_neg]; exact k)) k
theorem in32_64 {x : Int} (h : in32 x) : in64 x := ⟨by have := h.1; omega, by have := h.2; omega⟩
theorem WA.i2l {x : Int} (hd : decode cc pc = .ok (.i2l, 1)) (k : WA f y cc nL rt d n kc ks (pc + 1) als (.inr (.inl x) :: st) w R) : WA f y cc nL rt d n kc ks pc als (.inl x :: st) w R :=
  WA.pure (fun h _ _ => am_ok1 (am_j (in32_64 (am_hd h))) (am_tl h)) (fun _ _ _ _ _ _ _ _ _ _ _ _ _ _ _ _ _ _ _ _ C X ho _ _ _ _ k => lv_i2l C.1 C.2.1 hd (Int32.toInt64_ofInt (o32 (am_hd ho)).1 (o32 (am_hd ho)).2) k) k
theorem WA.l2i {x : Int} (hd : decode cc pc = .ok (.l2i, 1)) (hz : in32 x) (k : WA f y cc nL rt d n kc ks (pc + 1) als (.inl x :: st) w R) : WA f y cc nL rt d n kc ks pc als (.inr (.inl x) :: st) w R :=
  WA.pure (fun h _ _ => am_ok1 (am_i hz) (am_tl h)) (fun _ _ _ _ _ _ _ _ _ _ _ _ _ _ _ _ _ _ _ _ C X ho _ _ _ _ k => lv_l2i C.1 C.2.1 hd Int64.toInt32_ofInt k) k
theorem WA.if_eq {x : Int} {off : Int} {tgt : Nat} (hd : decode cc pc = .ok (.ifCond .eq off, 3)) (ht : (pc : Int) + off = (tgt : Int)) (kt : x = 0 → WA f y cc nL rt d n kc ks tgt als st w R) (kf : ¬ (x = 0) → WA f y cc nL rt d n kc ks (pc + 3) als st w R) : WA f y cc nL rt d n kc ks pc als (.inl x :: st) w R := by
  by_cases hc : x = 0
  · refine WA.pure (fun h _ _ => am_tl h) (fun D tc ad base p l e rm s m args below meth c H locs ls cells slots Q C X ho _ _ _ _ k => ?_) (kt hc)
    · have hx : in32 x := am_hd ho
      exact lv_if_eq C.1 C.2.1 hd ht (fun _ => k) (fun q => absurd ((i32_eq hx in32_0).mpr hc) q)
  · refine WA.pure (fun h _ _ => am_tl h) (fun D tc ad base p l e rm s m args below meth c H locs ls cells slots Q C X ho _ _ _ _ k => ?_) (kf hc)
    · have hx : in32 x := am_hd ho
      exact lv_if_eq C.1 C.2.1 hd ht (fun q => absurd ((i32_eq hx in32_0).mp q) hc) (fun _ => k)
theorem WA.icmp_eq {x z : Int} {off : Int} {tgt : Nat} (hd : decode cc pc = .ok (.if_icmp .eq off, 3)) (ht : (pc : Int) + off = (tgt : Int)) (kt : x = z → WA f y cc nL rt d n kc ks tgt als st w R) (kf : ¬ (x = z) → WA f y cc nL rt d n kc ks (pc + 3) als st w R) : WA f y cc nL rt d n kc ks pc als (.inl z :: .inl x :: st) w R := by
  by_cases hc : x = z
  · refine WA.pure (fun h _ _ => am_tl (am_tl h)) (fun D tc ad base p l e rm s m args below meth c H locs ls cells slots Q C X ho _ _ _ _ k => ?_) (kt hc)
    · have hz : in32 z := am_hd ho
      have hx : in32 x := am_hd (am_tl ho)
      exact lv_icmp_eq C.1 C.2.1 hd ht (fun _ => k) (fun q => absurd ((i32_eq hx hz).mpr hc) q)
  · refine WA.pure (fun h _ _ => am_tl (am_tl h)) (fun D tc ad base p l e rm s m args below meth c H locs ls cells slots Q C X ho _ _ _ _ k => ?_) (kf hc)
    · have hz : in32 z := am_hd ho
      have hx : in32 x := am_hd (am_tl ho)
      exact lv_icmp_eq C.1 C.2.1 hd ht (fun q => absurd ((i32_eq hx hz).mp q) hc) (fun _ => k)
theorem WA.if_ne {x : Int} {off : Int} {tgt : Nat} (hd : decode cc pc = .ok (.ifCond .ne off, 3)) (ht : (pc : Int) + off = (tgt : Int)) (kt : ¬ x = 0 → WA f y cc nL rt d n kc ks tgt als st w R) (kf : x = 0 → WA f y cc nL rt d n kc ks (pc + 3) als st w R) : WA f y cc nL rt d n kc ks pc als (.inl x :: st) w R := by
  by_cases hc : ¬ x = 0
  · refine WA.pure (fun h _ _ => am_tl h) (fun D tc ad base p l e rm s m args below meth c H locs ls cells slots Q C X ho _ _ _ _ k => ?_) (kt hc)
    · have hx : in32 x := am_hd ho
      exact lv_if_ne C.1 C.2.1 hd ht (fun _ => k) (fun q => absurd q ((not_congr (i32_eq hx in32_0)).mpr hc))
  · refine WA.pure (fun h _ _ => am_tl h) (fun D tc ad base p l e rm s m args below meth c H locs ls cells slots Q C X ho _ _ _ _ k => ?_) (kf (Classical.not_not.mp hc))
    · have hx : in32 x := am_hd ho
      exact lv_if_ne C.1 C.2.1 hd ht (fun q => absurd (Classical.not_not.mp hc) ((not_congr (i32_eq hx in32_0)).mp q)) (fun _ => k)
theorem WA.icmp_ne {x z : Int} {off : Int} {tgt : Nat} (hd : decode cc pc = .ok (.if_icmp .ne off, 3)) (ht : (pc : Int) + off = (tgt : Int)) (kt : ¬ x = z → WA f y cc nL rt d n kc ks tgt als st w R) (kf : x = z → WA f y cc nL rt d n kc ks (pc + 3) als st w R) : WA f y cc nL rt d n kc ks pc als (.inl z :: .inl x :: st) w R := by
  by_cases hc : ¬ x = z
  · refine WA.pure (fun h _ _ => am_tl (am_tl h)) (fun D tc ad base p l e rm s m args below meth c H locs ls cells slots Q C X ho _ _ _ _ k => ?_) (kt hc)
    · have hz : in32 z := am_hd ho
      have hx : in32 x := am_hd (am_tl ho)
      exact lv_icmp_ne C.1 C.2.1 hd ht (fun _ => k) (fun q => absurd q ((not_congr (i32_eq hx hz)).mpr hc))
  · refine WA.pure (fun h _ _ => am_tl (am_tl h)) (fun D tc ad base p l e rm s m args below meth c H locs ls cells slots Q C X ho _ _ _ _ k => ?_) (kf (Classical.not_not.mp hc))
    · have hz : in32 z := am_hd ho
      have hx : in32 x := am_hd (am_tl ho)
      exact lv_icmp_ne C.1 C.2.1 hd ht (fun q => absurd (Classical.not_not.mp hc) ((not_congr (i32_eq hx hz)).mp q)) (fun _ => k)
theorem WA.if_lt {x : Int} {off : Int} {tgt : Nat} (hd : decode cc pc = .ok (.ifCond .lt off, 3)) (ht : (pc : Int) + off = (tgt : Int)) (kt : x < 0 → WA f y cc nL rt d n kc ks tgt als st w R) (kf : ¬ (x < 0) → WA f y cc nL rt d n kc ks (pc + 3) als st w R) : WA f y cc nL rt d n kc ks pc als (.inl x :: st) w R := by
  by_cases hc : x < 0
  · refine WA.pure (fun h _ _ => am_tl h) (fun D tc ad base p l e rm s m args below meth c H locs ls cells slots Q C X ho _ _ _ _ k => ?_) (kt hc)
    · have hx : in32 x := am_hd ho
      exact lv_if_lt C.1 C.2.1 hd ht (fun _ => k) (fun q => absurd ((i32_lt hx in32_0).mpr hc) q)
  · refine WA.pure (fun h _ _ => am_tl h) (fun D tc ad base p l e rm s m args below meth c H locs ls cells slots Q C X ho _ _ _ _ k => ?_) (kf hc)
    · have hx : in32 x := am_hd ho
      exact lv_if_lt C.1 C.2.1 hd ht (fun q => absurd ((i32_lt hx in32_0).mp q) hc) (fun _ => k)
theorem WA.icmp_lt {x z : Int} {off : Int} {tgt : Nat} (hd : decode cc pc = .ok (.if_icmp .lt off, 3)) (ht : (pc : Int) + off = (tgt : Int)) (kt : x < z → WA f y cc nL rt d n kc ks tgt als st w R) (kf : ¬ (x < z) → WA f y cc nL rt d n kc ks (pc + 3) als st w R) : WA f y cc nL rt d n kc ks pc als (.inl z :: .inl x :: st) w R := by
  by_cases hc : x < z
  · refine WA.pure (fun h _ _ => am_tl (am_tl h)) (fun D tc ad base p l e rm s m args below meth c H locs ls cells slots Q C X ho _ _ _ _ k => ?_) (kt hc)
    · have hz : in32 z := am_hd ho
      have hx : in32 x := am_hd (am_tl ho)
      exact lv_icmp_lt C.1 C.2.1 hd ht (fun _ => k) (fun q => absurd ((i32_lt hx hz).mpr hc) q)
  · refine WA.pure (fun h _ _ => am_tl (am_tl h)) (fun D tc ad base p l e rm s m args below meth c H locs ls cells slots Q C X ho _ _ _ _ k => ?_) (kf hc)
    · have hz : in32 z := am_hd ho
      have hx : in32 x := am_hd (am_tl ho)
      exact lv_icmp_lt C.1 C.2.1 hd ht (fun q => absurd ((i32_lt hx hz).mp q) hc) (fun _ => k)
theorem WA.if_ge {x : Int} {off : Int} {tgt : Nat} (hd : decode cc pc = .ok (.ifCond .ge off, 3)) (ht : (pc : Int) + off = (tgt : Int)) (kt : 0 ≤ x → WA f y cc nL rt d n kc ks tgt als st w R) (kf : ¬ (0 ≤ x) → WA f y cc nL rt d n kc ks (pc + 3) als st w R) : WA f y cc nL rt d n kc ks pc als (.inl x :: st) w R := by
  by_cases hc : 0 ≤ x
  · refine WA.pure (fun h _ _ => am_tl h) (fun D tc ad base p l e rm s m args below meth c H locs ls cells slots Q C X ho _ _ _ _ k => ?_) (kt hc)
    · have hx : in32 x := am_hd ho
      exact lv_if_ge C.1 C.2.1 hd ht (fun _ => k) (fun q => absurd ((i32_le in32_0 hx).mpr hc) q)
  · refine WA.pure (fun h _ _ => am_tl h) (fun D tc ad base p l e rm s m args below meth c H locs ls cells slots Q C X ho _ _ _ _ k => ?_) (kf hc)
    · have hx : in32 x := am_hd ho
      exact lv_if_ge C.1 C.2.1 hd ht (fun q => absurd ((i32_le in32_0 hx).mp q) hc) (fun _ => k)
theorem WA.icmp_ge {x z : Int} {off : Int} {tgt : Nat} (hd : decode cc pc = .ok (.if_icmp .ge off, 3)) (ht : (pc : Int) + off = (tgt : Int)) (kt : z ≤ x → WA f y cc nL rt d n kc ks tgt als st w R) (kf : ¬ (z ≤ x) → WA f y cc nL rt d n kc ks (pc + 3) als st w R) : WA f y cc nL rt d n kc ks pc als (.inl z :: .inl x :: st) w R := by
  by_cases hc : z ≤ x
  · refine WA.pure (fun h _ _ => am_tl (am_tl h)) (fun D tc ad base p l e rm s m args below meth c H locs ls cells slots Q C X ho _ _ _ _ k => ?_) (kt hc)
    · have hz : in32 z := am_hd ho
      have hx : in32 x := am_hd (am_tl ho)
      exact lv_icmp_ge C.1 C.2.1 hd ht (fun _ => k) (fun q => absurd ((i32_le hz hx).mpr hc) q)
  · refine WA.pure (fun h _ _ => am_tl (am_tl h)) (fun D tc ad base p l e rm s m args below meth c H locs ls cells slots Q C X ho _ _ _ _ k => ?_) (kf hc)
    · have hz : in32 z := am_hd ho
      have hx : in32 x := am_hd (am_tl ho)
      exact lv_icmp_ge C.1 C.2.1 hd ht (fun q => absurd ((i32_le hz hx).mp q) hc) (fun _ => k)
theorem WA.if_gt {x : Int} {off : Int} {tgt : Nat} (hd : decode cc pc = .ok (.ifCond .gt off, 3)) (ht : (pc : Int) + off = (tgt : Int)) (kt : 0 < x → WA f y cc nL rt d n kc ks tgt als st w R) (kf : ¬ (0 < x) → WA f y cc nL rt d n kc ks (pc + 3) als st w R) : WA f y cc nL rt d n kc ks pc als (.inl x :: st) w R := by
  by_cases hc : 0 < x
  · refine WA.pure (fun h _ _ => am_tl h) (fun D tc ad base p l e rm s m args below meth c H locs ls cells slots Q C X ho _ _ _ _ k => ?_) (kt hc)
    · have hx : in32 x := am_hd ho
      exact lv_if_gt C.1 C.2.1 hd ht (fun _ => k) (fun q => absurd ((i32_lt in32_0 hx).mpr hc) q)
  · refine WA.pure (fun h _ _ => am_tl h) (fun D tc ad base p l e rm s m args below meth c H locs ls cells slots Q C X ho _ _ _ _ k => ?_) (kf hc)
    · have hx : in32 x := am_hd ho
      exact lv_if_gt C.1 C.2.1 hd ht (fun q => absurd ((i32_lt in32_0 hx).mp q) hc) (fun _ => k)
theorem WA.icmp_gt {x z : Int} {off : Int} {tgt : Nat} (hd : decode cc pc = .ok (.if_icmp .gt off, 3)) (ht : (pc : Int) + off = (tgt : Int)) (kt : z < x → WA f y cc nL rt d n kc ks tgt als st w R) (kf : ¬ (z < x) → WA f y cc nL rt d n kc ks (pc + 3) als st w R) : WA f y cc nL rt d n kc ks pc als (.inl z :: .inl x :: st) w R := by
  by_cases hc : z < x
  · refine WA.pure (fun h _ _ => am_tl (am_tl h)) (fun D tc ad base p l e rm s m args below meth c H locs ls cells slots Q C X ho _ _ _ _ k => ?_) (kt hc)
    · have hz : in32 z := am_hd ho
      have hx : in32 x := am_hd (am_tl ho)
      exact lv_icmp_gt C.1 C.2.1 hd ht (fun _ => k) (fun q => absurd ((i32_lt hz hx).mpr hc) q)
  · refine WA.pure (fun h _ _ => am_tl (am_tl h)) (fun D tc ad base p l e rm s m args below meth c H locs ls cells slots Q C X ho _ _ _ _ k => ?_) (kf hc)
    · have hz : in32 z := am_hd ho
      have hx : in32 x := am_hd (am_tl ho)
      exact lv_icmp_gt C.1 C.2.1 hd ht (fun q => absurd ((i32_lt hz hx).mp q) hc) (fun _ => k)
theorem WA.if_le {x : Int} {off : Int} {tgt : Nat} (hd : decode cc pc = .ok (.ifCond .le off, 3)) (ht : (pc : Int) + off = (tgt : Int)) (kt : x ≤ 0 → WA f y cc nL rt d n kc ks tgt als st w R) (kf : ¬ (x ≤ 0) → WA f y cc nL rt d n kc ks (pc + 3) als st w R) : WA f y cc nL rt d n kc ks pc als (.inl x :: st) w R := by
  by_cases hc : x ≤ 0
  · refine WA.pure (fun h _ _ => am_tl h) (fun D tc ad base p l e rm s m args below meth c H locs ls cells slots Q C X ho _ _ _ _ k => ?_) (kt hc)
    · have hx : in32 x := am_hd ho
      exact lv_if_le C.1 C.2.1 hd ht (fun _ => k) (fun q => absurd ((i32_le hx in32_0).mpr hc) q)
  · refine WA.pure (fun h _ _ => am_tl h) (fun D tc ad base p l e rm s m args below meth c H locs ls cells slots Q C X ho _ _ _ _ k => ?_) (kf hc)
    · have hx : in32 x := am_hd ho
      exact lv_if_le C.1 C.2.1 hd ht (fun q => absurd ((i32_le hx in32_0).mp q) hc) (fun _ => k)
theorem WA.icmp_le {x z : Int} {off : Int} {tgt : Nat} (hd : decode cc pc = .ok (.if_icmp .le off, 3)) (ht : (pc : Int) + off = (tgt : Int)) (kt : x ≤ z → WA f y cc nL rt d n kc ks tgt als st w R) (kf : ¬ (x ≤ z) → WA f y cc nL rt d n kc ks (pc + 3) als st w R) : WA f y cc nL rt d n kc ks pc als (.inl z :: .inl x :: st) w R := by
  by_cases hc : x ≤ z
  · refine WA.pure (fun h _ _ => am_tl (am_tl h)) (fun D tc ad base p l e rm s m args below meth c H locs ls cells slots Q C X ho _ _ _ _ k => ?_) (kt hc)
    · have hz : in32 z := am_hd ho
      have hx : in32 x := am_hd (am_tl ho)
      exact lv_icmp_le C.1 C.2.1 hd ht (fun _ => k) (fun q => absurd ((i32_le hx hz).mpr hc) q)
  · refine WA.pure (fun h _ _ => am_tl (am_tl h)) (fun D tc ad base p l e rm s m args below meth c H locs ls cells slots Q C X ho _ _ _ _ k => ?_) (kf hc)
    · have hz : in32 z := am_hd ho
      have hx : in32 x := am_hd (am_tl ho)
      exact lv_icmp_le C.1 C.2.1 hd ht (fun q => absurd ((i32_le hx hz).mp q) hc) (fun _ => k)
theorem WA.goto {off : Int} {tgt : Nat} (hd : decode cc pc = .ok (.goto off, 3)) (ht : (pc : Int) + off = (tgt : Int)) (k : WA f y cc nL rt d n kc ks tgt als st w R) : WA f y cc nL rt d n kc ks pc als st w R :=
  WA.pure (fun h _ _ => h) (fun _ _ _ _ _ _ _ _ _ _ _ _ _ _ _ _ _ _ _ _ C X ho _ _ _ _ k => lv_goto C.1 C.2.1 hd ht k) k
theorem WA.tableIn {x dflt lo hi off : Int} {offs : Array Int} {len tgt : Nat} (hd : decode cc pc = .ok (.tableswitch dflt lo hi offs, len)) (h1 : lo ≤ x) (h2 : x ≤ hi) (ho_ : offs[(x - lo).toNat]? = some off) (ht : (pc : Int) + off = (tgt : Int)) (k : WA f y cc nL rt d n kc ks tgt als st w R) : WA f y cc nL rt d n kc ks pc als (.inl x :: st) w R :=
  WA.pure (fun h _ _ => am_tl h) (fun _ _ _ _ _ _ _ _ _ _ _ _ _ _ _ _ _ _ _ _ C X ho _ _ _ _ k => lv_tableIn C.1 C.2.1 hd (by rw [i32_toInt (am_hd ho)]; omega) (by rw [i32_toInt (am_hd ho)]; omega) (by rw [i32_toInt (am_hd ho)]; exact ho_) ht k) k
theorem WA.tableOut {x dflt lo hi : Int} {offs : Array Int} {len tgt : Nat} (hd : decode cc pc = .ok (.tableswitch dflt lo hi offs, len)) (h1 : x < lo ∨ hi < x) (ht : (pc : Int) + dflt = (tgt : Int)) (k : WA f y cc nL rt d n kc ks tgt als st w R) : WA f y cc nL rt d n kc ks pc als (.inl x :: st) w R :=
  WA.pure (fun h _ _ => am_tl h) (fun _ _ _ _ _ _ _ _ _ _ _ _ _ _ _ _ _ _ _ _ C X ho _ _ _ _ k => lv_tableOut C.1 C.2.1 hd (by rw [i32_toInt (am_hd ho)]; exact h1) ht k) k
theorem WA.lookup {x dflt off : Int} {ps : Array (Int × Int)} {len tgt : Nat} (hd : decode cc pc = .ok (.lookupswitch dflt ps, len)) (hp : (ps.toList.zip (ps.toList.drop 1)).all (fun (a, next) => a.1 < next.1) = true) (ho_ : Op.lookupswitch.offset ps.toList dflt x = off) (ht : (pc : Int) + off = (tgt : Int)) (k : WA f y cc nL rt d n kc ks tgt als st w R) : WA f y cc nL rt d n kc ks pc als (.inl x :: st) w R :=
  WA.pure (fun h _ _ => am_tl h) (fun _ _ _ _ _ _ _ _ _ _ _ _ _ _ _ _ _ _ _ _ C X ho _ _ _ _ k => lv_lookup C.1 C.2.1 hd hp (by rw [i32_toInt (am_hd ho)]; exact ho_) ht k) k
def am_cmp (x z : Int) : Int := if z < x then 1 else if x = z then 0 else -1
theorem am_cmp_in (x z : Int) : in32 (am_cmp x z) := by
  unfold am_cmp
  split
  · exact ⟨by decide, by decide⟩
  · split <;> exact ⟨by decide, by decide⟩
theorem am_cmp_lg {x z : Int} (hx : in64 x) (hz : in64 z) : lg_cmp (Int64.ofInt x) (Int64.ofInt z) = Int32.ofInt (am_cmp x z) := by
  unfold lg_cmp am_cmp
  by_cases h1 : z < x
  · rw [if_pos ((i64_lt hz hx).mpr h1), if_pos h1]; rfl
  · rw [if_neg (fun q => h1 ((i64_lt hz hx).mp q)), if_neg h1]
    by_cases h2 : x = z
    · rw [if_pos ((i64_eq hx hz).mpr h2), if_pos h2]; rfl
    · rw [if_neg (fun q => h2 ((i64_eq hx hz).mp q)), if_neg h2]; rfl
theorem WA.lcmp {x z : Int} (hd : decode cc pc = .ok (.lcmp, 1)) (k : WA f y cc nL rt d n kc ks (pc + 1) als (.inl (am_cmp x z) :: st) w R) : WA f y cc nL rt d n kc ks pc als (.inr (.inl z) :: .inr (.inl x) :: st) w R :=
  WA.pure (fun h _ _ => am_ok1 (am_i (am_cmp_in x z)) (am_tl (am_tl h))) (fun _ _ _ _ _ _ _ _ _ _ _ _ _ _ _ _ _ _ _ _ C X ho _ _ _ _ k => W.lcmp C.1 C.2.1 hd (by rw [am_cmp_lg (am_hd (am_tl ho)) (am_hd ho)]; exact k)) k
theorem am_cmp_eq (x z : Int) : (am_cmp x z = 0) ↔ (x = z) := by
  unfold am_cmp
  split
  · omega
  · split <;> omega
theorem WA.lcmp_eq {x z off : Int} {tgt : Nat} (hd0 : decode cc pc = .ok (.lcmp, 1)) (hd : decode cc (pc + 1) = .ok (.ifCond .eq off, 3)) (ht : ((pc + 1 : Nat) : Int) + off = (tgt : Int)) (kt : x = z → WA f y cc nL rt d n kc ks tgt als st w R) (kf : ¬ (x = z) → WA f y cc nL rt d n kc ks (pc + 1 + 3) als st w R) : WA f y cc nL rt d n kc ks pc als (.inr (.inl z) :: .inr (.inl x) :: st) w R :=
  WA.lcmp hd0 (WA.if_eq hd ht (fun h => kt ((am_cmp_eq x z).mp h)) (fun h => kf (fun q => h ((am_cmp_eq x z).mpr q))))
theorem am_cmp_ne (x z : Int) : (¬ am_cmp x z = 0) ↔ (¬ x = z) := by
  unfold am_cmp
  split
  · omega
  · split <;> omega
theorem WA.lcmp_ne {x z off : Int} {tgt : Nat} (hd0 : decode cc pc = .ok (.lcmp, 1)) (hd : decode cc (pc + 1) = .ok (.ifCond .ne off, 3)) (ht : ((pc + 1 : Nat) : Int) + off = (tgt : Int)) (kt : ¬ x = z → WA f y cc nL rt d n kc ks tgt als st w R) (kf : x = z → WA f y cc nL rt d n kc ks (pc + 1 + 3) als st w R) : WA f y cc nL rt d n kc ks pc als (.inr (.inl z) :: .inr (.inl x) :: st) w R :=
  WA.lcmp hd0 (WA.if_ne hd ht (fun h => kt ((am_cmp_ne x z).mp h)) (fun h => kf ((am_cmp_eq x z).mp h)))
theorem am_cmp_lt (x z : Int) : (am_cmp x z < 0) ↔ (x < z) := by
  unfold am_cmp
  split
  · omega
  · split <;> omega
theorem WA.lcmp_lt {x z off : Int} {tgt : Nat} (hd0 : decode cc pc = .ok (.lcmp, 1)) (hd : decode cc (pc + 1) = .ok (.ifCond .lt off, 3)) (ht : ((pc + 1 : Nat) : Int) + off = (tgt : Int)) (kt : x < z → WA f y cc nL rt d n kc ks tgt als st w R) (kf : ¬ (x < z) → WA f y cc nL rt d n kc ks (pc + 1 + 3) als st w R) : WA f y cc nL rt d n kc ks pc als (.inr (.inl z) :: .inr (.inl x) :: st) w R :=
  WA.lcmp hd0 (WA.if_lt hd ht (fun h => kt ((am_cmp_lt x z).mp h)) (fun h => kf (fun q => h ((am_cmp_lt x z).mpr q))))
theorem am_cmp_ge (x z : Int) : (0 ≤ am_cmp x z) ↔ (z ≤ x) := by
  unfold am_cmp
  split
  · omega
  · split <;> omega
theorem WA.lcmp_ge {x z off : Int} {tgt : Nat} (hd0 : decode cc pc = .ok (.lcmp, 1)) (hd : decode cc (pc + 1) = .ok (.ifCond .ge off, 3)) (ht : ((pc + 1 : Nat) : Int) + off = (tgt : Int)) (kt : z ≤ x → WA f y cc nL rt d n kc ks tgt als st w R) (kf : ¬ (z ≤ x) → WA f y cc nL rt d n kc ks (pc + 1 + 3) als st w R) : WA f y cc nL rt d n kc ks pc als (.inr (.inl z) :: .inr (.inl x) :: st) w R :=
  WA.lcmp hd0 (WA.if_ge hd ht (fun h => kt ((am_cmp_ge x z).mp h)) (fun h => kf (fun q => h ((am_cmp_ge x z).mpr q))))
theorem am_cmp_gt (x z : Int) : (0 < am_cmp x z) ↔ (z < x) := by
  unfold am_cmp
  split
  · omega
  · split <;> omega
theorem WA.lcmp_gt {x z off : Int} {tgt : Nat} (hd0 : decode cc pc = .ok (.lcmp, 1)) (hd : decode cc (pc + 1) = .ok (.ifCond .gt off, 3)) (ht : ((pc + 1 : Nat) : Int) + off = (tgt : Int)) (kt : z < x → WA f y cc nL rt d n kc ks tgt als st w R) (kf : ¬ (z < x) → WA f y cc nL rt d n kc ks (pc + 1 + 3) als st w R) : WA f y cc nL rt d n kc ks pc als (.inr (.inl z) :: .inr (.inl x) :: st) w R :=
  WA.lcmp hd0 (WA.if_gt hd ht (fun h => kt ((am_cmp_gt x z).mp h)) (fun h => kf (fun q => h ((am_cmp_gt x z).mpr q))))
theorem am_cmp_le (x z : Int) : (am_cmp x z ≤ 0) ↔ (x ≤ z) := by
  unfold am_cmp
  split
  · omega
  · split <;> omega
theorem WA.lcmp_le {x z off : Int} {tgt : Nat} (hd0 : decode cc pc = .ok (.lcmp, 1)) (hd : decode cc (pc + 1) = .ok (.ifCond .le off, 3)) (ht : ((pc + 1 : Nat) : Int) + off = (tgt : Int)) (kt : x ≤ z → WA f y cc nL rt d n kc ks tgt als st w R) (kf : ¬ (x ≤ z) → WA f y cc nL rt d n kc ks (pc + 1 + 3) als st w R) : WA f y cc nL rt d n kc ks pc als (.inr (.inl z) :: .inr (.inl x) :: st) w R :=
  WA.lcmp hd0 (WA.if_le hd ht (fun h => kt ((am_cmp_le x z).mp h)) (fun h => kf (fun q => h ((am_cmp_le x z).mpr q))))
theorem WA.ireturn {x : Int} (hd : decode cc pc = .ok (.ireturn, 1)) (k : R (some (.inl x)) w) : WA f y cc nL (some .int) d n 0 0 pc als [.inl x] w R := by
  intro D tc ad base p l e rm s m args below meth c H locs ls cells slots MC MS C X h3 h4 h5 h6 h7 h8
  obtain ⟨hx, hb, hml, hr, hlk, -⟩ := id C
  obtain ⟨x1, x2, x3, x4, x5, x6, x7, x8, x9, x10, x11, x12⟩ := id X
  simp only [Nat.add_zero] at h3 h4
  subst h3; subst h4
  refine am_size X (fun hsz => ?_)
  exact W.iret (v := Int32.ofInt x) hx hb hr (fun t ht hW => ⟨⟨some (.inl x), w, rfl, k, x10, fun v hv => by cases hv; exact am_hd x12, by rw [ht]; exact hsz, by rw [ht]; exact x6⟩, x7.F ht⟩) x7.2.2 hd hlk
theorem WA.zreturn {x : Int} (hd : decode cc pc = .ok (.ireturn, 1)) (hz : x = 0 ∨ x = 1) (k : R (some (.inl x)) w) : WA f y cc nL (some .boolean) d n 0 0 pc als [.inl x] w R := by
  intro D tc ad base p l e rm s m args below meth c H locs ls cells slots MC MS C X h3 h4 h5 h6 h7 h8
  obtain ⟨hx, hb, hml, hr, hlk, -⟩ := id C
  obtain ⟨x1, x2, x3, x4, x5, x6, x7, x8, x9, x10, x11, x12⟩ := id X
  simp only [Nat.add_zero] at h3 h4
  subst h3; subst h4
  refine am_size X (fun hsz => ?_)
  refine W.zret (v := Int32.ofInt x) hx hb hr (by rcases hz with rfl | rfl <;> rfl) (fun t ht hW => ⟨⟨some (.inl x), w, rfl, k, x10, fun v hv => by cases hv; exact am_hd x12, by rw [ht]; exact hsz, by rw [ht]; exact x6⟩, x7.F ht⟩) x7.2.2 hd hlk
theorem WA.lreturn {x : Int} (hd : decode cc pc = .ok (.lreturn, 1)) (k : R (some (.inr (.inl x))) w) : WA f y cc nL (some .long) d n 0 0 pc als [.inr (.inl x)] w R := by
  intro D tc ad base p l e rm s m args below meth c H locs ls cells slots MC MS C X h3 h4 h5 h6 h7 h8
  obtain ⟨hx, hb, hml, hr, hlk, -⟩ := id C
  obtain ⟨x1, x2, x3, x4, x5, x6, x7, x8, x9, x10, x11, x12⟩ := id X
  simp only [Nat.add_zero] at h3 h4
  subst h3; subst h4
  refine am_size X (fun hsz => ?_)
  exact W.lret (v := Int64.ofInt x) hx hb hr (fun t ht hW => ⟨⟨some (.inr (.inl x)), w, rfl, k, x10, fun v hv => by cases hv; exact am_hd x12, by rw [ht]; exact hsz, by rw [ht]; exact x6⟩, x7.F ht⟩) x7.2.2 hd hlk
theorem WA.areturn {x : Int} {rtt : FieldType} (hd : decode cc pc = .ok (.areturn, 1)) (hrt : (∃ n, rtt = .object n) ∨ ∃ t, rtt = .array t) (k : R (some (.inr (.inr x))) w) : WA f y cc nL (some rtt) d n 0 0 pc als [.inr (.inr x)] w R := by
  intro D tc ad base p l e rm s m args below meth c H locs ls cells slots MC MS C X h3 h4 h5 h6 h7 h8
  obtain ⟨hx, hb, hml, hr, hlk, -⟩ := id C
  obtain ⟨x1, x2, x3, x4, x5, x6, x7, x8, x9, x10, x11, x12⟩ := id X
  simp only [Nat.add_zero] at h3 h4
  subst h3; subst h4
  refine am_size X (fun hsz => ?_)
  refine W.aret (v := am_rf ad x) hx hb hr hrt (by unfold am_rf; split; exact Or.inl rfl; exact Or.inr ⟨_, rfl⟩) (fun t ht hW => ⟨⟨some (.inr (.inr x)), w, rfl, k, x10, fun v hv => by cases hv; exact am_hd x12, by rw [ht]; exact hsz, by rw [ht]; exact x6⟩, x7.F ht⟩) x7.2.2 hd hlk
theorem WA.vreturn  (hd : decode cc pc = .ok (.return_, 1)) (k : R none w) : WA f y cc nL none d n 0 0 pc als [] w R := by
  intro D tc ad base p l e rm s m args below meth c H locs ls cells slots MC MS C X h3 h4 h5 h6 h7 h8
  obtain ⟨hx, hb, hml, hr, hlk, -⟩ := id C
  obtain ⟨x1, x2, x3, x4, x5, x6, x7, x8, x9, x10, x11, x12⟩ := id X
  simp only [Nat.add_zero] at h3 h4
  subst h3; subst h4
  refine am_size X (fun hsz => ?_)
  exact W.vret hx hb hr (fun t ht hW => ⟨⟨none, w, rfl, k, x10, fun v hv => (by cases hv), by rw [ht]; exact hsz, by rw [ht]; exact x6⟩, x7.F ht⟩) x7.2.2 hd hlk
end AMR2
end
section
/-! ===== rules: fields and arrays ===== -/
abbrev am_obj (n : Nat) (b : Int) (ci N : Nat) : Prop := (1 ≤ b ∧ b ≤ n) ∧ am_lay b = (ci + 4, N)
abbrev am_arr (n : Nat) (b : Int) (k N : Nat) : Prop := (1 ≤ b ∧ b ≤ n) ∧ am_lay b = (k, N)
def am_av (s : Nat) (x : Int) : AV := match s with
  | 0 => .inl x
  | 1 => .inr (.inl x)
  | _ => .inr (.inr x)
theorem am_av_cv (ad : Int → Nat) (s : Nat) (x : Int) : am_cv ad (am_av s x) = am_val ad s x := by
  match s with
  | 0 => rfl
  | 1 => rfl
  | _ + 2 => rfl
theorem am_ent_o {tc : Nat → ClassId} {ad : Int → Nat} {w : Wd} {b : Int} {ci N : Nat} (h : am_lay b = (ci + 4, N)) : am_ent tc ad w b = .inr (ci, (List.range N).map (fun j => am_val ad (am_sort (am_fty ci j)) (w b j))) := by
  unfold am_ent
  rw [h]
theorem am_ent_i {tc : Nat → ClassId} {ad : Int → Nat} {w : Wd} {b : Int} {N : Nat} (h : am_lay b = (0, N)) : am_ent tc ad w b = .inl (tc 0, N, .inl (fun j => Int32.ofInt (w b j))) := by
  unfold am_ent
  rw [h]
theorem am_ent_z {tc : Nat → ClassId} {ad : Int → Nat} {w : Wd} {b : Int} {N : Nat} (h : am_lay b = (1, N)) : am_ent tc ad w b = .inl (tc 1, N, .inl (fun j => Int32.ofInt (w b j))) := by
  unfold am_ent
  rw [h]
theorem am_ent_l {tc : Nat → ClassId} {ad : Int → Nat} {w : Wd} {b : Int} {N : Nat} (h : am_lay b = (2, N)) : am_ent tc ad w b = .inl (tc 2, N, .inr (.inl (fun j => Int64.ofInt (w b j)))) := by
  unfold am_ent
  rw [h]
theorem am_ent_q {tc : Nat → ClassId} {ad : Int → Nat} {w : Wd} {b : Int} {N : Nat} (h : am_lay b = (3, N)) : am_ent tc ad w b = .inl (tc 3, N, .inr (.inr (.inr (.inr (fun j => if w b j = 0 then none else some (ad (w b j))))))) := by
  unfold am_ent
  rw [h]
theorem am_okw_set {f : Bool} {w : Wd} {c j v : Int} (h : am_okw f w) (hr : (am_isL c j → in64 v) ∧ (¬ am_isL c j → in32 v)) (hf : f = true → ∀ (ci k : Nat) (x : Int), (am_lay c).1 = ci + 4 → j = (k : Int) → am_fixv ci k c = some x → v = x) : am_okw f (wset w c j v) := by
  refine ⟨fun c' j' => ?_, fun hft c' ci k x h1 h2 => ?_⟩
  · by_cases e : c' = c ∧ j' = j
    · obtain ⟨rfl, rfl⟩ := e
      simpa [wset] using hr
    · have : wset w c j v c' j' = w c' j' := if_neg e
      rw [this]
      exact h.1 c' j'
  · by_cases e : c' = c ∧ (k : Int) = j
    · obtain ⟨rfl, e2⟩ := e
      have : wset w c' j v c' k = v := if_pos ⟨rfl, e2⟩
      rw [this]
      exact hf hft ci k x h1 e2.symm h2
    · have : wset w c j v c' k = w c' k := if_neg e
      rw [this]
      exact h.2 hft c' ci k x h1 h2
theorem wset_ne {w : Wd} {c j v : Int} : ∀ c', c' ≠ c → wset w c j v c' = w c' := fun c' h => by
  funext i
  exact if_neg (fun q => h q.1)
section AMR3
variable {f : Bool} {y : MethodName} {cc : ByteArray} {nL : Nat} {rt : Option FieldType} {d n kc ks pc pc' : Nat} {als : List (Option AV)} {st st' : List AV} {w w' : Wd} {R : Option AV → Wd → Prop}
theorem WA.heap {b : Int} (hb1 : 1 ≤ b) (hw : ∀ c', c' ≠ b → w' c' = w c') (hok : (∀ v ∈ st, am_ok v) → am_okw f w → (∀ v, some v ∈ als → am_ok v) → am_okw f w' ∧ ∀ v ∈ st', am_ok v)
    (h : ∀ (D : va_G) (tc : Nat → ClassId) (ad : Int → Nat) (base : Nat) (p : Program) (l : Launch) (e : Env) (rm : Room) (s : State) (m : MethodId) (args : Array Value) (below : List Frame) (meth : Method) (c : Code) (H : Heap) (locs : List Loc) (ls : Array Slot) (cells slots : Nat) (Q : State → Prop),
      am_C y cc nL rt p s m args meth c → am_X f D tc ad base nL n s als st w H locs ls cells → va_D (am_A base) (am_wl tc ad n w) → (∀ v ∈ st, am_ok v) → cells ≤ rm.cells → slots ≤ rm.slots → d ≤ rm.frames → 64 * d ≤ rm.locals →
      (∀ (H1 : Heap) (locs1 : List Loc), va_P D vwCl ((am_wl tc ad n w).set (b - 1).toNat (ad b, am_ent tc ad w' b)) H1 → va_S (am_A base) s.heap H1 locs1 → W p l e rm s m args below meth c H1 locs1 cells slots Q (F0 m pc' ls (st'.map (am_cv ad)))) → W p l e rm s m args below meth c H locs cells slots Q (F0 m pc ls (st.map (am_cv ad))))
    (k : WA f y cc nL rt d n kc ks pc' als st' w' R) : WA f y cc nL rt d n kc ks pc als st w R := by
  intro D tc ad base p l e rm s m args below meth c H locs ls cells slots MC MS C X h3 h4 h5 h6 h7 h8
  obtain ⟨x1, x2, x3, x4, x5, x6, x7, x8, x9, x10, x11, x12⟩ := id X
  refine h D tc ad base p l e rm s m args below meth c H locs ls cells slots _ C X (am_wl_D x3) x12 (by omega) (by omega) h7 h8 (fun H1 locs1 hP hS => ?_)
  rw [am_wl_set hb1 hw] at hP
  obtain ⟨o1, o2⟩ := hok x12 x10 x11
  exact k D tc ad base p l e rm s m args below meth c H1 locs1 ls cells slots MC MS C ⟨x1, x2, x3, x4, x5, hP, hS, x8, x9, o1, x11, o2⟩ h3 h4 h5 h6 h7 h8
theorem am_obj0 {b : Int} {ci N : Nat} (h : am_obj n b ci N) : b ≠ 0 := by have := h.1.1; omega
/-- getfield -/
theorem WA.getfield {b : Int} {ci N i k : Nat} {C : String} {T : u_T} (hd : decode cc pc = .ok (.getfield i, 3)) (ho : am_obj n b ci N) (hc : vwCl[ci]? = some (C, T, N)) (hk : k < N) (hl : Cond.fieldLink y.cls i (T k).1 (T k).2.1 (T k).2.2.1 ∈ am_G) (hin : ∀ w ∈ u_ws C T N, w ∈ am_G)
    (hL : am_sort (am_fty ci k) = 1 ∨ ¬ am_sort (am_fty ci k) = 1) (kk : WA f y cc nL rt d n kc ks (pc + 3) als (am_av (am_sort (am_fty ci k)) (w b k) :: st) w R) : WA f y cc nL rt d n kc ks pc als (.inr (.inr b) :: st) w R := by
  refine WA.pure (fun h hw _ => am_ok1 ?_ (am_tl h)) (fun D tc ad base p l e rm s m args below meth c H locs ls cells slots Q CC X hst _ _ _ _ kk => ?_) kk
  · have hr := hw.1 b k
    have hiL : am_isL b k ↔ am_sort (am_fty ci k) = 1 := by
      unfold am_isL
      rw [ho.2]
      constructor
      · rintro (q | ⟨z, q1, q2⟩)
        · simp at q
        · simp at q1
          subst q1
          simpa using q2
      · intro q
        exact Or.inr ⟨ci, rfl, by simpa using q⟩
    revert hr hiL
    generalize am_sort (am_fty ci k) = z
    intro hr hiL
    match z, hiL with
    | 0, hiL => exact hr.2 (fun q => by have := hiL.mp q; omega)
    | 1, hiL => exact hr.1 (hiL.mpr rfl)
    | _ + 2, hiL => exact hr.2 (fun q => by have := hiL.mp q; omega)
  · obtain ⟨hx, hb, -, -, -, hts, hown, -⟩ := CC
    obtain ⟨x1, x2, x3, x4, x5, x6, x7, x8, x9, x10, x11, x12⟩ := X
    have he := am_wl_at (tc := tc) (ad := ad) (n := n) (w := w) ho.1.1 ho.1.2
    rw [am_ent_o ho.2] at he
    show W p l e rm s m args below meth c H locs cells slots Q (F0 m pc ls (am_rf ad b :: st.map (am_cv ad)))
    rw [am_rf1 (am_obj0 ho)]
    refine va_get (C := C) (T := T) (N := N) (v := am_cv ad (am_av (am_sort (am_fty ci k)) (w b k))) hx hb hts hin hown x2 x6 _ he hc k hk (hts _ hl) (fun _ h9 => h9) ?_ hd kk
    rw [am_av_cv]
    simp [hk]
theorem WA.getfix {b x : Int} {ci N i k : Nat} {C : String} {T : u_T} (hf : f = true) (hd : decode cc pc = .ok (.getfield i, 3)) (ho : am_obj n b ci N) (hc : vwCl[ci]? = some (C, T, N)) (hk : k < N) (hl : Cond.fieldLink y.cls i (T k).1 (T k).2.1 (T k).2.2.1 ∈ am_G) (hin : ∀ w ∈ u_ws C T N, w ∈ am_G)
    (hs : am_sort (am_fty ci k) = 2) (hv : am_fixv ci k b = some x) (kk : WA f y cc nL rt d n kc ks (pc + 3) als (.inr (.inr x) :: st) w R) : WA f y cc nL rt d n kc ks pc als (.inr (.inr b) :: st) w R := by
  intro D tc ad base p l e rm s m args below meth c H locs ls cells slots MC MS CC X
  have hw : am_okw f w := X.2.2.2.2.2.2.2.2.2.1
  have he : w b k = x := hw.2 hf b ci k x (by rw [ho.2]) hv
  refine WA.getfield hd ho hc hk hl hin (by omega) ?_ D tc ad base p l e rm s m args below meth c H locs ls cells slots MC MS CC X
  rw [hs, he]
  exact kk
theorem am_map_set {α : Type} {g g' : Nat → α} {N k : Nat} (hk : k < N) (hg : ∀ j, j ≠ k → g' j = g j) : ((List.range N).map g).set k (g' k) = (List.range N).map g' := by
  apply List.ext_getElem?
  intro i
  rw [List.getElem?_set]
  simp only [List.getElem?_map, List.length_map, List.length_range]
  by_cases hi : i < N
  · rw [List.getElem?_range hi]
    by_cases e : k = i
    · subst e
      simp [hk]
    · rw [if_neg e]
      simp [hg i (fun q => e q.symm)]
  · rw [List.getElem?_eq_none (by simpa using hi)]
    by_cases e : k = i
    · omega
    · rw [if_neg e]
      simp [hi]
/-- putfield of a field that isn't final -/
theorem WA.putfield {b x : Int} {ci N i k : Nat} {C : String} {T : u_T} {ty : FieldType} (ty0 : Nat → FieldType) (hty : ∀ k, k < N → parseFieldDescriptor (T k).2.2.1 = some (ty0 k)) (hnm : ∀ a, a < N → ∀ b, b < N → a ≠ b → (T a).2.1 ≠ (T b).2.1)
    (hd : decode cc pc = .ok (.putfield i, 3)) (ho : am_obj n b ci N) (hc : vwCl[ci]? = some (C, T, N)) (hk : k < N) (hl : Cond.fieldLink y.cls i (T k).1 (T k).2.1 (T k).2.2.1 ∈ am_G) (hin : ∀ w ∈ u_ws C T N, w ∈ am_G) (hfin : (T k).2.2.2 = false) (hpd : parseFieldDescriptor (T k).2.2.1 = some ty)
    {v : AV} (hv : v = am_av (am_sort (am_fty ci k)) x) (hfix : (am_fixT ci).getD k none = none) (hn : ∀ ad, narrow ty (am_cv ad v) = am_cv ad v) (hfit : ∀ ad, fits ty (am_cv ad v) = true)
    (kk : WA f y cc nL rt d n kc ks (pc + 3) als st (wset w b k x) R) : WA f y cc nL rt d n kc ks pc als (v :: .inr (.inr b) :: st) w R := by
  refine WA.heap (w' := wset w b k x) (b := b) ho.1.1 wset_ne (fun h hw _ => ⟨am_okw_set hw ?_ ?_, am_tl (am_tl h)⟩) (fun D tc ad base p l e rm s m args below meth c H locs ls cells slots Q CC X hD hst _ _ _ _ kk => ?_) kk
  · have h1 := am_hd h
    subst hv
    have hiL : am_isL b k ↔ am_sort (am_fty ci k) = 1 := by
      unfold am_isL
      rw [ho.2]
      constructor
      · rintro (q | ⟨z, q1, q2⟩)
        · simp at q
        · simp at q1
          subst q1
          simpa using q2
      · intro q
        exact Or.inr ⟨ci, rfl, by simpa using q⟩
    revert h1 hiL
    generalize am_sort (am_fty ci k) = z
    intro h1 hiL
    match z, hiL, h1 with
    | 0, hiL, h1 => exact ⟨fun q => by have := hiL.mp q; omega, fun _ => h1⟩
    | 1, hiL, h1 => exact ⟨fun _ => h1, fun q => absurd (hiL.mpr rfl) q⟩
    | _ + 2, hiL, h1 => exact ⟨fun q => by have := hiL.mp q; omega, fun _ => h1⟩
  · intro _ ci2 k2 x2 h1 h2 h3
    rw [ho.2] at h1
    have e1 : ci = ci2 := by
      dsimp only at h1
      omega
    have e2 : k = k2 := by omega
    subst e1; subst e2
    unfold am_fixv at h3
    rw [hfix] at h3
    cases h3
  · obtain ⟨hx, hb, -, -, -, hts, hown, -⟩ := CC
    obtain ⟨x1, x2, x3, x4, x5, x6, x7, x8, x9, x10, x11, x12⟩ := X
    have he := am_wl_at (tc := tc) (ad := ad) (n := n) (w := w) ho.1.1 ho.1.2
    rw [am_ent_o ho.2] at he
    show W p l e rm s m args below meth c H locs cells slots Q (F0 m pc ls (am_cv ad v :: am_rf ad b :: st.map (am_cv ad)))
    rw [am_rf1 (am_obj0 ho)]
    refine va_put (C := C) (T := T) (N := N) (ty := ty) hx hb hts hin ty0 hty hnm hown x2 x6 hD x7 _ he hc k hk (hts _ hl) (fun _ h9 => h9) hfin hpd (hn ad) (hfit ad) (by simp [hk]) hd (fun H1 locs1 hP1 hD1 hS1 => kk H1 locs1 ?_ hS1)
    have e : ((List.range N).map (fun j => am_val ad (am_sort (am_fty ci j)) (w b j))).set k (am_cv ad v) = (List.range N).map (fun j => am_val ad (am_sort (am_fty ci j)) (wset w b k x b j)) := by
      subst hv
      rw [am_av_cv]
      have h9 := am_map_set (g := fun j : Nat => am_val ad (am_sort (am_fty ci j)) (w b j)) (g' := fun j : Nat => am_val ad (am_sort (am_fty ci j)) (wset w b k x b j)) hk (fun j hj => by
        have : wset w b k x b j = w b j := if_neg (fun q => hj (by omega))
        rw [this])
      have h8 : wset w b k x b k = x := if_pos ⟨rfl, rfl⟩
      rw [h8] at h9
      exact h9
    rw [am_ent_o ho.2, ← e]
    exact hP1
/-- putfield of a final field, in a constructor -/
theorem WA.putfinal {b x : Int} {ci N i k : Nat} {C : String} {T : u_T} {ty : FieldType} (ty0 : Nat → FieldType) (hty : ∀ k, k < N → parseFieldDescriptor (T k).2.2.1 = some (ty0 k)) (hnm : ∀ a, a < N → ∀ b, b < N → a ≠ b → (T a).2.1 ≠ (T b).2.1)
    (hd : decode cc pc = .ok (.putfield i, 3)) (ho : am_obj n b ci N) (hc : vwCl[ci]? = some (C, T, N)) (hk : k < N) (hl : Cond.fieldLink y.cls i (T k).1 (T k).2.1 (T k).2.2.1 ∈ am_G) (hin : ∀ w ∈ u_ws C T N, w ∈ am_G) (hff : f = false) (hfin : (T k).2.2.2 = true) (hyn : y.name = "<init>") (hdecl : (T k).1 = y.cls) (hpd : parseFieldDescriptor (T k).2.2.1 = some ty)
    {v : AV} (hv : v = am_av (am_sort (am_fty ci k)) x) (hn : ∀ ad, narrow ty (am_cv ad v) = am_cv ad v) (hfit : ∀ ad, fits ty (am_cv ad v) = true)
    (kk : WA f y cc nL rt d n kc ks (pc + 3) als st (wset w b k x) R) : WA f y cc nL rt d n kc ks pc als (v :: .inr (.inr b) :: st) w R := by
  refine WA.heap (w' := wset w b k x) (b := b) ho.1.1 wset_ne (fun h hw _ => ⟨am_okw_set hw ?_ ?_, am_tl (am_tl h)⟩) (fun D tc ad base p l e rm s m args below meth c H locs ls cells slots Q CC X hD hst _ _ _ _ kk => ?_) kk
  · have h1 := am_hd h
    subst hv
    have hiL : am_isL b k ↔ am_sort (am_fty ci k) = 1 := by
      unfold am_isL
      rw [ho.2]
      constructor
      · rintro (q | ⟨z, q1, q2⟩)
        · simp at q
        · simp at q1
          subst q1
          simpa using q2
      · intro q
        exact Or.inr ⟨ci, rfl, by simpa using q⟩
    revert h1 hiL
    generalize am_sort (am_fty ci k) = z
    intro h1 hiL
    match z, hiL, h1 with
    | 0, hiL, h1 => exact ⟨fun q => by have := hiL.mp q; omega, fun _ => h1⟩
    | 1, hiL, h1 => exact ⟨fun _ => h1, fun q => absurd (hiL.mpr rfl) q⟩
    | _ + 2, hiL, h1 => exact ⟨fun q => by have := hiL.mp q; omega, fun _ => h1⟩
  · intro q
    rw [hff] at q
    cases q
  · obtain ⟨hx, hb, -, -, -, hts, hown, hmn⟩ := CC
    obtain ⟨x1, x2, x3, x4, x5, x6, x7, x8, x9, x10, x11, x12⟩ := X
    have he := am_wl_at (tc := tc) (ad := ad) (n := n) (w := w) ho.1.1 ho.1.2
    rw [am_ent_o ho.2] at he
    show W p l e rm s m args below meth c H locs cells slots Q (F0 m pc ls (am_cv ad v :: am_rf ad b :: st.map (am_cv ad)))
    rw [am_rf1 (am_obj0 ho)]
    refine va_putF (C := C) (T := T) (N := N) (ty := ty) hx hb hts hin ty0 hty hnm hown x2 x6 hD x7 _ he hc k hk (hts _ hl) (fun _ h9 => h9) hfin (by rw [hmn]; exact hyn) hdecl hpd (hn ad) (hfit ad) (by simp [hk]) hd (fun H1 locs1 hP1 hD1 hS1 => kk H1 locs1 ?_ hS1)
    have e : ((List.range N).map (fun j => am_val ad (am_sort (am_fty ci j)) (w b j))).set k (am_cv ad v) = (List.range N).map (fun j => am_val ad (am_sort (am_fty ci j)) (wset w b k x b j)) := by
      subst hv
      rw [am_av_cv]
      have h9 := am_map_set (g := fun j : Nat => am_val ad (am_sort (am_fty ci j)) (w b j)) (g' := fun j : Nat => am_val ad (am_sort (am_fty ci j)) (wset w b k x b j)) hk (fun j hj => by
        have : wset w b k x b j = w b j := if_neg (fun q => hj (by omega))
        rw [this])
      have h8 : wset w b k x b k = x := if_pos ⟨rfl, rfl⟩
      rw [h8] at h9
      exact h9
    rw [am_ent_o ho.2, ← e]
    exact hP1
end AMR3
end
section
/-! ===== rules: arrays ===== -/
section AMR4
variable {f : Bool} {y : MethodName} {cc : ByteArray} {nL : Nat} {rt : Option FieldType} {d n kc ks pc pc' : Nat} {als als' : List (Option AV)} {st st' : List AV} {w w' : Wd} {R : Option AV → Wd → Prop}
theorem am_arr0 {b : Int} {k N : Nat} (h : am_arr n b k N) : b ≠ 0 := by have := h.1.1; omega
theorem am_isL_arr {b j : Int} {k N : Nat} (h : am_lay b = (k, N)) (hk : k < 4) : am_isL b j ↔ k = 2 := by
  unfold am_isL
  rw [h]
  constructor
  · rintro (q | ⟨z, q1, q2⟩)
    · exact q
    · dsimp only at q1; omega
  · intro q
    exact Or.inl q
theorem am_okw_arr {b j v : Int} {k N : Nat} (h : am_lay b = (k, N)) (hk : k < 4) (hw : am_okw f w) (hv : if k = 2 then in64 v else in32 v) : am_okw f (wset w b j v) := by
  refine am_okw_set hw ⟨fun q => ?_, fun q => ?_⟩ (fun _ ci k2 x h1 _ _ => ?_)
  · rw [am_isL_arr h hk] at q
    rw [if_pos q] at hv
    exact hv
  · rw [am_isL_arr h hk] at q
    rw [if_neg q] at hv
    exact hv
  · rw [h] at h1
    dsimp only at h1
    omega
theorem WA.iaload {b j : Int} {N : Nat} (hd : decode cc pc = .ok (.iaload, 1)) (ho : am_arr n b 0 N) (h0 : 0 ≤ j) (h1 : j < N) (kk : WA f y cc nL rt d n kc ks (pc + 1) als (.inl (w b j) :: st) w R) : WA f y cc nL rt d n kc ks pc als (.inl j :: .inr (.inr b) :: st) w R := by
  refine WA.pure (fun h hw _ => am_ok1 (show am_ok (.inl (w b j)) from (hw.1 b j).2 (fun q => by have := (am_isL_arr ho.2 (by decide)).mp q; omega)) (am_tl (am_tl h))) (fun D tc ad base p l e rm s m args below meth c H locs ls cells slots Q CC X hst _ _ _ _ kk => ?_) kk
  obtain ⟨hx, hb, -⟩ := CC
  obtain ⟨x1, x2, x3, x4, x5, x6, x7, x8, x9, x10, x11, x12⟩ := X
  have he := am_wl_at (tc := tc) (ad := ad) (n := n) (w := w) ho.1.1 ho.1.2
  rw [am_ent_i ho.2] at he
  show W p l e rm s m args below meth c H locs cells slots Q (F0 m pc ls (.int (Int32.ofInt j) :: am_rf ad b :: st.map (am_cv ad)))
  rw [am_rf1 (am_arr0 ho)]
  refine va_iald hx hb x2 x6 _ 0 he rfl (i32_in (am_hd hst) h0 h1) hd ?_
  rw [i32_nat (am_hd hst) h0]
  have e : ((j.toNat : Nat) : Int) = j := by omega
  rw [e]
  exact kk
theorem WA.zaload {b j : Int} {N : Nat} (hd : decode cc pc = .ok (.baload, 1)) (ho : am_arr n b 1 N) (h0 : 0 ≤ j) (h1 : j < N) (kk : WA f y cc nL rt d n kc ks (pc + 1) als (.inl (w b j) :: st) w R) : WA f y cc nL rt d n kc ks pc als (.inl j :: .inr (.inr b) :: st) w R := by
  refine WA.pure (fun h hw _ => am_ok1 (show am_ok (.inl (w b j)) from (hw.1 b j).2 (fun q => by have := (am_isL_arr ho.2 (by decide)).mp q; omega)) (am_tl (am_tl h))) (fun D tc ad base p l e rm s m args below meth c H locs ls cells slots Q CC X hst _ _ _ _ kk => ?_) kk
  obtain ⟨hx, hb, -⟩ := CC
  obtain ⟨x1, x2, x3, x4, x5, x6, x7, x8, x9, x10, x11, x12⟩ := X
  have he := am_wl_at (tc := tc) (ad := ad) (n := n) (w := w) ho.1.1 ho.1.2
  rw [am_ent_z ho.2] at he
  show W p l e rm s m args below meth c H locs cells slots Q (F0 m pc ls (.int (Int32.ofInt j) :: am_rf ad b :: st.map (am_cv ad)))
  rw [am_rf1 (am_arr0 ho)]
  refine va_zald hx hb x2 x6 _ 1 he rfl (i32_in (am_hd hst) h0 h1) hd ?_
  rw [i32_nat (am_hd hst) h0]
  have e : ((j.toNat : Nat) : Int) = j := by omega
  rw [e]
  exact kk
theorem WA.laload {b j : Int} {N : Nat} (hd : decode cc pc = .ok (.laload, 1)) (ho : am_arr n b 2 N) (h0 : 0 ≤ j) (h1 : j < N) (kk : WA f y cc nL rt d n kc ks (pc + 1) als (.inr (.inl (w b j)) :: st) w R) : WA f y cc nL rt d n kc ks pc als (.inl j :: .inr (.inr b) :: st) w R := by
  refine WA.pure (fun h hw _ => am_ok1 (show am_ok (.inr (.inl (w b j))) from (hw.1 b j).1 ((am_isL_arr ho.2 (by decide)).mpr rfl)) (am_tl (am_tl h))) (fun D tc ad base p l e rm s m args below meth c H locs ls cells slots Q CC X hst _ _ _ _ kk => ?_) kk
  obtain ⟨hx, hb, -⟩ := CC
  obtain ⟨x1, x2, x3, x4, x5, x6, x7, x8, x9, x10, x11, x12⟩ := X
  have he := am_wl_at (tc := tc) (ad := ad) (n := n) (w := w) ho.1.1 ho.1.2
  rw [am_ent_l ho.2] at he
  show W p l e rm s m args below meth c H locs cells slots Q (F0 m pc ls (.int (Int32.ofInt j) :: am_rf ad b :: st.map (am_cv ad)))
  rw [am_rf1 (am_arr0 ho)]
  refine va_lald hx hb x2 x6 _ 2 he rfl (i32_in (am_hd hst) h0 h1) hd ?_
  rw [i32_nat (am_hd hst) h0]
  have e : ((j.toNat : Nat) : Int) = j := by omega
  rw [e]
  exact kk
theorem WA.aaload {b j : Int} {N : Nat} (hd : decode cc pc = .ok (.aaload, 1)) (ho : am_arr n b 3 N) (h0 : 0 ≤ j) (h1 : j < N) (kk : WA f y cc nL rt d n kc ks (pc + 1) als (.inr (.inr (w b j)) :: st) w R) : WA f y cc nL rt d n kc ks pc als (.inl j :: .inr (.inr b) :: st) w R := by
  refine WA.pure (fun h hw _ => am_ok1 (show am_ok (.inr (.inr (w b j))) from (hw.1 b j).2 (fun q => by have := (am_isL_arr ho.2 (by decide)).mp q; omega)) (am_tl (am_tl h))) (fun D tc ad base p l e rm s m args below meth c H locs ls cells slots Q CC X hst _ _ _ _ kk => ?_) kk
  obtain ⟨hx, hb, -⟩ := CC
  obtain ⟨x1, x2, x3, x4, x5, x6, x7, x8, x9, x10, x11, x12⟩ := X
  have he := am_wl_at (tc := tc) (ad := ad) (n := n) (w := w) ho.1.1 ho.1.2
  rw [am_ent_q ho.2] at he
  show W p l e rm s m args below meth c H locs cells slots Q (F0 m pc ls (.int (Int32.ofInt j) :: am_rf ad b :: st.map (am_cv ad)))
  rw [am_rf1 (am_arr0 ho)]
  refine va_aldq hx hb x2 x6 _ 3 he rfl (i32_in (am_hd hst) h0 h1) hd ?_
  rw [i32_nat (am_hd hst) h0]
  have e : ((j.toNat : Nat) : Int) = j := by omega
  rw [e]
  have e2 : va_rf (if w b j = 0 then none else some (ad (w b j))) = am_rf ad (w b j) := by
    unfold am_rf
    split <;> rfl
  rw [e2]
  exact kk
theorem WA.iastore {b j x : Int} {N : Nat} (hd : decode cc pc = .ok (.iastore, 1)) (ho : am_arr n b 0 N) (h0 : 0 ≤ j) (h1 : j < N) (kk : WA f y cc nL rt d n kc ks (pc + 1) als st (wset w b j x) R) : WA f y cc nL rt d n kc ks pc als (.inl x :: .inl j :: .inr (.inr b) :: st) w R := by
  refine WA.heap (w' := wset w b j x) (b := b) ho.1.1 wset_ne (fun h hw _ => ⟨am_okw_arr ho.2 (by decide) hw (am_hd h), am_tl (am_tl (am_tl h))⟩) (fun D tc ad base p l e rm s m args below meth c H locs ls cells slots Q CC X hD hst _ _ _ _ kk => ?_) kk
  obtain ⟨hx, hb, -⟩ := CC
  obtain ⟨x1, x2, x3, x4, x5, x6, x7, x8, x9, x10, x11, x12⟩ := X
  have he := am_wl_at (tc := tc) (ad := ad) (n := n) (w := w) ho.1.1 ho.1.2
  rw [am_ent_i ho.2] at he
  have hj : am_ok (.inl j) := am_hd (am_tl hst)
  show W p l e rm s m args below meth c H locs cells slots Q (F0 m pc ls (am_cv ad (.inl x) :: .int (Int32.ofInt j) :: am_rf ad b :: st.map (am_cv ad)))
  rw [am_rf1 (am_arr0 ho)]
  refine va_iast hx hb x2 x6 hD x7 _ 0 he rfl (i32_in hj h0 h1) hd (fun H1 locs1 hP1 hD1 hS1 => kk H1 locs1 ?_ hS1)
  rw [i32_nat hj h0] at hP1
  rw [am_ent_i ho.2]
  have e : upd (fun q : Nat => Int32.ofInt (w b q)) j.toNat (Int32.ofInt x) = (fun q : Nat => Int32.ofInt (wset w b j x b q)) := by
    funext q
    by_cases hq : q = j.toNat
    · subst hq
      have h8 : wset w b j x b ((j.toNat : Nat) : Int) = x := if_pos ⟨rfl, by omega⟩
      rw [h8]
      simp [upd]
    · have h8 : wset w b j x b (q : Int) = w b q := if_neg (fun z => hq (by omega))
      rw [h8]
      simp [upd, hq]
  rw [← e]
  exact hP1
theorem WA.zastore {b j x : Int} {N : Nat} (hd : decode cc pc = .ok (.bastore, 1)) (ho : am_arr n b 1 N) (h0 : 0 ≤ j) (h1 : j < N) (hz : x = 0 ∨ x = 1) (kk : WA f y cc nL rt d n kc ks (pc + 1) als st (wset w b j x) R) : WA f y cc nL rt d n kc ks pc als (.inl x :: .inl j :: .inr (.inr b) :: st) w R := by
  refine WA.heap (w' := wset w b j x) (b := b) ho.1.1 wset_ne (fun h hw _ => ⟨am_okw_arr ho.2 (by decide) hw (am_hd h), am_tl (am_tl (am_tl h))⟩) (fun D tc ad base p l e rm s m args below meth c H locs ls cells slots Q CC X hD hst _ _ _ _ kk => ?_) kk
  obtain ⟨hx, hb, -⟩ := CC
  obtain ⟨x1, x2, x3, x4, x5, x6, x7, x8, x9, x10, x11, x12⟩ := X
  have he := am_wl_at (tc := tc) (ad := ad) (n := n) (w := w) ho.1.1 ho.1.2
  rw [am_ent_z ho.2] at he
  have hj : am_ok (.inl j) := am_hd (am_tl hst)
  show W p l e rm s m args below meth c H locs cells slots Q (F0 m pc ls (am_cv ad (.inl x) :: .int (Int32.ofInt j) :: am_rf ad b :: st.map (am_cv ad)))
  rw [am_rf1 (am_arr0 ho)]
  refine va_zast hx hb x2 x6 hD x7 _ 1 he rfl (i32_in hj h0 h1) hd (fun H1 locs1 hP1 hD1 hS1 => kk H1 locs1 ?_ hS1)
  rw [i32_nat hj h0] at hP1
  rw [am_ent_z ho.2]
  have hnar : vp_nar .boolean (Int32.ofInt x) = Int32.ofInt x := by rcases hz with rfl | rfl <;> rfl
  rw [hnar] at hP1
  have e : upd (fun q : Nat => Int32.ofInt (w b q)) j.toNat (Int32.ofInt x) = (fun q : Nat => Int32.ofInt (wset w b j x b q)) := by
    funext q
    by_cases hq : q = j.toNat
    · subst hq
      have h8 : wset w b j x b ((j.toNat : Nat) : Int) = x := if_pos ⟨rfl, by omega⟩
      rw [h8]
      simp [upd]
    · have h8 : wset w b j x b (q : Int) = w b q := if_neg (fun z => hq (by omega))
      rw [h8]
      simp [upd, hq]
  rw [← e]
  exact hP1
theorem WA.lastore {b j x : Int} {N : Nat} (hd : decode cc pc = .ok (.lastore, 1)) (ho : am_arr n b 2 N) (h0 : 0 ≤ j) (h1 : j < N) (kk : WA f y cc nL rt d n kc ks (pc + 1) als st (wset w b j x) R) : WA f y cc nL rt d n kc ks pc als (.inr (.inl x) :: .inl j :: .inr (.inr b) :: st) w R := by
  refine WA.heap (w' := wset w b j x) (b := b) ho.1.1 wset_ne (fun h hw _ => ⟨am_okw_arr ho.2 (by decide) hw (am_hd h), am_tl (am_tl (am_tl h))⟩) (fun D tc ad base p l e rm s m args below meth c H locs ls cells slots Q CC X hD hst _ _ _ _ kk => ?_) kk
  obtain ⟨hx, hb, -⟩ := CC
  obtain ⟨x1, x2, x3, x4, x5, x6, x7, x8, x9, x10, x11, x12⟩ := X
  have he := am_wl_at (tc := tc) (ad := ad) (n := n) (w := w) ho.1.1 ho.1.2
  rw [am_ent_l ho.2] at he
  have hj : am_ok (.inl j) := am_hd (am_tl hst)
  show W p l e rm s m args below meth c H locs cells slots Q (F0 m pc ls (am_cv ad (.inr (.inl x)) :: .int (Int32.ofInt j) :: am_rf ad b :: st.map (am_cv ad)))
  rw [am_rf1 (am_arr0 ho)]
  refine va_last hx hb x2 x6 hD x7 _ 2 he rfl (i32_in hj h0 h1) hd (fun H1 locs1 hP1 hD1 hS1 => kk H1 locs1 ?_ hS1)
  rw [i32_nat hj h0] at hP1
  rw [am_ent_l ho.2]
  have e : vp_updL (fun q : Nat => Int64.ofInt (w b q)) j.toNat (Int64.ofInt x) = (fun q : Nat => Int64.ofInt (wset w b j x b q)) := by
    funext q
    by_cases hq : q = j.toNat
    · subst hq
      have h8 : wset w b j x b ((j.toNat : Nat) : Int) = x := if_pos ⟨rfl, by omega⟩
      rw [h8]
      simp [vp_updL]
    · have h8 : wset w b j x b (q : Int) = w b q := if_neg (fun z => hq (by omega))
      rw [h8]
      simp [vp_updL, hq]
  rw [← e]
  exact hP1
theorem WA.aastore {b j x : Int} {N : Nat} (hd : decode cc pc = .ok (.aastore, 1)) (ho : am_arr n b 3 N) (h0 : 0 ≤ j) (h1 : j < N) (hs : am_obj n x 5 14) (kk : WA f y cc nL rt d n kc ks (pc + 1) als st (wset w b j x) R) : WA f y cc nL rt d n kc ks pc als (.inr (.inr x) :: .inl j :: .inr (.inr b) :: st) w R := by
  refine WA.heap (w' := wset w b j x) (b := b) ho.1.1 wset_ne (fun h hw _ => ⟨am_okw_arr ho.2 (by decide) hw (am_hd h), am_tl (am_tl (am_tl h))⟩) (fun D tc ad base p l e rm s m args below meth c H locs ls cells slots Q CC X hD hst _ _ _ _ kk => ?_) kk
  obtain ⟨hx, hb, -⟩ := CC
  obtain ⟨x1, x2, x3, x4, x5, x6, x7, x8, x9, x10, x11, x12⟩ := X
  have he := am_wl_at (tc := tc) (ad := ad) (n := n) (w := w) ho.1.1 ho.1.2
  rw [am_ent_q ho.2] at he
  have hj : am_ok (.inl j) := am_hd (am_tl hst)
  show W p l e rm s m args below meth c H locs cells slots Q (F0 m pc ls (am_cv ad (.inr (.inr x)) :: .int (Int32.ofInt j) :: am_rf ad b :: st.map (am_cv ad)))
  rw [am_rf1 (am_arr0 ho)]
  have hx0 : x ≠ 0 := am_obj0 hs
  have hex := am_wl_at (tc := tc) (ad := ad) (n := n) (w := w) hs.1.1 hs.1.2
  rw [am_ent_o hs.2] at hex
  show W p l e rm s m args below meth c H locs cells slots Q (F0 m pc ls (am_rf ad x :: .int (Int32.ofInt j) :: .ref (ad b) :: st.map (am_cv ad)))
  rw [am_rf1 hx0]
  refine va_astq hx hb x2 x6 hD x7 _ 3 _ 5 (r := (RX5, TX5, 14)) he rfl hex rfl (i32_in hj h0 h1) hd (fun H1 locs1 hP1 hD1 hS1 => kk H1 locs1 ?_ hS1)
  rw [i32_nat hj h0] at hP1
  rw [am_ent_q ho.2]
  have e : va_up (fun q : Nat => if w b q = 0 then none else some (ad (w b q))) j.toNat (some (ad x)) = (fun q : Nat => if wset w b j x b q = 0 then none else some (ad (wset w b j x b q))) := by
    funext q
    by_cases hq : q = j.toNat
    · subst hq
      have h8 : wset w b j x b ((j.toNat : Nat) : Int) = x := if_pos ⟨rfl, by omega⟩
      rw [h8]
      simp [va_up, hx0]
    · have h8 : wset w b j x b (q : Int) = w b q := if_neg (fun z => hq (by omega))
      rw [h8]
      simp [va_up, hq]
  rw [← e]
  exact hP1
end AMR4
end
section
/-! ===== rules: calls ===== -/
section AMR5
variable {f : Bool} {y : MethodName} {cc : ByteArray} {nL : Nat} {rt : Option FieldType} {d d' n kc ks kc' ks' pc : Nat} {als : List (Option AV)} {st As : List AV} {w : Wd} {R Rc : Option AV → Wd → Prop}
variable {y' : MethodName} {cc' : ByteArray} {nL' : Nat} {rt' : Option FieldType}
theorem am_good {ws : List Cond} (h : ∀ w ∈ ws, w ∈ am_G) : GoodIn am_G ws := fun w hw => am_G_good w (h w hw)
def am_pre (f : Bool) (D : va_G) (tc : Nat → ClassId) (ad : Int → Nat) (base n : Nat) (w : Wd) (as : List AV) : Array Value → State → Prop := va_Pc (as.map (am_cv ad)) (fun U => U.heap.size = base + n ∧ am_E ad (am_A base) U U.heap ∧ va_K D vwCl (am_tys tc) U ∧ am_AD ad base ∧ va_P D vwCl (am_wl tc ad n w) U.heap ∧ am_okw f w ∧ ∀ v ∈ as, am_ok v)
theorem am_blind {D : va_G} {tc : Nat → ClassId} {ad : Int → Nat} {base : Nat} {as : List AV} : FrameBlind (am_pre f D tc ad base n w as) := fun a U g mk q => by
  obtain ⟨q0, q1, q2, q3, q4, q5, q6, q7⟩ := q
  exact ⟨q0, q1, am_E.same (s := U) (U := U.calling g mk a) rfl rfl q2, va_K.moved (u := U) (U := U.calling g mk a) (Vm.Alike.refl U.vm) q3, q4, q5, q6, q7⟩
theorem am_preAt {D : va_G} {tc : Nat → ClassId} {ad : Int → Nat} {base : Nat} {as : List AV} {s : State} {stk : List AV} {H : Heap} {locs : List Loc} {ls : Array Slot} {cells : Nat} (X : am_X f D tc ad base nL n s als stk w H locs ls cells) (hsz : H.size = base + n) (has : ∀ v ∈ as, am_ok v) : ∀ U : State, U.heap = H → s.WarmedH U.vm → am_pre f D tc ad base n w as (as.map (am_cv ad)).toArray U := by
  obtain ⟨x1, x2, x3, x4, x5, x6, x7, x8, x9, x10, x11, x12⟩ := X
  intro U hU hW
  exact ⟨rfl, by rw [hU]; exact hsz, am_E.at x1 x7 hU hW, va_K.moved hW.alike x2, x3, by rw [hU]; exact x6, x10, has⟩
/-- behind a call -/
theorem am_after {D : va_G} {tc : Nat → ClassId} {ad : Int → Nat} {base : Nat} {p : Program} {l : Launch} {e : Env} {rm : Room} {s : State} {m : MethodId} {args : Array Value} {below : List Frame} {meth : Method} {c : Code} {H : Heap} {locs : List Loc} {ls : Array Slot} {cells slots MC MS : Nat} {stk : List AV} {st0 : List Value} {a : Array Value}
    (C : am_C y cc nL rt p s m args meth c) (X : am_X f D tc ad base nL n s als stk w H locs ls cells) (hst : ∀ v ∈ st, am_ok v) (h3 : cells + (kc' + kc) = MC) (h4 : slots + (ks' + ks) = MS) (h5 : MC ≤ rm.cells) (h6 : MS ≤ rm.slots) (h7 : d ≤ rm.frames) (h8 : 64 * d ≤ rm.locals)
    (hr : va_Run p l e rm s m args below meth c H locs cells slots kc' ks' (F0 m pc ls st0) (st.map (am_cv ad)) (am_Qc f D tc ad base (n + kc') Rc a) (am_A base))
    (k : ∀ r w', Rc r w' → WA f y cc nL rt d (n + kc') kc ks (pc + 3) als (r.toList ++ st) w' R) :
    W p l e rm s m args below meth c H locs cells slots (MQ below (am_Qc f D tc ad base (n + (kc' + kc)) R) args s MC MS (am_A base)) (F0 m pc ls st0) := by
  obtain ⟨x1, x2, x3, x4, x5, x6, x7, x8, x9, x10, x11, x12⟩ := X
  intro T hT Y
  obtain ⟨v, st₀, t, T', L, h0, Y', hL, e1, e2, ⟨⟨r, w', hv, hR, hw', hok, hsz, hP⟩, hz, hk⟩, stp⟩ := hr T hT Y
  cases hv
  rw [h0] at hz hk
  have hS : va_S (am_A base) s.heap T'.heap (locs ++ L) := ⟨Nat.le_trans x7.1 (by rw [e1]; exact hz), fun q q1 q2 => by rw [e1, hk q (Nat.lt_of_lt_of_le q1 x7.1) q2]; exact x7.2.1 q q1 q2, fun q hq => by
      rcases List.mem_append.mp hq with h | h
      · exact x7.2.2 q h
      · exact hL q h⟩
  have K := k r w' hR D tc ad base p l e rm s m args below meth c T'.heap (locs ++ L) ls (cells + kc') (slots + ks') MC MS C ⟨x1, x2, x3, x4, by omega, by rw [e1]; exact hP, hS, x8, x9, hw', x11, fun v hv => by
      rcases List.mem_append.mp hv with h | h
      · cases r with
        | none => cases h
        | some r => exact hok v (by rw [List.mem_singleton.mp h])
      · exact hst v h⟩ (by omega) (by omega) h5 h6 h7 h8
  obtain ⟨t2, a1, b1⟩ := K T' rfl Y'
  have e3 : n + kc' + kc = n + (kc' + kc) := by omega
  rw [e3] at b1
  refine ⟨t2, stp t2 ?_, b1⟩
  have e4 : ((r.map (am_cv ad)).toList ++ st.map (am_cv ad)) = (r.toList ++ st).map (am_cv ad) := by
    cases r with
    | none => rfl
    | some r => rfl
  rw [show ({ F0 m pc ls st0 with pc := (F0 m pc ls st0).pc + 3, stack := (r.map (am_cv ad)).toList ++ st.map (am_cv ad) } : JFrame) = F0 m (pc + 3) ls ((r.toList ++ st).map (am_cv ad)) by rw [← e4]]
  exact a1
def am_link (own : String) (i : Nat) (y' : MethodName) (cc' : ByteArray) (nL' : Nat) (rt' : Option FieldType) (k : Nat) : Prop :=
  (Cond.methodLink own i y' ∈ am_G ∧ Cond.code y' cc' nL' rt' ∈ am_G ∧ Cond.initialized y'.cls ∈ am_G) ∧ (y'.cls ≠ "java/lang/invoke/MethodHandle" ∧ y'.cls ≠ "java/lang/invoke/VarHandle" ∧ (parseMethodDescriptor y'.desc).map (fun d => d.parameters.length) = some k) ∧ nL' ≤ 45
def am_linkN (own : String) (i : Nat) (y' : MethodName) (host : String) (cc' : ByteArray) (nL' : Nat) (rt' : Option FieldType) (k : Nat) : Prop :=
  (Cond.methodLinkNest own i y' host ∈ am_N ∧ Cond.code y' cc' nL' rt' ∈ am_G ∧ Cond.initialized y'.cls ∈ am_G) ∧ (y'.cls ≠ "java/lang/invoke/MethodHandle" ∧ y'.cls ≠ "java/lang/invoke/VarHandle" ∧ (parseMethodDescriptor y'.desc).map (fun d => d.parameters.length) = some k) ∧ nL' ≤ 45
theorem am_codeG (hc : Cond.code y' cc' nL' rt' ∈ am_G) : ∀ w ∈ Cond.code y' cc' nL' rt' :: am_G, w ∈ am_G := fun w hw => by
  rcases List.mem_cons.mp hw with rfl | hw
  · exact hc
  · exact hw
theorem am_rev_ok (h : ∀ v ∈ As.reverse ++ st, am_ok v) : (∀ v ∈ As, am_ok v) ∧ ∀ v ∈ st, am_ok v := ⟨fun v hv => h v (List.mem_append_left _ (List.mem_reverse.mpr hv)), fun v hv => h v (List.mem_append_right _ hv)⟩
theorem am_vc_room (ad : Int → Nat) {m : MethodId} {ls : Array Slot} {rest : List Value} (h : (st.map am_cat).sum ≤ 8) : 2 * (F0 m pc ls rest).monitorRoom + ((st.map (am_cv ad)).map fun v => v.category).sum ≤ 8 := lv_room (by rw [am_cats]; exact h)
/-- invokevirtual -/
theorem WA.callV {i ci N : Nat} {b : Int} {T : u_T} (hd : decode cc pc = .ok (.invokevirtual i, 3)) (hl : am_link y.cls i y' cc' nL' rt' As.length) (hi : Cond.instanceMethod y' ∈ am_G) (hs : Cond.selects y'.cls y' y' ∈ am_G) (hdd : d' < d) (hst : (st.map am_cat).sum ≤ 8)
    (ho : am_obj n b ci N) (hc : vwCl[ci]? = some (y'.cls, T, N)) (hE : EvA f y' cc' nL' rt' d' n kc' ks' (.inr (.inr b) :: As) w Rc)
    (k : ∀ r w', Rc r w' → WA f y cc nL rt d (n + kc') kc ks (pc + 3) als (r.toList ++ st) w' R) : WA f y cc nL rt d n (kc' + kc) (ks' + ks) pc als (As.reverse ++ .inr (.inr b) :: st) w R := by
  intro D tc ad base p l e rm s m args below meth c H locs ls cells slots MC MS C X h3 h4 h5 h6 h7 h8
  obtain ⟨⟨hl1, hl2, hl3⟩, hl4, hl5⟩ := hl
  obtain ⟨hx, hb, hml, -, -, hts, hown, -⟩ := id C
  obtain ⟨x1, x2, x3, x4, x5, x6, x7, x8, x9, x10, x11, x12⟩ := id X
  obtain ⟨o1, o2⟩ := am_rev_ok x12
  refine am_size X (fun hsz => ?_)
  have he := am_wl_at (tc := tc) (ad := ad) (n := n) (w := w) ho.1.1 ho.1.2
  rw [am_ent_o ho.2] at he
  have hb0 : b ≠ 0 := am_obj0 ho
  have hpre := am_preAt X hsz (as := .inr (.inr b) :: As) (fun v hv => by
    rcases List.mem_cons.mp hv with rfl | hv
    · exact am_hd o2
    · exact o1 v hv)
  rw [show (.inr (.inr b) :: As : List AV).map (am_cv ad) = .ref (ad b) :: As.map (am_cv ad) from congrArg (· :: As.map (am_cv ad)) (am_rf1 hb0)] at hpre
  have hG : GoodIn am_G (wsV y.cls i y'.cls y' (Cond.code y' cc' nL' rt' :: am_G)) := am_good (fun w hw => by
    rcases List.mem_append.mp hw with h | h
    · rcases List.mem_cons.mp h with rfl | h
      · exact hl1
      · rcases List.mem_cons.mp h with rfl | h
        · exact hi
        · rcases List.mem_cons.mp h with rfl | h
          · exact hs
          · rw [List.mem_singleton.mp h]; exact hl3
    · exact am_codeG hl2 w h)
  have hrun := va_runV (As := As.map (am_cv ad)) (rest := st.map (am_cv ad)) (g := F0 m pc ls ((As.reverse ++ .inr (.inr b) :: st).map (am_cv ad))) (H := H) (locs := locs) (cells := cells) (slots := slots) (e := e) (below := below) (meth := meth) ⟨hx, hb, hml, hown, hts⟩ (hE D tc ad base l)
    (cwV As.length hts hG rfl rfl rfl ⟨rfl, hl4.1, hl4.2.1, hl4.2.2⟩ ⟨by show d' + 1 ≤ rm.frames; omega, by show 8 + (nL' + 11) + 64 * d' ≤ rm.locals; omega⟩)
    ⟨am_blind, va_recv x2 x6 hc he, hpre⟩ rfl (by simp) x8.1 (by simp [am_cv, am_rf1 hb0]) (am_vc_room ad hst) hd ⟨by omega, by omega⟩
  exact am_after C X (am_tl o2) h3 h4 h5 h6 h7 h8 hrun k
/-- invokevirtual of a nest mate's -/
theorem WA.callVN {i ci N : Nat} {b : Int} {T : u_T} {host : String} (hd : decode cc pc = .ok (.invokevirtual i, 3)) (hl : am_linkN y.cls i y' host cc' nL' rt' As.length) (hi : Cond.instanceMethod y' ∈ am_G) (hs : Cond.selects y'.cls y' y' ∈ am_G) (hdd : d' < d) (hst : (st.map am_cat).sum ≤ 8)
    (ho : am_obj n b ci N) (hc : vwCl[ci]? = some (y'.cls, T, N)) (hE : EvA f y' cc' nL' rt' d' n kc' ks' (.inr (.inr b) :: As) w Rc)
    (k : ∀ r w', Rc r w' → WA f y cc nL rt d (n + kc') kc ks (pc + 3) als (r.toList ++ st) w' R) : WA f y cc nL rt d n (kc' + kc) (ks' + ks) pc als (As.reverse ++ .inr (.inr b) :: st) w R := by
  intro D tc ad base p l e rm s m args below meth c H locs ls cells slots MC MS C X h3 h4 h5 h6 h7 h8
  obtain ⟨⟨hl1, hl2, hl3⟩, hl4, hl5⟩ := hl
  obtain ⟨hx, hb, hml, -, -, hts, hown, -⟩ := id C
  obtain ⟨x1, x2, x3, x4, x5, x6, x7, x8, x9, x10, x11, x12⟩ := id X
  obtain ⟨o1, o2⟩ := am_rev_ok x12
  refine am_size X (fun hsz => ?_)
  have he := am_wl_at (tc := tc) (ad := ad) (n := n) (w := w) ho.1.1 ho.1.2
  rw [am_ent_o ho.2] at he
  have hb0 : b ≠ 0 := am_obj0 ho
  have hpre := am_preAt X hsz (as := .inr (.inr b) :: As) (fun v hv => by
    rcases List.mem_cons.mp hv with rfl | hv
    · exact am_hd o2
    · exact o1 v hv)
  rw [show (.inr (.inr b) :: As : List AV).map (am_cv ad) = .ref (ad b) :: As.map (am_cv ad) from congrArg (· :: As.map (am_cv ad)) (am_rf1 hb0)] at hpre
  have hrun := va_runVN (C := y'.cls) (As := As.map (am_cv ad)) (rest := st.map (am_cv ad)) (g := F0 m pc ls ((As.reverse ++ .inr (.inr b) :: st).map (am_cv ad))) (H := H) (locs := locs) (cells := cells) (slots := slots) (e := e) (below := below) (meth := meth) ⟨hx, hb, hml, hown, hts⟩ (hE D tc ad base l)
    ⟨va_cnB As.length hts (am_good (am_codeG hl2)) rfl rfl rfl (x1.2.2.2.2.2.2.2 _ hl1) (hts _ hl3) hl4 ⟨by show d' + 1 ≤ rm.frames; omega, by show 8 + (nL' + 11) + 64 * d' ≤ rm.locals; omega⟩, hts _ hi, hts _ hs⟩
    ⟨am_blind, va_recv x2 x6 hc he, hpre⟩ rfl (by simp) x8.1 (by simp [am_cv, am_rf1 hb0]) (am_vc_room ad hst) hd ⟨by omega, by omega⟩
  exact am_after C X (am_tl o2) h3 h4 h5 h6 h7 h8 hrun k
/-- invokestatic -/
theorem WA.callS {i : Nat} (hd : decode cc pc = .ok (.invokestatic i, 3)) (hl : am_link y.cls i y' cc' nL' rt' As.length) (hi : Cond.static y' ∈ am_G) (hdd : d' < d) (hst : (st.map am_cat).sum ≤ 8)
    (hE : EvA f y' cc' nL' rt' d' n kc' ks' As w Rc)
    (k : ∀ r w', Rc r w' → WA f y cc nL rt d (n + kc') kc ks (pc + 3) als (r.toList ++ st) w' R) : WA f y cc nL rt d n (kc' + kc) (ks' + ks) pc als (As.reverse ++ st) w R := by
  intro D tc ad base p l e rm s m args below meth c H locs ls cells slots MC MS C X h3 h4 h5 h6 h7 h8
  obtain ⟨⟨hl1, hl2, hl3⟩, hl4, hl5⟩ := hl
  obtain ⟨hx, hb, hml, -, -, hts, hown, -⟩ := id C
  obtain ⟨x1, x2, x3, x4, x5, x6, x7, x8, x9, x10, x11, x12⟩ := id X
  obtain ⟨o1, o2⟩ := am_rev_ok x12
  refine am_size X (fun hsz => ?_)
  have hG : GoodIn am_G (va_wsS y.cls i y' (Cond.code y' cc' nL' rt' :: am_G)) := am_good (fun w hw => by
    rcases List.mem_append.mp hw with h | h
    · rcases List.mem_cons.mp h with rfl | h
      · exact hl1
      · rcases List.mem_cons.mp h with rfl | h
        · exact hi
        · rw [List.mem_singleton.mp h]; exact hl3
    · exact am_codeG hl2 w h)
  have hrun := va_runS (As := As.map (am_cv ad)) (rest := st.map (am_cv ad)) (g := F0 m pc ls ((As.reverse ++ st).map (am_cv ad))) (H := H) (locs := locs) (cells := cells) (slots := slots) (e := e) (below := below) (meth := meth) ⟨hx, hb, hml, hown, hts⟩ (hE D tc ad base l)
    (va_cwS As.length hts hG rfl rfl rfl hl4 ⟨by show d' + 1 ≤ rm.frames; omega, by show 8 + (nL' + 11) + 64 * d' ≤ rm.locals; omega⟩)
    ⟨am_blind, am_preAt X hsz o1⟩ rfl (by simp) x8.1 (by simp) (am_vc_room ad hst) hd ⟨by omega, by omega⟩
  exact am_after C X o2 h3 h4 h5 h6 h7 h8 hrun k
/-- invokestatic of a nest mate's -/
theorem WA.callSN {i : Nat} {host : String} (hd : decode cc pc = .ok (.invokestatic i, 3)) (hl : am_linkN y.cls i y' host cc' nL' rt' As.length) (hi : Cond.static y' ∈ am_G) (hdd : d' < d) (hst : (st.map am_cat).sum ≤ 8)
    (hE : EvA f y' cc' nL' rt' d' n kc' ks' As w Rc)
    (k : ∀ r w', Rc r w' → WA f y cc nL rt d (n + kc') kc ks (pc + 3) als (r.toList ++ st) w' R) : WA f y cc nL rt d n (kc' + kc) (ks' + ks) pc als (As.reverse ++ st) w R := by
  intro D tc ad base p l e rm s m args below meth c H locs ls cells slots MC MS C X h3 h4 h5 h6 h7 h8
  obtain ⟨⟨hl1, hl2, hl3⟩, hl4, hl5⟩ := hl
  obtain ⟨hx, hb, hml, -, -, hts, hown, -⟩ := id C
  obtain ⟨x1, x2, x3, x4, x5, x6, x7, x8, x9, x10, x11, x12⟩ := id X
  obtain ⟨o1, o2⟩ := am_rev_ok x12
  refine am_size X (fun hsz => ?_)
  have hrun := va_runSN (As := As.map (am_cv ad)) (rest := st.map (am_cv ad)) (g := F0 m pc ls ((As.reverse ++ st).map (am_cv ad))) (H := H) (locs := locs) (cells := cells) (slots := slots) (e := e) (below := below) (meth := meth) ⟨hx, hb, hml, hown, hts⟩ (hE D tc ad base l)
    ⟨va_cnB As.length hts (am_good (am_codeG hl2)) rfl rfl rfl (x1.2.2.2.2.2.2.2 _ hl1) (hts _ hl3) hl4 ⟨by show d' + 1 ≤ rm.frames; omega, by show 8 + (nL' + 11) + 64 * d' ≤ rm.locals; omega⟩, hts _ hi, trivial⟩
    ⟨am_blind, am_preAt X hsz o1⟩ rfl (by simp) x8.1 (by simp) (am_vc_room ad hst) hd ⟨by omega, by omega⟩
  exact am_after C X o2 h3 h4 h5 h6 h7 h8 hrun k
/-- invokespecial of a constructor -/
theorem WA.callI {i : Nat} {b : Int} (hd : decode cc pc = .ok (.invokespecial i, 3)) (hl : am_link y.cls i y' cc' nL' none As.length) (hi : Cond.instanceMethod y' ∈ am_G) (hy1 : y'.name = "<init>") (hdd : d' < d) (hst : (st.map am_cat).sum ≤ 8) (hb0 : b ≠ 0)
    (hE : EvA f y' cc' nL' none d' n kc' ks' (.inr (.inr b) :: As) w Rc)
    (k : ∀ r w', Rc r w' → WA f y cc nL rt d (n + kc') kc ks (pc + 3) als (r.toList ++ st) w' R) : WA f y cc nL rt d n (kc' + kc) (ks' + ks) pc als (As.reverse ++ .inr (.inr b) :: st) w R := by
  intro D tc ad base p l e rm s m args below meth c H locs ls cells slots MC MS C X h3 h4 h5 h6 h7 h8
  obtain ⟨⟨hl1, hl2, hl3⟩, hl4, hl5⟩ := hl
  obtain ⟨hx, hb, hml, -, -, hts, hown, -⟩ := id C
  obtain ⟨x1, x2, x3, x4, x5, x6, x7, x8, x9, x10, x11, x12⟩ := id X
  obtain ⟨o1, o2⟩ := am_rev_ok x12
  refine am_size X (fun hsz => ?_)
  have hpre := am_preAt X hsz (as := .inr (.inr b) :: As) (fun v hv => by
    rcases List.mem_cons.mp hv with rfl | hv
    · exact am_hd o2
    · exact o1 v hv)
  rw [show (.inr (.inr b) :: As : List AV).map (am_cv ad) = .ref (ad b) :: As.map (am_cv ad) from congrArg (· :: As.map (am_cv ad)) (am_rf1 hb0)] at hpre
  have hrun := va_runI (As := As.map (am_cv ad)) (rest := st.map (am_cv ad)) (g := F0 m pc ls ((As.reverse ++ .inr (.inr b) :: st).map (am_cv ad))) (H := H) (locs := locs) (cells := cells) (slots := slots) (e := e) (below := below) (meth := meth) ⟨hx, hb, hml, hown, hts⟩ (hE D tc ad base l)
    (cwI As.length hts (am_good (am_codeG hl2)) rfl rfl rfl (hts _ hl3) (hts _ hl1) (hts _ hi) hy1 hl4 ⟨by show d' + 1 ≤ rm.frames; omega, by show 8 + (nL' + 11) + 64 * d' ≤ rm.locals; omega⟩)
    ⟨am_blind, hpre⟩ rfl (by simp) x8.1 (by simp [am_cv, am_rf1 hb0]) (am_vc_room ad hst) hd ⟨by omega, by omega⟩
  exact am_after C X (am_tl o2) h3 h4 h5 h6 h7 h8 hrun k
end AMR5
end
section
/-! ===== rules: statics, texts, the JDK's, new cells ===== -/
section AMR6
variable {f : Bool} {y : MethodName} {cc : ByteArray} {nL : Nat} {rt : Option FieldType} {d n kc ks pc : Nat} {als : List (Option AV)} {st : List AV} {w : Wd} {R : Option AV → Wd → Prop}
theorem am_adA {ad : Int → Nat} {base : Nat} {x : Int} {s : State} : am_cv ad (.inr (.inr x)) = am_rf ad x := rfl
theorem WA.getmost {i : Nat} (hd : decode cc pc = .ok (.getstatic i, 3)) (hw : Cond.fieldLinkNest y.cls i RX8 "MOST_PARTS" "[I" RX8 ∈ am_N) (k : WA f y cc nL rt d n kc ks (pc + 3) als (.inr (.inr (-2)) :: st) w R) : WA f y cc nL rt d n kc ks pc als st w R :=
  WA.pure (fun h _ _ => am_ok1 (am_r ⟨by decide, by decide⟩) h) (fun _ _ ad _ _ _ _ _ _ _ _ _ _ _ _ _ _ _ _ _ C X _ _ _ _ _ k => va_getsN C.1 C.2.1 X.1.2.1.1 X.2.2.2.2.2.2.1 C.2.2.2.2.2.2.1 ((X.1.2.2.2.2.2.2.2 _ hw).use rfl) (fun _ h => h) hd (by rw [← am_rf1 (ad := ad) (x := -2) (by decide)]; exact k)) k
theorem WA.getleast {i : Nat} (hd : decode cc pc = .ok (.getstatic i, 3)) (hw : Cond.fieldLinkNest y.cls i RX8 "LEAST_PARTS" "[I" RX8 ∈ am_N) (k : WA f y cc nL rt d n kc ks (pc + 3) als (.inr (.inr (-1)) :: st) w R) : WA f y cc nL rt d n kc ks pc als st w R :=
  WA.pure (fun h _ _ => am_ok1 (am_r ⟨by decide, by decide⟩) h) (fun _ _ ad _ _ _ _ _ _ _ _ _ _ _ _ _ _ _ _ _ C X _ _ _ _ _ k => va_getsN C.1 C.2.1 X.1.1.1 X.2.2.2.2.2.2.1 C.2.2.2.2.2.2.1 ((X.1.2.2.2.2.2.2.2 _ hw).use rfl) (fun _ h => h) hd (by rw [← am_rf1 (ad := ad) (x := -1) (by decide)]; exact k)) k
theorem am_tab9 : ∀ j : Nat, j < 9 → in32 (am_most.getD j 0) ∧ in32 (am_least.getD j 0) := by
  intro j hj
  have h : ∀ j : Nat, j < 9 → (0 ≤ am_most.getD j 0 ∧ am_most.getD j 0 ≤ 9) ∧ 0 ≤ am_least.getD j 0 ∧ am_least.getD j 0 ≤ 9 := by decide
  have := h j hj
  exact ⟨⟨by omega, by omega⟩, ⟨by omega, by omega⟩⟩
theorem WA.most {j : Int} (hd : decode cc pc = .ok (.iaload, 1)) (h0 : 0 ≤ j) (h1 : j < 9) (k : WA f y cc nL rt d n kc ks (pc + 1) als (.inl (am_most.getD j.toNat 0) :: st) w R) : WA f y cc nL rt d n kc ks pc als (.inl j :: .inr (.inr (-2)) :: st) w R :=
  WA.pure (fun h _ _ => am_ok1 (am_i (am_tab9 j.toNat (by omega)).1) (am_tl (am_tl h))) (fun _ _ ad _ _ _ _ _ _ _ _ _ _ _ _ _ _ _ _ _ C X ho _ _ _ _ k => by
    exact va_ti C.1 C.2.1 X.1.2.1.2 X.2.2.2.2.2.2.1 (i32_in (N := 9) (am_hd ho) h0 (by omega)) (by rw [i32_nat (am_hd ho) h0]; rfl) hd k) k
theorem WA.least {j : Int} (hd : decode cc pc = .ok (.iaload, 1)) (h0 : 0 ≤ j) (h1 : j < 9) (k : WA f y cc nL rt d n kc ks (pc + 1) als (.inl (am_least.getD j.toNat 0) :: st) w R) : WA f y cc nL rt d n kc ks pc als (.inl j :: .inr (.inr (-1)) :: st) w R :=
  WA.pure (fun h _ _ => am_ok1 (am_i (am_tab9 j.toNat (by omega)).2) (am_tl (am_tl h))) (fun _ _ ad _ _ _ _ _ _ _ _ _ _ _ _ _ _ _ _ _ C X ho _ _ _ _ k => by
    exact va_ti C.1 C.2.1 X.1.1.2 X.2.2.2.2.2.2.1 (i32_in (N := 9) (am_hd ho) h0 (by omega)) (by rw [i32_nat (am_hd ho) h0]; rfl) hd k) k
/-- a text -/
theorem WA.ldcS {j : Nat} {x : Int} (hy : y.cls = RX8) (hj : j < 9) (hx : x = -3 - (j : Int)) (hd : decode cc pc = .ok (.ldc (224 + 2 * j), 2)) (k : WA f y cc nL rt d n kc ks (pc + 2) als (.inr (.inr x) :: st) w R) : WA f y cc nL rt d n kc ks pc als st w R :=
  WA.pure (fun h _ _ => am_ok1 (am_r ⟨by omega, by omega⟩) h) (fun _ _ ad _ _ _ _ _ _ _ _ _ _ _ _ _ _ _ _ _ C X _ _ _ _ _ k => va_ldcS C.1 C.2.1 (by have := C.2.2.2.2.2.2.1; rw [hy] at this; exact this) (X.1.2.2.2.2.1 j hj) hd (by rw [← hx, ← am_rf1 (ad := ad) (x := x) (by omega)]; exact k)) k
theorem am_roS {ad : Int → Nat} {j : Nat} : am_rf ad (-3 - (j : Int)) = .ref (ad (-3 - (j : Int))) := am_rf1 (by omega)
theorem am_roB {ad : Int → Nat} {j : Nat} : am_rf ad (-12 - (j : Int)) = .ref (ad (-12 - (j : Int))) := am_rf1 (by omega)
/-- the fields of a text -/
theorem WA.strval {i j : Nat} (hj : j < 9) (hd : decode cc pc = .ok (.getfield i, 3)) (hl : Cond.fieldLink y.cls i "java/lang/String" "value" "[B" ∈ am_G) (k : WA f y cc nL rt d n kc ks (pc + 3) als (.inr (.inr (-12 - (j : Int))) :: st) w R) : WA f y cc nL rt d n kc ks pc als (.inr (.inr (-3 - (j : Int))) :: st) w R :=
  WA.pure (fun h _ _ => am_ok1 (am_r ⟨by omega, by omega⟩) (am_tl h)) (fun D tc ad base p l e rm s m args below meth c H locs ls cells slots Q C X _ _ _ _ _ k => by
    show W p l e rm s m args below meth c H locs cells slots Q (F0 m pc ls (am_rf ad _ :: st.map (am_cv ad)))
    rw [am_roS]
    exact vk_getf C.1 C.2.1 ((X.1.2.2.2.1.1 j hj).2.2.1) X.2.2.2.2.2.2.1 C.2.2.2.2.2.2.1 (C.2.2.2.2.2.1 _ hl) (fun _ h => h) hd (by rw [← am_roB]; exact k)) k
theorem WA.strcoder {i j : Nat} (hj : j < 9) (hd : decode cc pc = .ok (.getfield i, 3)) (hl : Cond.fieldLink y.cls i "java/lang/String" "coder" "B" ∈ am_G) (k : WA f y cc nL rt d n kc ks (pc + 3) als (.inl 0 :: st) w R) : WA f y cc nL rt d n kc ks pc als (.inr (.inr (-3 - (j : Int))) :: st) w R :=
  WA.pure (fun h _ _ => am_ok1 (am_i in32_0) (am_tl h)) (fun D tc ad base p l e rm s m args below meth c H locs ls cells slots Q C X _ _ _ _ _ k => by
    show W p l e rm s m args below meth c H locs cells slots Q (F0 m pc ls (am_rf ad _ :: st.map (am_cv ad)))
    rw [am_roS]
    exact vk_getf C.1 C.2.1 ((X.1.2.2.2.1.1 j hj).2.1) X.2.2.2.2.2.2.1 C.2.2.2.2.2.2.1 (C.2.2.2.2.2.1 _ hl) (fun _ h => h) hd k) k
theorem WA.getcompact {i : Nat} (hd : decode cc pc = .ok (.getstatic i, 3)) (hl : Cond.fieldLink y.cls i "java/lang/String" "COMPACT_STRINGS" "Z" ∈ am_G) (k : WA f y cc nL rt d n kc ks (pc + 3) als (.inl 1 :: st) w R) : WA f y cc nL rt d n kc ks pc als st w R :=
  WA.pure (fun h _ _ => am_ok1 (am_i ⟨by decide, by decide⟩) h) (fun _ _ ad _ _ _ _ _ _ _ _ _ _ _ _ _ _ _ _ _ C X _ _ _ _ _ k => va_gets C.1 C.2.1 X.1.2.2.1 X.2.2.2.2.2.2.1 C.2.2.2.2.2.2.1 (C.2.2.2.2.2.1 _ hl) (fun _ h => h) hd k) k
theorem WA.getsioobe {i : Nat} (hd : decode cc pc = .ok (.getstatic i, 3)) (hl : Cond.fieldLink y.cls i RJ3 "SIOOBE_FORMATTER" "Ljava/util/function/BiFunction;" ∈ am_G) (k : WA f y cc nL rt d n kc ks (pc + 3) als (.inr (.inr (-21)) :: st) w R) : WA f y cc nL rt d n kc ks pc als st w R :=
  WA.pure (fun h _ _ => am_ok1 (am_r ⟨by decide, by decide⟩) h) (fun _ _ ad _ _ _ _ _ _ _ _ _ _ _ _ _ _ _ _ _ C X _ _ _ _ _ k => va_gets C.1 C.2.1 X.1.2.2.2.2.2.1 X.2.2.2.2.2.2.1 C.2.2.2.2.2.2.1 (C.2.2.2.2.2.1 _ hl) (fun _ h => h) hd (by rw [← am_rf1 (ad := ad) (x := -21) (by decide)]; exact k)) k
theorem am_slen_le : ∀ j : Nat, j < 9 → am_slen.getD j 0 ≤ 6 := by decide
theorem am_sbyt_le : ∀ j : Nat, j < 9 → ∀ i : Nat, i < 6 → 0 ≤ ((am_sbyt.getD j []).getD i 0).toInt ∧ ((am_sbyt.getD j []).getD i 0).toInt ≤ 255 := by decide +kernel
theorem WA.strlen0 {j : Nat} (hj : j < 9) (hd : decode cc pc = .ok (.arraylength, 1)) (k : WA f y cc nL rt d n kc ks (pc + 1) als (.inl ((am_slen.getD j 0 : Nat) : Int) :: st) w R) : WA f y cc nL rt d n kc ks pc als (.inr (.inr (-12 - (j : Int))) :: st) w R :=
  WA.pure (fun h _ _ => am_ok1 (am_i (by have := am_slen_le j hj; exact ⟨by omega, by omega⟩)) (am_tl h)) (fun D tc ad base p l e rm s m args below meth c H locs ls cells slots Q C X _ _ _ _ _ k => by
    show W p l e rm s m args below meth c H locs cells slots Q (F0 m pc ls (am_rf ad _ :: st.map (am_cv ad)))
    rw [am_roB]
    exact va_tlen C.1 C.2.1 ((X.1.2.2.2.1.1 j hj).2.2.2) X.2.2.2.2.2.2.1 Int32.ofInt_eq_ofNat.symm hd k) k
theorem WA.strbyte {j : Nat} {i : Int} (hj : j < 9) (hd : decode cc pc = .ok (.baload, 1)) (h0 : 0 ≤ i) (h1 : i < (am_slen.getD j 0 : Nat)) (k : WA f y cc nL rt d n kc ks (pc + 1) als (.inl (((am_sbyt.getD j []).getD i.toNat 0).toInt) :: st) w R) : WA f y cc nL rt d n kc ks pc als (.inl i :: .inr (.inr (-12 - (j : Int))) :: st) w R :=
  WA.pure (fun h _ _ => am_ok1 (am_i (by have := am_slen_le j hj; have := am_sbyt_le j hj i.toNat (by omega); exact ⟨by omega, by omega⟩)) (am_tl (am_tl h))) (fun D tc ad base p l e rm s m args below meth c H locs ls cells slots Q C X ho _ _ _ _ k => by
    show W p l e rm s m args below meth c H locs cells slots Q (F0 m pc ls (.int (Int32.ofInt i) :: am_rf ad _ :: st.map (am_cv ad)))
    rw [am_roB]
    exact va_tb C.1 C.2.1 ((X.1.2.2.2.1.1 j hj).2.2.2) X.2.2.2.2.2.2.1 (i32_in (am_hd ho) h0 h1) (by rw [i32_nat (am_hd ho) h0]) hd (by simpa [am_cv] using k)) k
theorem WA.ishr0 {x : Int} (hd : decode cc pc = .ok (.ishr, 1)) (k : WA f y cc nL rt d n kc ks (pc + 1) als (.inl x :: st) w R) : WA f y cc nL rt d n kc ks pc als (.inl 0 :: .inl x :: st) w R :=
  WA.pure (fun h _ _ => am_tl h) (fun D tc ad base p l e rm s m args below meth c H locs ls cells slots Q C X ho _ _ _ _ k => lv_ishr C.1 C.2.1 hd (by
    rw [show (Int32.ofInt x) >>> ((Int32.ofInt 0) &&& 31) = Int32.ofInt x from by
      apply Int32.toBitVec_inj.mp
      simp]
    exact k)) k
theorem i32_mask {x : Int} (k : Nat) (hk : k ≤ 30) (hx : in32 x) : Int32.ofInt x &&& Int32.ofInt (2 ^ k - 1 : Nat) = Int32.ofInt (x % (2 ^ k : Nat)) := by
  have hpos : 0 < 2 ^ k := Nat.two_pow_pos k
  have hle : 2 ^ k ≤ 2 ^ 30 := Nat.pow_le_pow_right (by decide) hk
  apply Int32.toBitVec_inj.mp
  apply BitVec.eq_of_toNat_eq
  simp only [Int32.toBitVec_and, Int32.toBitVec_ofInt, BitVec.toNat_and, BitVec.toNat_ofInt]
  have e1 : (((2 ^ k - 1 : Nat) : Int) % ((2 ^ 32 : Nat) : Int)).toNat = 2 ^ k - 1 := by
    rw [← Int.natCast_emod, Int.toNat_natCast]
    exact Nat.mod_eq_of_lt (by omega)
  have hm0 := Int.emod_nonneg x (show ((2 ^ k : Nat) : Int) ≠ 0 by omega)
  have hm1 := Int.emod_lt_of_pos x (show (0 : Int) < ((2 ^ k : Nat) : Int) by omega)
  have e2 : ((x % ((2 ^ k : Nat) : Int)) % ((2 ^ 32 : Nat) : Int)).toNat = (x % ((2 ^ k : Nat) : Int)).toNat := by
    rw [Int.emod_eq_of_lt hm0 (by omega)]
  rw [e1, e2, Nat.and_two_pow_sub_one_eq_mod]
  have hdvd : ((2 ^ k : Nat) : Int) ∣ ((2 ^ 32 : Nat) : Int) := by
    refine Int.natCast_dvd_natCast.mpr (Nat.pow_dvd_pow 2 (by omega))
  have h0 := Int.emod_nonneg x (show ((2 ^ 32 : Nat) : Int) ≠ 0 by decide)
  have e3 : (x % ((2 ^ 32 : Nat) : Int)) % ((2 ^ k : Nat) : Int) = x % ((2 ^ k : Nat) : Int) := Int.emod_emod_of_dvd x hdvd
  rw [← e3]
  generalize x % ((2 ^ 32 : Nat) : Int) = z at h0 ⊢
  obtain ⟨q, rfl⟩ := Int.eq_ofNat_of_zero_le h0
  rw [← Int.natCast_emod, Int.toNat_natCast, Int.toNat_natCast]
theorem WA.iand31 {x : Int} (hd : decode cc pc = .ok (.iand, 1)) (k : WA f y cc nL rt d n kc ks (pc + 1) als (.inl (x % 32) :: st) w R) : WA f y cc nL rt d n kc ks pc als (.inl 31 :: .inl x :: st) w R :=
  WA.pure (fun h _ _ => am_ok1 (am_i ⟨by omega, by omega⟩) (am_tl (am_tl h))) (fun D tc ad base p l e rm s m args below meth c H locs ls cells slots Q C X ho _ _ _ _ k => lv_iand C.1 C.2.1 hd (by
    have := i32_mask (x := x) 5 (by decide) (am_hd (am_tl ho))
    rw [show Int32.ofInt 31 = Int32.ofInt ((2 ^ 5 - 1 : Nat) : Int) from rfl, this]
    exact k)) k
theorem WA.iand255 {x : Int} (hd : decode cc pc = .ok (.iand, 1)) (k : WA f y cc nL rt d n kc ks (pc + 1) als (.inl (x % 256) :: st) w R) : WA f y cc nL rt d n kc ks pc als (.inl 255 :: .inl x :: st) w R :=
  WA.pure (fun h _ _ => am_ok1 (am_i ⟨by omega, by omega⟩) (am_tl (am_tl h))) (fun D tc ad base p l e rm s m args below meth c H locs ls cells slots Q C X ho _ _ _ _ k => lv_iand C.1 C.2.1 hd (by
    have := i32_mask (x := x) 8 (by decide) (am_hd (am_tl ho))
    rw [show Int32.ofInt 255 = Int32.ofInt ((2 ^ 8 - 1 : Nat) : Int) from rfl, this]
    exact k)) k
end AMR6
end
section
/-! ===== rules: Math, copies, new cells, narrow returns ===== -/
section AMR7
variable {f : Bool} {y : MethodName} {cc : ByteArray} {nL : Nat} {rt : Option FieldType} {d n kc ks pc : Nat} {als : List (Option AV)} {st : List AV} {w : Wd} {R : Option AV → Wd → Prop}
theorem am_max_in {x z : Int} (hx : in32 x) (hz : in32 z) : in32 (max x z) := by
  obtain ⟨a, b⟩ := hx
  obtain ⟨c, e⟩ := hz
  exact ⟨by omega, by omega⟩
theorem am_maxl_in {x z : Int} (hx : in64 x) (hz : in64 z) : in64 (max x z) ∧ in64 (min x z) := by
  obtain ⟨a, b⟩ := hx
  obtain ⟨c, e⟩ := hz
  exact ⟨⟨by omega, by omega⟩, ⟨by omega, by omega⟩⟩
theorem WA.mathmax {i : Nat} {x z : Int} (hd : decode cc pc = .ok (.invokestatic i, 3)) (h1 : Cond.methodLink y.cls i Lib.Math.max.name ∈ am_G) (h2 : Cond.static Lib.Math.max.name ∈ am_G) (h3 : Cond.initialized "java/lang/Math" ∈ am_G) (h4 : Cond.code Lib.Math.max.name Lib.Math.max.code 2 (some .int) ∈ am_G) (hdd : 1 ≤ d) (hst : (st.map am_cat).sum ≤ 8)
    (k : WA f y cc nL rt d n kc ks (pc + 3) als (.inl (max x z) :: st) w R) : WA f y cc nL rt d n kc ks pc als (.inl z :: .inl x :: st) w R :=
  WA.pure (fun h _ _ => am_ok1 (am_i (am_max_in (am_hd (am_tl h)) (am_hd h))) (am_tl (am_tl h))) (fun D tc ad base p l e rm s m args below meth c H locs ls cells slots Q C X ho hc hs hf hl k => by
    have hts := C.2.2.2.2.2.1
    refine va_mmax C.1 C.2.1 (by rw [C.2.2.1, X.2.2.2.2.2.2.2.1.1]) C.2.2.2.2.2.2.1 (hts _ h1) (hts _ h2) (hts _ h3) (hts _ h4) (by omega) (by have := am_cats ad st; omega) hc hs hd ?_
    rw [show (if Int32.ofInt x < Int32.ofInt z then Int32.ofInt z else Int32.ofInt x) = Int32.ofInt (max x z) by
      by_cases h : x < z
      · rw [if_pos ((i32_lt (am_hd (am_tl ho)) (am_hd ho)).mpr h), show max x z = z by omega]
      · rw [if_neg (fun q => h ((i32_lt (am_hd (am_tl ho)) (am_hd ho)).mp q)), show max x z = x by omega]]
    exact k) k
theorem WA.maxl {i : Nat} {x z : Int} (hd : decode cc pc = .ok (.invokestatic i, 3)) (h1 : Cond.methodLink y.cls i Lib.MathLoose.max_long.x ∈ am_G) (h2 : Cond.static Lib.MathLoose.max_long.x ∈ am_G) (h3 : Cond.initialized "java/lang/Math" ∈ am_G) (h4 : Cond.code Lib.MathLoose.max_long.x Lib.MathLoose.max_long.code 4 (some .long) ∈ am_G) (hdd : 1 ≤ d) (hst : (st.map am_cat).sum ≤ 8)
    (k : WA f y cc nL rt d n kc ks (pc + 3) als (.inr (.inl (max x z)) :: st) w R) : WA f y cc nL rt d n kc ks pc als (.inr (.inl z) :: .inr (.inl x) :: st) w R :=
  WA.pure (fun h _ _ => am_ok1 (am_j (am_maxl_in (am_hd (am_tl h)) (am_hd h)).1) (am_tl (am_tl h))) (fun D tc ad base p l e rm s m args below meth c H locs ls cells slots Q C X ho hc hs hf hl k => by
    have hts := C.2.2.2.2.2.1
    refine va_mmax_long C.1 C.2.1 (by rw [C.2.2.1, X.2.2.2.2.2.2.2.1.1]) C.2.2.2.2.2.2.1 (hts _ h1) (hts _ h2) (hts _ h3) (hts _ h4) (by omega) (by have := am_cats ad st; omega) hc hs hd ?_
    rw [show (if Int64.ofInt z < Int64.ofInt x then Int64.ofInt x else Int64.ofInt z) = Int64.ofInt (max x z) by
      by_cases h : z < x
      · rw [if_pos ((i64_lt (am_hd ho) (am_hd (am_tl ho))).mpr h), show max x z = x by omega]
      · rw [if_neg (fun q => h ((i64_lt (am_hd ho) (am_hd (am_tl ho))).mp q)), show max x z = z by omega]]
    exact k) k
theorem WA.minl {i : Nat} {x z : Int} (hd : decode cc pc = .ok (.invokestatic i, 3)) (h1 : Cond.methodLink y.cls i Lib.MathLoose.min_long.x ∈ am_G) (h2 : Cond.static Lib.MathLoose.min_long.x ∈ am_G) (h3 : Cond.initialized "java/lang/Math" ∈ am_G) (h4 : Cond.code Lib.MathLoose.min_long.x Lib.MathLoose.min_long.code 4 (some .long) ∈ am_G) (hdd : 1 ≤ d) (hst : (st.map am_cat).sum ≤ 8)
    (k : WA f y cc nL rt d n kc ks (pc + 3) als (.inr (.inl (min x z)) :: st) w R) : WA f y cc nL rt d n kc ks pc als (.inr (.inl z) :: .inr (.inl x) :: st) w R :=
  WA.pure (fun h _ _ => am_ok1 (am_j (am_maxl_in (am_hd (am_tl h)) (am_hd h)).2) (am_tl (am_tl h))) (fun D tc ad base p l e rm s m args below meth c H locs ls cells slots Q C X ho hc hs hf hl k => by
    have hts := C.2.2.2.2.2.1
    refine va_mmin_long C.1 C.2.1 (by rw [C.2.2.1, X.2.2.2.2.2.2.2.1.1]) C.2.2.2.2.2.2.1 (hts _ h1) (hts _ h2) (hts _ h3) (hts _ h4) (by omega) (by have := am_cats ad st; omega) hc hs hd ?_
    rw [show (if Int64.ofInt z < Int64.ofInt x then Int64.ofInt z else Int64.ofInt x) = Int64.ofInt (min x z) by
      by_cases h : z < x
      · rw [if_pos ((i64_lt (am_hd ho) (am_hd (am_tl ho))).mpr h), show min x z = z by omega]
      · rw [if_neg (fun q => h ((i64_lt (am_hd ho) (am_hd (am_tl ho))).mp q)), show min x z = x by omega]]
    exact k) k
def am_abs (x : Int) : Int := if 0 ≤ x then x else -x
theorem WA.mathabs {i : Nat} {x : Int} (hd : decode cc pc = .ok (.invokestatic i, 3)) (h1 : Cond.methodLink y.cls i Lib.Math.abs.name ∈ am_G) (h2 : Cond.static Lib.Math.abs.name ∈ am_G) (h3 : Cond.initialized "java/lang/Math" ∈ am_G) (h4 : Cond.code Lib.Math.abs.name Lib.Math.abs.code 1 (some .int) ∈ am_G) (hdd : 1 ≤ d) (hst : (st.map am_cat).sum ≤ 8) (hx : -2147483648 < x)
    (k : WA f y cc nL rt d n kc ks (pc + 3) als (.inl (am_abs x) :: st) w R) : WA f y cc nL rt d n kc ks pc als (.inl x :: st) w R :=
  WA.pure (fun h _ _ => am_ok1 (am_i (by obtain ⟨a, b⟩ := (am_hd h : in32 x); unfold am_abs; split <;> exact ⟨by omega, by omega⟩)) (am_tl h)) (fun D tc ad base p l e rm s m args below meth c H locs ls cells slots Q C X ho hc hs hf hl k => by
    have hts := C.2.2.2.2.2.1
    refine va_mabs C.1 C.2.1 (by rw [C.2.2.1, X.2.2.2.2.2.2.2.1.1]) C.2.2.2.2.2.2.1 (hts _ h1) (hts _ h2) (hts _ h3) (hts _ h4) (by omega) (by have := am_cats ad st; omega) hc hs hd ?_
    rw [show (if 0 ≤ Int32.ofInt x then Int32.ofInt x else 0 - Int32.ofInt x) = Int32.ofInt (am_abs x) by
      unfold am_abs
      by_cases h : 0 ≤ x
      · rw [if_pos (show (0 : Int32) ≤ Int32.ofInt x from (i32_le in32_0 (am_hd ho)).mpr h), if_pos h]
      · rw [if_neg (show ¬ (0 : Int32) ≤ Int32.ofInt x from fun q => h ((i32_le in32_0 (am_hd ho)).mp q)), if_neg h, Int32.ofInt_neg, Int32.zero_sub]]
    exact k) k
/-- System.arraycopy over int arrays -/
def wcopy (w : Wd) (a sp b dp k : Int) : Wd := fun c i => if c = b ∧ dp ≤ i ∧ i < dp + k then w a (sp + (i - dp)) else w c i
theorem am_okw_copy {a sp b dp k : Int} {N0 N1 : Nat} (h : am_okw f w) (ha : am_lay a = (0, N0)) (hb : am_lay b = (0, N1)) : am_okw f (wcopy w a sp b dp k) := by
  refine ⟨fun c j => ?_, fun hft c ci z x h1 h2 => ?_⟩
  · by_cases e : c = b ∧ dp ≤ j ∧ j < dp + k
    · have e1 : wcopy w a sp b dp k c j = w a (sp + (j - dp)) := if_pos e
      rw [e1]
      refine ⟨fun q => ?_, fun _ => (h.1 _ _).2 (fun q => by have := (am_isL_arr ha (by decide)).mp q; omega)⟩
      rw [e.1] at q
      have := (am_isL_arr hb (by decide)).mp q
      omega
    · have e1 : wcopy w a sp b dp k c j = w c j := if_neg e
      rw [e1]
      exact h.1 c j
  · have e1 : wcopy w a sp b dp k c z = w c z := if_neg (fun e => by rw [e.1, hb] at h1; dsimp only at h1; omega)
    rw [e1]
    exact h.2 hft c ci z x h1 h2
theorem WA.arraycopy {i : Nat} {a sp b dp k : Int} {N0 N1 : Nat} (hd : decode cc pc = .ok (.invokestatic i, 3)) (h1 : Cond.methodLink y.cls i arraycopyName ∈ am_G) (h2 : Cond.native arraycopyName ∈ am_G) (h3 : Cond.static arraycopyName ∈ am_G) (h4 : Cond.initialized "java/lang/System" ∈ am_G) (hdd : 2 ≤ d) (hst : (st.map am_cat).sum ≤ 8)
    (ha : am_arr n a 0 N0) (hb : am_arr n b 0 N1) (q1 : 0 ≤ sp) (q2 : 0 ≤ dp) (q3 : 0 ≤ k) (q4 : sp + k ≤ N0) (q5 : dp + k ≤ N1)
    (kk : WA f y cc nL rt d n kc ks (pc + 3) als st (wcopy w a sp b dp k) R) : WA f y cc nL rt d n kc ks pc als (.inl k :: .inl dp :: .inr (.inr b) :: .inl sp :: .inr (.inr a) :: st) w R := by
  refine WA.heap (w' := wcopy w a sp b dp k) (b := b) hb.1.1 (fun c' h => by funext j; exact if_neg (fun q => h q.1)) (fun h hw _ => ⟨am_okw_copy hw ha.2 hb.2, am_tl (am_tl (am_tl (am_tl (am_tl h))))⟩) (fun D tc ad base p l e rm s m args below meth c H locs ls cells slots Q C X hD ho hc hs hf hl kk => ?_) kk
  have hts := C.2.2.2.2.2.1
  obtain ⟨x1, x2, x3, x4, x5, x6, x7, x8, x9, x10, x11, x12⟩ := X
  have hea := am_wl_at (tc := tc) (ad := ad) (n := n) (w := w) ha.1.1 ha.1.2
  have heb := am_wl_at (tc := tc) (ad := ad) (n := n) (w := w) hb.1.1 hb.1.2
  rw [am_ent_i ha.2] at hea
  rw [am_ent_i hb.2] at heb
  have o1 : in32 k := am_hd ho
  have o2 : in32 dp := am_hd (am_tl ho)
  have o3 : in32 sp := am_hd (am_tl (am_tl (am_tl ho)))
  have hnf : nativeFrameWords "java/lang/System" "arraycopy" 5 ≤ 60 := by decide
  show W p l e rm s m args below meth c H locs cells slots Q (F0 m pc ls (.int (Int32.ofInt k) :: .int (Int32.ofInt dp) :: am_rf ad b :: .int (Int32.ofInt sp) :: am_rf ad a :: st.map (am_cv ad)))
  rw [am_rf1 (am_arr0 ha), am_rf1 (am_arr0 hb)]
  refine va_copyi C.1 C.2.1 (by rw [C.2.2.1, x8.1]) C.2.2.2.2.2.2.1 (hts _ h1) (hts _ h2) (hts _ h3) (hts _ h4) x2 x6 hD x7 _ _ 0 0 hea heb rfl rfl rfl
    (fun q => absurd ((i32_lt o3 in32_0).mp q) (by omega)) (fun q => absurd ((i32_lt o2 in32_0).mp q) (by omega)) (fun q => absurd ((i32_lt o1 in32_0).mp q) (by omega))
    (by rw [i32_nat o3 q1, i32_nat o1 q3]; omega) (by rw [i32_nat o2 q2, i32_nat o1 q3]; omega) (fun _ _ => rfl) (by omega) (by have := am_cats ad st; omega) hd (fun H1 locs1 hP1 _ hS1 => kk H1 locs1 ?_ hS1)
  rw [i32_nat o3 q1, i32_nat o2 q2, i32_nat o1 q3] at hP1
  rw [am_ent_i hb.2]
  have e : va_cpy (fun j : Nat => Int32.ofInt (w a j)) (fun j : Nat => Int32.ofInt (w b j)) sp.toNat dp.toNat k.toNat = (fun j : Nat => Int32.ofInt (wcopy w a sp b dp k b j)) := by
    funext j
    unfold va_cpy
    by_cases hj : dp.toNat ≤ j ∧ j < dp.toNat + k.toNat
    · have e1 : wcopy w a sp b dp k b j = w a (sp + ((j : Int) - dp)) := if_pos ⟨rfl, by omega, by omega⟩
      rw [if_pos hj, e1]
      have e2 : ((sp.toNat + (j - dp.toNat) : Nat) : Int) = sp + ((j : Int) - dp) := by omega
      dsimp only
      rw [e2]
    · have e1 : wcopy w a sp b dp k b j = w b j := if_neg (fun q => hj (by omega))
      rw [if_neg hj, e1]
  rw [← e]
  exact hP1
theorem WA.nreturn {x : Int} {ty : FieldType} (hd : decode cc pc = .ok (.ireturn, 1)) (hn : narrow ty (.int (Int32.ofInt x)) = .int (Int32.ofInt x)) (k : R (some (.inl x)) w) : WA f y cc nL (some ty) d n 0 0 pc als [.inl x] w R := by
  intro D tc ad base p l e rm s m args below meth c H locs ls cells slots MC MS C X h3 h4 h5 h6 h7 h8
  obtain ⟨hx, hb, hml, hr, hlk, -⟩ := id C
  obtain ⟨x1, x2, x3, x4, x5, x6, x7, x8, x9, x10, x11, x12⟩ := id X
  simp only [Nat.add_zero] at h3 h4
  subst h3; subst h4
  refine am_size X (fun hsz => ?_)
  refine W.zret (v := Int32.ofInt x) hx hb hr hn (fun t ht hW => ⟨⟨some (.inl x), w, rfl, k, x10, fun v hv => by cases hv; exact am_hd x12, by rw [ht]; exact hsz, by rw [ht]; exact x6⟩, x7.F ht⟩) x7.2.2 hd hlk
theorem WA.i2c {x : Int} (hd : decode cc pc = .ok (.i2c, 1)) (h0 : 0 ≤ x) (h1 : x < 65536) (k : WA f y cc nL rt d n kc ks (pc + 1) als (.inl x :: st) w R) : WA f y cc nL rt d n kc ks pc als (.inl x :: st) w R :=
  WA.pure (fun h _ _ => h) (fun D tc ad base p l e rm s m args below meth c H locs ls cells slots Q C X ho _ _ _ _ k => lv_i2c C.1 C.2.1 hd (by
    obtain ⟨z, rfl⟩ := Int.eq_ofNat_of_zero_le h0
    have hz : z < 65536 := by omega
    apply Int32.toBitVec_inj.mp
    apply BitVec.eq_of_toNat_eq
    simp [Int32.toBitVec_ofInt]
    omega) k) k
theorem WA.lxor {x z : Int} (hd : decode cc pc = .ok (.lxor, 1)) (k : ∀ v, in64 v → (v < 0 ↔ ¬ (x < 0 ↔ z < 0)) → WA f y cc nL rt d n kc ks (pc + 1) als (.inr (.inl v) :: st) w R) : WA f y cc nL rt d n kc ks pc als (.inr (.inl z) :: .inr (.inl x) :: st) w R := by
  by_cases hxz : in64 x ∧ in64 z
  · obtain ⟨hx, hz⟩ := hxz
    have hv : in64 (Int64.ofInt x ^^^ Int64.ofInt z).toInt := ⟨Int64.minValue_le_toInt _, Int64.toInt_le _⟩
    refine WA.pure (fun h _ _ => am_ok1 (am_j hv) (am_tl (am_tl h))) (fun D tc ad base p l e rm s m args below meth c H locs ls cells slots Q C X ho _ _ _ _ k => lv_lxor C.1 C.2.1 hd (by simpa [am_cv] using k)) (k _ hv ?_)
    have hs : ∀ u : Int64, u.toInt < 0 ↔ u.toBitVec.msb = true := fun u => by
      rw [← Int64.toInt_toBitVec, BitVec.msb_eq_toInt]
      simp
    have e1 := hs (Int64.ofInt x)
    have e2 := hs (Int64.ofInt z)
    rw [i64_toInt hx] at e1
    rw [i64_toInt hz] at e2
    rw [hs, e1, e2, Int64.toBitVec_xor, BitVec.msb_xor]
    cases (Int64.ofInt x).toBitVec.msb <;> cases (Int64.ofInt z).toBitVec.msb <;> simp
  · intro D tc ad base p l e rm s m args below meth c H locs ls cells slots MC MS C X
    exact absurd ⟨am_hd (am_tl X.2.2.2.2.2.2.2.2.2.2.2), am_hd X.2.2.2.2.2.2.2.2.2.2.2⟩ hxz
end AMR7
end
section
/-! ===== rules: new cells ===== -/
def wnew (w : Wd) (c : Int) : Wd := fun c' i => if c' = c then 0 else w c' i
theorem wnew_ne {w : Wd} {c : Int} : ∀ c', c' ≠ c → wnew w c c' = w c' := fun c' h => by
  funext i
  exact if_neg h
theorem am_okw_new {w : Wd} {c : Int} (h : am_okw false w) : am_okw false (wnew w c) := by
  refine ⟨fun c' j => ?_, fun q => by cases q⟩
  by_cases e : c' = c
  · have : wnew w c c' j = 0 := if_pos e
    rw [this]
    exact ⟨fun _ => ⟨by decide, by decide⟩, fun _ => ⟨by decide, by decide⟩⟩
  · have : wnew w c c' j = w c' j := if_neg e
    rw [this]
    exact h.1 c' j
theorem am_wl_push {tc : Nat → ClassId} {ad : Int → Nat} {n : Nat} {w w' : Wd} (he : ∀ c', c' ≠ (n : Int) + 1 → w' c' = w c') : am_wl tc ad n w ++ [(ad ((n : Int) + 1), am_ent tc ad w' ((n : Int) + 1))] = am_wl tc ad (n + 1) w' := by
  unfold am_wl
  rw [List.range_succ, List.map_append]
  congr 1
  refine List.map_congr_left (fun k hk => ?_)
  have hk : k < n := List.mem_range.mp hk
  have hc := he ((k : Int) + 1) (by omega)
  unfold am_ent
  rw [hc]
section AMR8
variable {y : MethodName} {cc : ByteArray} {nL : Nat} {rt : Option FieldType} {d n kc ks pc pc' : Nat} {als : List (Option AV)} {st st' : List AV} {w w' : Wd} {R : Option AV → Wd → Prop}
/-- a new cell: where it lies is known -/
theorem am_newcell {N : Nat} {D : va_G} {tc : Nat → ClassId} {ad : Int → Nat} {base : Nat} {p : Program} {l : Launch} {e : Env} {rm : Room} {s : State} {m : MethodId} {args : Array Value} {below : List Frame} {meth : Method} {c : Code} {H1 : Heap} {locs : List Loc} {ls : Array Slot} {cells slots MC MS : Nat} {stk : List AV} {H : Heap} {q : Nat}
    (C : am_C y cc nL rt p s m args meth c) (X : am_X false D tc ad base nL n s als stk w H locs ls cells) (hw : ∀ c', c' ≠ (n : Int) + 1 → w' c' = w c') (hokw : am_okw false w') (hst : ∀ v ∈ st, am_ok v) (hn : (n : Int) + 1 ≤ 2147483647)
    (h3 : cells + (kc + 1) = MC) (h4 : slots + (ks + N) = MS) (h5 : MC ≤ rm.cells) (h6 : MS ≤ rm.slots) (h7 : d ≤ rm.frames) (h8 : 64 * d ≤ rm.locals)
    (hP : va_P D vwCl (am_wl tc ad n w ++ [(q, am_ent tc ad w' ((n : Int) + 1))]) H1) (hD : va_D (am_A base) (am_wl tc ad n w ++ [(q, am_ent tc ad w' ((n : Int) + 1))])) (hS : va_S (am_A base) s.heap H1 locs)
    (k : WA false y cc nL rt d (n + 1) kc ks pc' als (.inr (.inr ((n : Int) + 1)) :: st) w' R) :
    W p l e rm s m args below meth c H1 locs (cells + 1) (slots + N) (MQ below (am_Qc false D tc ad base (n + (kc + 1)) R) args s MC MS (am_A base)) (F0 m pc' ls (.ref q :: st.map (am_cv ad))) := by
  obtain ⟨x1, x2, x3, x4, x5, x6, x7, x8, x9, x10, x11, x12⟩ := X
  intro T hT Y
  have hz := Y.heapSize
  rw [hT] at hz
  have hlast : (am_wl tc ad n w ++ [(q, am_ent tc ad w' ((n : Int) + 1))])[n]? = some (q, am_ent tc ad w' ((n : Int) + 1)) := by
    rw [List.getElem?_append_right (by rw [am_wl_len]; exact Nat.le_refl _), am_wl_len, Nat.sub_self]
    rfl
  have hq1 : q < H1.size := (hP _ _ hlast).lt
  have hq2 : base ≤ q := hD.2 _ _ hlast
  have hq3 : q = base + n := by
    by_cases hlt : q < base + n
    · exfalso
      have hk : q - base < n := by omega
      have h9 := am_wl_at (tc := tc) (ad := ad) (n := n) (w := w) (c := ((q - base : Nat) : Int) + 1) (by omega) (by omega)
      rw [show (((q - base : Nat) : Int) + 1 - 1).toNat = q - base by omega] at h9
      have h10 : (am_wl tc ad n w ++ [(q, am_ent tc ad w' ((n : Int) + 1))])[q - base]? = some (ad (((q - base : Nat) : Int) + 1), am_ent tc ad w (((q - base : Nat) : Int) + 1)) := by
        rw [List.getElem?_append_left (by rw [am_wl_len]; exact hk)]
        exact h9
      have h11 := hD.1 _ _ _ _ h10 hlast (by
        show ad (((q - base : Nat) : Int) + 1) = q
        rw [x3]
        omega)
      omega
    · omega
  have had : ad ((n : Int) + 1) = q := by rw [x3, hq3]
  rw [← had, am_wl_push hw] at hP
  have K := k D tc ad base p l e rm s m args below meth c H1 locs ls (cells + 1) (slots + N) MC MS C ⟨x1, x2, x3, x4, by omega, hP, hS, x8, x9, hokw, x11, am_ok1 (am_r ⟨by omega, hn⟩) hst⟩ (by omega) (by omega) h5 h6 h7 h8
  rw [show n + 1 + kc = n + (kc + 1) by omega] at K
  have e : (.inr (.inr ((n : Int) + 1)) :: st : List AV).map (am_cv ad) = .ref q :: st.map (am_cv ad) := by
    show am_rf ad ((n : Int) + 1) :: _ = _
    rw [am_rf1 (by omega), had]
  rw [e] at K
  exact K T hT Y
def am_okty (t : FieldType) : Bool := match t with
  | .int => true
  | .boolean => true
  | .long => true
  | .object _ => true
  | .array _ => true
  | _ => false
theorem am_def_ty (ad : Int → Nat) {t : FieldType} (h : am_okty t = true) : defaultValue t = am_val ad (am_sort t) 0 := by
  cases t <;> first | rfl | (cases h)
theorem WA.new {i ci N : Nat} {C : String} {T : u_T} (hd : decode cc pc = .ok (.new i, 3)) (hl : am_lay ((n : Int) + 1) = (ci + 4, N)) (hn : (n : Int) + 1 ≤ 2147483647) (hc : vwCl[ci]? = some (C, T, N)) (hin : ∀ w ∈ u_ws C T N, w ∈ am_G) (hty : ∀ k, k < N → parseFieldDescriptor (T k).2.2.1 = some (am_fty ci k)) (hok : ∀ k, k < N → am_okty (am_fty ci k) = true)
    (h1 : Cond.classLink y.cls i C ∈ am_G) (h2 : Cond.instantiable C N ∈ am_G) (h3 : Cond.initialized C ∈ am_G)
    (k : WA false y cc nL rt d (n + 1) kc ks (pc + 3) als (.inr (.inr ((n : Int) + 1)) :: st) (wnew w ((n : Int) + 1)) R) : WA false y cc nL rt d n (kc + 1) (ks + N) pc als st w R := by
  intro D tc ad base p l e rm s m args below meth c H locs ls cells slots MC MS CC X g3 g4 g5 g6 g7 g8
  obtain ⟨hx, hb, hml, -, -, hts, hown, -⟩ := id CC
  obtain ⟨x1, x2, x3, x4, x5, x6, x7, x8, x9, x10, x11, x12⟩ := id X
  refine va_new (fs := (List.range N).map (fun j => am_val ad (am_sort (am_fty ci j)) 0)) hx hb hts hin (am_fty ci) hty hown (hts _ h1) (hts _ h2) (hts _ h3) x2 x6 (am_wl_D x3) x7 (fun q hq => Nat.le_trans x4 hq) hc (fun j hj => ?_) (by omega) (by omega) hd (fun q H1 hP hD hS => ?_)
  · rw [am_def_ty ad (hok j hj)]
    simp [vp_V, hj]
  · have e : am_ent tc ad (wnew w ((n : Int) + 1)) ((n : Int) + 1) = .inr (ci, (List.range N).map (fun j => am_val ad (am_sort (am_fty ci j)) 0)) := by
      rw [am_ent_o hl]
      have : ∀ j : Nat, wnew w ((n : Int) + 1) ((n : Int) + 1) j = 0 := fun j => if_pos rfl
      simp only [this]
    rw [← e] at hP hD
    exact am_newcell (N := N) CC X wnew_ne (am_okw_new x10) x12 hn (by omega) (by omega) g5 g6 g7 g8 hP hD hS k
theorem am_ra_same {s : State} {c1 c2 : ClassId} {ty : FieldType} (h1 : va_RA s c1 ty) (h2 : va_RA s c2 ty) : c1 = c2 := by
  cases ty with
  | object C =>
    obtain ⟨_, _, _, _, _, a⟩ := h1
    obtain ⟨_, _, _, _, _, b⟩ := h2
    exact Option.some.inj (a.symm.trans b)
  | _ => exact Option.some.inj (Eq.trans (Eq.symm h1) h2)
def am_zero (K N : Nat) : vp_A := match K with
  | 2 => (N, .inr (.inl (fun _ => Int64.ofInt 0)))
  | _ => (N, .inl (fun _ => Int32.ofInt 0))
theorem am_zero_cell {K N : Nat} (hK : K < 3) (cA : ClassId) : vp_cell cA (am_zero K N) = arrV cA N (fun _ => defaultValue (am_tyk K)) := by
  match K, hK with
  | 0, _ => rfl
  | 1, _ => rfl
  | 2, _ => rfl
theorem am_zero_bytes {K N : Nat} (hK : K < 3) (hN : N ≤ 20000) : N * componentBytes (am_tyk K) ≤ 536870912 := by
  have : componentBytes (am_tyk K) ≤ 8 := by
    match K, hK with
    | 0, _ => decide
    | 1, _ => decide
    | 2, _ => decide
  calc N * componentBytes (am_tyk K) ≤ 20000 * 8 := Nat.mul_le_mul hN this
    _ ≤ 536870912 := by decide
theorem am_tys_get {K : Nat} {tc : Nat → ClassId} (hK : K < 3) : (am_tys tc)[K]? = some (tc K, am_tyk K) := by
  match K, hK with
  | 0, _ => rfl
  | 1, _ => rfl
  | 2, _ => rfl
theorem am_zero_ent {K N : Nat} {tc : Nat → ClassId} {ad : Int → Nat} {w : Wd} {c : Int} (hK : K < 3) (hl : am_lay c = (K, N)) (hz : ∀ j : Int, w c j = 0) : am_ent tc ad w c = .inl (tc K, am_zero K N) := by
  match K, hK, hl with
  | 0, _, hl => rw [am_ent_i hl]; simp only [hz]; rfl
  | 1, _, hl => rw [am_ent_z hl]; simp only [hz]; rfl
  | 2, _, hl => rw [am_ent_l hl]; simp only [hz]; rfl
theorem am_newtc {D : va_G} {tc : Nat → ClassId} {s : State} {cA : ClassId} {ty : FieldType} {K : Nat} (hK1 : va_K D vwCl (am_tys tc ++ [(cA, ty)]) s) (h : (am_tys tc)[K]? = some (tc K, ty)) : cA = tc K := by
  have h1 := (hK1.2 4 (cA, ty) rfl).2
  have h2 := (hK1.2 K (tc K, ty) (by rw [List.getElem?_append_left (List.getElem?_eq_some_iff.mp h).1]; exact h)).2
  exact am_ra_same h1 h2
theorem WA.newarray {x : Int} {K N : Nat} {at_ : ArrayType} (hd : decode cc pc = .ok (.newarray at_, 2)) (hK : K < 3) (hat : newarray.typeOf at_ = am_tyk K) (hl : am_lay ((n : Int) + 1) = (K, N)) (hx0 : x = (N : Int)) (hN : N ≤ 20000) (hn : (n : Int) + 1 ≤ 2147483647) (hw0 : Cond.arrayClass (newarray.typeOf at_) ∈ am_G)
    (k : WA false y cc nL rt d (n + 1) kc ks (pc + 2) als (.inr (.inr ((n : Int) + 1)) :: st) (wnew w ((n : Int) + 1)) R) : WA false y cc nL rt d n (kc + 1) (ks + N) pc als (.inl x :: st) w R := by
  intro D tc ad base p l e rm s m args below meth c H locs ls cells slots MC MS CC X g3 g4 g5 g6 g7 g8
  obtain ⟨hx, hb, hml, -, -, hts, hown, -⟩ := id CC
  obtain ⟨x1, x2, x3, x4, x5, x6, x7, x8, x9, x10, x11, x12⟩ := id X
  subst hx0
  have hin : in32 (N : Int) := am_hd x12
  refine va_newa (n := Int32.ofInt (N : Int)) (N' := N) (a0 := am_zero K N) hx hb (hts _ hw0) hat x2 x6 (am_wl_D x3) x7 (fun q hq => Nat.le_trans x4 hq) (am_zero_cell hK) (fun q => absurd ((i32_lt hin in32_0).mp q) (by omega)) (by rw [i32_nat hin (by omega)]; omega) (am_zero_bytes hK hN) (by omega) (by omega) hd (fun q cA H1 hK1 hP hD hS => ?_)
  have hcA : cA = tc K := am_newtc hK1 (am_tys_get hK)
  subst hcA
  rw [← am_zero_ent hK hl (w := wnew w ((n : Int) + 1)) (ad := ad) (fun j => if_pos rfl)] at hP hD
  exact am_newcell (N := N) CC X wnew_ne (am_okw_new x10) (am_tl x12) hn (by omega) (by omega) g5 g6 g7 g8 hP hD hS k
theorem WA.anewarray {x : Int} {i N : Nat} (hd : decode cc pc = .ok (.anewarray i, 3)) (hl : am_lay ((n : Int) + 1) = (3, N)) (hx0 : x = (N : Int)) (hN : N ≤ 20000) (hn : (n : Int) + 1 ≤ 2147483647) (hw0 : Cond.classLink y.cls i RX5 ∈ am_G)
    (k : WA false y cc nL rt d (n + 1) kc ks (pc + 3) als (.inr (.inr ((n : Int) + 1)) :: st) (wnew w ((n : Int) + 1)) R) : WA false y cc nL rt d n (kc + 1) (ks + N) pc als (.inl x :: st) w R := by
  intro D tc ad base p l e rm s m args below meth c H locs ls cells slots MC MS CC X g3 g4 g5 g6 g7 g8
  obtain ⟨hx, hb, hml, -, -, hts, hown, -⟩ := id CC
  obtain ⟨x1, x2, x3, x4, x5, x6, x7, x8, x9, x10, x11, x12⟩ := id X
  subst hx0
  have hin : in32 (N : Int) := am_hd x12
  have hz : ∀ j : Int, wnew w ((n : Int) + 1) ((n : Int) + 1) j = 0 := fun j => if_pos rfl
  refine va_newq (n := Int32.ofInt (N : Int)) (N' := N) hx hb hown (hts _ hw0) x1.2.2.2.2.2.2.1 x2 x6 (am_wl_D x3) x7 (fun q hq => Nat.le_trans x4 hq) (fun q => absurd ((i32_lt hin in32_0).mp q) (by omega)) (by rw [i32_nat hin (by omega)]; omega) (by omega) (by omega) (by omega) hd (fun q cA H1 hK1 hP hD hS => ?_)
  have hcA : cA = tc 3 := am_newtc hK1 rfl
  subst hcA
  have e : am_ent tc ad (wnew w ((n : Int) + 1)) ((n : Int) + 1) = .inl (tc 3, N, .inr (.inr (.inr (.inr (fun _ => none))))) := by
    rw [am_ent_q hl]
    simp only [hz, if_true]
  rw [← e] at hP hD
  exact am_newcell (N := N) CC X wnew_ne (am_okw_new x10) (am_tl x12) hn (by omega) (by omega) g5 g6 g7 g8 hP hD hS k
theorem WA.objInit {f : Bool} {i : Nat} {b : Int} (hd : decode cc pc = .ok (.invokespecial i, 3)) (h1 : Cond.methodLink y.cls i Lib.objectInit ∈ am_G) (h2 : Cond.instanceMethod Lib.objectInit ∈ am_G) (h3 : Cond.code Lib.objectInit ⟨#[0xb1]⟩ 1 none ∈ am_G) (hb0 : b ≠ 0) (hdd : 1 ≤ d) (hst : (st.map am_cat).sum ≤ 8)
    (k : WA f y cc nL rt d n kc ks (pc + 3) als st w R) : WA f y cc nL rt d n kc ks pc als (.inr (.inr b) :: st) w R :=
  WA.pure (fun h _ _ => am_tl h) (fun D tc ad base p l e rm s m args below meth c H locs ls cells slots Q C X ho _ _ hf hl k => by
    have hts := C.2.2.2.2.2.1
    refine W.objInit C.1 C.2.1 C.2.2.2.2.2.2.1 (hts _ h1) (hts _ h2) (hts _ h3) rfl (by rw [C.2.2.1]; exact X.2.2.2.2.2.2.2.1.1) (a := ad b) (rest := st.map (am_cv ad)) (by simp [am_cv, am_rf1 hb0]) hd (by omega) ?_ k
    have := am_cats ad st
    show 2 * 0 + _ + 12 ≤ _
    omega) k
theorem i64_mask {x : Int} (hx : in64 x) : Int64.ofInt x &&& Int64.ofInt 255 = Int64.ofInt (x % 256) := by
  apply Int64.toBitVec_inj.mp
  apply BitVec.eq_of_toNat_eq
  simp only [Int64.toBitVec_and, Int64.toBitVec_ofInt, BitVec.toNat_and, BitVec.toNat_ofInt]
  have e1 : ((255 : Int) % ((2 ^ 64 : Nat) : Int)).toNat = 2 ^ 8 - 1 := by decide
  rw [e1, Nat.and_two_pow_sub_one_eq_mod]
  have h0 := Int.emod_nonneg x (show ((2 ^ 64 : Nat) : Int) ≠ 0 by decide)
  have e3 : (x % ((2 ^ 64 : Nat) : Int)) % 256 = x % 256 := Int.emod_emod_of_dvd x ⟨((2 ^ 56 : Nat) : Int), by decide⟩
  have e2 : ((x % 256) % ((2 ^ 64 : Nat) : Int)).toNat = (x % 256).toNat := by
    rw [Int.emod_eq_of_lt (by omega) (by omega)]
  rw [e2, ← e3]
  generalize x % ((2 ^ 64 : Nat) : Int) = z at h0 ⊢
  obtain ⟨q, rfl⟩ := Int.eq_ofNat_of_zero_le h0
  rw [show ((q : Int) % 256) = ((q % 256 : Nat) : Int) from rfl, Int.toNat_natCast, Int.toNat_natCast]
theorem WA.land255 {f : Bool} {x : Int} (hd : decode cc pc = .ok (.land, 1)) (k : WA f y cc nL rt d n kc ks (pc + 1) als (.inr (.inl (x % 256)) :: st) w R) : WA f y cc nL rt d n kc ks pc als (.inr (.inl 255) :: .inr (.inl x) :: st) w R :=
  WA.pure (fun h _ _ => am_ok1 (am_j ⟨by omega, by omega⟩) (am_tl (am_tl h))) (fun D tc ad base p l e rm s m args below meth c H locs ls cells slots Q C X ho _ _ _ _ k => lv_land C.1 C.2.1 hd (by
    rw [i64_mask (am_hd (am_tl ho))]
    exact k)) k
theorem i64_shr {x : Int} {b : Int64} {k : Nat} (hx : in64 x) (hb : (b.toBitVec.smod 64).toNat = k) : Int64.ofInt x >>> b = Int64.ofInt (x >>> k) := by
  have h0 : x >>> k = x / ((2 ^ k : Nat) : Int) := Int.shiftRight_eq_div_pow x k
  have hp : (0 : Int) < ((2 ^ k : Nat) : Int) := by have := Nat.two_pow_pos k; omega
  have h1 : in64 (x >>> k) := by
    rw [h0]
    obtain ⟨a, b⟩ := hx
    constructor
    · refine Int.le_ediv_of_mul_le hp ?_
      have : (-9223372036854775808 : Int) * ((2 ^ k : Nat) : Int) ≤ -9223372036854775808 * 1 := Int.mul_le_mul_of_nonpos_left (by decide) (by omega)
      omega
    · refine Int.le_of_lt_add_one ((Int.ediv_lt_iff_lt_mul hp).mpr ?_)
      have : (9223372036854775807 + 1 : Int) * 1 ≤ (9223372036854775807 + 1) * ((2 ^ k : Nat) : Int) := Int.mul_le_mul_of_nonneg_left (by omega) (by decide)
      omega
  apply Int64.toInt_inj.mp
  rw [i64_toInt h1, ← Int64.toInt_toBitVec, Int64.toBitVec_shiftRight, BitVec.sshiftRight_eq', BitVec.toInt_sshiftRight, hb, Int64.toInt_toBitVec, i64_toInt hx]
theorem WA.lshr {f : Bool} {x z : Int} {k : Nat} (hd : decode cc pc = .ok (.lshr, 1)) (hz : z = (k : Int)) (hk : (((Int32.ofInt z).toInt64 &&& 63).toBitVec.smod 64).toNat = k) (kk : in64 (x >>> k) → WA f y cc nL rt d n kc ks (pc + 1) als (.inr (.inl (x >>> k)) :: st) w R) : WA f y cc nL rt d n kc ks pc als (.inl z :: .inr (.inl x) :: st) w R := by
  by_cases hx : in64 x
  · have e9 := i64_shr hx hk
    have h1 : in64 (x >>> k) := by
      have h2 := congrArg Int64.toInt e9
      have h3 : in64 (Int64.ofInt (x >>> k)).toInt := ⟨Int64.minValue_le_toInt _, Int64.toInt_le _⟩
      rw [← h2] at h3
      rw [← Int64.toInt_toBitVec, Int64.toBitVec_shiftRight, BitVec.sshiftRight_eq', BitVec.toInt_sshiftRight, hk, Int64.toInt_toBitVec, i64_toInt hx] at h3
      exact h3
    refine WA.pure (fun h _ _ => am_ok1 (am_j h1) (am_tl (am_tl h))) (fun D tc ad base p l e rm s m args below meth c H locs ls cells slots Q C X ho _ _ _ _ k => lv_lshr C.1 C.2.1 hd e9 k) (kk h1)
  · intro D tc ad base p l e rm s m args below meth c H locs ls cells slots MC MS C X
    exact absurd (am_hd (am_tl X.2.2.2.2.2.2.2.2.2.2.2)) hx
end AMR8
end
