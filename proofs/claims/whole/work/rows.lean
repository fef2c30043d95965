section
-- ===== PART A: goes FIRST, ahead of the names: the tables' words, and 'selects' of the private methods out of them =====
/-- a private method of a class that the tables say can be made, by its rows of tables_1 -/
def lw_okq (q : MethodName × Nat) : Prop := (q.1.cls ≠ "java/lang/invoke/MethodHandle" ∧ q.1.cls ≠ "java/lang/invoke/VarHandle") ∧ Cond.instantiable q.1.cls q.2 ∈ tables_1 ∧ Cond.privateMethod q.1 ∈ tables_1 ∧ Cond.instanceMethod q.1 ∈ tables_1
theorem lw_p0 : lw_okq (⟨"StreamFuser$Reader", "append", "(I)Z"⟩, 7) := ⟨⟨by decide +kernel, by decide +kernel⟩, List.mem_of_getElem? (i := 320) (by decide +kernel), List.mem_of_getElem? (i := 396) (by decide +kernel), List.mem_of_getElem? (i := 397) (by decide +kernel)⟩
theorem lw_p1 : lw_okq (⟨"StreamFuser$Reader", "read", "()I"⟩, 7) := ⟨⟨by decide +kernel, by decide +kernel⟩, List.mem_of_getElem? (i := 320) (by decide +kernel), List.mem_of_getElem? (i := 408) (by decide +kernel), List.mem_of_getElem? (i := 409) (by decide +kernel)⟩
theorem lw_p2 : lw_okq (⟨"StreamFuser$Reader", "expect", "(I)V"⟩, 7) := ⟨⟨by decide +kernel, by decide +kernel⟩, List.mem_of_getElem? (i := 320) (by decide +kernel), List.mem_of_getElem? (i := 412) (by decide +kernel), List.mem_of_getElem? (i := 413) (by decide +kernel)⟩
theorem lw_p3 : lw_okq (⟨"StreamFuser$Reader", "readNode", "()V"⟩, 7) := ⟨⟨by decide +kernel, by decide +kernel⟩, List.mem_of_getElem? (i := 320) (by decide +kernel), List.mem_of_getElem? (i := 416) (by decide +kernel), List.mem_of_getElem? (i := 417) (by decide +kernel)⟩
theorem lw_p4 : lw_okq (⟨"StreamFuser$Reader", "peek", "()I"⟩, 7) := ⟨⟨by decide +kernel, by decide +kernel⟩, List.mem_of_getElem? (i := 320) (by decide +kernel), List.mem_of_getElem? (i := 420) (by decide +kernel), List.mem_of_getElem? (i := 421) (by decide +kernel)⟩
theorem lw_p5 : lw_okq (⟨"StreamFuser$Reader", "accept", "(Z)V"⟩, 7) := ⟨⟨by decide +kernel, by decide +kernel⟩, List.mem_of_getElem? (i := 320) (by decide +kernel), List.mem_of_getElem? (i := 433) (by decide +kernel), List.mem_of_getElem? (i := 434) (by decide +kernel)⟩
theorem lw_p6 : lw_okq (⟨"StreamFuser$Reader", "readMark", "(I)I"⟩, 7) := ⟨⟨by decide +kernel, by decide +kernel⟩, List.mem_of_getElem? (i := 320) (by decide +kernel), List.mem_of_getElem? (i := 443) (by decide +kernel), List.mem_of_getElem? (i := 444) (by decide +kernel)⟩
theorem lw_p7 : lw_okq (⟨"StreamFuser$Reader", "readNumber", "(I)I"⟩, 7) := ⟨⟨by decide +kernel, by decide +kernel⟩, List.mem_of_getElem? (i := 320) (by decide +kernel), List.mem_of_getElem? (i := 453) (by decide +kernel), List.mem_of_getElem? (i := 454) (by decide +kernel)⟩
theorem lw_p8 : lw_okq (⟨"StreamFuser$Plan", "add", "(IIII)V"⟩, 12) := ⟨⟨by decide +kernel, by decide +kernel⟩, List.mem_of_getElem? (i := 25) (by decide +kernel), List.mem_of_getElem? (i := 457) (by decide +kernel), List.mem_of_getElem? (i := 458) (by decide +kernel)⟩
theorem lw_p9 : lw_okq (⟨"StreamFuser$Reader", "expectParts", "(II)V"⟩, 7) := ⟨⟨by decide +kernel, by decide +kernel⟩, List.mem_of_getElem? (i := 320) (by decide +kernel), List.mem_of_getElem? (i := 461) (by decide +kernel), List.mem_of_getElem? (i := 462) (by decide +kernel)⟩
theorem lw_p10 : lw_okq (⟨"StreamFuser$Plan", "takeFrom", "(LStreamFuser$Plan;)V"⟩, 12) := ⟨⟨by decide +kernel, by decide +kernel⟩, List.mem_of_getElem? (i := 25) (by decide +kernel), List.mem_of_getElem? (i := 469) (by decide +kernel), List.mem_of_getElem? (i := 470) (by decide +kernel)⟩
theorem lw_p11 : lw_okq (⟨"StreamFuser$Plan", "measure", "()V"⟩, 12) := ⟨⟨by decide +kernel, by decide +kernel⟩, List.mem_of_getElem? (i := 25) (by decide +kernel), List.mem_of_getElem? (i := 474) (by decide +kernel), List.mem_of_getElem? (i := 475) (by decide +kernel)⟩
theorem lw_p12 : lw_okq (⟨"StreamFuser$Plan", "measureFromParts", "(I)V"⟩, 12) := ⟨⟨by decide +kernel, by decide +kernel⟩, List.mem_of_getElem? (i := 25) (by decide +kernel), List.mem_of_getElem? (i := 478) (by decide +kernel), List.mem_of_getElem? (i := 479) (by decide +kernel)⟩
theorem lw_p13 : lw_okq (⟨"StreamFuser$Plan", "measureParts", "(I)V"⟩, 12) := ⟨⟨by decide +kernel, by decide +kernel⟩, List.mem_of_getElem? (i := 25) (by decide +kernel), List.mem_of_getElem? (i := 483) (by decide +kernel), List.mem_of_getElem? (i := 484) (by decide +kernel)⟩
theorem lw_p14 : lw_okq (⟨"StreamFuser$Printer", "print", "()V"⟩, 3) := ⟨⟨by decide +kernel, by decide +kernel⟩, List.mem_of_getElem? (i := 107) (by decide +kernel), List.mem_of_getElem? (i := 490) (by decide +kernel), List.mem_of_getElem? (i := 491) (by decide +kernel)⟩
theorem lw_p15 : lw_okq (⟨"StreamFuser$Printer", "printNode", "(I)V"⟩, 3) := ⟨⟨by decide +kernel, by decide +kernel⟩, List.mem_of_getElem? (i := 107) (by decide +kernel), List.mem_of_getElem? (i := 494) (by decide +kernel), List.mem_of_getElem? (i := 495) (by decide +kernel)⟩
def lw_privs_1 : List (MethodName × Nat) := [(⟨"StreamFuser$Reader", "append", "(I)Z"⟩, 7), (⟨"StreamFuser$Reader", "read", "()I"⟩, 7), (⟨"StreamFuser$Reader", "expect", "(I)V"⟩, 7), (⟨"StreamFuser$Reader", "readNode", "()V"⟩, 7), (⟨"StreamFuser$Reader", "peek", "()I"⟩, 7), (⟨"StreamFuser$Reader", "accept", "(Z)V"⟩, 7), (⟨"StreamFuser$Reader", "readMark", "(I)I"⟩, 7), (⟨"StreamFuser$Reader", "readNumber", "(I)I"⟩, 7), (⟨"StreamFuser$Plan", "add", "(IIII)V"⟩, 12), (⟨"StreamFuser$Reader", "expectParts", "(II)V"⟩, 7), (⟨"StreamFuser$Plan", "takeFrom", "(LStreamFuser$Plan;)V"⟩, 12), (⟨"StreamFuser$Plan", "measure", "()V"⟩, 12), (⟨"StreamFuser$Plan", "measureFromParts", "(I)V"⟩, 12), (⟨"StreamFuser$Plan", "measureParts", "(I)V"⟩, 12), (⟨"StreamFuser$Printer", "print", "()V"⟩, 3), (⟨"StreamFuser$Printer", "printNode", "(I)V"⟩, 3)]
theorem lw_r1 : ∀ q ∈ lw_privs_1, lw_okq q := List.forall_mem_cons.mpr ⟨lw_p0, List.forall_mem_cons.mpr ⟨lw_p1, List.forall_mem_cons.mpr ⟨lw_p2, List.forall_mem_cons.mpr ⟨lw_p3, List.forall_mem_cons.mpr ⟨lw_p4, List.forall_mem_cons.mpr ⟨lw_p5, List.forall_mem_cons.mpr ⟨lw_p6, List.forall_mem_cons.mpr ⟨lw_p7, List.forall_mem_cons.mpr ⟨lw_p8, List.forall_mem_cons.mpr ⟨lw_p9, List.forall_mem_cons.mpr ⟨lw_p10, List.forall_mem_cons.mpr ⟨lw_p11, List.forall_mem_cons.mpr ⟨lw_p12, List.forall_mem_cons.mpr ⟨lw_p13, List.forall_mem_cons.mpr ⟨lw_p14, List.forall_mem_cons.mpr ⟨lw_p15, fun _ h => absurd h List.not_mem_nil⟩⟩⟩⟩⟩⟩⟩⟩⟩⟩⟩⟩⟩⟩⟩⟩
theorem lw_p16 : lw_okq (⟨"StreamFuser$Printer", "put", "(I)V"⟩, 3) := ⟨⟨by decide +kernel, by decide +kernel⟩, List.mem_of_getElem? (i := 107) (by decide +kernel), List.mem_of_getElem? (i := 499) (by decide +kernel), List.mem_of_getElem? (i := 500) (by decide +kernel)⟩
theorem lw_p17 : lw_okq (⟨"StreamFuser$Printer", "putNumber", "(I)V"⟩, 3) := ⟨⟨by decide +kernel, by decide +kernel⟩, List.mem_of_getElem? (i := 107) (by decide +kernel), List.mem_of_getElem? (i := 505) (by decide +kernel), List.mem_of_getElem? (i := 506) (by decide +kernel)⟩
theorem lw_p18 : lw_okq (⟨"StreamFuser$Plan", "has", "(I)Z"⟩, 12) := ⟨⟨by decide +kernel, by decide +kernel⟩, List.mem_of_getElem? (i := 25) (by decide +kernel), List.mem_of_getElem? (i := 517) (by decide +kernel), List.mem_of_getElem? (i := 518) (by decide +kernel)⟩
theorem lw_p19 : lw_okq (⟨"StreamFuser$Rewriter", "simplify", "(Z)V"⟩, 3) := ⟨⟨by decide +kernel, by decide +kernel⟩, List.mem_of_getElem? (i := 126) (by decide +kernel), List.mem_of_getElem? (i := 530) (by decide +kernel), List.mem_of_getElem? (i := 531) (by decide +kernel)⟩
theorem lw_p20 : lw_okq (⟨"StreamFuser$Rewriter", "place", "(Z)I"⟩, 3) := ⟨⟨by decide +kernel, by decide +kernel⟩, List.mem_of_getElem? (i := 126) (by decide +kernel), List.mem_of_getElem? (i := 535) (by decide +kernel), List.mem_of_getElem? (i := 536) (by decide +kernel)⟩
theorem lw_p21 : lw_okq (⟨"StreamFuser$Rewriter", "ruleFor", "(I)I"⟩, 3) := ⟨⟨by decide +kernel, by decide +kernel⟩, List.mem_of_getElem? (i := 126) (by decide +kernel), List.mem_of_getElem? (i := 539) (by decide +kernel), List.mem_of_getElem? (i := 540) (by decide +kernel)⟩
theorem lw_p22 : lw_okq (⟨"StreamFuser$Plan", "isNil", "(I)Z"⟩, 12) := ⟨⟨by decide +kernel, by decide +kernel⟩, List.mem_of_getElem? (i := 25) (by decide +kernel), List.mem_of_getElem? (i := 544) (by decide +kernel), List.mem_of_getElem? (i := 545) (by decide +kernel)⟩
theorem lw_p23 : lw_okq (⟨"StreamFuser$Rewriter", "ruleForTake", "(I)I"⟩, 3) := ⟨⟨by decide +kernel, by decide +kernel⟩, List.mem_of_getElem? (i := 126) (by decide +kernel), List.mem_of_getElem? (i := 549) (by decide +kernel), List.mem_of_getElem? (i := 550) (by decide +kernel)⟩
theorem lw_p24 : lw_okq (⟨"StreamFuser$Plan", "letterAt", "(I)I"⟩, 12) := ⟨⟨by decide +kernel, by decide +kernel⟩, List.mem_of_getElem? (i := 25) (by decide +kernel), List.mem_of_getElem? (i := 553) (by decide +kernel), List.mem_of_getElem? (i := 554) (by decide +kernel)⟩
theorem lw_p25 : lw_okq (⟨"StreamFuser$Rewriter", "ruleForDrop", "(I)I"⟩, 3) := ⟨⟨by decide +kernel, by decide +kernel⟩, List.mem_of_getElem? (i := 126) (by decide +kernel), List.mem_of_getElem? (i := 557) (by decide +kernel), List.mem_of_getElem? (i := 558) (by decide +kernel)⟩
theorem lw_p26 : lw_okq (⟨"StreamFuser$Plan", "secondPart", "(I)I"⟩, 12) := ⟨⟨by decide +kernel, by decide +kernel⟩, List.mem_of_getElem? (i := 25) (by decide +kernel), List.mem_of_getElem? (i := 561) (by decide +kernel), List.mem_of_getElem? (i := 562) (by decide +kernel)⟩
theorem lw_p27 : lw_okq (⟨"StreamFuser$Plan", "input", "(I)I"⟩, 12) := ⟨⟨by decide +kernel, by decide +kernel⟩, List.mem_of_getElem? (i := 25) (by decide +kernel), List.mem_of_getElem? (i := 565) (by decide +kernel), List.mem_of_getElem? (i := 566) (by decide +kernel)⟩
theorem lw_p28 : lw_okq (⟨"StreamFuser$Rewriter", "apply", "(II)V"⟩, 3) := ⟨⟨by decide +kernel, by decide +kernel⟩, List.mem_of_getElem? (i := 126) (by decide +kernel), List.mem_of_getElem? (i := 571) (by decide +kernel), List.mem_of_getElem? (i := 572) (by decide +kernel)⟩
theorem lw_p29 : lw_okq (⟨"StreamFuser$Plan", "makeNil", "(I)V"⟩, 12) := ⟨⟨by decide +kernel, by decide +kernel⟩, List.mem_of_getElem? (i := 25) (by decide +kernel), List.mem_of_getElem? (i := 575) (by decide +kernel), List.mem_of_getElem? (i := 576) (by decide +kernel)⟩
theorem lw_p30 : lw_okq (⟨"StreamFuser$Plan", "cut", "(II)V"⟩, 12) := ⟨⟨by decide +kernel, by decide +kernel⟩, List.mem_of_getElem? (i := 25) (by decide +kernel), List.mem_of_getElem? (i := 579) (by decide +kernel), List.mem_of_getElem? (i := 580) (by decide +kernel)⟩
theorem lw_p31 : lw_okq (⟨"StreamFuser$Plan", "moveNode", "(II)V"⟩, 12) := ⟨⟨by decide +kernel, by decide +kernel⟩, List.mem_of_getElem? (i := 25) (by decide +kernel), List.mem_of_getElem? (i := 583) (by decide +kernel), List.mem_of_getElem? (i := 584) (by decide +kernel)⟩
def lw_privs_2 : List (MethodName × Nat) := [(⟨"StreamFuser$Printer", "put", "(I)V"⟩, 3), (⟨"StreamFuser$Printer", "putNumber", "(I)V"⟩, 3), (⟨"StreamFuser$Plan", "has", "(I)Z"⟩, 12), (⟨"StreamFuser$Rewriter", "simplify", "(Z)V"⟩, 3), (⟨"StreamFuser$Rewriter", "place", "(Z)I"⟩, 3), (⟨"StreamFuser$Rewriter", "ruleFor", "(I)I"⟩, 3), (⟨"StreamFuser$Plan", "isNil", "(I)Z"⟩, 12), (⟨"StreamFuser$Rewriter", "ruleForTake", "(I)I"⟩, 3), (⟨"StreamFuser$Plan", "letterAt", "(I)I"⟩, 12), (⟨"StreamFuser$Rewriter", "ruleForDrop", "(I)I"⟩, 3), (⟨"StreamFuser$Plan", "secondPart", "(I)I"⟩, 12), (⟨"StreamFuser$Plan", "input", "(I)I"⟩, 12), (⟨"StreamFuser$Rewriter", "apply", "(II)V"⟩, 3), (⟨"StreamFuser$Plan", "makeNil", "(I)V"⟩, 12), (⟨"StreamFuser$Plan", "cut", "(II)V"⟩, 12), (⟨"StreamFuser$Plan", "moveNode", "(II)V"⟩, 12)]
theorem lw_r2 : ∀ q ∈ lw_privs_2, lw_okq q := List.forall_mem_cons.mpr ⟨lw_p16, List.forall_mem_cons.mpr ⟨lw_p17, List.forall_mem_cons.mpr ⟨lw_p18, List.forall_mem_cons.mpr ⟨lw_p19, List.forall_mem_cons.mpr ⟨lw_p20, List.forall_mem_cons.mpr ⟨lw_p21, List.forall_mem_cons.mpr ⟨lw_p22, List.forall_mem_cons.mpr ⟨lw_p23, List.forall_mem_cons.mpr ⟨lw_p24, List.forall_mem_cons.mpr ⟨lw_p25, List.forall_mem_cons.mpr ⟨lw_p26, List.forall_mem_cons.mpr ⟨lw_p27, List.forall_mem_cons.mpr ⟨lw_p28, List.forall_mem_cons.mpr ⟨lw_p29, List.forall_mem_cons.mpr ⟨lw_p30, List.forall_mem_cons.mpr ⟨lw_p31, fun _ h => absurd h List.not_mem_nil⟩⟩⟩⟩⟩⟩⟩⟩⟩⟩⟩⟩⟩⟩⟩⟩
theorem lw_p32 : lw_okq (⟨"StreamFuser$Plan", "swapWithNext", "(I)V"⟩, 12) := ⟨⟨by decide +kernel, by decide +kernel⟩, List.mem_of_getElem? (i := 25) (by decide +kernel), List.mem_of_getElem? (i := 587) (by decide +kernel), List.mem_of_getElem? (i := 588) (by decide +kernel)⟩
theorem lw_p33 : lw_okq (⟨"StreamFuser$Rewriter", "swapDropWithTake", "(I)V"⟩, 3) := ⟨⟨by decide +kernel, by decide +kernel⟩, List.mem_of_getElem? (i := 126) (by decide +kernel), List.mem_of_getElem? (i := 591) (by decide +kernel), List.mem_of_getElem? (i := 592) (by decide +kernel)⟩
theorem lw_p34 : lw_okq (⟨"StreamFuser$Rewriter", "keepOnePart", "(I)V"⟩, 3) := ⟨⟨by decide +kernel, by decide +kernel⟩, List.mem_of_getElem? (i := 126) (by decide +kernel), List.mem_of_getElem? (i := 597) (by decide +kernel), List.mem_of_getElem? (i := 598) (by decide +kernel)⟩
theorem lw_p35 : lw_okq (⟨"StreamFuser$Rewriter", "mergeWithNext", "(II)V"⟩, 3) := ⟨⟨by decide +kernel, by decide +kernel⟩, List.mem_of_getElem? (i := 126) (by decide +kernel), List.mem_of_getElem? (i := 601) (by decide +kernel), List.mem_of_getElem? (i := 602) (by decide +kernel)⟩
theorem lw_p36 : lw_okq (⟨"StreamFuser$Asker", "play", "(I)V"⟩, 7) := ⟨⟨by decide +kernel, by decide +kernel⟩, List.mem_of_getElem? (i := 215) (by decide +kernel), List.mem_of_getElem? (i := 617) (by decide +kernel), List.mem_of_getElem? (i := 618) (by decide +kernel)⟩
theorem lw_p37 : lw_okq (⟨"StreamFuser$Run", "begin", "()V"⟩, 10) := ⟨⟨by decide +kernel, by decide +kernel⟩, List.mem_of_getElem? (i := 163) (by decide +kernel), List.mem_of_getElem? (i := 621) (by decide +kernel), List.mem_of_getElem? (i := 622) (by decide +kernel)⟩
theorem lw_p38 : lw_okq (⟨"StreamFuser$Asker", "ask", "(II)Z"⟩, 7) := ⟨⟨by decide +kernel, by decide +kernel⟩, List.mem_of_getElem? (i := 215) (by decide +kernel), List.mem_of_getElem? (i := 632) (by decide +kernel), List.mem_of_getElem? (i := 633) (by decide +kernel)⟩
theorem lw_p39 : lw_okq (⟨"StreamFuser$Run", "fail", "(II)V"⟩, 10) := ⟨⟨by decide +kernel, by decide +kernel⟩, List.mem_of_getElem? (i := 163) (by decide +kernel), List.mem_of_getElem? (i := 648) (by decide +kernel), List.mem_of_getElem? (i := 649) (by decide +kernel)⟩
theorem lw_p40 : lw_okq (⟨"StreamFuser$Run", "note", "(II)V"⟩, 10) := ⟨⟨by decide +kernel, by decide +kernel⟩, List.mem_of_getElem? (i := 163) (by decide +kernel), List.mem_of_getElem? (i := 658) (by decide +kernel), List.mem_of_getElem? (i := 659) (by decide +kernel)⟩
theorem lw_p41 : lw_okq (⟨"StreamFuser$Asker", "askFilter", "(II)Z"⟩, 7) := ⟨⟨by decide +kernel, by decide +kernel⟩, List.mem_of_getElem? (i := 215) (by decide +kernel), List.mem_of_getElem? (i := 662) (by decide +kernel), List.mem_of_getElem? (i := 663) (by decide +kernel)⟩
theorem lw_p42 : lw_okq (⟨"StreamFuser$Asker", "askWhile", "(II)Z"⟩, 7) := ⟨⟨by decide +kernel, by decide +kernel⟩, List.mem_of_getElem? (i := 215) (by decide +kernel), List.mem_of_getElem? (i := 673) (by decide +kernel), List.mem_of_getElem? (i := 674) (by decide +kernel)⟩
theorem lw_p43 : lw_okq (⟨"StreamFuser$Asker", "askTake", "(II)Z"⟩, 7) := ⟨⟨by decide +kernel, by decide +kernel⟩, List.mem_of_getElem? (i := 215) (by decide +kernel), List.mem_of_getElem? (i := 677) (by decide +kernel), List.mem_of_getElem? (i := 678) (by decide +kernel)⟩
theorem lw_p44 : lw_okq (⟨"StreamFuser$Asker", "askDrop", "(II)Z"⟩, 7) := ⟨⟨by decide +kernel, by decide +kernel⟩, List.mem_of_getElem? (i := 215) (by decide +kernel), List.mem_of_getElem? (i := 681) (by decide +kernel), List.mem_of_getElem? (i := 682) (by decide +kernel)⟩
theorem lw_p45 : lw_okq (⟨"StreamFuser$Asker", "askChain", "(II)Z"⟩, 7) := ⟨⟨by decide +kernel, by decide +kernel⟩, List.mem_of_getElem? (i := 215) (by decide +kernel), List.mem_of_getElem? (i := 686) (by decide +kernel), List.mem_of_getElem? (i := 687) (by decide +kernel)⟩
theorem lw_p46 : lw_okq (⟨"StreamFuser$Run", "failed", "()Z"⟩, 10) := ⟨⟨by decide +kernel, by decide +kernel⟩, List.mem_of_getElem? (i := 163) (by decide +kernel), List.mem_of_getElem? (i := 690) (by decide +kernel), List.mem_of_getElem? (i := 691) (by decide +kernel)⟩
theorem lw_p47 : lw_okq (⟨"StreamFuser$Asker", "askZip", "(II)Z"⟩, 7) := ⟨⟨by decide +kernel, by decide +kernel⟩, List.mem_of_getElem? (i := 215) (by decide +kernel), List.mem_of_getElem? (i := 695) (by decide +kernel), List.mem_of_getElem? (i := 696) (by decide +kernel)⟩
def lw_privs_3 : List (MethodName × Nat) := [(⟨"StreamFuser$Plan", "swapWithNext", "(I)V"⟩, 12), (⟨"StreamFuser$Rewriter", "swapDropWithTake", "(I)V"⟩, 3), (⟨"StreamFuser$Rewriter", "keepOnePart", "(I)V"⟩, 3), (⟨"StreamFuser$Rewriter", "mergeWithNext", "(II)V"⟩, 3), (⟨"StreamFuser$Asker", "play", "(I)V"⟩, 7), (⟨"StreamFuser$Run", "begin", "()V"⟩, 10), (⟨"StreamFuser$Asker", "ask", "(II)Z"⟩, 7), (⟨"StreamFuser$Run", "fail", "(II)V"⟩, 10), (⟨"StreamFuser$Run", "note", "(II)V"⟩, 10), (⟨"StreamFuser$Asker", "askFilter", "(II)Z"⟩, 7), (⟨"StreamFuser$Asker", "askWhile", "(II)Z"⟩, 7), (⟨"StreamFuser$Asker", "askTake", "(II)Z"⟩, 7), (⟨"StreamFuser$Asker", "askDrop", "(II)Z"⟩, 7), (⟨"StreamFuser$Asker", "askChain", "(II)Z"⟩, 7), (⟨"StreamFuser$Run", "failed", "()Z"⟩, 10), (⟨"StreamFuser$Asker", "askZip", "(II)Z"⟩, 7)]
theorem lw_r3 : ∀ q ∈ lw_privs_3, lw_okq q := List.forall_mem_cons.mpr ⟨lw_p32, List.forall_mem_cons.mpr ⟨lw_p33, List.forall_mem_cons.mpr ⟨lw_p34, List.forall_mem_cons.mpr ⟨lw_p35, List.forall_mem_cons.mpr ⟨lw_p36, List.forall_mem_cons.mpr ⟨lw_p37, List.forall_mem_cons.mpr ⟨lw_p38, List.forall_mem_cons.mpr ⟨lw_p39, List.forall_mem_cons.mpr ⟨lw_p40, List.forall_mem_cons.mpr ⟨lw_p41, List.forall_mem_cons.mpr ⟨lw_p42, List.forall_mem_cons.mpr ⟨lw_p43, List.forall_mem_cons.mpr ⟨lw_p44, List.forall_mem_cons.mpr ⟨lw_p45, List.forall_mem_cons.mpr ⟨lw_p46, List.forall_mem_cons.mpr ⟨lw_p47, fun _ h => absurd h List.not_mem_nil⟩⟩⟩⟩⟩⟩⟩⟩⟩⟩⟩⟩⟩⟩⟩⟩
theorem lw_p48 : lw_okq (⟨"StreamFuser$Asker", "askOpener", "(II)Z"⟩, 7) := ⟨⟨by decide +kernel, by decide +kernel⟩, List.mem_of_getElem? (i := 215) (by decide +kernel), List.mem_of_getElem? (i := 706) (by decide +kernel), List.mem_of_getElem? (i := 707) (by decide +kernel)⟩
theorem lw_p49 : lw_okq (⟨"StreamFuser$Sheets", "isLost", "(I)Z"⟩, 3) := ⟨⟨by decide +kernel, by decide +kernel⟩, List.mem_of_getElem? (i := 144) (by decide +kernel), List.mem_of_getElem? (i := 734) (by decide +kernel), List.mem_of_getElem? (i := 735) (by decide +kernel)⟩
theorem lw_p50 : lw_okq (⟨"StreamFuser$Run", "draw", "(I)Z"⟩, 10) := ⟨⟨by decide +kernel, by decide +kernel⟩, List.mem_of_getElem? (i := 163) (by decide +kernel), List.mem_of_getElem? (i := 760) (by decide +kernel), List.mem_of_getElem? (i := 761) (by decide +kernel)⟩
theorem lw_p51 : lw_okq (⟨"StreamFuser$Sheets", "at", "(II)I"⟩, 3) := ⟨⟨by decide +kernel, by decide +kernel⟩, List.mem_of_getElem? (i := 144) (by decide +kernel), List.mem_of_getElem? (i := 772) (by decide +kernel), List.mem_of_getElem? (i := 773) (by decide +kernel)⟩
theorem lw_p52 : lw_okq (⟨"StreamFuser$Run", "give", "(I)V"⟩, 10) := ⟨⟨by decide +kernel, by decide +kernel⟩, List.mem_of_getElem? (i := 163) (by decide +kernel), List.mem_of_getElem? (i := 776) (by decide +kernel), List.mem_of_getElem? (i := 777) (by decide +kernel)⟩
theorem lw_p53 : lw_okq (⟨"StreamFuser$Stepper", "play", "(I)V"⟩, 8) := ⟨⟨by decide +kernel, by decide +kernel⟩, List.mem_of_getElem? (i := 285) (by decide +kernel), List.mem_of_getElem? (i := 784) (by decide +kernel), List.mem_of_getElem? (i := 785) (by decide +kernel)⟩
theorem lw_p54 : lw_okq (⟨"StreamFuser$Stepper", "step", "(II)I"⟩, 8) := ⟨⟨by decide +kernel, by decide +kernel⟩, List.mem_of_getElem? (i := 285) (by decide +kernel), List.mem_of_getElem? (i := 793) (by decide +kernel), List.mem_of_getElem? (i := 794) (by decide +kernel)⟩
theorem lw_p55 : lw_okq (⟨"StreamFuser$Stepper", "stepChain", "(II)I"⟩, 8) := ⟨⟨by decide +kernel, by decide +kernel⟩, List.mem_of_getElem? (i := 285) (by decide +kernel), List.mem_of_getElem? (i := 798) (by decide +kernel), List.mem_of_getElem? (i := 799) (by decide +kernel)⟩
theorem lw_p56 : lw_okq (⟨"StreamFuser$Stepper", "stepZip", "(II)I"⟩, 8) := ⟨⟨by decide +kernel, by decide +kernel⟩, List.mem_of_getElem? (i := 285) (by decide +kernel), List.mem_of_getElem? (i := 803) (by decide +kernel), List.mem_of_getElem? (i := 804) (by decide +kernel)⟩
theorem lw_p57 : lw_okq (⟨"StreamFuser$Stepper", "stepOpener", "(II)I"⟩, 8) := ⟨⟨by decide +kernel, by decide +kernel⟩, List.mem_of_getElem? (i := 285) (by decide +kernel), List.mem_of_getElem? (i := 810) (by decide +kernel), List.mem_of_getElem? (i := 811) (by decide +kernel)⟩
theorem lw_p58 : lw_okq (⟨"StreamFuser$Stepper", "given", "(Z)I"⟩, 8) := ⟨⟨by decide +kernel, by decide +kernel⟩, List.mem_of_getElem? (i := 285) (by decide +kernel), List.mem_of_getElem? (i := 821) (by decide +kernel), List.mem_of_getElem? (i := 822) (by decide +kernel)⟩
theorem lw_p59 : lw_okq (⟨"StreamFuser$Stepper", "stepOne", "(II)I"⟩, 8) := ⟨⟨by decide +kernel, by decide +kernel⟩, List.mem_of_getElem? (i := 285) (by decide +kernel), List.mem_of_getElem? (i := 826) (by decide +kernel), List.mem_of_getElem? (i := 827) (by decide +kernel)⟩
theorem lw_p60 : lw_okq (⟨"StreamFuser$Maker", "play", "(I)V"⟩, 7) := ⟨⟨by decide +kernel, by decide +kernel⟩, List.mem_of_getElem? (i := 302) (by decide +kernel), List.mem_of_getElem? (i := 837) (by decide +kernel), List.mem_of_getElem? (i := 838) (by decide +kernel)⟩
theorem lw_p61 : lw_okq (⟨"StreamFuser$Maker", "make", "(II)Z"⟩, 7) := ⟨⟨by decide +kernel, by decide +kernel⟩, List.mem_of_getElem? (i := 302) (by decide +kernel), List.mem_of_getElem? (i := 842) (by decide +kernel), List.mem_of_getElem? (i := 843) (by decide +kernel)⟩
theorem lw_p62 : lw_okq (⟨"StreamFuser$Maker", "fill", "(II)Z"⟩, 7) := ⟨⟨by decide +kernel, by decide +kernel⟩, List.mem_of_getElem? (i := 302) (by decide +kernel), List.mem_of_getElem? (i := 847) (by decide +kernel), List.mem_of_getElem? (i := 848) (by decide +kernel)⟩
theorem lw_p63 : lw_okq (⟨"StreamFuser$Maker", "fillFromProducer", "(I)Z"⟩, 7) := ⟨⟨by decide +kernel, by decide +kernel⟩, List.mem_of_getElem? (i := 302) (by decide +kernel), List.mem_of_getElem? (i := 852) (by decide +kernel), List.mem_of_getElem? (i := 853) (by decide +kernel)⟩
def lw_privs_4 : List (MethodName × Nat) := [(⟨"StreamFuser$Asker", "askOpener", "(II)Z"⟩, 7), (⟨"StreamFuser$Sheets", "isLost", "(I)Z"⟩, 3), (⟨"StreamFuser$Run", "draw", "(I)Z"⟩, 10), (⟨"StreamFuser$Sheets", "at", "(II)I"⟩, 3), (⟨"StreamFuser$Run", "give", "(I)V"⟩, 10), (⟨"StreamFuser$Stepper", "play", "(I)V"⟩, 8), (⟨"StreamFuser$Stepper", "step", "(II)I"⟩, 8), (⟨"StreamFuser$Stepper", "stepChain", "(II)I"⟩, 8), (⟨"StreamFuser$Stepper", "stepZip", "(II)I"⟩, 8), (⟨"StreamFuser$Stepper", "stepOpener", "(II)I"⟩, 8), (⟨"StreamFuser$Stepper", "given", "(Z)I"⟩, 8), (⟨"StreamFuser$Stepper", "stepOne", "(II)I"⟩, 8), (⟨"StreamFuser$Maker", "play", "(I)V"⟩, 7), (⟨"StreamFuser$Maker", "make", "(II)Z"⟩, 7), (⟨"StreamFuser$Maker", "fill", "(II)Z"⟩, 7), (⟨"StreamFuser$Maker", "fillFromProducer", "(I)Z"⟩, 7)]
theorem lw_r4 : ∀ q ∈ lw_privs_4, lw_okq q := List.forall_mem_cons.mpr ⟨lw_p48, List.forall_mem_cons.mpr ⟨lw_p49, List.forall_mem_cons.mpr ⟨lw_p50, List.forall_mem_cons.mpr ⟨lw_p51, List.forall_mem_cons.mpr ⟨lw_p52, List.forall_mem_cons.mpr ⟨lw_p53, List.forall_mem_cons.mpr ⟨lw_p54, List.forall_mem_cons.mpr ⟨lw_p55, List.forall_mem_cons.mpr ⟨lw_p56, List.forall_mem_cons.mpr ⟨lw_p57, List.forall_mem_cons.mpr ⟨lw_p58, List.forall_mem_cons.mpr ⟨lw_p59, List.forall_mem_cons.mpr ⟨lw_p60, List.forall_mem_cons.mpr ⟨lw_p61, List.forall_mem_cons.mpr ⟨lw_p62, List.forall_mem_cons.mpr ⟨lw_p63, fun _ h => absurd h List.not_mem_nil⟩⟩⟩⟩⟩⟩⟩⟩⟩⟩⟩⟩⟩⟩⟩⟩
theorem lw_p64 : lw_okq (⟨"StreamFuser$Maker", "add", "(II)V"⟩, 7) := ⟨⟨by decide +kernel, by decide +kernel⟩, List.mem_of_getElem? (i := 302) (by decide +kernel), List.mem_of_getElem? (i := 868) (by decide +kernel), List.mem_of_getElem? (i := 869) (by decide +kernel)⟩
theorem lw_p65 : lw_okq (⟨"StreamFuser$Maker", "fillByOpening", "(II)Z"⟩, 7) := ⟨⟨by decide +kernel, by decide +kernel⟩, List.mem_of_getElem? (i := 302) (by decide +kernel), List.mem_of_getElem? (i := 873) (by decide +kernel), List.mem_of_getElem? (i := 874) (by decide +kernel)⟩
theorem lw_p66 : lw_okq (⟨"StreamFuser$Maker", "element", "(II)I"⟩, 7) := ⟨⟨by decide +kernel, by decide +kernel⟩, List.mem_of_getElem? (i := 302) (by decide +kernel), List.mem_of_getElem? (i := 877) (by decide +kernel), List.mem_of_getElem? (i := 878) (by decide +kernel)⟩
theorem lw_p67 : lw_okq (⟨"StreamFuser$Maker", "addRow", "(II)Z"⟩, 7) := ⟨⟨by decide +kernel, by decide +kernel⟩, List.mem_of_getElem? (i := 302) (by decide +kernel), List.mem_of_getElem? (i := 881) (by decide +kernel), List.mem_of_getElem? (i := 882) (by decide +kernel)⟩
theorem lw_p68 : lw_okq (⟨"StreamFuser$Maker", "fillFromInput", "(I)Z"⟩, 7) := ⟨⟨by decide +kernel, by decide +kernel⟩, List.mem_of_getElem? (i := 302) (by decide +kernel), List.mem_of_getElem? (i := 888) (by decide +kernel), List.mem_of_getElem? (i := 889) (by decide +kernel)⟩
theorem lw_p69 : lw_okq (⟨"StreamFuser$Maker", "zip", "(II)V"⟩, 7) := ⟨⟨by decide +kernel, by decide +kernel⟩, List.mem_of_getElem? (i := 302) (by decide +kernel), List.mem_of_getElem? (i := 899) (by decide +kernel), List.mem_of_getElem? (i := 900) (by decide +kernel)⟩
theorem lw_p70 : lw_okq (⟨"StreamFuser$Run", "sum", "()J"⟩, 10) := ⟨⟨by decide +kernel, by decide +kernel⟩, List.mem_of_getElem? (i := 163) (by decide +kernel), List.mem_of_getElem? (i := 917) (by decide +kernel), List.mem_of_getElem? (i := 918) (by decide +kernel)⟩
theorem lw_p71 : lw_okq (⟨"StreamFuser$Run", "greatest", "()I"⟩, 10) := ⟨⟨by decide +kernel, by decide +kernel⟩, List.mem_of_getElem? (i := 163) (by decide +kernel), List.mem_of_getElem? (i := 922) (by decide +kernel), List.mem_of_getElem? (i := 923) (by decide +kernel)⟩
theorem lw_p72 : lw_okq (⟨"StreamFuser$Run", "smallest", "()I"⟩, 10) := ⟨⟨by decide +kernel, by decide +kernel⟩, List.mem_of_getElem? (i := 163) (by decide +kernel), List.mem_of_getElem? (i := 928) (by decide +kernel), List.mem_of_getElem? (i := 929) (by decide +kernel)⟩
theorem lw_p73 : lw_okq (⟨"StreamFuser$Run", "kept", "()I"⟩, 10) := ⟨⟨by decide +kernel, by decide +kernel⟩, List.mem_of_getElem? (i := 163) (by decide +kernel), List.mem_of_getElem? (i := 946) (by decide +kernel), List.mem_of_getElem? (i := 947) (by decide +kernel)⟩
theorem lw_p74 : lw_okq (⟨"StreamFuser", "find", "(I)I"⟩, 14) := ⟨⟨by decide +kernel, by decide +kernel⟩, List.mem_of_getElem? (i := 17) (by decide +kernel), List.mem_of_getElem? (i := 958) (by decide +kernel), List.mem_of_getElem? (i := 959) (by decide +kernel)⟩
theorem lw_p75 : lw_okq (⟨"StreamFuser$Sheets", "renew", "(III)V"⟩, 3) := ⟨⟨by decide +kernel, by decide +kernel⟩, List.mem_of_getElem? (i := 144) (by decide +kernel), List.mem_of_getElem? (i := 962) (by decide +kernel), List.mem_of_getElem? (i := 963) (by decide +kernel)⟩
theorem lw_p76 : lw_okq (⟨"StreamFuser", "elementError", "(III)I"⟩, 14) := ⟨⟨by decide +kernel, by decide +kernel⟩, List.mem_of_getElem? (i := 17) (by decide +kernel), List.mem_of_getElem? (i := 975) (by decide +kernel), List.mem_of_getElem? (i := 976) (by decide +kernel)⟩
theorem lw_p77 : lw_okq (⟨"StreamFuser$Sheets", "hasElement", "(II)Z"⟩, 3) := ⟨⟨by decide +kernel, by decide +kernel⟩, List.mem_of_getElem? (i := 144) (by decide +kernel), List.mem_of_getElem? (i := 979) (by decide +kernel), List.mem_of_getElem? (i := 980) (by decide +kernel)⟩
theorem lw_p78 : lw_okq (⟨"StreamFuser$Sheets", "store", "(III)V"⟩, 3) := ⟨⟨by decide +kernel, by decide +kernel⟩, List.mem_of_getElem? (i := 144) (by decide +kernel), List.mem_of_getElem? (i := 983) (by decide +kernel), List.mem_of_getElem? (i := 984) (by decide +kernel)⟩
theorem lw_p79 : lw_okq (⟨"StreamFuser$Sheets", "hasPart", "(III)Z"⟩, 3) := ⟨⟨by decide +kernel, by decide +kernel⟩, List.mem_of_getElem? (i := 144) (by decide +kernel), List.mem_of_getElem? (i := 1000) (by decide +kernel), List.mem_of_getElem? (i := 1001) (by decide +kernel)⟩
def lw_privs_5 : List (MethodName × Nat) := [(⟨"StreamFuser$Maker", "add", "(II)V"⟩, 7), (⟨"StreamFuser$Maker", "fillByOpening", "(II)Z"⟩, 7), (⟨"StreamFuser$Maker", "element", "(II)I"⟩, 7), (⟨"StreamFuser$Maker", "addRow", "(II)Z"⟩, 7), (⟨"StreamFuser$Maker", "fillFromInput", "(I)Z"⟩, 7), (⟨"StreamFuser$Maker", "zip", "(II)V"⟩, 7), (⟨"StreamFuser$Run", "sum", "()J"⟩, 10), (⟨"StreamFuser$Run", "greatest", "()I"⟩, 10), (⟨"StreamFuser$Run", "smallest", "()I"⟩, 10), (⟨"StreamFuser$Run", "kept", "()I"⟩, 10), (⟨"StreamFuser", "find", "(I)I"⟩, 14), (⟨"StreamFuser$Sheets", "renew", "(III)V"⟩, 3), (⟨"StreamFuser", "elementError", "(III)I"⟩, 14), (⟨"StreamFuser$Sheets", "hasElement", "(II)Z"⟩, 3), (⟨"StreamFuser$Sheets", "store", "(III)V"⟩, 3), (⟨"StreamFuser$Sheets", "hasPart", "(III)Z"⟩, 3)]
theorem lw_r5 : ∀ q ∈ lw_privs_5, lw_okq q := List.forall_mem_cons.mpr ⟨lw_p64, List.forall_mem_cons.mpr ⟨lw_p65, List.forall_mem_cons.mpr ⟨lw_p66, List.forall_mem_cons.mpr ⟨lw_p67, List.forall_mem_cons.mpr ⟨lw_p68, List.forall_mem_cons.mpr ⟨lw_p69, List.forall_mem_cons.mpr ⟨lw_p70, List.forall_mem_cons.mpr ⟨lw_p71, List.forall_mem_cons.mpr ⟨lw_p72, List.forall_mem_cons.mpr ⟨lw_p73, List.forall_mem_cons.mpr ⟨lw_p74, List.forall_mem_cons.mpr ⟨lw_p75, List.forall_mem_cons.mpr ⟨lw_p76, List.forall_mem_cons.mpr ⟨lw_p77, List.forall_mem_cons.mpr ⟨lw_p78, List.forall_mem_cons.mpr ⟨lw_p79, fun _ h => absurd h List.not_mem_nil⟩⟩⟩⟩⟩⟩⟩⟩⟩⟩⟩⟩⟩⟩⟩⟩
theorem lw_p80 : lw_okq (⟨"StreamFuser$Sheets", "move", "(IIIII)V"⟩, 3) := ⟨⟨by decide +kernel, by decide +kernel⟩, List.mem_of_getElem? (i := 144) (by decide +kernel), List.mem_of_getElem? (i := 1004) (by decide +kernel), List.mem_of_getElem? (i := 1005) (by decide +kernel)⟩
theorem lw_p81 : lw_okq (⟨"StreamFuser", "mixPlan", "(J)J"⟩, 14) := ⟨⟨by decide +kernel, by decide +kernel⟩, List.mem_of_getElem? (i := 17) (by decide +kernel), List.mem_of_getElem? (i := 1027) (by decide +kernel), List.mem_of_getElem? (i := 1028) (by decide +kernel)⟩
theorem lw_p82 : lw_okq (⟨"StreamFuser", "mixRun", "(J)J"⟩, 14) := ⟨⟨by decide +kernel, by decide +kernel⟩, List.mem_of_getElem? (i := 17) (by decide +kernel), List.mem_of_getElem? (i := 1034) (by decide +kernel), List.mem_of_getElem? (i := 1035) (by decide +kernel)⟩
theorem lw_p83 : lw_okq (⟨"StreamFuserModel", "finds", "(I)I"⟩, 59) := ⟨⟨by decide +kernel, by decide +kernel⟩, List.mem_of_getElem? (i := 1044) (by decide +kernel), List.mem_of_getElem? (i := 1240) (by decide +kernel), List.mem_of_getElem? (i := 1241) (by decide +kernel)⟩
theorem lw_p84 : lw_okq (⟨"StreamFuserModel", "lacks", "(III)I"⟩, 59) := ⟨⟨by decide +kernel, by decide +kernel⟩, List.mem_of_getElem? (i := 1044) (by decide +kernel), List.mem_of_getElem? (i := 1252) (by decide +kernel), List.mem_of_getElem? (i := 1253) (by decide +kernel)⟩
theorem lw_p85 : lw_okq (⟨"StreamFuserModel", "faultNow", "()I"⟩, 59) := ⟨⟨by decide +kernel, by decide +kernel⟩, List.mem_of_getElem? (i := 1044) (by decide +kernel), List.mem_of_getElem? (i := 1281) (by decide +kernel), List.mem_of_getElem? (i := 1282) (by decide +kernel)⟩
theorem lw_p86 : lw_okq (⟨"StreamFuserModel", "takesLetter", "(II)Z"⟩, 59) := ⟨⟨by decide +kernel, by decide +kernel⟩, List.mem_of_getElem? (i := 1044) (by decide +kernel), List.mem_of_getElem? (i := 1285) (by decide +kernel), List.mem_of_getElem? (i := 1286) (by decide +kernel)⟩
theorem lw_p87 : lw_okq (⟨"StreamFuserModel", "wantsBehind", "(II)V"⟩, 59) := ⟨⟨by decide +kernel, by decide +kernel⟩, List.mem_of_getElem? (i := 1044) (by decide +kernel), List.mem_of_getElem? (i := 1292) (by decide +kernel), List.mem_of_getElem? (i := 1293) (by decide +kernel)⟩
theorem lw_p88 : lw_okq (⟨"StreamFuserModel", "wants", "(I)V"⟩, 59) := ⟨⟨by decide +kernel, by decide +kernel⟩, List.mem_of_getElem? (i := 1044) (by decide +kernel), List.mem_of_getElem? (i := 1296) (by decide +kernel), List.mem_of_getElem? (i := 1297) (by decide +kernel)⟩
theorem lw_p89 : lw_okq (⟨"StreamFuserModel", "takesNumber", "(II)Z"⟩, 59) := ⟨⟨by decide +kernel, by decide +kernel⟩, List.mem_of_getElem? (i := 1044) (by decide +kernel), List.mem_of_getElem? (i := 1300) (by decide +kernel), List.mem_of_getElem? (i := 1301) (by decide +kernel)⟩
theorem lw_p90 : lw_okq (⟨"StreamFuserModel", "takesSign", "(II)Z"⟩, 59) := ⟨⟨by decide +kernel, by decide +kernel⟩, List.mem_of_getElem? (i := 1044) (by decide +kernel), List.mem_of_getElem? (i := 1306) (by decide +kernel), List.mem_of_getElem? (i := 1307) (by decide +kernel)⟩
theorem lw_p91 : lw_okq (⟨"StreamFuserModel", "places", "()V"⟩, 59) := ⟨⟨by decide +kernel, by decide +kernel⟩, List.mem_of_getElem? (i := 1044) (by decide +kernel), List.mem_of_getElem? (i := 1315) (by decide +kernel), List.mem_of_getElem? (i := 1316) (by decide +kernel)⟩
theorem lw_p92 : lw_okq (⟨"StreamFuserModel", "hangs", "(IIZ)V"⟩, 59) := ⟨⟨by decide +kernel, by decide +kernel⟩, List.mem_of_getElem? (i := 1044) (by decide +kernel), List.mem_of_getElem? (i := 1319) (by decide +kernel), List.mem_of_getElem? (i := 1320) (by decide +kernel)⟩
theorem lw_p93 : lw_okq (⟨"StreamFuserModel", "nodeBy", "(II)I"⟩, 59) := ⟨⟨by decide +kernel, by decide +kernel⟩, List.mem_of_getElem? (i := 1044) (by decide +kernel), List.mem_of_getElem? (i := 1328) (by decide +kernel), List.mem_of_getElem? (i := 1329) (by decide +kernel)⟩
theorem lw_p94 : lw_okq (⟨"StreamFuserModel", "isPure", "(I)Z"⟩, 59) := ⟨⟨by decide +kernel, by decide +kernel⟩, List.mem_of_getElem? (i := 1044) (by decide +kernel), List.mem_of_getElem? (i := 1332) (by decide +kernel), List.mem_of_getElem? (i := 1333) (by decide +kernel)⟩
theorem lw_p95 : lw_okq (⟨"StreamFuserModel", "writesPlan", "()V"⟩, 59) := ⟨⟨by decide +kernel, by decide +kernel⟩, List.mem_of_getElem? (i := 1044) (by decide +kernel), List.mem_of_getElem? (i := 1340) (by decide +kernel), List.mem_of_getElem? (i := 1341) (by decide +kernel)⟩
def lw_privs_6 : List (MethodName × Nat) := [(⟨"StreamFuser$Sheets", "move", "(IIIII)V"⟩, 3), (⟨"StreamFuser", "mixPlan", "(J)J"⟩, 14), (⟨"StreamFuser", "mixRun", "(J)J"⟩, 14), (⟨"StreamFuserModel", "finds", "(I)I"⟩, 59), (⟨"StreamFuserModel", "lacks", "(III)I"⟩, 59), (⟨"StreamFuserModel", "faultNow", "()I"⟩, 59), (⟨"StreamFuserModel", "takesLetter", "(II)Z"⟩, 59), (⟨"StreamFuserModel", "wantsBehind", "(II)V"⟩, 59), (⟨"StreamFuserModel", "wants", "(I)V"⟩, 59), (⟨"StreamFuserModel", "takesNumber", "(II)Z"⟩, 59), (⟨"StreamFuserModel", "takesSign", "(II)Z"⟩, 59), (⟨"StreamFuserModel", "places", "()V"⟩, 59), (⟨"StreamFuserModel", "hangs", "(IIZ)V"⟩, 59), (⟨"StreamFuserModel", "nodeBy", "(II)I"⟩, 59), (⟨"StreamFuserModel", "isPure", "(I)Z"⟩, 59), (⟨"StreamFuserModel", "writesPlan", "()V"⟩, 59)]
theorem lw_r6 : ∀ q ∈ lw_privs_6, lw_okq q := List.forall_mem_cons.mpr ⟨lw_p80, List.forall_mem_cons.mpr ⟨lw_p81, List.forall_mem_cons.mpr ⟨lw_p82, List.forall_mem_cons.mpr ⟨lw_p83, List.forall_mem_cons.mpr ⟨lw_p84, List.forall_mem_cons.mpr ⟨lw_p85, List.forall_mem_cons.mpr ⟨lw_p86, List.forall_mem_cons.mpr ⟨lw_p87, List.forall_mem_cons.mpr ⟨lw_p88, List.forall_mem_cons.mpr ⟨lw_p89, List.forall_mem_cons.mpr ⟨lw_p90, List.forall_mem_cons.mpr ⟨lw_p91, List.forall_mem_cons.mpr ⟨lw_p92, List.forall_mem_cons.mpr ⟨lw_p93, List.forall_mem_cons.mpr ⟨lw_p94, List.forall_mem_cons.mpr ⟨lw_p95, fun _ h => absurd h List.not_mem_nil⟩⟩⟩⟩⟩⟩⟩⟩⟩⟩⟩⟩⟩⟩⟩⟩
theorem lw_p96 : lw_okq (⟨"StreamFuserModel", "tells", "(I)V"⟩, 59) := ⟨⟨by decide +kernel, by decide +kernel⟩, List.mem_of_getElem? (i := 1044) (by decide +kernel), List.mem_of_getElem? (i := 1344) (by decide +kernel), List.mem_of_getElem? (i := 1345) (by decide +kernel)⟩
theorem lw_p97 : lw_okq (⟨"StreamFuserModel", "tellsNumber", "(I)V"⟩, 59) := ⟨⟨by decide +kernel, by decide +kernel⟩, List.mem_of_getElem? (i := 1044) (by decide +kernel), List.mem_of_getElem? (i := 1351) (by decide +kernel), List.mem_of_getElem? (i := 1352) (by decide +kernel)⟩
theorem lw_p98 : lw_okq (⟨"StreamFuserModel", "textBy", "(I)I"⟩, 59) := ⟨⟨by decide +kernel, by decide +kernel⟩, List.mem_of_getElem? (i := 1044) (by decide +kernel), List.mem_of_getElem? (i := 1356) (by decide +kernel), List.mem_of_getElem? (i := 1357) (by decide +kernel)⟩
theorem lw_p99 : lw_okq (⟨"StreamFuserModel", "tidies", "(I)I"⟩, 59) := ⟨⟨by decide +kernel, by decide +kernel⟩, List.mem_of_getElem? (i := 1044) (by decide +kernel), List.mem_of_getElem? (i := 1364) (by decide +kernel), List.mem_of_getElem? (i := 1365) (by decide +kernel)⟩
theorem lw_p100 : lw_okq (⟨"StreamFuserModel", "tidiesOnce", "(I)Z"⟩, 59) := ⟨⟨by decide +kernel, by decide +kernel⟩, List.mem_of_getElem? (i := 1044) (by decide +kernel), List.mem_of_getElem? (i := 1369) (by decide +kernel), List.mem_of_getElem? (i := 1370) (by decide +kernel)⟩
theorem lw_p101 : lw_okq (⟨"StreamFuserModel", "ruleAt", "(I)I"⟩, 59) := ⟨⟨by decide +kernel, by decide +kernel⟩, List.mem_of_getElem? (i := 1044) (by decide +kernel), List.mem_of_getElem? (i := 1373) (by decide +kernel), List.mem_of_getElem? (i := 1374) (by decide +kernel)⟩
theorem lw_p102 : lw_okq (⟨"StreamFuserModel", "isNil", "(I)Z"⟩, 59) := ⟨⟨by decide +kernel, by decide +kernel⟩, List.mem_of_getElem? (i := 1044) (by decide +kernel), List.mem_of_getElem? (i := 1377) (by decide +kernel), List.mem_of_getElem? (i := 1378) (by decide +kernel)⟩
theorem lw_p103 : lw_okq (⟨"StreamFuserModel", "ruleOfCut", "(I)I"⟩, 59) := ⟨⟨by decide +kernel, by decide +kernel⟩, List.mem_of_getElem? (i := 1044) (by decide +kernel), List.mem_of_getElem? (i := 1381) (by decide +kernel), List.mem_of_getElem? (i := 1382) (by decide +kernel)⟩
theorem lw_p104 : lw_okq (⟨"StreamFuserModel", "uses", "(II)V"⟩, 59) := ⟨⟨by decide +kernel, by decide +kernel⟩, List.mem_of_getElem? (i := 1044) (by decide +kernel), List.mem_of_getElem? (i := 1388) (by decide +kernel), List.mem_of_getElem? (i := 1389) (by decide +kernel)⟩
theorem lw_p105 : lw_okq (⟨"StreamFuserModel", "becomes", "(IIII)V"⟩, 59) := ⟨⟨by decide +kernel, by decide +kernel⟩, List.mem_of_getElem? (i := 1044) (by decide +kernel), List.mem_of_getElem? (i := 1392) (by decide +kernel), List.mem_of_getElem? (i := 1393) (by decide +kernel)⟩
theorem lw_p106 : lw_okq (⟨"StreamFuserModel", "cuts", "(II)V"⟩, 59) := ⟨⟨by decide +kernel, by decide +kernel⟩, List.mem_of_getElem? (i := 1044) (by decide +kernel), List.mem_of_getElem? (i := 1399) (by decide +kernel), List.mem_of_getElem? (i := 1400) (by decide +kernel)⟩
theorem lw_p107 : lw_okq (⟨"StreamFuserModel", "turns", "(I)V"⟩, 59) := ⟨⟨by decide +kernel, by decide +kernel⟩, List.mem_of_getElem? (i := 1044) (by decide +kernel), List.mem_of_getElem? (i := 1403) (by decide +kernel), List.mem_of_getElem? (i := 1404) (by decide +kernel)⟩
theorem lw_p108 : lw_okq (⟨"StreamFuserModel", "usesMore", "(III)V"⟩, 59) := ⟨⟨by decide +kernel, by decide +kernel⟩, List.mem_of_getElem? (i := 1044) (by decide +kernel), List.mem_of_getElem? (i := 1410) (by decide +kernel), List.mem_of_getElem? (i := 1411) (by decide +kernel)⟩
theorem lw_p109 : lw_okq (⟨"StreamFuserModel", "nil", "(I)V"⟩, 59) := ⟨⟨by decide +kernel, by decide +kernel⟩, List.mem_of_getElem? (i := 1044) (by decide +kernel), List.mem_of_getElem? (i := 1414) (by decide +kernel), List.mem_of_getElem? (i := 1415) (by decide +kernel)⟩
theorem lw_p110 : lw_okq (⟨"StreamFuserModel", "hasEndless", "()Z"⟩, 59) := ⟨⟨by decide +kernel, by decide +kernel⟩, List.mem_of_getElem? (i := 1044) (by decide +kernel), List.mem_of_getElem? (i := 1428) (by decide +kernel), List.mem_of_getElem? (i := 1429) (by decide +kernel)⟩
theorem lw_p111 : lw_okq (⟨"StreamFuserModel", "runs", "(II)V"⟩, 59) := ⟨⟨by decide +kernel, by decide +kernel⟩, List.mem_of_getElem? (i := 1044) (by decide +kernel), List.mem_of_getElem? (i := 1432) (by decide +kernel), List.mem_of_getElem? (i := 1433) (by decide +kernel)⟩
def lw_privs_7 : List (MethodName × Nat) := [(⟨"StreamFuserModel", "tells", "(I)V"⟩, 59), (⟨"StreamFuserModel", "tellsNumber", "(I)V"⟩, 59), (⟨"StreamFuserModel", "textBy", "(I)I"⟩, 59), (⟨"StreamFuserModel", "tidies", "(I)I"⟩, 59), (⟨"StreamFuserModel", "tidiesOnce", "(I)Z"⟩, 59), (⟨"StreamFuserModel", "ruleAt", "(I)I"⟩, 59), (⟨"StreamFuserModel", "isNil", "(I)Z"⟩, 59), (⟨"StreamFuserModel", "ruleOfCut", "(I)I"⟩, 59), (⟨"StreamFuserModel", "uses", "(II)V"⟩, 59), (⟨"StreamFuserModel", "becomes", "(IIII)V"⟩, 59), (⟨"StreamFuserModel", "cuts", "(II)V"⟩, 59), (⟨"StreamFuserModel", "turns", "(I)V"⟩, 59), (⟨"StreamFuserModel", "usesMore", "(III)V"⟩, 59), (⟨"StreamFuserModel", "nil", "(I)V"⟩, 59), (⟨"StreamFuserModel", "hasEndless", "()Z"⟩, 59), (⟨"StreamFuserModel", "runs", "(II)V"⟩, 59)]
theorem lw_r7 : ∀ q ∈ lw_privs_7, lw_okq q := List.forall_mem_cons.mpr ⟨lw_p96, List.forall_mem_cons.mpr ⟨lw_p97, List.forall_mem_cons.mpr ⟨lw_p98, List.forall_mem_cons.mpr ⟨lw_p99, List.forall_mem_cons.mpr ⟨lw_p100, List.forall_mem_cons.mpr ⟨lw_p101, List.forall_mem_cons.mpr ⟨lw_p102, List.forall_mem_cons.mpr ⟨lw_p103, List.forall_mem_cons.mpr ⟨lw_p104, List.forall_mem_cons.mpr ⟨lw_p105, List.forall_mem_cons.mpr ⟨lw_p106, List.forall_mem_cons.mpr ⟨lw_p107, List.forall_mem_cons.mpr ⟨lw_p108, List.forall_mem_cons.mpr ⟨lw_p109, List.forall_mem_cons.mpr ⟨lw_p110, List.forall_mem_cons.mpr ⟨lw_p111, fun _ h => absurd h List.not_mem_nil⟩⟩⟩⟩⟩⟩⟩⟩⟩⟩⟩⟩⟩⟩⟩⟩
theorem lw_p112 : lw_okq (⟨"StreamFuserModel", "begins", "(II)V"⟩, 59) := ⟨⟨by decide +kernel, by decide +kernel⟩, List.mem_of_getElem? (i := 1044) (by decide +kernel), List.mem_of_getElem? (i := 1436) (by decide +kernel), List.mem_of_getElem? (i := 1437) (by decide +kernel)⟩
theorem lw_p113 : lw_okq (⟨"StreamFuserModel", "makesRows", "()V"⟩, 59) := ⟨⟨by decide +kernel, by decide +kernel⟩, List.mem_of_getElem? (i := 1044) (by decide +kernel), List.mem_of_getElem? (i := 1440) (by decide +kernel), List.mem_of_getElem? (i := 1441) (by decide +kernel)⟩
theorem lw_p114 : lw_okq (⟨"StreamFuserModel", "wantsRow", "(I)I"⟩, 59) := ⟨⟨by decide +kernel, by decide +kernel⟩, List.mem_of_getElem? (i := 1044) (by decide +kernel), List.mem_of_getElem? (i := 1445) (by decide +kernel), List.mem_of_getElem? (i := 1446) (by decide +kernel)⟩
theorem lw_p115 : lw_okq (⟨"StreamFuserModel", "opensRow", "(I)I"⟩, 59) := ⟨⟨by decide +kernel, by decide +kernel⟩, List.mem_of_getElem? (i := 1044) (by decide +kernel), List.mem_of_getElem? (i := 1449) (by decide +kernel), List.mem_of_getElem? (i := 1450) (by decide +kernel)⟩
theorem lw_p116 : lw_okq (⟨"StreamFuserModel", "fails", "(II)V"⟩, 59) := ⟨⟨by decide +kernel, by decide +kernel⟩, List.mem_of_getElem? (i := 1044) (by decide +kernel), List.mem_of_getElem? (i := 1453) (by decide +kernel), List.mem_of_getElem? (i := 1454) (by decide +kernel)⟩
theorem lw_p117 : lw_okq (⟨"StreamFuserModel", "adds", "(II)V"⟩, 59) := ⟨⟨by decide +kernel, by decide +kernel⟩, List.mem_of_getElem? (i := 1044) (by decide +kernel), List.mem_of_getElem? (i := 1457) (by decide +kernel), List.mem_of_getElem? (i := 1458) (by decide +kernel)⟩
theorem lw_p118 : lw_okq (⟨"StreamFuserModel", "fills", "(I)V"⟩, 59) := ⟨⟨by decide +kernel, by decide +kernel⟩, List.mem_of_getElem? (i := 1044) (by decide +kernel), List.mem_of_getElem? (i := 1461) (by decide +kernel), List.mem_of_getElem? (i := 1462) (by decide +kernel)⟩
theorem lw_p119 : lw_okq (⟨"StreamFuserModel", "draws", "()Z"⟩, 59) := ⟨⟨by decide +kernel, by decide +kernel⟩, List.mem_of_getElem? (i := 1044) (by decide +kernel), List.mem_of_getElem? (i := 1466) (by decide +kernel), List.mem_of_getElem? (i := 1467) (by decide +kernel)⟩
theorem lw_p120 : lw_okq (⟨"StreamFuserModel", "changesRow", "(I)V"⟩, 59) := ⟨⟨by decide +kernel, by decide +kernel⟩, List.mem_of_getElem? (i := 1044) (by decide +kernel), List.mem_of_getElem? (i := 1470) (by decide +kernel), List.mem_of_getElem? (i := 1471) (by decide +kernel)⟩
theorem lw_p121 : lw_okq (⟨"StreamFuserModel", "passes", "(II)Z"⟩, 59) := ⟨⟨by decide +kernel, by decide +kernel⟩, List.mem_of_getElem? (i := 1044) (by decide +kernel), List.mem_of_getElem? (i := 1474) (by decide +kernel), List.mem_of_getElem? (i := 1475) (by decide +kernel)⟩
theorem lw_p122 : lw_okq (⟨"StreamFuserModel", "made", "(II)I"⟩, 59) := ⟨⟨by decide +kernel, by decide +kernel⟩, List.mem_of_getElem? (i := 1044) (by decide +kernel), List.mem_of_getElem? (i := 1478) (by decide +kernel), List.mem_of_getElem? (i := 1479) (by decide +kernel)⟩
theorem lw_p123 : lw_okq (⟨"StreamFuserModel", "writesDown", "(II)V"⟩, 59) := ⟨⟨by decide +kernel, by decide +kernel⟩, List.mem_of_getElem? (i := 1044) (by decide +kernel), List.mem_of_getElem? (i := 1482) (by decide +kernel), List.mem_of_getElem? (i := 1483) (by decide +kernel)⟩
theorem lw_p124 : lw_okq (⟨"StreamFuserModel", "joinsRows", "(I)V"⟩, 59) := ⟨⟨by decide +kernel, by decide +kernel⟩, List.mem_of_getElem? (i := 1044) (by decide +kernel), List.mem_of_getElem? (i := 1486) (by decide +kernel), List.mem_of_getElem? (i := 1487) (by decide +kernel)⟩
theorem lw_p125 : lw_okq (⟨"StreamFuserModel", "joined", "(III)I"⟩, 59) := ⟨⟨by decide +kernel, by decide +kernel⟩, List.mem_of_getElem? (i := 1044) (by decide +kernel), List.mem_of_getElem? (i := 1490) (by decide +kernel), List.mem_of_getElem? (i := 1491) (by decide +kernel)⟩
theorem lw_p126 : lw_okq (⟨"StreamFuserModel", "steps", "()I"⟩, 59) := ⟨⟨by decide +kernel, by decide +kernel⟩, List.mem_of_getElem? (i := 1044) (by decide +kernel), List.mem_of_getElem? (i := 1494) (by decide +kernel), List.mem_of_getElem? (i := 1495) (by decide +kernel)⟩
theorem lw_p127 : lw_okq (⟨"StreamFuserModel", "gives", "(I)V"⟩, 59) := ⟨⟨by decide +kernel, by decide +kernel⟩, List.mem_of_getElem? (i := 1044) (by decide +kernel), List.mem_of_getElem? (i := 1498) (by decide +kernel), List.mem_of_getElem? (i := 1499) (by decide +kernel)⟩
def lw_privs_8 : List (MethodName × Nat) := [(⟨"StreamFuserModel", "begins", "(II)V"⟩, 59), (⟨"StreamFuserModel", "makesRows", "()V"⟩, 59), (⟨"StreamFuserModel", "wantsRow", "(I)I"⟩, 59), (⟨"StreamFuserModel", "opensRow", "(I)I"⟩, 59), (⟨"StreamFuserModel", "fails", "(II)V"⟩, 59), (⟨"StreamFuserModel", "adds", "(II)V"⟩, 59), (⟨"StreamFuserModel", "fills", "(I)V"⟩, 59), (⟨"StreamFuserModel", "draws", "()Z"⟩, 59), (⟨"StreamFuserModel", "changesRow", "(I)V"⟩, 59), (⟨"StreamFuserModel", "passes", "(II)Z"⟩, 59), (⟨"StreamFuserModel", "made", "(II)I"⟩, 59), (⟨"StreamFuserModel", "writesDown", "(II)V"⟩, 59), (⟨"StreamFuserModel", "joinsRows", "(I)V"⟩, 59), (⟨"StreamFuserModel", "joined", "(III)I"⟩, 59), (⟨"StreamFuserModel", "steps", "()I"⟩, 59), (⟨"StreamFuserModel", "gives", "(I)V"⟩, 59)]
theorem lw_r8 : ∀ q ∈ lw_privs_8, lw_okq q := List.forall_mem_cons.mpr ⟨lw_p112, List.forall_mem_cons.mpr ⟨lw_p113, List.forall_mem_cons.mpr ⟨lw_p114, List.forall_mem_cons.mpr ⟨lw_p115, List.forall_mem_cons.mpr ⟨lw_p116, List.forall_mem_cons.mpr ⟨lw_p117, List.forall_mem_cons.mpr ⟨lw_p118, List.forall_mem_cons.mpr ⟨lw_p119, List.forall_mem_cons.mpr ⟨lw_p120, List.forall_mem_cons.mpr ⟨lw_p121, List.forall_mem_cons.mpr ⟨lw_p122, List.forall_mem_cons.mpr ⟨lw_p123, List.forall_mem_cons.mpr ⟨lw_p124, List.forall_mem_cons.mpr ⟨lw_p125, List.forall_mem_cons.mpr ⟨lw_p126, List.forall_mem_cons.mpr ⟨lw_p127, fun _ h => absurd h List.not_mem_nil⟩⟩⟩⟩⟩⟩⟩⟩⟩⟩⟩⟩⟩⟩⟩⟩
theorem lw_p128 : lw_okq (⟨"StreamFuserModel", "after", "(II)I"⟩, 59) := ⟨⟨by decide +kernel, by decide +kernel⟩, List.mem_of_getElem? (i := 1044) (by decide +kernel), List.mem_of_getElem? (i := 1502) (by decide +kernel), List.mem_of_getElem? (i := 1503) (by decide +kernel)⟩
theorem lw_p129 : lw_okq (⟨"StreamFuserModel", "afterOne", "(II)I"⟩, 59) := ⟨⟨by decide +kernel, by decide +kernel⟩, List.mem_of_getElem? (i := 1044) (by decide +kernel), List.mem_of_getElem? (i := 1506) (by decide +kernel), List.mem_of_getElem? (i := 1507) (by decide +kernel)⟩
theorem lw_p130 : lw_okq (⟨"StreamFuserModel", "opensFor", "(II)V"⟩, 59) := ⟨⟨by decide +kernel, by decide +kernel⟩, List.mem_of_getElem? (i := 1044) (by decide +kernel), List.mem_of_getElem? (i := 1510) (by decide +kernel), List.mem_of_getElem? (i := 1511) (by decide +kernel)⟩
theorem lw_p131 : lw_okq (⟨"StreamFuserModel", "asks", "()Z"⟩, 59) := ⟨⟨by decide +kernel, by decide +kernel⟩, List.mem_of_getElem? (i := 1044) (by decide +kernel), List.mem_of_getElem? (i := 1514) (by decide +kernel), List.mem_of_getElem? (i := 1515) (by decide +kernel)⟩
theorem lw_p132 : lw_okq (⟨"StreamFuserModel", "asksNext", "(I)I"⟩, 59) := ⟨⟨by decide +kernel, by decide +kernel⟩, List.mem_of_getElem? (i := 1044) (by decide +kernel), List.mem_of_getElem? (i := 1518) (by decide +kernel), List.mem_of_getElem? (i := 1519) (by decide +kernel)⟩
theorem lw_p133 : lw_okq (⟨"StreamFuserModel", "hears", "(I)I"⟩, 59) := ⟨⟨by decide +kernel, by decide +kernel⟩, List.mem_of_getElem? (i := 1044) (by decide +kernel), List.mem_of_getElem? (i := 1522) (by decide +kernel), List.mem_of_getElem? (i := 1523) (by decide +kernel)⟩
theorem lw_p134 : lw_okq (⟨"StreamFuserModel", "hearsOne", "(I)I"⟩, 59) := ⟨⟨by decide +kernel, by decide +kernel⟩, List.mem_of_getElem? (i := 1044) (by decide +kernel), List.mem_of_getElem? (i := 1526) (by decide +kernel), List.mem_of_getElem? (i := 1527) (by decide +kernel)⟩
theorem lw_p135 : lw_okq (⟨"StreamFuserModel", "hearsOpen", "(I)I"⟩, 59) := ⟨⟨by decide +kernel, by decide +kernel⟩, List.mem_of_getElem? (i := 1044) (by decide +kernel), List.mem_of_getElem? (i := 1530) (by decide +kernel), List.mem_of_getElem? (i := 1531) (by decide +kernel)⟩
theorem lw_p136 : lw_okq (⟨"StreamFuserModel", "foldBy", "(I)J"⟩, 59) := ⟨⟨by decide +kernel, by decide +kernel⟩, List.mem_of_getElem? (i := 1044) (by decide +kernel), List.mem_of_getElem? (i := 1546) (by decide +kernel), List.mem_of_getElem? (i := 1547) (by decide +kernel)⟩
theorem lw_p137 : lw_okq (⟨"StreamFuserModel", "keptDown", "()I"⟩, 59) := ⟨⟨by decide +kernel, by decide +kernel⟩, List.mem_of_getElem? (i := 1044) (by decide +kernel), List.mem_of_getElem? (i := 1563) (by decide +kernel), List.mem_of_getElem? (i := 1564) (by decide +kernel)⟩
theorem lw_p138 : lw_okq (⟨"StreamFuserModel", "writtenBy", "(II)J"⟩, 59) := ⟨⟨by decide +kernel, by decide +kernel⟩, List.mem_of_getElem? (i := 1044) (by decide +kernel), List.mem_of_getElem? (i := 1567) (by decide +kernel), List.mem_of_getElem? (i := 1568) (by decide +kernel)⟩
theorem lw_p139 : lw_okq (⟨"StreamFuserModel", "savesBy", "(I)I"⟩, 59) := ⟨⟨by decide +kernel, by decide +kernel⟩, List.mem_of_getElem? (i := 1044) (by decide +kernel), List.mem_of_getElem? (i := 1579) (by decide +kernel), List.mem_of_getElem? (i := 1580) (by decide +kernel)⟩
theorem lw_p140 : lw_okq (⟨"StreamFuserModel", "lays", "(ZI)V"⟩, 59) := ⟨⟨by decide +kernel, by decide +kernel⟩, List.mem_of_getElem? (i := 1044) (by decide +kernel), List.mem_of_getElem? (i := 1583) (by decide +kernel), List.mem_of_getElem? (i := 1584) (by decide +kernel)⟩
theorem lw_p141 : lw_okq (⟨"StreamFuserModel", "deepest", "()I"⟩, 59) := ⟨⟨by decide +kernel, by decide +kernel⟩, List.mem_of_getElem? (i := 1044) (by decide +kernel), List.mem_of_getElem? (i := 1591) (by decide +kernel), List.mem_of_getElem? (i := 1592) (by decide +kernel)⟩
theorem lw_p142 : lw_okq (⟨"StreamFuserModel", "planTells", "(J)J"⟩, 59) := ⟨⟨by decide +kernel, by decide +kernel⟩, List.mem_of_getElem? (i := 1044) (by decide +kernel), List.mem_of_getElem? (i := 1602) (by decide +kernel), List.mem_of_getElem? (i := 1603) (by decide +kernel)⟩
def lw_privs_9 : List (MethodName × Nat) := [(⟨"StreamFuserModel", "after", "(II)I"⟩, 59), (⟨"StreamFuserModel", "afterOne", "(II)I"⟩, 59), (⟨"StreamFuserModel", "opensFor", "(II)V"⟩, 59), (⟨"StreamFuserModel", "asks", "()Z"⟩, 59), (⟨"StreamFuserModel", "asksNext", "(I)I"⟩, 59), (⟨"StreamFuserModel", "hears", "(I)I"⟩, 59), (⟨"StreamFuserModel", "hearsOne", "(I)I"⟩, 59), (⟨"StreamFuserModel", "hearsOpen", "(I)I"⟩, 59), (⟨"StreamFuserModel", "foldBy", "(I)J"⟩, 59), (⟨"StreamFuserModel", "keptDown", "()I"⟩, 59), (⟨"StreamFuserModel", "writtenBy", "(II)J"⟩, 59), (⟨"StreamFuserModel", "savesBy", "(I)I"⟩, 59), (⟨"StreamFuserModel", "lays", "(ZI)V"⟩, 59), (⟨"StreamFuserModel", "deepest", "()I"⟩, 59), (⟨"StreamFuserModel", "planTells", "(J)J"⟩, 59)]
theorem lw_r9 : ∀ q ∈ lw_privs_9, lw_okq q := List.forall_mem_cons.mpr ⟨lw_p128, List.forall_mem_cons.mpr ⟨lw_p129, List.forall_mem_cons.mpr ⟨lw_p130, List.forall_mem_cons.mpr ⟨lw_p131, List.forall_mem_cons.mpr ⟨lw_p132, List.forall_mem_cons.mpr ⟨lw_p133, List.forall_mem_cons.mpr ⟨lw_p134, List.forall_mem_cons.mpr ⟨lw_p135, List.forall_mem_cons.mpr ⟨lw_p136, List.forall_mem_cons.mpr ⟨lw_p137, List.forall_mem_cons.mpr ⟨lw_p138, List.forall_mem_cons.mpr ⟨lw_p139, List.forall_mem_cons.mpr ⟨lw_p140, List.forall_mem_cons.mpr ⟨lw_p141, List.forall_mem_cons.mpr ⟨lw_p142, fun _ h => absurd h List.not_mem_nil⟩⟩⟩⟩⟩⟩⟩⟩⟩⟩⟩⟩⟩⟩⟩
def lw_privs : List (MethodName × Nat) := lw_privs_1 ++ (lw_privs_2 ++ (lw_privs_3 ++ (lw_privs_4 ++ (lw_privs_5 ++ (lw_privs_6 ++ (lw_privs_7 ++ (lw_privs_8 ++ (lw_privs_9))))))))
def lw_tbl : List Cond := k2_sels lw_privs ++ tables_1
theorem lw_privs_ok : ∀ q ∈ lw_privs, lw_okq q := by
  show ∀ q ∈ lw_privs_1 ++ (lw_privs_2 ++ (lw_privs_3 ++ (lw_privs_4 ++ (lw_privs_5 ++ (lw_privs_6 ++ (lw_privs_7 ++ (lw_privs_8 ++ (lw_privs_9)))))))), lw_okq q
  exact List.forall_mem_append.mpr ⟨lw_r1, List.forall_mem_append.mpr ⟨lw_r2, List.forall_mem_append.mpr ⟨lw_r3, List.forall_mem_append.mpr ⟨lw_r4, List.forall_mem_append.mpr ⟨lw_r5, List.forall_mem_append.mpr ⟨lw_r6, List.forall_mem_append.mpr ⟨lw_r7, List.forall_mem_append.mpr ⟨lw_r8, lw_r9⟩⟩⟩⟩⟩⟩⟩⟩

-- ===== names: classes, fields, types, methods =====
def RX0 : String := "StreamFuser$Asker"
def TX0 : u_T := fun k => match k with
  | 0 => ("StreamFuser$Walk", "used", "[I", true)
  | 1 => ("StreamFuser$Walk", "turned", "[Z", true)
  | 2 => ("StreamFuser$Way", "plan", "LStreamFuser$Plan;", true)
  | 3 => ("StreamFuser$Way", "run", "LStreamFuser$Run;", true)
  | 4 => ("StreamFuser$Way", "sheets", "LStreamFuser$Sheets;", true)
  | 5 => ("StreamFuser$Way", "opened", "[I", true)
  | _ => ("StreamFuser$Way", "value", "I", false)
def tyX0 : Nat → FieldType := fun k => match k with
  | 0 => .array .int
  | 1 => .array .boolean
  | 2 => .object "StreamFuser$Plan"
  | 3 => .object "StreamFuser$Run"
  | 4 => .object "StreamFuser$Sheets"
  | 5 => .array .int
  | _ => .int
abbrev wsX00 : List Cond := u_ws RX0 TX0 7
theorem nmX0 : ∀ a, a < 7 → ∀ b, b < 7 → a ≠ b → (TX0 a).2.1 ≠ (TX0 b).2.1 := by decide +kernel
theorem tyX0_ok : ∀ k, k < 7 → parseFieldDescriptor (TX0 k).2.2.1 = some (tyX0 k) := by decide +kernel
abbrev cX0_init : ByteArray := prog_2_method_1_code
def yX0_init : MethodName := ⟨RX0, "<init>", "(LStreamFuser$Plan;LStreamFuser$Run;LStreamFuser$Sheets;)V"⟩
abbrev cX0_play : ByteArray := prog_2_method_2_code
def yX0_play : MethodName := ⟨RX0, "play", "(I)V"⟩
abbrev cX0_ask : ByteArray := prog_2_method_3_code
def yX0_ask : MethodName := ⟨RX0, "ask", "(II)Z"⟩
abbrev cX0_askFilter : ByteArray := prog_2_method_4_code
def yX0_askFilter : MethodName := ⟨RX0, "askFilter", "(II)Z"⟩
abbrev cX0_askWhile : ByteArray := prog_2_method_5_code
def yX0_askWhile : MethodName := ⟨RX0, "askWhile", "(II)Z"⟩
abbrev cX0_askTake : ByteArray := prog_2_method_6_code
def yX0_askTake : MethodName := ⟨RX0, "askTake", "(II)Z"⟩
abbrev cX0_askDrop : ByteArray := prog_2_method_7_code
def yX0_askDrop : MethodName := ⟨RX0, "askDrop", "(II)Z"⟩
abbrev cX0_askChain : ByteArray := prog_2_method_8_code
def yX0_askChain : MethodName := ⟨RX0, "askChain", "(II)Z"⟩
abbrev cX0_askZip : ByteArray := prog_2_method_9_code
def yX0_askZip : MethodName := ⟨RX0, "askZip", "(II)Z"⟩
abbrev cX0_askOpener : ByteArray := prog_2_method_10_code
def yX0_askOpener : MethodName := ⟨RX0, "askOpener", "(II)Z"⟩
def RX1 : String := "StreamFuser$Maker"
def TX1 : u_T := fun k => match k with
  | 0 => ("StreamFuser$Way", "plan", "LStreamFuser$Plan;", true)
  | 1 => ("StreamFuser$Way", "run", "LStreamFuser$Run;", true)
  | 2 => ("StreamFuser$Way", "sheets", "LStreamFuser$Sheets;", true)
  | 3 => ("StreamFuser$Way", "opened", "[I", true)
  | 4 => ("StreamFuser$Way", "value", "I", false)
  | 5 => ("StreamFuser$Maker", "rows", "[I", true)
  | _ => ("StreamFuser$Maker", "length", "[I", true)
def tyX1 : Nat → FieldType := fun k => match k with
  | 0 => .object "StreamFuser$Plan"
  | 1 => .object "StreamFuser$Run"
  | 2 => .object "StreamFuser$Sheets"
  | 3 => .array .int
  | 4 => .int
  | 5 => .array .int
  | _ => .array .int
abbrev wsX10 : List Cond := u_ws RX1 TX1 7
theorem nmX1 : ∀ a, a < 7 → ∀ b, b < 7 → a ≠ b → (TX1 a).2.1 ≠ (TX1 b).2.1 := by decide +kernel
theorem tyX1_ok : ∀ k, k < 7 → parseFieldDescriptor (TX1 k).2.2.1 = some (tyX1 k) := by decide +kernel
abbrev cX1_init : ByteArray := prog_3_method_1_code
def yX1_init : MethodName := ⟨RX1, "<init>", "(LStreamFuser$Plan;LStreamFuser$Run;LStreamFuser$Sheets;)V"⟩
abbrev cX1_play : ByteArray := prog_3_method_2_code
def yX1_play : MethodName := ⟨RX1, "play", "(I)V"⟩
abbrev cX1_make : ByteArray := prog_3_method_3_code
def yX1_make : MethodName := ⟨RX1, "make", "(II)Z"⟩
abbrev cX1_fill : ByteArray := prog_3_method_4_code
def yX1_fill : MethodName := ⟨RX1, "fill", "(II)Z"⟩
abbrev cX1_fillFromProducer : ByteArray := prog_3_method_5_code
def yX1_fillFromProducer : MethodName := ⟨RX1, "fillFromProducer", "(I)Z"⟩
abbrev cX1_fillFromInput : ByteArray := prog_3_method_6_code
def yX1_fillFromInput : MethodName := ⟨RX1, "fillFromInput", "(I)Z"⟩
abbrev cX1_fillByOpening : ByteArray := prog_3_method_7_code
def yX1_fillByOpening : MethodName := ⟨RX1, "fillByOpening", "(II)Z"⟩
abbrev cX1_addRow : ByteArray := prog_3_method_8_code
def yX1_addRow : MethodName := ⟨RX1, "addRow", "(II)Z"⟩
abbrev cX1_zip : ByteArray := prog_3_method_9_code
def yX1_zip : MethodName := ⟨RX1, "zip", "(II)V"⟩
abbrev cX1_element : ByteArray := prog_3_method_10_code
def yX1_element : MethodName := ⟨RX1, "element", "(II)I"⟩
abbrev cX1_add : ByteArray := prog_3_method_11_code
def yX1_add : MethodName := ⟨RX1, "add", "(II)V"⟩
def RX2 : String := "StreamFuser$Plan"
def TX2 : u_T := fun k => match k with
  | 0 => ("StreamFuser$Plan", "letter", "[I", true)
  | 1 => ("StreamFuser$Plan", "mark", "[I", true)
  | 2 => ("StreamFuser$Plan", "first", "[I", true)
  | 3 => ("StreamFuser$Plan", "second", "[I", true)
  | 4 => ("StreamFuser$Plan", "size", "I", false)
  | 5 => ("StreamFuser$Plan", "end", "[I", true)
  | 6 => ("StreamFuser$Plan", "within", "[I", true)
  | 7 => ("StreamFuser$Plan", "nested", "[I", true)
  | 8 => ("StreamFuser$Plan", "opener", "[I", true)
  | 9 => ("StreamFuser$Plan", "pure", "[Z", true)
  | 10 => ("StreamFuser$Plan", "deepest", "I", false)
  | _ => ("StreamFuser$Plan", "endless", "Z", false)
def tyX2 : Nat → FieldType := fun k => match k with
  | 0 => .array .int
  | 1 => .array .int
  | 2 => .array .int
  | 3 => .array .int
  | 4 => .int
  | 5 => .array .int
  | 6 => .array .int
  | 7 => .array .int
  | 8 => .array .int
  | 9 => .array .boolean
  | 10 => .int
  | _ => .boolean
abbrev wsX20 : List Cond := u_ws RX2 TX2 12
theorem nmX2 : ∀ a, a < 12 → ∀ b, b < 12 → a ≠ b → (TX2 a).2.1 ≠ (TX2 b).2.1 := by decide +kernel
theorem tyX2_ok : ∀ k, k < 12 → parseFieldDescriptor (TX2 k).2.2.1 = some (tyX2 k) := by decide +kernel
abbrev cX2_init : ByteArray := prog_4_method_1_code
def yX2_init : MethodName := ⟨RX2, "<init>", "()V"⟩
abbrev cX2_partsOf : ByteArray := prog_4_method_2_code
def yX2_partsOf : MethodName := ⟨RX2, "partsOf", "(I)I"⟩
abbrev cX2_numbersOf : ByteArray := prog_4_method_3_code
def yX2_numbersOf : MethodName := ⟨RX2, "numbersOf", "(I)I"⟩
abbrev cX2_has : ByteArray := prog_4_method_4_code
def yX2_has : MethodName := ⟨RX2, "has", "(I)Z"⟩
abbrev cX2_letterAt : ByteArray := prog_4_method_5_code
def yX2_letterAt : MethodName := ⟨RX2, "letterAt", "(I)I"⟩
abbrev cX2_isNil : ByteArray := prog_4_method_6_code
def yX2_isNil : MethodName := ⟨RX2, "isNil", "(I)Z"⟩
abbrev cX2_secondPart : ByteArray := prog_4_method_7_code
def yX2_secondPart : MethodName := ⟨RX2, "secondPart", "(I)I"⟩
abbrev cX2_input : ByteArray := prog_4_method_8_code
def yX2_input : MethodName := ⟨RX2, "input", "(I)I"⟩
abbrev cX2_add : ByteArray := prog_4_method_9_code
def yX2_add : MethodName := ⟨RX2, "add", "(IIII)V"⟩
abbrev cX2_takeFrom : ByteArray := prog_4_method_10_code
def yX2_takeFrom : MethodName := ⟨RX2, "takeFrom", "(LStreamFuser$Plan;)V"⟩
abbrev cX2_swapWithNext : ByteArray := prog_4_method_11_code
def yX2_swapWithNext : MethodName := ⟨RX2, "swapWithNext", "(I)V"⟩
abbrev cX2_cut : ByteArray := prog_4_method_12_code
def yX2_cut : MethodName := ⟨RX2, "cut", "(II)V"⟩
abbrev cX2_moveNode : ByteArray := prog_4_method_13_code
def yX2_moveNode : MethodName := ⟨RX2, "moveNode", "(II)V"⟩
abbrev cX2_makeNil : ByteArray := prog_4_method_14_code
def yX2_makeNil : MethodName := ⟨RX2, "makeNil", "(I)V"⟩
abbrev cX2_measure : ByteArray := prog_4_method_15_code
def yX2_measure : MethodName := ⟨RX2, "measure", "()V"⟩
abbrev cX2_measureFromParts : ByteArray := prog_4_method_16_code
def yX2_measureFromParts : MethodName := ⟨RX2, "measureFromParts", "(I)V"⟩
abbrev cX2_measureParts : ByteArray := prog_4_method_17_code
def yX2_measureParts : MethodName := ⟨RX2, "measureParts", "(I)V"⟩
def RX3 : String := "StreamFuser$Printer"
def TX3 : u_T := fun k => match k with
  | 0 => ("StreamFuser$Printer", "source", "LStreamFuser$Plan;", true)
  | 1 => ("StreamFuser$Printer", "bytes", "[B", true)
  | _ => ("StreamFuser$Printer", "length", "I", false)
def tyX3 : Nat → FieldType := fun k => match k with
  | 0 => .object "StreamFuser$Plan"
  | 1 => .array .byte
  | _ => .int
abbrev wsX30 : List Cond := u_ws RX3 TX3 3
theorem nmX3 : ∀ a, a < 3 → ∀ b, b < 3 → a ≠ b → (TX3 a).2.1 ≠ (TX3 b).2.1 := by decide +kernel
theorem tyX3_ok : ∀ k, k < 3 → parseFieldDescriptor (TX3 k).2.2.1 = some (tyX3 k) := by decide +kernel
abbrev cX3_init : ByteArray := prog_5_method_1_code
def yX3_init : MethodName := ⟨RX3, "<init>", "(LStreamFuser$Plan;)V"⟩
abbrev cX3_print : ByteArray := prog_5_method_2_code
def yX3_print : MethodName := ⟨RX3, "print", "()V"⟩
abbrev cX3_printNode : ByteArray := prog_5_method_3_code
def yX3_printNode : MethodName := ⟨RX3, "printNode", "(I)V"⟩
abbrev cX3_put : ByteArray := prog_5_method_4_code
def yX3_put : MethodName := ⟨RX3, "put", "(I)V"⟩
abbrev cX3_putNumber : ByteArray := prog_5_method_5_code
def yX3_putNumber : MethodName := ⟨RX3, "putNumber", "(I)V"⟩
def RX4 : String := "StreamFuser$Reader"
def TX4 : u_T := fun k => match k with
  | 0 => ("StreamFuser$Reader", "target", "LStreamFuser$Plan;", true)
  | 1 => ("StreamFuser$Reader", "bytes", "[I", true)
  | 2 => ("StreamFuser$Reader", "length", "I", false)
  | 3 => ("StreamFuser$Reader", "due", "[I", true)
  | 4 => ("StreamFuser$Reader", "dues", "I", false)
  | 5 => ("StreamFuser$Reader", "at", "I", false)
  | _ => ("StreamFuser$Reader", "fault", "I", false)
def tyX4 : Nat → FieldType := fun k => match k with
  | 0 => .object "StreamFuser$Plan"
  | 1 => .array .int
  | 2 => .int
  | 3 => .array .int
  | 4 => .int
  | 5 => .int
  | _ => .int
abbrev wsX40 : List Cond := u_ws RX4 TX4 7
theorem nmX4 : ∀ a, a < 7 → ∀ b, b < 7 → a ≠ b → (TX4 a).2.1 ≠ (TX4 b).2.1 := by decide +kernel
theorem tyX4_ok : ∀ k, k < 7 → parseFieldDescriptor (TX4 k).2.2.1 = some (tyX4 k) := by decide +kernel
abbrev cX4_init : ByteArray := prog_6_method_1_code
def yX4_init : MethodName := ⟨RX4, "<init>", "(LStreamFuser$Plan;)V"⟩
abbrev cX4_append : ByteArray := prog_6_method_2_code
def yX4_append : MethodName := ⟨RX4, "append", "(I)Z"⟩
abbrev cX4_read : ByteArray := prog_6_method_3_code
def yX4_read : MethodName := ⟨RX4, "read", "()I"⟩
abbrev cX4_expect : ByteArray := prog_6_method_4_code
def yX4_expect : MethodName := ⟨RX4, "expect", "(I)V"⟩
abbrev cX4_readNode : ByteArray := prog_6_method_5_code
def yX4_readNode : MethodName := ⟨RX4, "readNode", "()V"⟩
abbrev cX4_expectParts : ByteArray := prog_6_method_6_code
def yX4_expectParts : MethodName := ⟨RX4, "expectParts", "(II)V"⟩
abbrev cX4_peek : ByteArray := prog_6_method_7_code
def yX4_peek : MethodName := ⟨RX4, "peek", "()I"⟩
abbrev cX4_accept : ByteArray := prog_6_method_8_code
def yX4_accept : MethodName := ⟨RX4, "accept", "(Z)V"⟩
abbrev cX4_isLetter : ByteArray := prog_6_method_9_code
def yX4_isLetter : MethodName := ⟨RX4, "isLetter", "(II)Z"⟩
abbrev cX4_hasMark : ByteArray := prog_6_method_10_code
def yX4_hasMark : MethodName := ⟨RX4, "hasMark", "(I)Z"⟩
abbrev cX4_hasDigit : ByteArray := prog_6_method_11_code
def yX4_hasDigit : MethodName := ⟨RX4, "hasDigit", "(I)Z"⟩
abbrev cX4_readMark : ByteArray := prog_6_method_12_code
def yX4_readMark : MethodName := ⟨RX4, "readMark", "(I)I"⟩
abbrev cX4_fitsMark : ByteArray := prog_6_method_13_code
def yX4_fitsMark : MethodName := ⟨RX4, "fitsMark", "(II)Z"⟩
abbrev cX4_isDigit : ByteArray := prog_6_method_14_code
def yX4_isDigit : MethodName := ⟨RX4, "isDigit", "(I)Z"⟩
abbrev cX4_readNumber : ByteArray := prog_6_method_15_code
def yX4_readNumber : MethodName := ⟨RX4, "readNumber", "(I)I"⟩
def RX5 : String := "StreamFuser$Rewriter"
def TX5 : u_T := fun k => match k with
  | 0 => ("StreamFuser$Rewriter", "plan", "LStreamFuser$Plan;", true)
  | 1 => ("StreamFuser$Rewriter", "applied", "[I", true)
  | _ => ("StreamFuser$Rewriter", "total", "I", false)
def tyX5 : Nat → FieldType := fun k => match k with
  | 0 => .object "StreamFuser$Plan"
  | 1 => .array .int
  | _ => .int
abbrev wsX50 : List Cond := u_ws RX5 TX5 3
theorem nmX5 : ∀ a, a < 3 → ∀ b, b < 3 → a ≠ b → (TX5 a).2.1 ≠ (TX5 b).2.1 := by decide +kernel
theorem tyX5_ok : ∀ k, k < 3 → parseFieldDescriptor (TX5 k).2.2.1 = some (tyX5 k) := by decide +kernel
abbrev cX5_init : ByteArray := prog_7_method_1_code
def yX5_init : MethodName := ⟨RX5, "<init>", "(LStreamFuser$Plan;)V"⟩
abbrev cX5_simplify : ByteArray := prog_7_method_2_code
def yX5_simplify : MethodName := ⟨RX5, "simplify", "(Z)V"⟩
abbrev cX5_place : ByteArray := prog_7_method_3_code
def yX5_place : MethodName := ⟨RX5, "place", "(Z)I"⟩
abbrev cX5_ruleFor : ByteArray := prog_7_method_4_code
def yX5_ruleFor : MethodName := ⟨RX5, "ruleFor", "(I)I"⟩
abbrev cX5_ruleForTake : ByteArray := prog_7_method_5_code
def yX5_ruleForTake : MethodName := ⟨RX5, "ruleForTake", "(I)I"⟩
abbrev cX5_ruleForDrop : ByteArray := prog_7_method_6_code
def yX5_ruleForDrop : MethodName := ⟨RX5, "ruleForDrop", "(I)I"⟩
abbrev cX5_apply : ByteArray := prog_7_method_7_code
def yX5_apply : MethodName := ⟨RX5, "apply", "(II)V"⟩
abbrev cX5_swapDropWithTake : ByteArray := prog_7_method_8_code
def yX5_swapDropWithTake : MethodName := ⟨RX5, "swapDropWithTake", "(I)V"⟩
abbrev cX5_keepOnePart : ByteArray := prog_7_method_9_code
def yX5_keepOnePart : MethodName := ⟨RX5, "keepOnePart", "(I)V"⟩
abbrev cX5_mergeWithNext : ByteArray := prog_7_method_10_code
def yX5_mergeWithNext : MethodName := ⟨RX5, "mergeWithNext", "(II)V"⟩
def RX6 : String := "StreamFuser$Run"
def TX6 : u_T := fun k => match k with
  | 0 => ("StreamFuser$Run", "numbers", "[I", true)
  | 1 => ("StreamFuser$Run", "size", "I", false)
  | 2 => ("StreamFuser$Run", "drawn", "I", false)
  | 3 => ("StreamFuser$Run", "work", "I", false)
  | 4 => ("StreamFuser$Run", "elements", "I", false)
  | 5 => ("StreamFuser$Run", "failure", "I", false)
  | 6 => ("StreamFuser$Run", "failureDepth", "I", false)
  | 7 => ("StreamFuser$Run", "digits", "[I", true)
  | 8 => ("StreamFuser$Run", "notes", "[I", true)
  | _ => ("StreamFuser$Run", "pairs", "I", false)
def tyX6 : Nat → FieldType := fun k => match k with
  | 0 => .array .int
  | 1 => .int
  | 2 => .int
  | 3 => .int
  | 4 => .int
  | 5 => .int
  | 6 => .int
  | 7 => .array .int
  | 8 => .array .int
  | _ => .int
abbrev wsX60 : List Cond := u_ws RX6 TX6 10
theorem nmX6 : ∀ a, a < 10 → ∀ b, b < 10 → a ≠ b → (TX6 a).2.1 ≠ (TX6 b).2.1 := by decide +kernel
theorem tyX6_ok : ∀ k, k < 10 → parseFieldDescriptor (TX6 k).2.2.1 = some (tyX6 k) := by decide +kernel
abbrev cX6_init : ByteArray := prog_8_method_1_code
def yX6_init : MethodName := ⟨RX6, "<init>", "()V"⟩
abbrev cX6_begin : ByteArray := prog_8_method_2_code
def yX6_begin : MethodName := ⟨RX6, "begin", "()V"⟩
abbrev cX6_give : ByteArray := prog_8_method_3_code
def yX6_give : MethodName := ⟨RX6, "give", "(I)V"⟩
abbrev cX6_draw : ByteArray := prog_8_method_4_code
def yX6_draw : MethodName := ⟨RX6, "draw", "(I)Z"⟩
abbrev cX6_fail : ByteArray := prog_8_method_5_code
def yX6_fail : MethodName := ⟨RX6, "fail", "(II)V"⟩
abbrev cX6_failed : ByteArray := prog_8_method_6_code
def yX6_failed : MethodName := ⟨RX6, "failed", "()Z"⟩
abbrev cX6_note : ByteArray := prog_8_method_7_code
def yX6_note : MethodName := ⟨RX6, "note", "(II)V"⟩
abbrev cX6_kept : ByteArray := prog_8_method_8_code
def yX6_kept : MethodName := ⟨RX6, "kept", "()I"⟩
abbrev cX6_sum : ByteArray := prog_8_method_9_code
def yX6_sum : MethodName := ⟨RX6, "sum", "()J"⟩
abbrev cX6_greatest : ByteArray := prog_8_method_10_code
def yX6_greatest : MethodName := ⟨RX6, "greatest", "()I"⟩
abbrev cX6_smallest : ByteArray := prog_8_method_11_code
def yX6_smallest : MethodName := ⟨RX6, "smallest", "()I"⟩
def RX7 : String := "StreamFuser$Sheets"
def TX7 : u_T := fun k => match k with
  | 0 => ("StreamFuser$Sheets", "form", "[I", true)
  | 1 => ("StreamFuser$Sheets", "length", "[I", true)
  | _ => ("StreamFuser$Sheets", "elements", "[I", true)
def tyX7 : Nat → FieldType := fun k => match k with
  | 0 => .array .int
  | 1 => .array .int
  | _ => .array .int
abbrev wsX70 : List Cond := u_ws RX7 TX7 3
theorem nmX7 : ∀ a, a < 3 → ∀ b, b < 3 → a ≠ b → (TX7 a).2.1 ≠ (TX7 b).2.1 := by decide +kernel
theorem tyX7_ok : ∀ k, k < 3 → parseFieldDescriptor (TX7 k).2.2.1 = some (tyX7 k) := by decide +kernel
abbrev cX7_init : ByteArray := prog_9_method_1_code
def yX7_init : MethodName := ⟨RX7, "<init>", "()V"⟩
abbrev cX7_isLost : ByteArray := prog_9_method_2_code
def yX7_isLost : MethodName := ⟨RX7, "isLost", "(I)Z"⟩
abbrev cX7_hasElement : ByteArray := prog_9_method_3_code
def yX7_hasElement : MethodName := ⟨RX7, "hasElement", "(II)Z"⟩
abbrev cX7_hasPart : ByteArray := prog_9_method_4_code
def yX7_hasPart : MethodName := ⟨RX7, "hasPart", "(III)Z"⟩
abbrev cX7_renew : ByteArray := prog_9_method_5_code
def yX7_renew : MethodName := ⟨RX7, "renew", "(III)V"⟩
abbrev cX7_store : ByteArray := prog_9_method_6_code
def yX7_store : MethodName := ⟨RX7, "store", "(III)V"⟩
abbrev cX7_cast : ByteArray := prog_9_method_7_code
def yX7_cast : MethodName := ⟨RX7, "cast", "(II)I"⟩
abbrev cX7_at : ByteArray := prog_9_method_8_code
def yX7_at : MethodName := ⟨RX7, "at", "(II)I"⟩
abbrev cX7_move : ByteArray := prog_9_method_9_code
def yX7_move : MethodName := ⟨RX7, "move", "(IIIII)V"⟩
def RX8 : String := "StreamFuser$Stepper"
def TX8 : u_T := fun k => match k with
  | 0 => ("StreamFuser$Walk", "used", "[I", true)
  | 1 => ("StreamFuser$Walk", "turned", "[Z", true)
  | 2 => ("StreamFuser$Way", "plan", "LStreamFuser$Plan;", true)
  | 3 => ("StreamFuser$Way", "run", "LStreamFuser$Run;", true)
  | 4 => ("StreamFuser$Way", "sheets", "LStreamFuser$Sheets;", true)
  | 5 => ("StreamFuser$Way", "opened", "[I", true)
  | 6 => ("StreamFuser$Way", "value", "I", false)
  | _ => ("StreamFuser$Stepper", "held", "[I", true)
def tyX8 : Nat → FieldType := fun k => match k with
  | 0 => .array .int
  | 1 => .array .boolean
  | 2 => .object "StreamFuser$Plan"
  | 3 => .object "StreamFuser$Run"
  | 4 => .object "StreamFuser$Sheets"
  | 5 => .array .int
  | 6 => .int
  | _ => .array .int
abbrev wsX80 : List Cond := u_ws RX8 TX8 8
theorem nmX8 : ∀ a, a < 8 → ∀ b, b < 8 → a ≠ b → (TX8 a).2.1 ≠ (TX8 b).2.1 := by decide +kernel
theorem tyX8_ok : ∀ k, k < 8 → parseFieldDescriptor (TX8 k).2.2.1 = some (tyX8 k) := by decide +kernel
abbrev cX8_init : ByteArray := prog_10_method_1_code
def yX8_init : MethodName := ⟨RX8, "<init>", "(LStreamFuser$Plan;LStreamFuser$Run;LStreamFuser$Sheets;)V"⟩
abbrev cX8_play : ByteArray := prog_10_method_2_code
def yX8_play : MethodName := ⟨RX8, "play", "(I)V"⟩
abbrev cX8_step : ByteArray := prog_10_method_3_code
def yX8_step : MethodName := ⟨RX8, "step", "(II)I"⟩
abbrev cX8_stepOne : ByteArray := prog_10_method_4_code
def yX8_stepOne : MethodName := ⟨RX8, "stepOne", "(II)I"⟩
abbrev cX8_given : ByteArray := prog_10_method_5_code
def yX8_given : MethodName := ⟨RX8, "given", "(Z)I"⟩
abbrev cX8_stepChain : ByteArray := prog_10_method_6_code
def yX8_stepChain : MethodName := ⟨RX8, "stepChain", "(II)I"⟩
abbrev cX8_stepZip : ByteArray := prog_10_method_7_code
def yX8_stepZip : MethodName := ⟨RX8, "stepZip", "(II)I"⟩
abbrev cX8_stepOpener : ByteArray := prog_10_method_8_code
def yX8_stepOpener : MethodName := ⟨RX8, "stepOpener", "(II)I"⟩
def RX9 : String := "StreamFuser$Walk"
def TX9 : u_T := fun k => match k with
  | _ => ("", "", "", false)
def tyX9 : Nat → FieldType := fun k => match k with
  | _ => .int
abbrev wsX90 : List Cond := u_ws RX9 TX9 0
theorem nmX9 : ∀ a, a < 0 → ∀ b, b < 0 → a ≠ b → (TX9 a).2.1 ≠ (TX9 b).2.1 := by decide +kernel
theorem tyX9_ok : ∀ k, k < 0 → parseFieldDescriptor (TX9 k).2.2.1 = some (tyX9 k) := by decide +kernel
abbrev cX9_init : ByteArray := prog_11_method_1_code
def yX9_init : MethodName := ⟨RX9, "<init>", "(LStreamFuser$Plan;LStreamFuser$Run;LStreamFuser$Sheets;)V"⟩
abbrev cX9_restart : ByteArray := prog_11_method_2_code
def yX9_restart : MethodName := ⟨RX9, "restart", "(II)V"⟩
abbrev cX9_open : ByteArray := prog_11_method_3_code
def yX9_open : MethodName := ⟨RX9, "open", "(II)V"⟩
abbrev cX9_produce : ByteArray := prog_11_method_4_code
def yX9_produce : MethodName := ⟨RX9, "produce", "(I)Z"⟩
def RX10 : String := "StreamFuser$Way"
def TX10 : u_T := fun k => match k with
  | _ => ("", "", "", false)
def tyX10 : Nat → FieldType := fun k => match k with
  | _ => .int
abbrev wsX100 : List Cond := u_ws RX10 TX10 0
theorem nmX10 : ∀ a, a < 0 → ∀ b, b < 0 → a ≠ b → (TX10 a).2.1 ≠ (TX10 b).2.1 := by decide +kernel
theorem tyX10_ok : ∀ k, k < 0 → parseFieldDescriptor (TX10 k).2.2.1 = some (tyX10 k) := by decide +kernel
abbrev cX10_init : ByteArray := prog_12_method_1_code
def yX10_init : MethodName := ⟨RX10, "<init>", "(LStreamFuser$Plan;LStreamFuser$Run;LStreamFuser$Sheets;)V"⟩
abbrev cX10_openedFor : ByteArray := prog_12_method_2_code
def yX10_openedFor : MethodName := ⟨RX10, "openedFor", "(I)I"⟩
abbrev cX10_isReady : ByteArray := prog_12_method_3_code
def yX10_isReady : MethodName := ⟨RX10, "isReady", "(I)Z"⟩
abbrev cX10_supply : ByteArray := prog_12_method_4_code
def yX10_supply : MethodName := ⟨RX10, "supply", "(I)J"⟩
abbrev cX10_supplied : ByteArray := prog_12_method_5_code
def yX10_supplied : MethodName := ⟨RX10, "supplied", "(II)I"⟩
abbrev cX10_change : ByteArray := prog_12_method_6_code
def yX10_change : MethodName := ⟨RX10, "change", "(II)Z"⟩
abbrev cX10_divide : ByteArray := prog_12_method_7_code
def yX10_divide : MethodName := ⟨RX10, "divide", "(III)Z"⟩
abbrev cX10_modulo : ByteArray := prog_12_method_8_code
def yX10_modulo : MethodName := ⟨RX10, "modulo", "(II)I"⟩
abbrev cX10_passes : ByteArray := prog_12_method_9_code
def yX10_passes : MethodName := ⟨RX10, "passes", "(II)Z"⟩
abbrev cX10_join : ByteArray := prog_12_method_10_code
def yX10_join : MethodName := ⟨RX10, "join", "(III)I"⟩
def RX11 : String := "StreamFuser"
def TX11 : u_T := fun k => match k with
  | 0 => ("StreamFuser", "main", "LStreamFuser$Plan;", true)
  | 1 => ("StreamFuser", "printer", "LStreamFuser$Printer;", true)
  | 2 => ("StreamFuser", "rewriter", "LStreamFuser$Rewriter;", true)
  | 3 => ("StreamFuser", "sheets", "LStreamFuser$Sheets;", true)
  | 4 => ("StreamFuser", "latest", "LStreamFuser$Run;", true)
  | 5 => ("StreamFuser", "asker", "LStreamFuser$Asker;", true)
  | 6 => ("StreamFuser", "stepper", "LStreamFuser$Stepper;", true)
  | 7 => ("StreamFuser", "maker", "LStreamFuser$Maker;", true)
  | 8 => ("StreamFuser", "draft", "LStreamFuser$Plan;", true)
  | 9 => ("StreamFuser", "reader", "LStreamFuser$Reader;", true)
  | 10 => ("StreamFuser", "draftRewriter", "LStreamFuser$Rewriter;", true)
  | 11 => ("StreamFuser", "trial", "LStreamFuser$Run;", true)
  | 12 => ("StreamFuser", "trialAsker", "LStreamFuser$Asker;", true)
  | _ => ("StreamFuser", "finding", "I", false)
def tyX11 : Nat → FieldType := fun k => match k with
  | 0 => .object "StreamFuser$Plan"
  | 1 => .object "StreamFuser$Printer"
  | 2 => .object "StreamFuser$Rewriter"
  | 3 => .object "StreamFuser$Sheets"
  | 4 => .object "StreamFuser$Run"
  | 5 => .object "StreamFuser$Asker"
  | 6 => .object "StreamFuser$Stepper"
  | 7 => .object "StreamFuser$Maker"
  | 8 => .object "StreamFuser$Plan"
  | 9 => .object "StreamFuser$Reader"
  | 10 => .object "StreamFuser$Rewriter"
  | 11 => .object "StreamFuser$Run"
  | 12 => .object "StreamFuser$Asker"
  | _ => .int
abbrev wsX110 : List Cond := u_ws RX11 TX11 14
theorem nmX11 : ∀ a, a < 14 → ∀ b, b < 14 → a ≠ b → (TX11 a).2.1 ≠ (TX11 b).2.1 := by decide +kernel
theorem tyX11_ok : ∀ k, k < 14 → parseFieldDescriptor (TX11 k).2.2.1 = some (tyX11 k) := by decide +kernel
abbrev cX11_init : ByteArray := prog_1_method_1_code
def yX11_init : MethodName := ⟨RX11, "<init>", "()V"⟩
abbrev cX11_type : ByteArray := prog_1_method_2_code
def yX11_type : MethodName := ⟨RX11, "type", "(I)I"⟩
abbrev cX11_wipe : ByteArray := prog_1_method_3_code
def yX11_wipe : MethodName := ⟨RX11, "wipe", "()I"⟩
abbrev cX11_fault : ByteArray := prog_1_method_4_code
def yX11_fault : MethodName := ⟨RX11, "fault", "()I"⟩
abbrev cX11_plan : ByteArray := prog_1_method_5_code
def yX11_plan : MethodName := ⟨RX11, "plan", "()I"⟩
abbrev cX11_node : ByteArray := prog_1_method_6_code
def yX11_node : MethodName := ⟨RX11, "node", "(II)I"⟩
abbrev cX11_text : ByteArray := prog_1_method_7_code
def yX11_text : MethodName := ⟨RX11, "text", "(I)I"⟩
abbrev cX11_tidy : ByteArray := prog_1_method_8_code
def yX11_tidy : MethodName := ⟨RX11, "tidy", "(I)I"⟩
abbrev cX11_rules : ByteArray := prog_1_method_9_code
def yX11_rules : MethodName := ⟨RX11, "rules", "(I)I"⟩
abbrev cX11_saves : ByteArray := prog_1_method_10_code
def yX11_saves : MethodName := ⟨RX11, "saves", "(I)I"⟩
abbrev cX11_run : ByteArray := prog_1_method_11_code
def yX11_run : MethodName := ⟨RX11, "run", "(II)I"⟩
abbrev cX11_result : ByteArray := prog_1_method_12_code
def yX11_result : MethodName := ⟨RX11, "result", "(I)J"⟩
abbrev cX11_fold : ByteArray := prog_1_method_13_code
def yX11_fold : MethodName := ⟨RX11, "fold", "(I)J"⟩
abbrev cX11_failure : ByteArray := prog_1_method_14_code
def yX11_failure : MethodName := ⟨RX11, "failure", "(I)I"⟩
abbrev cX11_told : ByteArray := prog_1_method_15_code
def yX11_told : MethodName := ⟨RX11, "told", "(I)I"⟩
abbrev cX11_written : ByteArray := prog_1_method_16_code
def yX11_written : MethodName := ⟨RX11, "written", "(II)J"⟩
abbrev cX11_sheet : ByteArray := prog_1_method_17_code
def yX11_sheet : MethodName := ⟨RX11, "sheet", "(III)I"⟩
abbrev cX11_lose : ByteArray := prog_1_method_18_code
def yX11_lose : MethodName := ⟨RX11, "lose", "(I)I"⟩
abbrev cX11_lay : ByteArray := prog_1_method_19_code
def yX11_lay : MethodName := ⟨RX11, "lay", "(IIII)I"⟩
abbrev cX11_get : ByteArray := prog_1_method_20_code
def yX11_get : MethodName := ⟨RX11, "get", "(III)I"⟩
abbrev cX11_copy : ByteArray := prog_1_method_21_code
def yX11_copy : MethodName := ⟨RX11, "copy", "(IIIII)I"⟩
abbrev cX11_write : ByteArray := prog_1_method_22_code
def yX11_write : MethodName := ⟨RX11, "write", "(I)I"⟩
abbrev cX11_count : ByteArray := prog_1_method_23_code
def yX11_count : MethodName := ⟨RX11, "count", "(I)I"⟩
abbrev cX11_digest : ByteArray := prog_1_method_24_code
def yX11_digest : MethodName := ⟨RX11, "digest", "()J"⟩
abbrev cX11_mixPlan : ByteArray := prog_1_method_25_code
def yX11_mixPlan : MethodName := ⟨RX11, "mixPlan", "(J)J"⟩
abbrev cX11_mixRun : ByteArray := prog_1_method_26_code
def yX11_mixRun : MethodName := ⟨RX11, "mixRun", "(J)J"⟩
abbrev cX11_find : ByteArray := prog_1_method_27_code
def yX11_find : MethodName := ⟨RX11, "find", "(I)I"⟩
abbrev cX11_elementError : ByteArray := prog_1_method_28_code
def yX11_elementError : MethodName := ⟨RX11, "elementError", "(III)I"⟩
abbrev cX11_isSheet : ByteArray := prog_1_method_29_code
def yX11_isSheet : MethodName := ⟨RX11, "isSheet", "(I)Z"⟩
abbrev cX11_isForm : ByteArray := prog_1_method_30_code
def yX11_isForm : MethodName := ⟨RX11, "isForm", "(I)Z"⟩
def RX12 : String := "StreamFuserModel"
def TX12 : u_T := fun k => match k with
  | 0 => ("StreamFuserModel", "forms", "[I", true)
  | 1 => ("StreamFuserModel", "sizes", "[I", true)
  | 2 => ("StreamFuserModel", "items", "[I", true)
  | 3 => ("StreamFuserModel", "moved", "[I", true)
  | 4 => ("StreamFuserModel", "latest", "I", false)
  | 5 => ("StreamFuserModel", "text", "[I", true)
  | 6 => ("StreamFuserModel", "typed", "I", false)
  | 7 => ("StreamFuserModel", "wants", "[I", true)
  | 8 => ("StreamFuserModel", "wanted", "I", false)
  | 9 => ("StreamFuserModel", "figures", "I", false)
  | 10 => ("StreamFuserModel", "number", "I", false)
  | 11 => ("StreamFuserModel", "below", "Z", false)
  | 12 => ("StreamFuserModel", "readLetters", "[I", true)
  | 13 => ("StreamFuserModel", "readSigns", "[I", true)
  | 14 => ("StreamFuserModel", "readFirsts", "[I", true)
  | 15 => ("StreamFuserModel", "readSeconds", "[I", true)
  | 16 => ("StreamFuserModel", "read", "I", false)
  | 17 => ("StreamFuserModel", "letters", "[I", true)
  | 18 => ("StreamFuserModel", "signs", "[I", true)
  | 19 => ("StreamFuserModel", "firsts", "[I", true)
  | 20 => ("StreamFuserModel", "seconds", "[I", true)
  | 21 => ("StreamFuserModel", "nodes", "I", false)
  | 22 => ("StreamFuserModel", "sizes2", "[I", true)
  | 23 => ("StreamFuserModel", "ps", "[I", true)
  | 24 => ("StreamFuserModel", "qs", "[I", true)
  | 25 => ("StreamFuserModel", "deeps", "[I", true)
  | 26 => ("StreamFuserModel", "opens", "[I", true)
  | 27 => ("StreamFuserModel", "binders", "[I", true)
  | 28 => ("StreamFuserModel", "told", "[I", true)
  | 29 => ("StreamFuserModel", "bytes", "I", false)
  | 30 => ("StreamFuserModel", "used", "[I", true)
  | 31 => ("StreamFuserModel", "latestUsed", "[I", true)
  | 32 => ("StreamFuserModel", "usedAll", "I", false)
  | 33 => ("StreamFuserModel", "kept", "[I", true)
  | 34 => ("StreamFuserModel", "held", "[I", true)
  | 35 => ("StreamFuserModel", "failure", "I", false)
  | 36 => ("StreamFuserModel", "depth", "I", false)
  | 37 => ("StreamFuserModel", "drawn", "I", false)
  | 38 => ("StreamFuserModel", "counted", "I", false)
  | 39 => ("StreamFuserModel", "cells", "I", false)
  | 40 => ("StreamFuserModel", "results", "[I", true)
  | 41 => ("StreamFuserModel", "got", "I", false)
  | 42 => ("StreamFuserModel", "figuresDown", "[I", true)
  | 43 => ("StreamFuserModel", "numbersDown", "[I", true)
  | 44 => ("StreamFuserModel", "down", "I", false)
  | 45 => ("StreamFuserModel", "has", "Z", false)
  | 46 => ("StreamFuserModel", "value", "I", false)
  | 47 => ("StreamFuserModel", "pile", "[I", true)
  | 48 => ("StreamFuserModel", "high", "I", false)
  | 49 => ("StreamFuserModel", "rows", "[I", true)
  | 50 => ("StreamFuserModel", "longs", "[I", true)
  | 51 => ("StreamFuserModel", "phases", "[I", true)
  | 52 => ("StreamFuserModel", "at", "[I", true)
  | 53 => ("StreamFuserModel", "latestTold", "[I", true)
  | 54 => ("StreamFuserModel", "latestResults", "[I", true)
  | 55 => ("StreamFuserModel", "latestGot", "I", false)
  | 56 => ("StreamFuserModel", "latestFigures", "[I", true)
  | 57 => ("StreamFuserModel", "latestNumbers", "[I", true)
  | _ => ("StreamFuserModel", "asideNodes", "[I", true)
def tyX12 : Nat → FieldType := fun k => match k with
  | 0 => .array .int
  | 1 => .array .int
  | 2 => .array .int
  | 3 => .array .int
  | 4 => .int
  | 5 => .array .int
  | 6 => .int
  | 7 => .array .int
  | 8 => .int
  | 9 => .int
  | 10 => .int
  | 11 => .boolean
  | 12 => .array .int
  | 13 => .array .int
  | 14 => .array .int
  | 15 => .array .int
  | 16 => .int
  | 17 => .array .int
  | 18 => .array .int
  | 19 => .array .int
  | 20 => .array .int
  | 21 => .int
  | 22 => .array .int
  | 23 => .array .int
  | 24 => .array .int
  | 25 => .array .int
  | 26 => .array .int
  | 27 => .array .int
  | 28 => .array .int
  | 29 => .int
  | 30 => .array .int
  | 31 => .array .int
  | 32 => .int
  | 33 => .array .int
  | 34 => .array .int
  | 35 => .int
  | 36 => .int
  | 37 => .int
  | 38 => .int
  | 39 => .int
  | 40 => .array .int
  | 41 => .int
  | 42 => .array .int
  | 43 => .array .int
  | 44 => .int
  | 45 => .boolean
  | 46 => .int
  | 47 => .array .int
  | 48 => .int
  | 49 => .array .int
  | 50 => .array .int
  | 51 => .array .int
  | 52 => .array .int
  | 53 => .array .int
  | 54 => .array .int
  | 55 => .int
  | 56 => .array .int
  | 57 => .array .int
  | _ => .array .int
abbrev wsX120 : List Cond := u_ws RX12 TX12 59
theorem nmX12 : ∀ a, a < 59 → ∀ b, b < 59 → a ≠ b → (TX12 a).2.1 ≠ (TX12 b).2.1 := by decide +kernel
theorem tyX12_ok : ∀ k, k < 59 → parseFieldDescriptor (TX12 k).2.2.1 = some (tyX12 k) := by decide +kernel
abbrev cX12_init : ByteArray := prog_14_method_1_code
def yX12_init : MethodName := ⟨RX12, "<init>", "()V"⟩
abbrev cX12_in : ByteArray := prog_14_method_3_code
def yX12_in : MethodName := ⟨RX12, "in", "(JJJ)Z"⟩
abbrev cX12_no : ByteArray := prog_14_method_4_code
def yX12_no : MethodName := ⟨RX12, "no", "(I)J"⟩
abbrev cX12_lesser : ByteArray := prog_14_method_5_code
def yX12_lesser : MethodName := ⟨RX12, "lesser", "(II)I"⟩
abbrev cX12_greater : ByteArray := prog_14_method_6_code
def yX12_greater : MethodName := ⟨RX12, "greater", "(II)I"⟩
abbrev cX12_finds : ByteArray := prog_14_method_7_code
def yX12_finds : MethodName := ⟨RX12, "finds", "(I)I"⟩
abbrev cX12_isSheet : ByteArray := prog_14_method_8_code
def yX12_isSheet : MethodName := ⟨RX12, "isSheet", "(I)Z"⟩
abbrev cX12_sheet : ByteArray := prog_14_method_9_code
def yX12_sheet : MethodName := ⟨RX12, "sheet", "(III)I"⟩
abbrev cX12_lose : ByteArray := prog_14_method_10_code
def yX12_lose : MethodName := ⟨RX12, "lose", "(I)I"⟩
abbrev cX12_lacks : ByteArray := prog_14_method_11_code
def yX12_lacks : MethodName := ⟨RX12, "lacks", "(III)I"⟩
abbrev cX12_cut : ByteArray := prog_14_method_12_code
def yX12_cut : MethodName := ⟨RX12, "cut", "(II)I"⟩
abbrev cX12_lay : ByteArray := prog_14_method_13_code
def yX12_lay : MethodName := ⟨RX12, "lay", "(IIII)I"⟩
abbrev cX12_get : ByteArray := prog_14_method_14_code
def yX12_get : MethodName := ⟨RX12, "get", "(III)I"⟩
abbrev cX12_copy : ByteArray := prog_14_method_15_code
def yX12_copy : MethodName := ⟨RX12, "copy", "(IIIII)I"⟩
abbrev cX12_type : ByteArray := prog_14_method_16_code
def yX12_type : MethodName := ⟨RX12, "type", "(I)I"⟩
abbrev cX12_wipe : ByteArray := prog_14_method_17_code
def yX12_wipe : MethodName := ⟨RX12, "wipe", "()I"⟩
abbrev cX12_partsOf : ByteArray := prog_14_method_18_code
def yX12_partsOf : MethodName := ⟨RX12, "partsOf", "(I)I"⟩
abbrev cX12_wants : ByteArray := prog_14_method_19_code
def yX12_wants : MethodName := ⟨RX12, "wants", "(I)V"⟩
abbrev cX12_wantsBehind : ByteArray := prog_14_method_20_code
def yX12_wantsBehind : MethodName := ⟨RX12, "wantsBehind", "(II)V"⟩
abbrev cX12_takesLetter : ByteArray := prog_14_method_21_code
def yX12_takesLetter : MethodName := ⟨RX12, "takesLetter", "(II)Z"⟩
abbrev cX12_takesNumber : ByteArray := prog_14_method_22_code
def yX12_takesNumber : MethodName := ⟨RX12, "takesNumber", "(II)Z"⟩
abbrev cX12_takesSign : ByteArray := prog_14_method_23_code
def yX12_takesSign : MethodName := ⟨RX12, "takesSign", "(II)Z"⟩
abbrev cX12_faultNow : ByteArray := prog_14_method_24_code
def yX12_faultNow : MethodName := ⟨RX12, "faultNow", "()I"⟩
abbrev cX12_fault : ByteArray := prog_14_method_25_code
def yX12_fault : MethodName := ⟨RX12, "fault", "()I"⟩
abbrev cX12_places : ByteArray := prog_14_method_26_code
def yX12_places : MethodName := ⟨RX12, "places", "()V"⟩
abbrev cX12_hangs : ByteArray := prog_14_method_27_code
def yX12_hangs : MethodName := ⟨RX12, "hangs", "(IIZ)V"⟩
abbrev cX12_plan : ByteArray := prog_14_method_28_code
def yX12_plan : MethodName := ⟨RX12, "plan", "()I"⟩
abbrev cX12_isPure : ByteArray := prog_14_method_29_code
def yX12_isPure : MethodName := ⟨RX12, "isPure", "(I)Z"⟩
abbrev cX12_nodeBy : ByteArray := prog_14_method_30_code
def yX12_nodeBy : MethodName := ⟨RX12, "nodeBy", "(II)I"⟩
abbrev cX12_node : ByteArray := prog_14_method_31_code
def yX12_node : MethodName := ⟨RX12, "node", "(II)I"⟩
abbrev cX12_tells : ByteArray := prog_14_method_32_code
def yX12_tells : MethodName := ⟨RX12, "tells", "(I)V"⟩
abbrev cX12_tellsNumber : ByteArray := prog_14_method_33_code
def yX12_tellsNumber : MethodName := ⟨RX12, "tellsNumber", "(I)V"⟩
abbrev cX12_numbersOf : ByteArray := prog_14_method_34_code
def yX12_numbersOf : MethodName := ⟨RX12, "numbersOf", "(I)I"⟩
abbrev cX12_writesPlan : ByteArray := prog_14_method_35_code
def yX12_writesPlan : MethodName := ⟨RX12, "writesPlan", "()V"⟩
abbrev cX12_textBy : ByteArray := prog_14_method_36_code
def yX12_textBy : MethodName := ⟨RX12, "textBy", "(I)I"⟩
abbrev cX12_text : ByteArray := prog_14_method_37_code
def yX12_text : MethodName := ⟨RX12, "text", "(I)I"⟩
abbrev cX12_isNil : ByteArray := prog_14_method_38_code
def yX12_isNil : MethodName := ⟨RX12, "isNil", "(I)Z"⟩
abbrev cX12_changes : ByteArray := prog_14_method_39_code
def yX12_changes : MethodName := ⟨RX12, "changes", "(I)Z"⟩
abbrev cX12_ruleOfCut : ByteArray := prog_14_method_40_code
def yX12_ruleOfCut : MethodName := ⟨RX12, "ruleOfCut", "(I)I"⟩
abbrev cX12_ruleAt : ByteArray := prog_14_method_41_code
def yX12_ruleAt : MethodName := ⟨RX12, "ruleAt", "(I)I"⟩
abbrev cX12_cuts : ByteArray := prog_14_method_42_code
def yX12_cuts : MethodName := ⟨RX12, "cuts", "(II)V"⟩
abbrev cX12_becomes : ByteArray := prog_14_method_43_code
def yX12_becomes : MethodName := ⟨RX12, "becomes", "(IIII)V"⟩
abbrev cX12_nil : ByteArray := prog_14_method_44_code
def yX12_nil : MethodName := ⟨RX12, "nil", "(I)V"⟩
abbrev cX12_turns : ByteArray := prog_14_method_45_code
def yX12_turns : MethodName := ⟨RX12, "turns", "(I)V"⟩
abbrev cX12_uses : ByteArray := prog_14_method_46_code
def yX12_uses : MethodName := ⟨RX12, "uses", "(II)V"⟩
abbrev cX12_usesMore : ByteArray := prog_14_method_47_code
def yX12_usesMore : MethodName := ⟨RX12, "usesMore", "(III)V"⟩
abbrev cX12_tidiesOnce : ByteArray := prog_14_method_48_code
def yX12_tidiesOnce : MethodName := ⟨RX12, "tidiesOnce", "(I)Z"⟩
abbrev cX12_tidies : ByteArray := prog_14_method_49_code
def yX12_tidies : MethodName := ⟨RX12, "tidies", "(I)I"⟩
abbrev cX12_tidy : ByteArray := prog_14_method_50_code
def yX12_tidy : MethodName := ⟨RX12, "tidy", "(I)I"⟩
abbrev cX12_rules : ByteArray := prog_14_method_51_code
def yX12_rules : MethodName := ⟨RX12, "rules", "(I)I"⟩
abbrev cX12_fails : ByteArray := prog_14_method_52_code
def yX12_fails : MethodName := ⟨RX12, "fails", "(II)V"⟩
abbrev cX12_writesDown : ByteArray := prog_14_method_53_code
def yX12_writesDown : MethodName := ⟨RX12, "writesDown", "(II)V"⟩
abbrev cX12_begins : ByteArray := prog_14_method_54_code
def yX12_begins : MethodName := ⟨RX12, "begins", "(II)V"⟩
abbrev cX12_draws : ByteArray := prog_14_method_55_code
def yX12_draws : MethodName := ⟨RX12, "draws", "()Z"⟩
abbrev cX12_gives : ByteArray := prog_14_method_56_code
def yX12_gives : MethodName := ⟨RX12, "gives", "(I)V"⟩
abbrev cX12_made : ByteArray := prog_14_method_57_code
def yX12_made : MethodName := ⟨RX12, "made", "(II)I"⟩
abbrev cX12_passes : ByteArray := prog_14_method_58_code
def yX12_passes : MethodName := ⟨RX12, "passes", "(II)Z"⟩
abbrev cX12_joined : ByteArray := prog_14_method_59_code
def yX12_joined : MethodName := ⟨RX12, "joined", "(III)I"⟩
abbrev cX12_opensFor : ByteArray := prog_14_method_60_code
def yX12_opensFor : MethodName := ⟨RX12, "opensFor", "(II)V"⟩
abbrev cX12_asksNext : ByteArray := prog_14_method_61_code
def yX12_asksNext : MethodName := ⟨RX12, "asksNext", "(I)I"⟩
abbrev cX12_hears : ByteArray := prog_14_method_62_code
def yX12_hears : MethodName := ⟨RX12, "hears", "(I)I"⟩
abbrev cX12_hearsOne : ByteArray := prog_14_method_63_code
def yX12_hearsOne : MethodName := ⟨RX12, "hearsOne", "(I)I"⟩
abbrev cX12_hearsOpen : ByteArray := prog_14_method_64_code
def yX12_hearsOpen : MethodName := ⟨RX12, "hearsOpen", "(I)I"⟩
abbrev cX12_asks : ByteArray := prog_14_method_65_code
def yX12_asks : MethodName := ⟨RX12, "asks", "()Z"⟩
abbrev cX12_after : ByteArray := prog_14_method_66_code
def yX12_after : MethodName := ⟨RX12, "after", "(II)I"⟩
abbrev cX12_afterOne : ByteArray := prog_14_method_67_code
def yX12_afterOne : MethodName := ⟨RX12, "afterOne", "(II)I"⟩
abbrev cX12_steps : ByteArray := prog_14_method_68_code
def yX12_steps : MethodName := ⟨RX12, "steps", "()I"⟩
abbrev cX12_adds : ByteArray := prog_14_method_69_code
def yX12_adds : MethodName := ⟨RX12, "adds", "(II)V"⟩
abbrev cX12_fills : ByteArray := prog_14_method_70_code
def yX12_fills : MethodName := ⟨RX12, "fills", "(I)V"⟩
abbrev cX12_changesRow : ByteArray := prog_14_method_71_code
def yX12_changesRow : MethodName := ⟨RX12, "changesRow", "(I)V"⟩
abbrev cX12_joinsRows : ByteArray := prog_14_method_72_code
def yX12_joinsRows : MethodName := ⟨RX12, "joinsRows", "(I)V"⟩
abbrev cX12_opensRow : ByteArray := prog_14_method_73_code
def yX12_opensRow : MethodName := ⟨RX12, "opensRow", "(I)I"⟩
abbrev cX12_wantsRow : ByteArray := prog_14_method_74_code
def yX12_wantsRow : MethodName := ⟨RX12, "wantsRow", "(I)I"⟩
abbrev cX12_makesRows : ByteArray := prog_14_method_75_code
def yX12_makesRows : MethodName := ⟨RX12, "makesRows", "()V"⟩
abbrev cX12_runs : ByteArray := prog_14_method_76_code
def yX12_runs : MethodName := ⟨RX12, "runs", "(II)V"⟩
abbrev cX12_hasEndless : ByteArray := prog_14_method_77_code
def yX12_hasEndless : MethodName := ⟨RX12, "hasEndless", "()Z"⟩
abbrev cX12_run : ByteArray := prog_14_method_78_code
def yX12_run : MethodName := ⟨RX12, "run", "(II)I"⟩
abbrev cX12_result : ByteArray := prog_14_method_79_code
def yX12_result : MethodName := ⟨RX12, "result", "(I)J"⟩
abbrev cX12_foldBy : ByteArray := prog_14_method_80_code
def yX12_foldBy : MethodName := ⟨RX12, "foldBy", "(I)J"⟩
abbrev cX12_fold : ByteArray := prog_14_method_81_code
def yX12_fold : MethodName := ⟨RX12, "fold", "(I)J"⟩
abbrev cX12_failure : ByteArray := prog_14_method_82_code
def yX12_failure : MethodName := ⟨RX12, "failure", "(I)I"⟩
abbrev cX12_told : ByteArray := prog_14_method_83_code
def yX12_told : MethodName := ⟨RX12, "told", "(I)I"⟩
abbrev cX12_writtenBy : ByteArray := prog_14_method_84_code
def yX12_writtenBy : MethodName := ⟨RX12, "writtenBy", "(II)J"⟩
abbrev cX12_keptDown : ByteArray := prog_14_method_85_code
def yX12_keptDown : MethodName := ⟨RX12, "keptDown", "()I"⟩
abbrev cX12_written : ByteArray := prog_14_method_86_code
def yX12_written : MethodName := ⟨RX12, "written", "(II)J"⟩
abbrev cX12_write : ByteArray := prog_14_method_87_code
def yX12_write : MethodName := ⟨RX12, "write", "(I)I"⟩
abbrev cX12_lays : ByteArray := prog_14_method_88_code
def yX12_lays : MethodName := ⟨RX12, "lays", "(ZI)V"⟩
abbrev cX12_savesBy : ByteArray := prog_14_method_89_code
def yX12_savesBy : MethodName := ⟨RX12, "savesBy", "(I)I"⟩
abbrev cX12_saves : ByteArray := prog_14_method_90_code
def yX12_saves : MethodName := ⟨RX12, "saves", "(I)I"⟩
abbrev cX12_deepest : ByteArray := prog_14_method_91_code
def yX12_deepest : MethodName := ⟨RX12, "deepest", "()I"⟩
abbrev cX12_count : ByteArray := prog_14_method_92_code
def yX12_count : MethodName := ⟨RX12, "count", "(I)I"⟩
abbrev cX12_planTells : ByteArray := prog_14_method_93_code
def yX12_planTells : MethodName := ⟨RX12, "planTells", "(J)J"⟩
abbrev cX12_digest : ByteArray := prog_14_method_94_code
def yX12_digest : MethodName := ⟨RX12, "digest", "()J"⟩
def RJ9 : String := "java/lang/Math"
def TJ9 : u_T := fun k => match k with
  | _ => ("", "", "", false)
def tyJ9 : Nat → FieldType := fun k => match k with
  | _ => .int
abbrev wsJ90 : List Cond := u_ws RJ9 TJ9 0
theorem nmJ9 : ∀ a, a < 0 → ∀ b, b < 0 → a ≠ b → (TJ9 a).2.1 ≠ (TJ9 b).2.1 := by decide +kernel
theorem tyJ9_ok : ∀ k, k < 0 → parseFieldDescriptor (TJ9 k).2.2.1 = some (tyJ9 k) := by decide +kernel
abbrev cJ9_floorMod_7cf53 : ByteArray := prog_15_method_50_code
def yJ9_floorMod_7cf53 : MethodName := ⟨RJ9, "floorMod", "(II)I"⟩
abbrev cJ9_abs_067f4 : ByteArray := prog_15_method_61_code
def yJ9_abs_067f4 : MethodName := ⟨RJ9, "abs", "(J)J"⟩
abbrev cJ9_max_7cf53 : ByteArray := prog_15_method_65_code
def yJ9_max_7cf53 : MethodName := ⟨RJ9, "max", "(II)I"⟩
abbrev cJ9_max_f86c9 : ByteArray := prog_15_method_66_code
def yJ9_max_f86c9 : MethodName := ⟨RJ9, "max", "(JJ)J"⟩
abbrev cJ9_min_7cf53 : ByteArray := prog_15_method_69_code
def yJ9_min_7cf53 : MethodName := ⟨RJ9, "min", "(II)I"⟩
def RJ10 : String := "java/lang/System"
def TJ10 : u_T := fun k => match k with
  | _ => ("", "", "", false)
def tyJ10 : Nat → FieldType := fun k => match k with
  | _ => .int
abbrev wsJ100 : List Cond := u_ws RJ10 TJ10 0
theorem nmJ10 : ∀ a, a < 0 → ∀ b, b < 0 → a ≠ b → (TJ10 a).2.1 ≠ (TJ10 b).2.1 := by decide +kernel
theorem tyJ10_ok : ∀ k, k < 0 → parseFieldDescriptor (TJ10 k).2.2.1 = some (tyJ10 k) := by decide +kernel
def RL : String := "StreamFuserLaw"
abbrev cL_law : ByteArray := code
def yL_law : MethodName := ⟨RL, "law", "([I)Z"⟩
abbrev vwCl : List vw_C := [(RX0, TX0, 7), (RX1, TX1, 7), (RX2, TX2, 12), (RX3, TX3, 3), (RX4, TX4, 7), (RX5, TX5, 3), (RX6, TX6, 10), (RX7, TX7, 3), (RX8, TX8, 8), (RX11, TX11, 14), (RX12, TX12, 59)]
end
section
/-! THE SMALL MACHINE: bytecode over a world of fixed cells, as a function. A state gives each cell k and place j a number; references are constant. -/
abbrev sf_S : Type := Nat → Nat → Int32
abbrev sf_L : Type := List (Option Value)
abbrev sf_Q : Type := Option Value × sf_S
/-- the shape of the cells: an object (its class's place in vwCl, its fields: some k a reference to cell k, none a number), or an array (0 int, 1 boolean, 2 byte; its length) -/
abbrev sf_Lay : Type := List ((Nat × List (Option Nat)) ⊕ (Nat × Nat))
abbrev sf_K (ρ : Type) : Type := Nat → sf_L → List Value → sf_S → Option ρ
/-- a call: the stack and the state before, what goes on behind -/
abbrev sf_J (ρ : Type) : Type := List Value → sf_S → (List Value → sf_S → Option ρ) → Option ρ
/-- a place of the code where a function of one's own takes over -/
abbrev sf_M (ρ : Type) : Type := sf_L → List Value → sf_S → Option ρ
/-- an instruction: itself, the next place, where it jumps, the constant that it brings, a switch's rows, a field's places by classes -/
abbrev sf_E : Type := Instr × Nat × Nat × Value × List (Int32 × Nat) × List (Nat × Nat)
def sf_up (σ : sf_S) (k j : Nat) (v : Int32) : sf_S := fun a b => if a = k ∧ b = j then v else σ a b
def sf_in (i : Int32) (n : Nat) : Bool := !(decide (i < 0)) && decide (i.toNatClampNeg < n)
def sf_01 (x : Int32) : Bool := decide (x = 0) || decide (x = 1)
def sf_get : sf_L → Nat → Option Value
  | [], _ => none
  | a :: _, 0 => a
  | _ :: l, n + 1 => sf_get l n
def sf_put : sf_L → Nat → Option Value → sf_L
  | [], _, _ => []
  | _ :: l, 0, v => v :: l
  | a :: l, n + 1, v => a :: sf_put l n v
/-- the place ahead of i loses a long that reached into i -/
def sf_cut (L : sf_L) : Nat → sf_L
  | 0 => L
  | j + 1 => match sf_get L j with
    | some (.long _) => sf_put L j none
    | some (.double _) => sf_put L j none
    | _ => L
def sf_st1 (L : sf_L) (i : Nat) (v : Value) : sf_L := sf_put (sf_cut L i) i (some v)
def sf_st2 (L : sf_L) (i : Nat) (v : Value) : sf_L := sf_put (sf_put (sf_cut L i) i (some v)) (i + 1) none
def sf_as {α : Type} : List (Nat × α) → Nat → Option α
  | [], _ => none
  | (k, a) :: l, n => if Nat.beq k n then some a else sf_as l n
def sf_sw {ρ : Type} (K : Nat → Option ρ) (x : Int32) (d : Nat) : List (Int32 × Nat) → Option ρ
  | [] => K d
  | (a, t) :: l => if x = a then K t else sf_sw K x d l
def sf_i1 {ρ : Type} (st : List Value) (f : Int32 → List Value → Option ρ) : Option ρ := match st with
  | .int x :: r => f x r
  | _ => none
def sf_i2 {ρ : Type} (st : List Value) (f : Int32 → Int32 → List Value → Option ρ) : Option ρ := match st with
  | .int y :: .int x :: r => f x y r
  | _ => none
def sf_l1 {ρ : Type} (st : List Value) (f : Int64 → List Value → Option ρ) : Option ρ := match st with
  | .long x :: r => f x r
  | _ => none
def sf_l2 {ρ : Type} (st : List Value) (f : Int64 → Int64 → List Value → Option ρ) : Option ρ := match st with
  | .long y :: .long x :: r => f x y r
  | _ => none
def sf_ar {ρ : Type} (lay : sf_Lay) (q : Nat) (f : Nat → Nat → Option ρ) : Option ρ := match lay[q]? with
  | some (.inr (t, n)) => f t n
  | _ => none
def sf_ob {ρ : Type} (lay : sf_Lay) (q : Nat) (f : Nat → List (Option Nat) → Option ρ) : Option ρ := match lay[q]? with
  | some (.inl (c, fs)) => f c fs
  | _ => none
def sf_ldi {ρ : Type} (L : sf_L) (i : Nat) (f : Int32 → Option ρ) : Option ρ := match sf_get L i with
  | some (.int x) => f x
  | _ => none
def sf_ldl {ρ : Type} (L : sf_L) (i : Nat) (f : Int64 → Option ρ) : Option ρ := match sf_get L i with
  | some (.long x) => f x
  | _ => none
def sf_lda {ρ : Type} (L : sf_L) (i : Nat) (f : Nat → Option ρ) : Option ρ := match sf_get L i with
  | some (.ref x) => f x
  | _ => none
def sf_getf {ρ : Type} (lay : sf_Lay) (fp : List (Nat × Nat)) (q : Nat) (σ : sf_S) (f : Value → Option ρ) : Option ρ := sf_ob lay q fun c fs => match sf_as fp c with
  | some k => match fs[k]? with
    | some (some q2) => f (.ref q2)
    | some none => f (.int (σ q k))
    | none => none
  | none => none
/-- a field's place, where it is a number -/
def sf_putf {ρ : Type} (lay : sf_Lay) (fp : List (Nat × Nat)) (q : Nat) (f : Nat → Option ρ) : Option ρ := sf_ob lay q fun c fs => match sf_as fp c with
  | some k => match fs[k]? with
    | some none => f k
    | _ => none
  | none => none
/-- one instruction; rh: what the method answers; J: its calls, by their places -/
def sf_step {ρ : Type} (lay : sf_Lay) (rh : Option Value → sf_S → Option ρ) (J : List (Nat × sf_J ρ)) (e : sf_E) (pc : Nat) (L : sf_L) (st : List Value) (σ : sf_S) (K : sf_K ρ) : Option ρ :=
  match e with
  | (ins, nx, tg, v, sw, fp) =>
    match ins with
    | .iconst _ => K nx L (v :: st) σ
    | .bipush _ => K nx L (v :: st) σ
    | .sipush _ => K nx L (v :: st) σ
    | .ldc _ => K nx L (v :: st) σ
    | .ldc_w _ => K nx L (v :: st) σ
    | .ldc2_w _ => K nx L (v :: st) σ
    | .lconst _ => K nx L (v :: st) σ
    | .iload_n i => sf_ldi L i fun x => K nx L (.int x :: st) σ
    | .iload i => sf_ldi L i fun x => K nx L (.int x :: st) σ
    | .lload_n i => sf_ldl L i fun x => K nx L (.long x :: st) σ
    | .lload i => sf_ldl L i fun x => K nx L (.long x :: st) σ
    | .aload_n i => sf_lda L i fun x => K nx L (.ref x :: st) σ
    | .aload i => sf_lda L i fun x => K nx L (.ref x :: st) σ
    | .istore_n i => sf_i1 st fun x r => K nx (sf_st1 L i (.int x)) r σ
    | .istore i => sf_i1 st fun x r => K nx (sf_st1 L i (.int x)) r σ
    | .lstore_n i => sf_l1 st fun x r => K nx (sf_st2 L i (.long x)) r σ
    | .lstore i => sf_l1 st fun x r => K nx (sf_st2 L i (.long x)) r σ
    | .iinc i _ => sf_ldi L i fun x => match v with
      | .int d => K nx (sf_st1 L i (.int (x + d))) st σ
      | _ => none
    | .iadd => sf_i2 st fun x y r => K nx L (.int (x + y) :: r) σ
    | .isub => sf_i2 st fun x y r => K nx L (.int (x - y) :: r) σ
    | .imul => sf_i2 st fun x y r => K nx L (.int (x * y) :: r) σ
    | .ixor => sf_i2 st fun x y r => K nx L (.int (x ^^^ y) :: r) σ
    | .idiv => sf_i2 st fun x y r => if y = 0 then none else K nx L (.int (x / y) :: r) σ
    | .irem => sf_i2 st fun x y r => if y = 0 then none else K nx L (.int (x - x / y * y) :: r) σ
    | .ineg => sf_i1 st fun x r => K nx L (.int (-x) :: r) σ
    | .ladd => sf_l2 st fun x y r => K nx L (.long (x + y) :: r) σ
    | .lsub => sf_l2 st fun x y r => K nx L (.long (x - y) :: r) σ
    | .lmul => sf_l2 st fun x y r => K nx L (.long (x * y) :: r) σ
    | .ldiv => sf_l2 st fun x y r => if y = 0 then none else K nx L (.long (x / y) :: r) σ
    | .lrem => sf_l2 st fun x y r => if y = 0 then none else K nx L (.long (x - x / y * y) :: r) σ
    | .lneg => sf_l1 st fun x r => K nx L (.long (-x) :: r) σ
    | .lcmp => sf_l2 st fun x y r => K nx L (.int (lg_cmp x y) :: r) σ
    | .i2l => sf_i1 st fun x r => K nx L (.long x.toInt64 :: r) σ
    | .l2i => sf_l1 st fun x r => K nx L (.int x.toInt32 :: r) σ
    | .i2b => sf_i1 st fun x r => K nx L (.int x.toInt8.toInt32 :: r) σ
    | .i2s => sf_i1 st fun x r => K nx L (.int x.toInt16.toInt32 :: r) σ
    | .dup => match st with
      | .int x :: r => K nx L (.int x :: .int x :: r) σ
      | .ref x :: r => K nx L (.ref x :: .ref x :: r) σ
      | _ => none
    | .dup2 => match st with
      | .int x :: .ref y :: r => K nx L (.int x :: .ref y :: .int x :: .ref y :: r) σ
      | _ => none
    | .pop => match st with
      | .int _ :: r => K nx L r σ
      | .ref _ :: r => K nx L r σ
      | _ => none
    | .goto _ => K tg L st σ
    | .ifCond .eq _ => sf_i1 st fun x r => if x = 0 then K tg L r σ else K nx L r σ
    | .ifCond .ne _ => sf_i1 st fun x r => if ¬ x = 0 then K tg L r σ else K nx L r σ
    | .ifCond .lt _ => sf_i1 st fun x r => if x < 0 then K tg L r σ else K nx L r σ
    | .ifCond .ge _ => sf_i1 st fun x r => if 0 ≤ x then K tg L r σ else K nx L r σ
    | .ifCond .gt _ => sf_i1 st fun x r => if 0 < x then K tg L r σ else K nx L r σ
    | .ifCond .le _ => sf_i1 st fun x r => if x ≤ 0 then K tg L r σ else K nx L r σ
    | .if_icmp .eq _ => sf_i2 st fun x y r => if x = y then K tg L r σ else K nx L r σ
    | .if_icmp .ne _ => sf_i2 st fun x y r => if ¬ x = y then K tg L r σ else K nx L r σ
    | .if_icmp .lt _ => sf_i2 st fun x y r => if x < y then K tg L r σ else K nx L r σ
    | .if_icmp .ge _ => sf_i2 st fun x y r => if y ≤ x then K tg L r σ else K nx L r σ
    | .if_icmp .gt _ => sf_i2 st fun x y r => if y < x then K tg L r σ else K nx L r σ
    | .if_icmp .le _ => sf_i2 st fun x y r => if x ≤ y then K tg L r σ else K nx L r σ
    | .tableswitch _ _ _ _ => sf_i1 st fun x r => sf_sw (fun t => K t L r σ) x tg sw
    | .lookupswitch _ _ => sf_i1 st fun x r => sf_sw (fun t => K t L r σ) x tg sw
    | .getfield _ => match st with
      | .ref q :: r => sf_getf lay fp q σ fun y => K nx L (y :: r) σ
      | _ => none
    | .putfield _ => match st with
      | .int x :: .ref q :: r => sf_putf lay fp q fun k => match v with
        | .null => K nx L r (sf_up σ q k x)
        | _ => if sf_01 x then K nx L r (sf_up σ q k x) else none
      | _ => none
    | .iaload => match st with
      | .int i :: .ref q :: r => sf_ar lay q fun t n => match t with
        | 0 => if sf_in i n then K nx L (.int (σ q i.toNatClampNeg) :: r) σ else none
        | _ => none
      | _ => none
    | .baload => match st with
      | .int i :: .ref q :: r => sf_ar lay q fun t n => match t with
        | 1 => if sf_in i n then K nx L (.int (σ q i.toNatClampNeg) :: r) σ else none
        | 2 => if sf_in i n then K nx L (.int (σ q i.toNatClampNeg) :: r) σ else none
        | _ => none
      | _ => none
    | .iastore => match st with
      | .int x :: .int i :: .ref q :: r => sf_ar lay q fun t n => match t with
        | 0 => if sf_in i n then K nx L r (sf_up σ q i.toNatClampNeg x) else none
        | _ => none
      | _ => none
    | .bastore => match st with
      | .int x :: .int i :: .ref q :: r => sf_ar lay q fun t n => match t with
        | 1 => if sf_in i n then K nx L r (sf_up σ q i.toNatClampNeg (vp_nar .boolean x)) else none
        | 2 => if sf_in i n then K nx L r (sf_up σ q i.toNatClampNeg (vp_nar .byte x)) else none
        | _ => none
      | _ => none
    | .ireturn => match st with
      | [.int x] => rh (some (.int x)) σ
      | _ => none
    | .lreturn => match st with
      | [.long x] => rh (some (.long x)) σ
      | _ => none
    | .return_ => match st with
      | [] => rh none σ
      | _ => none
    | .invokevirtual _ => match sf_as J pc with
      | some j => j st σ fun st2 σ2 => K nx L st2 σ2
      | none => none
    | .invokestatic _ => match sf_as J pc with
      | some j => j st σ fun st2 σ2 => K nx L st2 σ2
      | none => none
    | _ => none
/-- n instructions at most, from a place on; at the places of sm one's own functions take over -/
def sf_run {ρ : Type} (lay : sf_Lay) (rh : Option Value → sf_S → Option ρ) (J : List (Nat × sf_J ρ)) (tab : List (Nat × sf_E)) (sm : List (Nat × sf_M ρ)) : Nat → sf_K ρ
  | 0 => fun _ _ _ _ => none
  | n + 1 => fun pc L st σ => match sf_as tab pc with
    | some e => sf_step lay rh J e pc L st σ fun pc2 L2 st2 σ2 => match sf_as sm pc2 with
      | some f => f L2 st2 σ2
      | none => sf_run lay rh J tab sm n pc2 L2 st2 σ2
    | none => none
/-- what methods answer: a number (any, or 0 and 1 alone), a long, nothing -/
def sf_hI (v : Option Value) (σ : sf_S) : Option (Int32 × sf_S) := match v with
  | some (.int x) => some (x, σ)
  | _ => none
def sf_hZ (v : Option Value) (σ : sf_S) : Option (Int32 × sf_S) := match v with
  | some (.int x) => if sf_01 x then some (x, σ) else none
  | _ => none
def sf_hL (v : Option Value) (σ : sf_S) : Option (Int64 × sf_S) := match v with
  | some (.long x) => some (x, σ)
  | _ => none
def sf_hV (v : Option Value) (σ : sf_S) : Option sf_S := match v with
  | none => some σ
  | _ => none
def sf_vI (u : Int32 × sf_S) : sf_Q := (some (.int u.1), u.2)
def sf_vL (u : Int64 × sf_S) : sf_Q := (some (.long u.1), u.2)
def sf_vV (u : sf_S) : sf_Q := (none, u)
/-- the n words on top are a call's: the lowest of them is an object of the classes cs (where cs is empty: no receiver is asked for), four words at most lie below -/
def sf_rc (lay : sf_Lay) (cs : List Nat) (n : Nat) (st : List Value) : Bool := Nat.ble n st.length && Nat.ble st.length (n + 4) && (match cs with
  | [] => true
  | _ => match st[n - 1]? with
    | some (.ref q) => match lay[q]? with
      | some (.inl (c, _)) => cs.any (fun x => Nat.beq x c)
      | _ => false
    | _ => false)
def sf_jI {ρ : Type} (lay : sf_Lay) (cs : List Nat) (n : Nat) (g : List Value → sf_S → Option (Int32 × sf_S)) : sf_J ρ := fun st σ K => if sf_rc lay cs n st then (g (st.take n).reverse σ).bind fun u => K (.int u.1 :: st.drop n) u.2 else none
def sf_jL {ρ : Type} (lay : sf_Lay) (cs : List Nat) (n : Nat) (g : List Value → sf_S → Option (Int64 × sf_S)) : sf_J ρ := fun st σ K => if sf_rc lay cs n st then (g (st.take n).reverse σ).bind fun u => K (.long u.1 :: st.drop n) u.2 else none
def sf_jV {ρ : Type} (lay : sf_Lay) (cs : List Nat) (n : Nat) (g : List Value → sf_S → Option sf_S) : sf_J ρ := fun st σ K => if sf_rc lay cs n st then (g (st.take n).reverse σ).bind fun u => K (st.drop n) u else none
/-- Math's own, and arraycopy over the numbers of one array -/
def sf_jmax {ρ : Type} : sf_J ρ := fun st σ K => match st with
  | .int y :: .int x :: r => if Nat.ble r.length 4 then K (.int (if x < y then y else x) :: r) σ else none
  | _ => none
def sf_jmin {ρ : Type} : sf_J ρ := fun st σ K => match st with
  | .int y :: .int x :: r => if Nat.ble r.length 4 then K (.int (if y < x then y else x) :: r) σ else none
  | _ => none
def sf_jmaxL {ρ : Type} : sf_J ρ := fun st σ K => match st with
  | .long y :: .long x :: r => if Nat.ble r.length 4 then K (.long (if y < x then x else y) :: r) σ else none
  | _ => none
def sf_jabsL {ρ : Type} : sf_J ρ := fun st σ K => match st with
  | .long x :: r => if Nat.ble r.length 4 then K (.long (if 0 < x then x else -x) :: r) σ else none
  | _ => none
def sf_cpy (σ : sf_S) (q : Nat) (i j n : Int32) : sf_S := fun a b => if a = q then va_cpy (σ q) (σ q) i.toNatClampNeg j.toNatClampNeg n.toNatClampNeg b else σ a b
def sf_jcpy {ρ : Type} (lay : sf_Lay) : sf_J ρ := fun st σ K => match st with
  | .int n :: .int j :: .ref q :: .int i :: .ref q2 :: r => if Nat.ble r.length 4 && Nat.beq q q2 then sf_ar lay q fun t N => match t with
      | 0 => if !(decide (i < 0)) && !(decide (j < 0)) && !(decide (n < 0)) && Nat.ble (i.toNatClampNeg + n.toNatClampNeg) N && Nat.ble (j.toNatClampNeg + n.toNatClampNeg) N then K r (sf_cpy σ q i j n) else none
      | _ => none
    else none
  | _ => none
end
section
/-! THE SMALL MACHINE IS SOUND: what it says of a method's code, the machine does -/
def sf_v (ad : Nat → Nat) : Value → Value
  | .ref q => .ref (ad q)
  | v => v
def sf_fv (ad : Nat → Nat) (x : Int32) : Option Nat → Value
  | some q => .ref (ad q)
  | none => .int x
def sf_ce (ad : Nat → Nat) (cy : Nat → ClassId) (σ : sf_S) (k : Nat) : (Nat × List (Option Nat)) ⊕ (Nat × Nat) → va_E
  | .inl (ci, fs) => .inr (ci, fs.mapIdx fun j f => sf_fv ad (σ k j) f)
  | .inr (t, n) => .inl (cy t, n, .inl (σ k))
def sf_wd (lay : sf_Lay) (ad : Nat → Nat) (cy : Nat → ClassId) (σ : sf_S) : va_W := lay.mapIdx fun k sh => (ad k, sf_ce ad cy σ k sh)
def sf_ty (cy : Nat → ClassId) : List (ClassId × FieldType) := [(cy 0, .int), (cy 1, .boolean), (cy 2, .byte)]
def sf_A (lay : sf_Lay) (ad : Nat → Nat) (sz : Nat) : Nat → Prop := fun q => (∃ k, k < lay.length ∧ q = ad k) ∨ sz ≤ q
def sf_inj (lay : sf_Lay) (ad : Nat → Nat) : Prop := ∀ i j, i < lay.length → j < lay.length → ad i = ad j → i = j
def sf_LV (ls : Array Slot) (nL : Nat) (ad : Nat → Nat) (L : sf_L) : Prop := ls.size = nL ∧ lv_wf ls ∧ ∀ i v, sf_get L i = some v → ls[i]? = some (.val (sf_v ad v))
theorem sf_v_cat (ad : Nat → Nat) (v : Value) : (sf_v ad v).category = v.category := by cases v <;> rfl
theorem sf_get_put : ∀ (L : sf_L) (i : Nat) (o : Option Value) (j : Nat) (w : Value), sf_get (sf_put L i o) j = some w → (j = i ∧ o = some w) ∨ (j ≠ i ∧ sf_get L j = some w)
  | [], _, _, _, _, h => by simp [sf_put, sf_get] at h
  | a :: L, 0, o, 0, w, h => Or.inl ⟨rfl, by simpa [sf_put, sf_get] using h⟩
  | a :: L, 0, o, j + 1, w, h => Or.inr ⟨by omega, by simpa [sf_put, sf_get] using h⟩
  | a :: L, i + 1, o, 0, w, h => Or.inr ⟨by omega, by simpa [sf_put, sf_get] using h⟩
  | a :: L, i + 1, o, j + 1, w, h => by
    rcases sf_get_put L i o j w (by simpa [sf_put, sf_get] using h) with ⟨h1, h2⟩ | ⟨h1, h2⟩
    · exact Or.inl ⟨by omega, h2⟩
    · exact Or.inr ⟨by omega, by simpa [sf_get] using h2⟩
theorem sf_get_cut {L : sf_L} {i j : Nat} {w : Value} (h : sf_get (sf_cut L i) j = some w) : sf_get L j = some w ∧ ¬ (j + 1 = i ∧ w.category = 2) := by
  cases i with
  | zero => exact ⟨h, by omega⟩
  | succ k =>
    simp only [sf_cut] at h
    split at h
    · rcases sf_get_put _ _ _ _ _ h with ⟨-, h2⟩ | ⟨h1, h2⟩
      · cases h2
      · exact ⟨h2, by omega⟩
    · rcases sf_get_put _ _ _ _ _ h with ⟨-, h2⟩ | ⟨h1, h2⟩
      · cases h2
      · exact ⟨h2, by omega⟩
    · rename_i hn1 hn2
      refine ⟨h, fun ⟨q1, q2⟩ => ?_⟩
      have : j = k := by omega
      subst this
      cases w with
      | long x => exact hn1 _ h
      | double x => exact hn2 _ h
      | _ => simp [Value.category] at q2
def sf_prs (ad : Nat → Nat) (nL : Nat) (L : sf_L) : List (Nat × Value) := (List.range nL).filterMap fun i => (sf_get L i).map fun v => (i, sf_v ad v)
theorem sf_mem_prs {ad : Nat → Nat} {nL : Nat} {L : sf_L} {i : Nat} {v : Value} (hi : i < nL) (h : sf_get L i = some v) : (i, sf_v ad v) ∈ sf_prs ad nL L :=
  List.mem_filterMap.mpr ⟨i, List.mem_range.mpr hi, by simp [h]⟩
theorem sf_LV.has {ls : Array Slot} {nL : Nat} {ad : Nat → Nat} {L : sf_L} (h : sf_LV ls nL ad L) : lv_has ls nL (sf_prs ad nL L) := by
  refine ⟨h.1, h.2.1, fun q hq => ?_⟩
  obtain ⟨i, -, hi⟩ := List.mem_filterMap.mp hq
  cases hg : sf_get L i with
  | none => simp [hg] at hi
  | some v =>
    simp [hg] at hi
    rw [← hi]
    exact h.2.2 i v hg
theorem sf_LV.lt {ls : Array Slot} {nL : Nat} {ad : Nat → Nat} {L : sf_L} (h : sf_LV ls nL ad L) {i : Nat} {v : Value} (hg : sf_get L i = some v) : i < nL := by
  have := lv_lt (h.2.2 i v hg)
  rw [h.1] at this
  exact this
theorem sf_LV.st1 {ls ls' : Array Slot} {nL : Nat} {ad : Nat → Nat} {L : sf_L} {i : Nat} {v w : Value} (h : sf_LV ls nL ad L) (hw : sf_v ad v = w) (h' : lv_has ls' nL ((i, w) :: (sf_prs ad nL L).filter (fun q => !(q.1 == i) && !(q.1 + 1 == i && q.2.category == 2)))) : sf_LV ls' nL ad (sf_st1 L i v) := by
  refine ⟨h'.1, h'.2.1, fun j x hg => ?_⟩
  rcases sf_get_put _ _ _ _ _ hg with ⟨h1, h2⟩ | ⟨h1, h2⟩
  · cases h2
    subst h1
    rw [hw]
    exact h'.2.2 (j, w) List.mem_cons_self
  · obtain ⟨h3, h4⟩ := sf_get_cut h2
    refine h'.2.2 (j, sf_v ad x) (List.mem_cons_of_mem _ (List.mem_filter.mpr ⟨sf_mem_prs (h.lt h3) h3, ?_⟩))
    simp only [Bool.and_eq_true, Bool.not_eq_true', beq_eq_false_iff_ne, ne_eq, Bool.and_eq_false_iff, sf_v_cat]
    refine ⟨h1, ?_⟩
    by_cases hc : j + 1 = i
    · exact Or.inr fun hx => h4 ⟨hc, hx⟩
    · exact Or.inl hc
theorem sf_LV.st2 {ls ls' : Array Slot} {nL : Nat} {ad : Nat → Nat} {L : sf_L} {i : Nat} {v w : Value} (h : sf_LV ls nL ad L) (hw : sf_v ad v = w) (h' : lv_has ls' nL ((i, w) :: (sf_prs ad nL L).filter (fun q => !(q.1 == i) && (!(q.1 == i + 1) && !(q.1 + 1 == i && q.2.category == 2))))) : sf_LV ls' nL ad (sf_st2 L i v) := by
  refine ⟨h'.1, h'.2.1, fun j x hg => ?_⟩
  rcases sf_get_put _ _ _ _ _ hg with ⟨-, h2⟩ | ⟨h0, hg⟩
  · cases h2
  rcases sf_get_put _ _ _ _ _ hg with ⟨h1, h2⟩ | ⟨h1, h2⟩
  · cases h2
    subst h1
    rw [hw]
    exact h'.2.2 (j, w) List.mem_cons_self
  · obtain ⟨h3, h4⟩ := sf_get_cut h2
    refine h'.2.2 (j, sf_v ad x) (List.mem_cons_of_mem _ (List.mem_filter.mpr ⟨sf_mem_prs (h.lt h3) h3, ?_⟩))
    simp only [Bool.and_eq_true, Bool.not_eq_true', beq_eq_false_iff_ne, ne_eq, Bool.and_eq_false_iff, sf_v_cat]
    refine ⟨h1, h0, ?_⟩
    by_cases hc : j + 1 = i
    · exact Or.inr fun hx => h4 ⟨hc, hx⟩
    · exact Or.inl hc
theorem sf_LV.mono {ls : Array Slot} {nL : Nat} {ad : Nat → Nat} {L L0 : sf_L} (h : sf_LV ls nL ad L) (hm : ∀ i v, sf_get L0 i = some v → sf_get L i = some v) : sf_LV ls nL ad L0 := ⟨h.1, h.2.1, fun i v hg => h.2.2 i v (hm i v hg)⟩
/-! the world's cells -/
theorem sf_wd_at {lay : sf_Lay} {ad : Nat → Nat} {cy : Nat → ClassId} {σ : sf_S} {k : Nat} {sh : (Nat × List (Option Nat)) ⊕ (Nat × Nat)} (h : lay[k]? = some sh) : (sf_wd lay ad cy σ)[k]? = some (ad k, sf_ce ad cy σ k sh) := by
  simp [sf_wd, List.getElem?_mapIdx, h]
theorem sf_wd_inv {lay : sf_Lay} {ad : Nat → Nat} {cy : Nat → ClassId} {σ : sf_S} {k : Nat} {q : Nat × va_E} (h : (sf_wd lay ad cy σ)[k]? = some q) : k < lay.length ∧ q.1 = ad k := by
  simp only [sf_wd, List.getElem?_mapIdx, Option.map_eq_some_iff] at h
  obtain ⟨sh, h1, h2⟩ := h
  exact ⟨(List.getElem?_eq_some_iff.mp h1).1, by rw [← h2]⟩
theorem sf_wd_D {lay : sf_Lay} {ad : Nat → Nat} (cy : Nat → ClassId) (σ : sf_S) (hi : sf_inj lay ad) {A : Nat → Prop} (hA : ∀ k, k < lay.length → A (ad k)) : va_D A (sf_wd lay ad cy σ) := by
  refine ⟨fun i j x y hx hy hxy => ?_, fun k q hq => ?_⟩
  · obtain ⟨h1, h2⟩ := sf_wd_inv hx
    obtain ⟨h3, h4⟩ := sf_wd_inv hy
    exact hi i j h1 h3 (by rw [← h2, ← h4]; exact hxy)
  · obtain ⟨h1, h2⟩ := sf_wd_inv hq
    rw [h2]
    exact hA k h1
theorem sf_wd_put {lay : sf_Lay} {ad : Nat → Nat} {cy : Nat → ClassId} {σ : sf_S} {q ci k : Nat} {fs : List (Option Nat)} {x : Int32} (h : lay[q]? = some (.inl (ci, fs))) (hk : fs[k]? = some none) : (sf_wd lay ad cy σ).set q (ad q, .inr (ci, (fs.mapIdx fun j f => sf_fv ad (σ q j) f).set k (.int x))) = sf_wd lay ad cy (sf_up σ q k x) := by
  have hq : q < lay.length := (List.getElem?_eq_some_iff.mp h).1
  have hkl : k < fs.length := (List.getElem?_eq_some_iff.mp hk).1
  apply List.ext_getElem?
  intro i
  by_cases hi : i = q
  · subst hi
    rw [sf_wd_at h, List.getElem?_set_self (by simp [sf_wd, hq])]
    simp only [sf_ce, Option.some.injEq, Prod.mk.injEq, Sum.inr.injEq, true_and]
    apply List.ext_getElem?
    intro j
    by_cases hj : j = k
    · subst hj
      rw [List.getElem?_set_self (by simp [hkl])]
      simp [List.getElem?_mapIdx, hk, sf_fv, sf_up]
    · rw [List.getElem?_set_ne (Ne.symm hj)]
      simp [List.getElem?_mapIdx, sf_up, hj]
  · rw [List.getElem?_set_ne (Ne.symm hi)]
    simp only [sf_wd, List.getElem?_mapIdx]
    congr 1
    funext sh
    cases sh with
    | inl o => simp [sf_ce, sf_up, hi]
    | inr o =>
      simp only [sf_ce, Prod.mk.injEq, Sum.inl.injEq, true_and]
      funext b
      simp [sf_up, hi]
theorem sf_wd_row {lay : sf_Lay} {ad : Nat → Nat} {cy : Nat → ClassId} {σ σ2 : sf_S} {q t n : Nat} {f : Nat → Int32} (h : lay[q]? = some (.inr (t, n))) (h1 : σ2 q = f) (h2 : ∀ a, a ≠ q → σ2 a = σ a) : (sf_wd lay ad cy σ).set q (ad q, .inl (cy t, n, .inl f)) = sf_wd lay ad cy σ2 := by
  have hq : q < lay.length := (List.getElem?_eq_some_iff.mp h).1
  apply List.ext_getElem?
  intro i
  by_cases hi : i = q
  · subst hi
    rw [sf_wd_at h, List.getElem?_set_self (by simp [sf_wd, hq])]
    simp [sf_ce, h1]
  · rw [List.getElem?_set_ne (Ne.symm hi)]
    simp only [sf_wd, List.getElem?_mapIdx]
    congr 1
    funext sh
    cases sh with
    | inl o => simp [sf_ce, h2 i hi]
    | inr o => simp [sf_ce, h2 i hi]
theorem sf_up_row (σ : sf_S) (q j : Nat) (x : Int32) : sf_up σ q j x q = upd (σ q) j x := by
  funext b
  simp [sf_up, upd]
theorem sf_up_else (σ : sf_S) (q j : Nat) (x : Int32) (a : Nat) (h : a ≠ q) : sf_up σ q j x a = σ a := by
  funext b
  simp [sf_up, h]
theorem sf_in_iff {i : Int32} {n : Nat} (h : sf_in i n = true) : vp_in i n := by
  simp only [sf_in, Bool.and_eq_true, Bool.not_eq_true', decide_eq_false_iff_not, decide_eq_true_eq] at h
  rintro (q | q)
  · exact h.1 q
  · omega
end
section
/-! one instruction, and many: the machine does what the small machine says -/
def sf_len : Instr → Nat
  | .bipush _ => 2
  | .sipush _ => 3
  | .ldc _ => 2
  | .ldc_w _ => 3
  | .ldc2_w _ => 3
  | .iload _ => 2
  | .lload _ => 2
  | .aload _ => 2
  | .istore _ => 2
  | .lstore _ => 2
  | .iinc _ _ => 3
  | .goto _ => 3
  | .ifCond _ _ => 3
  | .if_icmp _ _ => 3
  | .getfield _ => 3
  | .putfield _ => 3
  | .invokevirtual _ => 3
  | .invokestatic _ => 3
  | .tableswitch _ _ _ _ => 0
  | .lookupswitch _ _ => 0
  | _ => 1
/-- fields of a class's code: entry of its pool, class in vwCl, place, kind (0 read alone, 1 int, 2 boolean) -/
abbrev sf_FL : Type := List (Nat × Nat × Nat × Nat)
def sf_hasf (fl : sf_FL) (idx : Nat) (kinds : List Nat) (fp : List (Nat × Nat)) : Bool := fp.all fun q => fl.any fun r => Nat.beq r.1 idx && Nat.beq r.2.1 q.1 && Nat.beq r.2.2.1 q.2 && kinds.any (fun k => Nat.beq k r.2.2.2)
/-- rows of a lookupswitch: keys and places as the instruction has them -/
def sf_lks (pc : Nat) : List (Int × Int) → List (Int32 × Nat) → Bool
  | [], [] => true
  | (a, o) :: r, (k, t) :: w => decide (k.toInt = a) && decide ((pc : Int) + o = (t : Int)) && sf_lks pc r w
  | _, _ => false
def sf_tbs (pc : Nat) (lo : Int) : List Int → List (Int32 × Nat) → Bool
  | [], [] => true
  | o :: r, (k, t) :: w => decide (k.toInt = lo) && decide ((pc : Int) + o = (t : Int)) && sf_tbs pc (lo + 1) r w
  | _, _ => false
def sf_ok1 (nL : Nat) (fl : sf_FL) (cl : List (Nat × Value)) (pc : Nat) (e : sf_E) : Bool :=
  match e with
  | (ins, nx, tg, v, sw, fp) =>
    match ins with
    | .iconst n => decide (v = .int (Int32.ofInt n))
    | .bipush n => decide (v = .int ((Int8.ofInt n).toInt32))
    | .sipush n => decide (v = .int ((Int16.ofInt n).toInt32))
    | .ldc i => decide ((i, v) ∈ cl) && (match v with | .int _ => true | _ => false)
    | .ldc_w i => decide ((i, v) ∈ cl) && (match v with | .int _ => true | _ => false)
    | .ldc2_w i => decide ((i, v) ∈ cl) && (match v with | .long _ => true | _ => false)
    | .lconst n => decide (v = .long (Int64.ofNat (n : Nat)))
    | .istore_n i => decide ((i : Nat) < nL)
    | .istore i => decide (i < nL)
    | .lstore_n i => decide ((i : Nat) + 1 < nL)
    | .lstore i => decide (i + 1 < nL)
    | .iinc _ n => decide (v = .int (Int32.ofInt n))
    | .goto o => decide ((pc : Int) + o = (tg : Int))
    | .ifCond _ o => decide ((pc : Int) + o = (tg : Int))
    | .if_icmp _ o => decide ((pc : Int) + o = (tg : Int))
    | .getfield i => sf_hasf fl i [0, 1, 2] fp
    | .putfield i => (match v with | .null => sf_hasf fl i [1] fp | _ => sf_hasf fl i [2] fp)
    | .tableswitch d lo hi offs => decide ((pc : Int) + d = (tg : Int)) && sf_tbs pc lo offs.toList sw && decide (hi = lo + (offs.size : Int) - 1)
    | .lookupswitch d ps => decide ((pc : Int) + d = (tg : Int)) && sf_lks pc ps.toList sw && (ps.toList.zip (ps.toList.drop 1)).all (fun (a, next) => decide (a.1 < next.1))
    | _ => true
def sf_dec (cc : ByteArray) (pc : Nat) (e : sf_E) : Bool := match decode cc pc with
  | .ok (i, n) => decide (i = e.1) && (Nat.beq (sf_len i) 0 || (Nat.beq n (sf_len i) && Nat.beq e.2.1 (pc + n)))
  | _ => false
def sf_chk (cc : ByteArray) (nL : Nat) (fl : sf_FL) (cl : List (Nat × Value)) (tab : List (Nat × sf_E)) : Bool := tab.all fun q => sf_dec cc q.1 q.2 && sf_ok1 nL fl cl q.1 q.2
theorem sf_as_mem {α : Type} : ∀ {l : List (Nat × α)} {n : Nat} {a : α}, sf_as l n = some a → (n, a) ∈ l
  | [], _, _, h => by simp [sf_as] at h
  | (k, b) :: l, n, a, h => by
    simp only [sf_as] at h
    split at h
    · rename_i hk
      cases h
      rw [Nat.eq_of_beq_eq_true hk]
      exact List.mem_cons_self
    · exact List.mem_cons_of_mem _ (sf_as_mem h)
theorem sf_dec_ok {cc : ByteArray} {pc : Nat} {e : sf_E} (h : sf_dec cc pc e = true) : ∃ n, decode cc pc = .ok (e.1, n) ∧ (sf_len e.1 = 0 ∨ (n = sf_len e.1 ∧ e.2.1 = pc + n)) := by
  unfold sf_dec at h
  split at h
  · rename_i i n hd
    simp only [Bool.and_eq_true, decide_eq_true_eq, Bool.or_eq_true] at h
    obtain ⟨rfl, h2⟩ := h
    refine ⟨n, hd, ?_⟩
    rcases h2 with h2 | ⟨h2, h3⟩
    · exact Or.inl (Nat.eq_of_beq_eq_true h2)
    · exact Or.inr ⟨Nat.eq_of_beq_eq_true h2, Nat.eq_of_beq_eq_true h3⟩
  · cases h
/-- what the tables say of a field that a class's code names -/
def sf_FF (s : State) (args : Array Value) (Ts : List Cond) (own : String) (idx ci k kd : Nat) : Prop := ∃ (C : String) (T : u_T) (N : Nat) (ref : String) (ty0 : Nat → FieldType), vwCl[ci]? = some (C, T, N) ∧ k < N ∧ (∀ w ∈ u_ws C T N, w ∈ Ts) ∧
  ((Cond.fieldLink own idx ref (T k).2.1 (T k).2.2.1).before args s = true ∨ ∃ host, (Cond.fieldLinkNest own idx ref (T k).2.1 (T k).2.2.1 host).before args s = true) ∧ (∀ x, s.fieldFound? (T k).1 (T k).2.1 (T k).2.2.1 = some x → s.fieldFound? ref (T k).2.1 (T k).2.2.1 = some x) ∧
  (∀ j, j < N → parseFieldDescriptor (T j).2.2.1 = some (ty0 j)) ∧ (∀ a, a < N → ∀ b, b < N → a ≠ b → (T a).2.1 ≠ (T b).2.1) ∧ (kd = 1 → (T k).2.2.2 = false ∧ ty0 k = .int) ∧ (kd = 2 → (T k).2.2.2 = false ∧ ty0 k = .boolean)
theorem sf_hasf_ok {fl : sf_FL} {idx : Nat} {kinds : List Nat} {fp : List (Nat × Nat)} (h : sf_hasf fl idx kinds fp = true) {c k : Nat} (hk : sf_as fp c = some k) : ∃ kd, (idx, c, k, kd) ∈ fl ∧ kd ∈ kinds := by
  have h1 := List.all_eq_true.mp h _ (sf_as_mem hk)
  obtain ⟨⟨a, b, d, kd⟩, h2, h3⟩ := List.any_eq_true.mp h1
  simp only [Bool.and_eq_true] at h3
  obtain ⟨⟨⟨e1, e2⟩, e3⟩, e4⟩ := h3
  obtain ⟨kk, e5, e6⟩ := List.any_eq_true.mp e4
  have e1 := Nat.eq_of_beq_eq_true e1
  have e2 := Nat.eq_of_beq_eq_true e2
  have e3 := Nat.eq_of_beq_eq_true e3
  have e6 := Nat.eq_of_beq_eq_true e6
  try dsimp only at e1 e2 e3 e6
  subst e1; subst e2; subst e3; subst e6
  exact ⟨kk, h2, e5⟩
def sf_fo (x : Int32) : Option Nat → Value
  | some q => .ref q
  | none => .int x
theorem sf_fo_v (ad : Nat → Nat) (x : Int32) (f : Option Nat) : sf_fv ad x f = sf_v ad (sf_fo x f) := by cases f <;> rfl
section SFW
variable {p : Program} {l : Launch} {e : Env} {R : Room} {s : State} {m : MethodId} {args : Array Value} {below : List Frame} {meth : Method} {c : Code} {Q : State → Prop} {cc : ByteArray} {nL : Nat} {lay : sf_Lay} {D : va_G} {cy : Nat → ClassId} {ad : Nat → Nat} {A : Nat → Prop} {own : String} {Ts : List Cond}
def sf_W (p : Program) (l : Launch) (e : Env) (R : Room) (s : State) (m : MethodId) (args : Array Value) (below : List Frame) (meth : Method) (c : Code) (Q : State → Prop) (nL : Nat) (lay : sf_Lay) (D : va_G) (cy : Nat → ClassId) (ad : Nat → Nat) (A : Nat → Prop) (pc : Nat) (L : sf_L) (st : List Value) (σ : sf_S) : Prop :=
  ∀ (H : Heap) (locs : List Loc) (ls : Array Slot), sf_LV ls nL ad L → va_P D vwCl (sf_wd lay ad cy σ) H → va_S A s.heap H locs → W p l e R s m args below meth c H locs 0 0 Q (F0 m pc ls (st.map (sf_v ad)))
/-- a step that touches neither locals nor heap -/
theorem sf_W.go {pc pc2 : Nat} {L : sf_L} {st st2 : List Value} {σ : sf_S} (k : sf_W p l e R s m args below meth c Q nL lay D cy ad A pc2 L st2 σ)
    (h : ∀ (H : Heap) (locs : List Loc) (ls : Array Slot), sf_LV ls nL ad L → W p l e R s m args below meth c H locs 0 0 Q (F0 m pc2 ls (st2.map (sf_v ad))) → W p l e R s m args below meth c H locs 0 0 Q (F0 m pc ls (st.map (sf_v ad)))) : sf_W p l e R s m args below meth c Q nL lay D cy ad A pc L st σ :=
  fun H locs ls hl hP hS => h H locs ls hl (k H locs ls hl hP hS)
theorem sf_W.mono {pc : Nat} {L L0 : sf_L} {st : List Value} {σ : sf_S} (k : sf_W p l e R s m args below meth c Q nL lay D cy ad A pc L0 st σ) (hm : ∀ i v, sf_get L0 i = some v → sf_get L i = some v) : sf_W p l e R s m args below meth c Q nL lay D cy ad A pc L st σ :=
  fun H locs ls hl hP hS => k H locs ls (hl.mono hm) hP hS
/-- what holds while a method's body runs -/
def sf_At (p : Program) (s : State) (m : MethodId) (args : Array Value) (c : Code) (own : String) (cc : ByteArray) (nL : Nat) (lay : sf_Lay) (D : va_G) (cy : Nat → ClassId) (ad : Nat → Nat) (A : Nat → Prop) (Ts : List Cond) : Prop :=
  p.tables.exec = Jvm.exec ∧ c.code = cc ∧ c.maxLocals = nL ∧ s.vm.findClass own = some m.cls ∧ (∀ w ∈ Ts, w.before args s = true) ∧ va_K D vwCl (sf_ty cy) s ∧ sf_inj lay ad ∧ (∀ k, k < lay.length → A (ad k)) ∧ (∀ q, s.heap.size ≤ q → A q)
theorem sf_row_ist (h0 : sf_At p s m args c own cc nL lay D cy ad A Ts) {pc q n : Nat} {i x : Int32} {L : sf_L} {r : List Value} {σ : sf_S} (hq : lay[q]? = some (.inr (0, n))) (hin : sf_in i n = true) (hd : decode cc pc = .ok (.iastore, 1)) (k : sf_W p l e R s m args below meth c Q nL lay D cy ad A (pc + 1) L r (sf_up σ q i.toNatClampNeg x)) : sf_W p l e R s m args below meth c Q nL lay D cy ad A pc L (.int x :: .int i :: .ref q :: r) σ := by
  obtain ⟨hx, hb, -, -, -, hK, hi, hA, -⟩ := h0
  intro H locs ls hl hP hS
  have hD : va_D A (sf_wd lay ad cy σ) := sf_wd_D cy σ hi hA
  refine va_iast hx hb hK hP hD hS q 0 (sf_wd_at hq) rfl (sf_in_iff hin) hd (fun H1 locs1 hP1 _ hS1 => k H1 locs1 ls hl ?_ hS1)
  rw [← sf_wd_row hq (sf_up_row σ q i.toNatClampNeg x) (sf_up_else σ q i.toNatClampNeg x)]
  exact hP1
theorem sf_row_zst (h0 : sf_At p s m args c own cc nL lay D cy ad A Ts) {pc q n : Nat} {i x : Int32} {L : sf_L} {r : List Value} {σ : sf_S} (hq : lay[q]? = some (.inr (1, n))) (hin : sf_in i n = true) (hd : decode cc pc = .ok (.bastore, 1)) (k : sf_W p l e R s m args below meth c Q nL lay D cy ad A (pc + 1) L r (sf_up σ q i.toNatClampNeg (vp_nar .boolean x))) : sf_W p l e R s m args below meth c Q nL lay D cy ad A pc L (.int x :: .int i :: .ref q :: r) σ := by
  obtain ⟨hx, hb, -, -, -, hK, hi, hA, -⟩ := h0
  intro H locs ls hl hP hS
  have hD : va_D A (sf_wd lay ad cy σ) := sf_wd_D cy σ hi hA
  refine va_zast hx hb hK hP hD hS q 1 (sf_wd_at hq) rfl (sf_in_iff hin) hd (fun H1 locs1 hP1 _ hS1 => k H1 locs1 ls hl ?_ hS1)
  rw [← sf_wd_row hq (sf_up_row σ q i.toNatClampNeg _) (sf_up_else σ q i.toNatClampNeg _)]
  exact hP1
theorem sf_row_bst (h0 : sf_At p s m args c own cc nL lay D cy ad A Ts) {pc q n : Nat} {i x : Int32} {L : sf_L} {r : List Value} {σ : sf_S} (hq : lay[q]? = some (.inr (2, n))) (hin : sf_in i n = true) (hd : decode cc pc = .ok (.bastore, 1)) (k : sf_W p l e R s m args below meth c Q nL lay D cy ad A (pc + 1) L r (sf_up σ q i.toNatClampNeg (vp_nar .byte x))) : sf_W p l e R s m args below meth c Q nL lay D cy ad A pc L (.int x :: .int i :: .ref q :: r) σ := by
  obtain ⟨hx, hb, -, -, -, hK, hi, hA, -⟩ := h0
  intro H locs ls hl hP hS
  have hD : va_D A (sf_wd lay ad cy σ) := sf_wd_D cy σ hi hA
  refine va_bast hx hb hK hP hD hS q 2 (sf_wd_at hq) rfl (sf_in_iff hin) hd (fun H1 locs1 hP1 _ hS1 => k H1 locs1 ls hl ?_ hS1)
  rw [← sf_wd_row hq (sf_up_row σ q i.toNatClampNeg _) (sf_up_else σ q i.toNatClampNeg _)]
  exact hP1
theorem sf_row_ild (h0 : sf_At p s m args c own cc nL lay D cy ad A Ts) {pc q n : Nat} {i : Int32} {L : sf_L} {r : List Value} {σ : sf_S} (hq : lay[q]? = some (.inr (0, n))) (hin : sf_in i n = true) (hd : decode cc pc = .ok (.iaload, 1)) (k : sf_W p l e R s m args below meth c Q nL lay D cy ad A (pc + 1) L (.int (σ q i.toNatClampNeg) :: r) σ) : sf_W p l e R s m args below meth c Q nL lay D cy ad A pc L (.int i :: .ref q :: r) σ := by
  obtain ⟨hx, hb, -, -, -, hK, hi, hA, -⟩ := h0
  intro H locs ls hl hP hS
  exact va_iald hx hb hK hP q 0 (sf_wd_at hq) rfl (sf_in_iff hin) hd (k H locs ls hl hP hS)
theorem sf_row_zld (h0 : sf_At p s m args c own cc nL lay D cy ad A Ts) {pc q n : Nat} {i : Int32} {L : sf_L} {r : List Value} {σ : sf_S} (hq : lay[q]? = some (.inr (1, n))) (hin : sf_in i n = true) (hd : decode cc pc = .ok (.baload, 1)) (k : sf_W p l e R s m args below meth c Q nL lay D cy ad A (pc + 1) L (.int (σ q i.toNatClampNeg) :: r) σ) : sf_W p l e R s m args below meth c Q nL lay D cy ad A pc L (.int i :: .ref q :: r) σ := by
  obtain ⟨hx, hb, -, -, -, hK, hi, hA, -⟩ := h0
  intro H locs ls hl hP hS
  exact va_zald hx hb hK hP q 1 (sf_wd_at hq) rfl (sf_in_iff hin) hd (k H locs ls hl hP hS)
theorem sf_row_bld (h0 : sf_At p s m args c own cc nL lay D cy ad A Ts) {pc q n : Nat} {i : Int32} {L : sf_L} {r : List Value} {σ : sf_S} (hq : lay[q]? = some (.inr (2, n))) (hin : sf_in i n = true) (hd : decode cc pc = .ok (.baload, 1)) (k : sf_W p l e R s m args below meth c Q nL lay D cy ad A (pc + 1) L (.int (σ q i.toNatClampNeg) :: r) σ) : sf_W p l e R s m args below meth c Q nL lay D cy ad A pc L (.int i :: .ref q :: r) σ := by
  obtain ⟨hx, hb, -, -, -, hK, hi, hA, -⟩ := h0
  intro H locs ls hl hP hS
  exact va_bald hx hb hK hP q 2 (sf_wd_at hq) rfl (sf_in_iff hin) hd (k H locs ls hl hP hS)
theorem sf_row_get (h0 : sf_At p s m args c own cc nL lay D cy ad A Ts) {pc q idx ci k kd : Nat} {fs : List (Option Nat)} {f : Option Nat} {L : sf_L} {r : List Value} {σ : sf_S} (hq : lay[q]? = some (.inl (ci, fs))) (hf : fs[k]? = some f) (hF : sf_FF s args Ts own idx ci k kd) (hd : decode cc pc = .ok (.getfield idx, 3)) (kk : sf_W p l e R s m args below meth c Q nL lay D cy ad A (pc + 3) L (sf_fo (σ q k) f :: r) σ) : sf_W p l e R s m args below meth c Q nL lay D cy ad A pc L (.ref q :: r) σ := by
  obtain ⟨hx, hb, -, hown, hts, hK, hi, hA, -⟩ := h0
  obtain ⟨C, T, N, ref, ty0, hc, hk, hin, hlink, hsame, -, -, -, -⟩ := hF
  intro H locs ls hl hP hS
  have hv : (fs.mapIdx fun j f => sf_fv ad (σ q j) f)[k]? = some (sf_v ad (sf_fo (σ q k) f)) := by
    rw [List.getElem?_mapIdx, hf, ← sf_fo_v]
    rfl
  rcases hlink with hlink | ⟨host, hlink⟩
  · exact va_get hx hb hts hin hown hK hP q (sf_wd_at hq) hc k hk hlink hsame hv hd (kk H locs ls hl hP hS)
  · exact va_getN hx hb hts hin hown hK hP q (sf_wd_at hq) hc k hk hlink hsame hv hd (kk H locs ls hl hP hS)
theorem sf_row_put (h0 : sf_At p s m args c own cc nL lay D cy ad A Ts) {pc q idx ci k kd : Nat} {fs : List (Option Nat)} {L : sf_L} {r : List Value} {σ : sf_S} {x : Int32} (hq : lay[q]? = some (.inl (ci, fs))) (hf : fs[k]? = some none) (hF : sf_FF s args Ts own idx ci k kd) (hkd : kd = 1 ∨ (kd = 2 ∧ sf_01 x = true)) (hd : decode cc pc = .ok (.putfield idx, 3)) (kk : sf_W p l e R s m args below meth c Q nL lay D cy ad A (pc + 3) L r (sf_up σ q k x)) : sf_W p l e R s m args below meth c Q nL lay D cy ad A pc L (.int x :: .ref q :: r) σ := by
  obtain ⟨hx, hb, -, hown, hts, hK, hi, hA, -⟩ := h0
  obtain ⟨C, T, N, ref, ty0, hc, hk, hin, hlink, hsame, hty, hnm, h1, h2⟩ := hF
  intro H locs ls hl hP hS
  have hD : va_D A (sf_wd lay ad cy σ) := sf_wd_D cy σ hi hA
  have hfin : (T k).2.2.2 = false := by
    rcases hkd with e | ⟨e, -⟩
    · exact (h1 e).1
    · exact (h2 e).1
  have hlen : k < (fs.mapIdx fun j f => sf_fv ad (σ q j) f).length := by
    rw [List.length_mapIdx]; exact (List.getElem?_eq_some_iff.mp hf).1
  have hn : narrow (ty0 k) (.int x) = .int x ∧ fits (ty0 k) (.int x) = true := by
    rcases hkd with e | ⟨e, h01⟩
    · rw [(h1 e).2]
      exact ⟨vp_nar_int x, rfl⟩
    · rw [(h2 e).2]
      simp only [sf_01, Bool.or_eq_true, decide_eq_true_eq] at h01
      rcases h01 with rfl | rfl <;> exact ⟨by decide +kernel, by decide +kernel⟩
  rcases hlink with hlink | ⟨host, hlink⟩
  · refine va_put hx hb hts hin ty0 hty hnm hown hK hP hD hS q (sf_wd_at hq) hc k hk hlink hsame hfin (hty k hk) hn.1 hn.2 hlen hd (fun H1 locs1 hP1 _ hS1 => kk H1 locs1 ls hl ?_ hS1)
    rw [← sf_wd_put hq hf]
    exact hP1
  · refine va_putN hx hb hts hin ty0 hty hnm hown hK hP hD hS q (sf_wd_at hq) hc k hk hlink hsame hfin (hty k hk) hn.1 hn.2 hlen hd (fun H1 locs1 hP1 _ hS1 => kk H1 locs1 ls hl ?_ hS1)
    rw [← sf_wd_put hq hf]
    exact hP1
end SFW
end
section
/-! the step is sound -/
def sf_CC (s : State) (args : Array Value) (own : String) (i : Nat) (v : Value) : Prop := match v with
  | .int x => (Cond.constant own i x).before args s = true
  | .long x => (Cond.constantLong own i x).before args s = true
  | _ => True
def sf_Snd {ρ : Type} (Wt : Nat → sf_L → List Value → sf_S → Prop) (lay : sf_Lay) (rh : Option Value → sf_S → Option ρ) (J : List (Nat × sf_J ρ)) (tab : List (Nat × sf_E)) (Post : ρ → Prop) : Prop :=
  ∀ (pc : Nat) (e : sf_E) (L : sf_L) (st : List Value) (σ : sf_S) (K : sf_K ρ) (r : ρ), sf_as tab pc = some e → sf_step lay rh J e pc L st σ K = some r → Post r → (∀ pc2 L2 st2 σ2, K pc2 L2 st2 σ2 = some r → Wt pc2 L2 st2 σ2) → Wt pc L st σ
theorem sf_i1_inv {ρ : Type} {st : List Value} {f : Int32 → List Value → Option ρ} {r : ρ} (h : sf_i1 st f = some r) : ∃ x q, st = .int x :: q ∧ f x q = some r := by
  unfold sf_i1 at h
  split at h
  · exact ⟨_, _, rfl, h⟩
  · cases h
theorem sf_i2_inv {ρ : Type} {st : List Value} {f : Int32 → Int32 → List Value → Option ρ} {r : ρ} (h : sf_i2 st f = some r) : ∃ x y q, st = .int y :: .int x :: q ∧ f x y q = some r := by
  unfold sf_i2 at h
  split at h
  · exact ⟨_, _, _, rfl, h⟩
  · cases h
theorem sf_l1_inv {ρ : Type} {st : List Value} {f : Int64 → List Value → Option ρ} {r : ρ} (h : sf_l1 st f = some r) : ∃ x q, st = .long x :: q ∧ f x q = some r := by
  unfold sf_l1 at h
  split at h
  · exact ⟨_, _, rfl, h⟩
  · cases h
theorem sf_l2_inv {ρ : Type} {st : List Value} {f : Int64 → Int64 → List Value → Option ρ} {r : ρ} (h : sf_l2 st f = some r) : ∃ x y q, st = .long y :: .long x :: q ∧ f x y q = some r := by
  unfold sf_l2 at h
  split at h
  · exact ⟨_, _, _, rfl, h⟩
  · cases h
theorem sf_ldi_inv {ρ : Type} {L : sf_L} {i : Nat} {f : Int32 → Option ρ} {r : ρ} (h : sf_ldi L i f = some r) : ∃ x, sf_get L i = some (.int x) ∧ f x = some r := by
  unfold sf_ldi at h
  split at h
  · rename_i x hx
    exact ⟨x, hx, h⟩
  · cases h
theorem sf_ldl_inv {ρ : Type} {L : sf_L} {i : Nat} {f : Int64 → Option ρ} {r : ρ} (h : sf_ldl L i f = some r) : ∃ x, sf_get L i = some (.long x) ∧ f x = some r := by
  unfold sf_ldl at h
  split at h
  · rename_i x hx
    exact ⟨x, hx, h⟩
  · cases h
theorem sf_lda_inv {ρ : Type} {L : sf_L} {i : Nat} {f : Nat → Option ρ} {r : ρ} (h : sf_lda L i f = some r) : ∃ x, sf_get L i = some (.ref x) ∧ f x = some r := by
  unfold sf_lda at h
  split at h
  · rename_i x hx
    exact ⟨x, hx, h⟩
  · cases h
theorem sf_ar_inv {ρ : Type} {lay : sf_Lay} {q : Nat} {f : Nat → Nat → Option ρ} {r : ρ} (h : sf_ar lay q f = some r) : ∃ t n, lay[q]? = some (.inr (t, n)) ∧ f t n = some r := by
  unfold sf_ar at h
  split at h
  · rename_i t n hq
    exact ⟨t, n, hq, h⟩
  · cases h
theorem sf_ob_inv {ρ : Type} {lay : sf_Lay} {q : Nat} {f : Nat → List (Option Nat) → Option ρ} {r : ρ} (h : sf_ob lay q f = some r) : ∃ t n, lay[q]? = some (.inl (t, n)) ∧ f t n = some r := by
  unfold sf_ob at h
  split at h
  · rename_i t n hq
    exact ⟨t, n, hq, h⟩
  · cases h
theorem sf_getf_inv {ρ : Type} {lay : sf_Lay} {fp : List (Nat × Nat)} {q : Nat} {σ : sf_S} {f : Value → Option ρ} {r : ρ} (h : sf_getf lay fp q σ f = some r) : ∃ ci fs k x, lay[q]? = some (.inl (ci, fs)) ∧ sf_as fp ci = some k ∧ fs[k]? = some x ∧ f (sf_fo (σ q k) x) = some r := by
  obtain ⟨ci, fs, h1, h2⟩ := sf_ob_inv h
  split at h2
  · rename_i k hk
    split at h2
    · rename_i q2 hq2
      exact ⟨ci, fs, k, _, h1, hk, hq2, h2⟩
    · rename_i hq2
      exact ⟨ci, fs, k, _, h1, hk, hq2, h2⟩
    · cases h2
  · cases h2
theorem sf_putf_inv {ρ : Type} {lay : sf_Lay} {fp : List (Nat × Nat)} {q : Nat} {f : Nat → Option ρ} {r : ρ} (h : sf_putf lay fp q f = some r) : ∃ ci fs k, lay[q]? = some (.inl (ci, fs)) ∧ sf_as fp ci = some k ∧ fs[k]? = some none ∧ f k = some r := by
  obtain ⟨ci, fs, h1, h2⟩ := sf_ob_inv h
  split at h2
  · rename_i k hk
    split at h2
    · rename_i hq2
      exact ⟨ci, fs, k, h1, hk, hq2, h2⟩
    · cases h2
  · cases h2
theorem sf_lks_ok {ρ : Type} {pc d : Nat} {x : Int32} {K : Nat → Option ρ} {r : ρ} {D : Int} (hd : (pc : Int) + D = (d : Int)) : ∀ (ps : List (Int × Int)) (sw : List (Int32 × Nat)), sf_lks pc ps sw = true → sf_sw K x d sw = some r → ∃ tg : Nat, (pc : Int) + Op.lookupswitch.offset ps D x.toInt = (tg : Int) ∧ K tg = some r
  | [], [], _, h => ⟨d, hd, h⟩
  | (a, o) :: ps, (k, t) :: sw, hc, h => by
    simp only [sf_lks, Bool.and_eq_true, decide_eq_true_eq] at hc
    obtain ⟨⟨h1, h2⟩, h3⟩ := hc
    simp only [sf_sw] at h
    rw [Op.lookupswitch.offset_cons]
    by_cases hx : x = k
    · subst hx
      rw [if_pos rfl] at h
      rw [if_pos h1.symm]
      exact ⟨t, h2, h⟩
    · rw [if_neg hx] at h
      rw [if_neg (fun q => lv_neT hx h1 q.symm)]
      exact sf_lks_ok hd ps sw h3 h
  | [], _ :: _, hc, _ => by simp [sf_lks] at hc
  | _ :: _, [], hc, _ => by simp [sf_lks] at hc
theorem sf_tbs_ok {ρ : Type} {pc d : Nat} {x : Int32} {K : Nat → Option ρ} {r : ρ} : ∀ (os : List Int) (lo : Int) (sw : List (Int32 × Nat)), sf_tbs pc lo os sw = true → sf_sw K x d sw = some r → (∃ (tg : Nat) (off : Int), ¬ x.toInt < lo ∧ x.toInt < lo + (os.length : Int) ∧ os[(x.toInt - lo).toNat]? = some off ∧ (pc : Int) + off = (tg : Int) ∧ K tg = some r) ∨ ((x.toInt < lo ∨ lo + (os.length : Int) ≤ x.toInt) ∧ K d = some r)
  | [], lo, [], _, h => Or.inr ⟨by simp; omega, h⟩
  | o :: os, lo, (k, t) :: sw, hc, h => by
    simp only [sf_tbs, Bool.and_eq_true, decide_eq_true_eq] at hc
    obtain ⟨⟨h1, h2⟩, h3⟩ := hc
    simp only [sf_sw] at h
    by_cases hx : x = k
    · subst hx
      rw [if_pos rfl] at h
      exact Or.inl ⟨t, o, by omega, by simp; omega, by rw [h1, Int.sub_self]; rfl, h2, h⟩
    · rw [if_neg hx] at h
      have hne : ¬ x.toInt = lo := lv_neT hx h1
      rcases sf_tbs_ok os (lo + 1) sw h3 h with ⟨tg, off, a1, a2, a3, a4, a5⟩ | ⟨a1, a2⟩
      · refine Or.inl ⟨tg, off, by omega, by simp; omega, ?_, a4, a5⟩
        rw [show (x.toInt - lo).toNat = (x.toInt - (lo + 1)).toNat + 1 by omega]
        exact a3
      · exact Or.inr ⟨by simp; omega, a2⟩
  | [], _, _ :: _, hc, _ => by simp [sf_tbs] at hc
  | _ :: _, _, [], hc, _ => by simp [sf_tbs] at hc
section SFS
variable {p : Program} {l : Launch} {e0 : Env} {R : Room} {s : State} {m : MethodId} {args : Array Value} {below : List Frame} {meth : Method} {c : Code} {Q : State → Prop} {cc : ByteArray} {nL : Nat} {lay : sf_Lay} {D : va_G} {cy : Nat → ClassId} {ad : Nat → Nat} {A : Nat → Prop} {own : String} {Ts : List Cond}
set_option maxHeartbeats 4000000 in
theorem sf_step_ok {ρ : Type} {rh : Option Value → sf_S → Option ρ} {J : List (Nat × sf_J ρ)} {tab : List (Nat × sf_E)} {Post : ρ → Prop} {fl : sf_FL} {cl : List (Nat × Value)} (h0 : sf_At p s m args c own cc nL lay D cy ad A Ts) (hchk : sf_chk cc nL fl cl tab = true) (hfl : ∀ q ∈ fl, sf_FF s args Ts own q.1 q.2.1 q.2.2.1 q.2.2.2) (hcl : ∀ q ∈ cl, sf_CC s args own q.1 q.2)
    (hJ : ∀ (pc : Nat) (j : sf_J ρ) (L : sf_L) (st : List Value) (σ : sf_S) (K : List Value → sf_S → Option ρ) (r : ρ), sf_as J pc = some j → j st σ K = some r → (∀ st2 σ2, K st2 σ2 = some r → sf_W p l e0 R s m args below meth c Q nL lay D cy ad A (pc + 3) L st2 σ2) → sf_W p l e0 R s m args below meth c Q nL lay D cy ad A pc L st σ)
    (hret : ∀ (v : Option Value) (σ : sf_S) (r : ρ) (pc : Nat) (L : sf_L) (ins : Instr), rh v σ = some r → Post r → decode cc pc = .ok (ins, 1) → (ins = .ireturn ∧ (∃ x, v = some (.int x)) ∨ ins = .lreturn ∧ (∃ x, v = some (.long x)) ∨ ins = .return_ ∧ v = none) → sf_W p l e0 R s m args below meth c Q nL lay D cy ad A pc L v.toList σ) :
    sf_Snd (sf_W p l e0 R s m args below meth c Q nL lay D cy ad A) lay rh J tab Post := by
  intro pc e L st σ K r he hs hp hk
  have hc := List.all_eq_true.mp hchk _ (sf_as_mem he)
  simp only [Bool.and_eq_true] at hc
  obtain ⟨hdec, hok⟩ := hc
  obtain ⟨n, hd, hn⟩ := sf_dec_ok hdec
  have h00 := h0
  obtain ⟨hx, hb, hml, hown, hts, hK, hi, hA, hAs⟩ := h00
  obtain ⟨ins, nx, tg, v, sw, fp⟩ := e
  dsimp only at hd hn
  cases ins with
  | iconst k =>
    obtain ⟨rfl, rfl⟩ := hn.resolve_left (show ¬ sf_len (.iconst k) = 0 by simp [sf_len])
    have hs : K _ L (v :: st) σ = some r := hs
    have hv := of_decide_eq_true hok
    subst hv
    exact (hk _ _ _ _ hs).go fun H locs ls hl w => lv_iconst hx hb hd rfl w
  | bipush k =>
    obtain ⟨rfl, rfl⟩ := hn.resolve_left (show ¬ sf_len (.bipush k) = 0 by simp [sf_len])
    have hs : K _ L (v :: st) σ = some r := hs
    have hv := of_decide_eq_true hok
    subst hv
    exact (hk _ _ _ _ hs).go fun H locs ls hl w => lv_bipush hx hb hd rfl w
  | sipush k =>
    obtain ⟨rfl, rfl⟩ := hn.resolve_left (show ¬ sf_len (.sipush k) = 0 by simp [sf_len])
    have hs : K _ L (v :: st) σ = some r := hs
    have hv := of_decide_eq_true hok
    subst hv
    exact (hk _ _ _ _ hs).go fun H locs ls hl w => lv_sipush hx hb hd rfl w
  | lconst k =>
    obtain ⟨rfl, rfl⟩ := hn.resolve_left (show ¬ sf_len (.lconst k) = 0 by simp [sf_len])
    have hs : K _ L (v :: st) σ = some r := hs
    have hv := of_decide_eq_true hok
    subst hv
    exact (hk _ _ _ _ hs).go fun H locs ls hl w => lv_lconst hx hb hd rfl w
  | ldc k =>
    obtain ⟨rfl, rfl⟩ := hn.resolve_left (show ¬ sf_len (.ldc k) = 0 by simp [sf_len])
    have hs : K _ L (v :: st) σ = some r := hs
    simp only [sf_ok1, Bool.and_eq_true, decide_eq_true_eq] at hok
    obtain ⟨hm, hty⟩ := hok
    have hcc := hcl _ hm
    cases v with
    | int x => exact (hk _ _ _ _ hs).go fun H locs ls hl w => lv_ldc hx hb hown hcc hd w
    | _ => cases hty
  | ldc_w k =>
    obtain ⟨rfl, rfl⟩ := hn.resolve_left (show ¬ sf_len (.ldc_w k) = 0 by simp [sf_len])
    have hs : K _ L (v :: st) σ = some r := hs
    simp only [sf_ok1, Bool.and_eq_true, decide_eq_true_eq] at hok
    obtain ⟨hm, hty⟩ := hok
    have hcc := hcl _ hm
    cases v with
    | int x => exact (hk _ _ _ _ hs).go fun H locs ls hl w => lv_ldcw hx hb hown hcc hd w
    | _ => cases hty
  | ldc2_w k =>
    obtain ⟨rfl, rfl⟩ := hn.resolve_left (show ¬ sf_len (.ldc2_w k) = 0 by simp [sf_len])
    have hs : K _ L (v :: st) σ = some r := hs
    simp only [sf_ok1, Bool.and_eq_true, decide_eq_true_eq] at hok
    obtain ⟨hm, hty⟩ := hok
    have hcc := hcl _ hm
    cases v with
    | long x => exact (hk _ _ _ _ hs).go fun H locs ls hl w => lv_ldc2 hx hb hown hcc hd w
    | _ => cases hty
  | iload_n k =>
    obtain ⟨rfl, rfl⟩ := hn.resolve_left (show ¬ sf_len (.iload_n k) = 0 by simp [sf_len])
    obtain ⟨x, hg, hz⟩ := sf_ldi_inv hs
    exact (hk _ _ _ _ hz).go fun H locs ls hl w => lv_iload_n hx hb hd rfl (hl.2.2 _ _ hg) w
  | iload k =>
    obtain ⟨rfl, rfl⟩ := hn.resolve_left (show ¬ sf_len (.iload k) = 0 by simp [sf_len])
    obtain ⟨x, hg, hz⟩ := sf_ldi_inv hs
    exact (hk _ _ _ _ hz).go fun H locs ls hl w => lv_iload hx hb hd (hl.2.2 _ _ hg) w
  | lload_n k =>
    obtain ⟨rfl, rfl⟩ := hn.resolve_left (show ¬ sf_len (.lload_n k) = 0 by simp [sf_len])
    obtain ⟨x, hg, hz⟩ := sf_ldl_inv hs
    exact (hk _ _ _ _ hz).go fun H locs ls hl w => lv_lload_n hx hb hd rfl (hl.2.2 _ _ hg) w
  | lload k =>
    obtain ⟨rfl, rfl⟩ := hn.resolve_left (show ¬ sf_len (.lload k) = 0 by simp [sf_len])
    obtain ⟨x, hg, hz⟩ := sf_ldl_inv hs
    exact (hk _ _ _ _ hz).go fun H locs ls hl w => lv_lload hx hb hd (hl.2.2 _ _ hg) w
  | aload_n k =>
    obtain ⟨rfl, rfl⟩ := hn.resolve_left (show ¬ sf_len (.aload_n k) = 0 by simp [sf_len])
    obtain ⟨x, hg, hz⟩ := sf_lda_inv hs
    exact (hk _ _ _ _ hz).go fun H locs ls hl w => lv_aload_n hx hb hd rfl (hl.2.2 _ _ hg) w
  | aload k =>
    obtain ⟨rfl, rfl⟩ := hn.resolve_left (show ¬ sf_len (.aload k) = 0 by simp [sf_len])
    obtain ⟨x, hg, hz⟩ := sf_lda_inv hs
    exact (hk _ _ _ _ hz).go fun H locs ls hl w => lv_aload hx hb hd (hl.2.2 _ _ hg) w
  | istore_n k =>
    obtain ⟨rfl, rfl⟩ := hn.resolve_left (show ¬ sf_len (.istore_n k) = 0 by simp [sf_len])
    obtain ⟨x, q, rfl, hz⟩ := sf_i1_inv hs
    exact fun H locs ls hl hP hS => lv_istore_n hx hb hd rfl hl.has (of_decide_eq_true hok) rfl fun ls2 hl2 => hk _ _ _ _ hz H locs ls2 (hl.st1 rfl hl2) hP hS
  | istore k =>
    obtain ⟨rfl, rfl⟩ := hn.resolve_left (show ¬ sf_len (.istore k) = 0 by simp [sf_len])
    obtain ⟨x, q, rfl, hz⟩ := sf_i1_inv hs
    exact fun H locs ls hl hP hS => lv_istore hx hb hd hl.has (of_decide_eq_true hok) rfl fun ls2 hl2 => hk _ _ _ _ hz H locs ls2 (hl.st1 rfl hl2) hP hS
  | lstore_n k =>
    obtain ⟨rfl, rfl⟩ := hn.resolve_left (show ¬ sf_len (.lstore_n k) = 0 by simp [sf_len])
    obtain ⟨x, q, rfl, hz⟩ := sf_l1_inv hs
    exact fun H locs ls hl hP hS => lv_lstore_n hx hb hd rfl hl.has (of_decide_eq_true hok) rfl fun ls2 hl2 => hk _ _ _ _ hz H locs ls2 (hl.st2 rfl hl2) hP hS
  | lstore k =>
    obtain ⟨rfl, rfl⟩ := hn.resolve_left (show ¬ sf_len (.lstore k) = 0 by simp [sf_len])
    obtain ⟨x, q, rfl, hz⟩ := sf_l1_inv hs
    exact fun H locs ls hl hP hS => lv_lstore hx hb hd hl.has (of_decide_eq_true hok) rfl fun ls2 hl2 => hk _ _ _ _ hz H locs ls2 (hl.st2 rfl hl2) hP hS
  | iinc k d =>
    obtain ⟨rfl, rfl⟩ := hn.resolve_left (show ¬ sf_len (.iinc k d) = 0 by simp [sf_len])
    obtain ⟨x, hg, hz⟩ := sf_ldi_inv hs
    have hv := of_decide_eq_true hok
    subst hv
    intro H locs ls hl hP hS
    obtain ⟨j, hj⟩ := List.getElem?_of_mem (sf_mem_prs (ad := ad) (hl.lt hg) hg)
    exact lv_iinc hx hb hd hl.has hj rfl (hl.lt hg) rfl fun ls2 hl2 => hk _ _ _ _ hz H locs ls2 (hl.st1 rfl hl2) hP hS
  | iadd =>
    obtain ⟨rfl, rfl⟩ := hn.resolve_left (show ¬ sf_len (.iadd) = 0 by simp [sf_len])
    obtain ⟨x, y, q, rfl, hz⟩ := sf_i2_inv hs
    exact (hk _ _ _ _ hz).go fun H locs ls hl w => lv_iadd hx hb hd w
  | isub =>
    obtain ⟨rfl, rfl⟩ := hn.resolve_left (show ¬ sf_len (.isub) = 0 by simp [sf_len])
    obtain ⟨x, y, q, rfl, hz⟩ := sf_i2_inv hs
    exact (hk _ _ _ _ hz).go fun H locs ls hl w => lv_isub hx hb hd w
  | imul =>
    obtain ⟨rfl, rfl⟩ := hn.resolve_left (show ¬ sf_len (.imul) = 0 by simp [sf_len])
    obtain ⟨x, y, q, rfl, hz⟩ := sf_i2_inv hs
    exact (hk _ _ _ _ hz).go fun H locs ls hl w => lv_imul hx hb hd w
  | ixor =>
    obtain ⟨rfl, rfl⟩ := hn.resolve_left (show ¬ sf_len (.ixor) = 0 by simp [sf_len])
    obtain ⟨x, y, q, rfl, hz⟩ := sf_i2_inv hs
    exact (hk _ _ _ _ hz).go fun H locs ls hl w => lv_ixor hx hb hd w
  | ladd =>
    obtain ⟨rfl, rfl⟩ := hn.resolve_left (show ¬ sf_len (.ladd) = 0 by simp [sf_len])
    obtain ⟨x, y, q, rfl, hz⟩ := sf_l2_inv hs
    exact (hk _ _ _ _ hz).go fun H locs ls hl w => lv_ladd hx hb hd w
  | lsub =>
    obtain ⟨rfl, rfl⟩ := hn.resolve_left (show ¬ sf_len (.lsub) = 0 by simp [sf_len])
    obtain ⟨x, y, q, rfl, hz⟩ := sf_l2_inv hs
    exact (hk _ _ _ _ hz).go fun H locs ls hl w => lv_lsub hx hb hd w
  | lmul =>
    obtain ⟨rfl, rfl⟩ := hn.resolve_left (show ¬ sf_len (.lmul) = 0 by simp [sf_len])
    obtain ⟨x, y, q, rfl, hz⟩ := sf_l2_inv hs
    exact (hk _ _ _ _ hz).go fun H locs ls hl w => lv_lmul hx hb hd w
  | lcmp =>
    obtain ⟨rfl, rfl⟩ := hn.resolve_left (show ¬ sf_len (.lcmp) = 0 by simp [sf_len])
    obtain ⟨x, y, q, rfl, hz⟩ := sf_l2_inv hs
    exact (hk _ _ _ _ hz).go fun H locs ls hl w => W.lcmp hx hb hd w
  | idiv =>
    obtain ⟨rfl, rfl⟩ := hn.resolve_left (show ¬ sf_len (.idiv) = 0 by simp [sf_len])
    obtain ⟨x, y, q, rfl, hz⟩ := sf_i2_inv hs
    by_cases hy : y = 0
    · rw [if_pos hy] at hz; cases hz
    · rw [if_neg hy] at hz
      exact (hk _ _ _ _ hz).go fun H locs ls hl w => lv_idiv hx hb hd hy w
  | irem =>
    obtain ⟨rfl, rfl⟩ := hn.resolve_left (show ¬ sf_len (.irem) = 0 by simp [sf_len])
    obtain ⟨x, y, q, rfl, hz⟩ := sf_i2_inv hs
    by_cases hy : y = 0
    · rw [if_pos hy] at hz; cases hz
    · rw [if_neg hy] at hz
      exact (hk _ _ _ _ hz).go fun H locs ls hl w => lv_irem hx hb hd hy w
  | ldiv =>
    obtain ⟨rfl, rfl⟩ := hn.resolve_left (show ¬ sf_len (.ldiv) = 0 by simp [sf_len])
    obtain ⟨x, y, q, rfl, hz⟩ := sf_l2_inv hs
    by_cases hy : y = 0
    · rw [if_pos hy] at hz; cases hz
    · rw [if_neg hy] at hz
      exact (hk _ _ _ _ hz).go fun H locs ls hl w => lv_ldiv hx hb hd hy w
  | lrem =>
    obtain ⟨rfl, rfl⟩ := hn.resolve_left (show ¬ sf_len (.lrem) = 0 by simp [sf_len])
    obtain ⟨x, y, q, rfl, hz⟩ := sf_l2_inv hs
    by_cases hy : y = 0
    · rw [if_pos hy] at hz; cases hz
    · rw [if_neg hy] at hz
      exact (hk _ _ _ _ hz).go fun H locs ls hl w => lv_lrem hx hb hd hy w
  | ineg =>
    obtain ⟨rfl, rfl⟩ := hn.resolve_left (show ¬ sf_len (.ineg) = 0 by simp [sf_len])
    obtain ⟨x, q, rfl, hz⟩ := sf_i1_inv hs
    exact (hk _ _ _ _ hz).go fun H locs ls hl w => lv_ineg hx hb hd w
  | lneg =>
    obtain ⟨rfl, rfl⟩ := hn.resolve_left (show ¬ sf_len (.lneg) = 0 by simp [sf_len])
    obtain ⟨x, q, rfl, hz⟩ := sf_l1_inv hs
    exact (hk _ _ _ _ hz).go fun H locs ls hl w => lv_lneg hx hb hd w
  | i2l =>
    obtain ⟨rfl, rfl⟩ := hn.resolve_left (show ¬ sf_len (.i2l) = 0 by simp [sf_len])
    obtain ⟨x, q, rfl, hz⟩ := sf_i1_inv hs
    exact (hk _ _ _ _ hz).go fun H locs ls hl w => lv_i2l hx hb hd rfl w
  | l2i =>
    obtain ⟨rfl, rfl⟩ := hn.resolve_left (show ¬ sf_len (.l2i) = 0 by simp [sf_len])
    obtain ⟨x, q, rfl, hz⟩ := sf_l1_inv hs
    exact (hk _ _ _ _ hz).go fun H locs ls hl w => lv_l2i hx hb hd rfl w
  | i2b =>
    obtain ⟨rfl, rfl⟩ := hn.resolve_left (show ¬ sf_len (.i2b) = 0 by simp [sf_len])
    obtain ⟨x, q, rfl, hz⟩ := sf_i1_inv hs
    exact (hk _ _ _ _ hz).go fun H locs ls hl w => lv_i2b hx hb hd rfl w
  | i2s =>
    obtain ⟨rfl, rfl⟩ := hn.resolve_left (show ¬ sf_len (.i2s) = 0 by simp [sf_len])
    obtain ⟨x, q, rfl, hz⟩ := sf_i1_inv hs
    exact (hk _ _ _ _ hz).go fun H locs ls hl w => lv_i2s hx hb hd rfl w
  | dup =>
    obtain ⟨rfl, rfl⟩ := hn.resolve_left (show ¬ sf_len (.dup) = 0 by simp [sf_len])
    simp only [sf_step] at hs
    split at hs
    · exact (hk _ _ _ _ hs).go fun H locs ls hl w => lv_dup hx hb hd rfl w
    · exact (hk _ _ _ _ hs).go fun H locs ls hl w => lv_dup hx hb hd rfl w
    · cases hs
  | dup2 =>
    obtain ⟨rfl, rfl⟩ := hn.resolve_left (show ¬ sf_len (.dup2) = 0 by simp [sf_len])
    simp only [sf_step] at hs
    split at hs
    · exact (hk _ _ _ _ hs).go fun H locs ls hl w => lv_dup2_11 hx hb hd rfl rfl w
    · cases hs
  | pop =>
    obtain ⟨rfl, rfl⟩ := hn.resolve_left (show ¬ sf_len (.pop) = 0 by simp [sf_len])
    simp only [sf_step] at hs
    split at hs
    · exact (hk _ _ _ _ hs).go fun H locs ls hl w => lv_pop hx hb hd rfl w
    · exact (hk _ _ _ _ hs).go fun H locs ls hl w => lv_pop hx hb hd rfl w
    · cases hs
  | goto o =>
    obtain ⟨rfl, rfl⟩ := hn.resolve_left (show ¬ sf_len (.goto o) = 0 by simp [sf_len])
    exact (hk _ _ _ _ hs).go fun H locs ls hl w => lv_goto hx hb hd (of_decide_eq_true hok) w
  | ifCond q o =>
    obtain ⟨rfl, rfl⟩ := hn.resolve_left (show ¬ sf_len (.ifCond q o) = 0 by simp [sf_len])
    have ht := of_decide_eq_true hok
    cases q with
    | eq =>
      obtain ⟨x, q, rfl, hz⟩ := sf_i1_inv hs
      intro H locs ls hl hP hS
      refine lv_if_eq hx hb hd ht (fun h => ?_) (fun h => ?_)
      · rw [if_pos h] at hz; exact hk _ _ _ _ hz H locs ls hl hP hS
      · rw [if_neg h] at hz; exact hk _ _ _ _ hz H locs ls hl hP hS
    | ne =>
      obtain ⟨x, q, rfl, hz⟩ := sf_i1_inv hs
      intro H locs ls hl hP hS
      refine lv_if_ne hx hb hd ht (fun h => ?_) (fun h => ?_)
      · rw [if_pos h] at hz; exact hk _ _ _ _ hz H locs ls hl hP hS
      · rw [if_neg (fun hn => hn h)] at hz; exact hk _ _ _ _ hz H locs ls hl hP hS
    | lt =>
      obtain ⟨x, q, rfl, hz⟩ := sf_i1_inv hs
      intro H locs ls hl hP hS
      refine lv_if_lt hx hb hd ht (fun h => ?_) (fun h => ?_)
      · rw [if_pos h] at hz; exact hk _ _ _ _ hz H locs ls hl hP hS
      · rw [if_neg h] at hz; exact hk _ _ _ _ hz H locs ls hl hP hS
    | ge =>
      obtain ⟨x, q, rfl, hz⟩ := sf_i1_inv hs
      intro H locs ls hl hP hS
      refine lv_if_ge hx hb hd ht (fun h => ?_) (fun h => ?_)
      · rw [if_pos h] at hz; exact hk _ _ _ _ hz H locs ls hl hP hS
      · rw [if_neg h] at hz; exact hk _ _ _ _ hz H locs ls hl hP hS
    | gt =>
      obtain ⟨x, q, rfl, hz⟩ := sf_i1_inv hs
      intro H locs ls hl hP hS
      refine lv_if_gt hx hb hd ht (fun h => ?_) (fun h => ?_)
      · rw [if_pos h] at hz; exact hk _ _ _ _ hz H locs ls hl hP hS
      · rw [if_neg h] at hz; exact hk _ _ _ _ hz H locs ls hl hP hS
    | le =>
      obtain ⟨x, q, rfl, hz⟩ := sf_i1_inv hs
      intro H locs ls hl hP hS
      refine lv_if_le hx hb hd ht (fun h => ?_) (fun h => ?_)
      · rw [if_pos h] at hz; exact hk _ _ _ _ hz H locs ls hl hP hS
      · rw [if_neg h] at hz; exact hk _ _ _ _ hz H locs ls hl hP hS
  | if_icmp q o =>
    obtain ⟨rfl, rfl⟩ := hn.resolve_left (show ¬ sf_len (.if_icmp q o) = 0 by simp [sf_len])
    have ht := of_decide_eq_true hok
    cases q with
    | eq =>
      obtain ⟨x, y, q, rfl, hz⟩ := sf_i2_inv hs
      intro H locs ls hl hP hS
      refine lv_icmp_eq hx hb hd ht (fun h => ?_) (fun h => ?_)
      · rw [if_pos h] at hz; exact hk _ _ _ _ hz H locs ls hl hP hS
      · rw [if_neg h] at hz; exact hk _ _ _ _ hz H locs ls hl hP hS
    | ne =>
      obtain ⟨x, y, q, rfl, hz⟩ := sf_i2_inv hs
      intro H locs ls hl hP hS
      refine lv_icmp_ne hx hb hd ht (fun h => ?_) (fun h => ?_)
      · rw [if_pos h] at hz; exact hk _ _ _ _ hz H locs ls hl hP hS
      · rw [if_neg (fun hn => hn h)] at hz; exact hk _ _ _ _ hz H locs ls hl hP hS
    | lt =>
      obtain ⟨x, y, q, rfl, hz⟩ := sf_i2_inv hs
      intro H locs ls hl hP hS
      refine lv_icmp_lt hx hb hd ht (fun h => ?_) (fun h => ?_)
      · rw [if_pos h] at hz; exact hk _ _ _ _ hz H locs ls hl hP hS
      · rw [if_neg h] at hz; exact hk _ _ _ _ hz H locs ls hl hP hS
    | ge =>
      obtain ⟨x, y, q, rfl, hz⟩ := sf_i2_inv hs
      intro H locs ls hl hP hS
      refine lv_icmp_ge hx hb hd ht (fun h => ?_) (fun h => ?_)
      · rw [if_pos h] at hz; exact hk _ _ _ _ hz H locs ls hl hP hS
      · rw [if_neg h] at hz; exact hk _ _ _ _ hz H locs ls hl hP hS
    | gt =>
      obtain ⟨x, y, q, rfl, hz⟩ := sf_i2_inv hs
      intro H locs ls hl hP hS
      refine lv_icmp_gt hx hb hd ht (fun h => ?_) (fun h => ?_)
      · rw [if_pos h] at hz; exact hk _ _ _ _ hz H locs ls hl hP hS
      · rw [if_neg h] at hz; exact hk _ _ _ _ hz H locs ls hl hP hS
    | le =>
      obtain ⟨x, y, q, rfl, hz⟩ := sf_i2_inv hs
      intro H locs ls hl hP hS
      refine lv_icmp_le hx hb hd ht (fun h => ?_) (fun h => ?_)
      · rw [if_pos h] at hz; exact hk _ _ _ _ hz H locs ls hl hP hS
      · rw [if_neg h] at hz; exact hk _ _ _ _ hz H locs ls hl hP hS
  | tableswitch d lo hi offs =>
    obtain ⟨x, q, rfl, hz⟩ := sf_i1_inv hs
    simp only [sf_ok1, Bool.and_eq_true, decide_eq_true_eq] at hok
    obtain ⟨⟨h1, h2⟩, h3⟩ := hok
    rcases sf_tbs_ok (K := fun t => K t L q σ) (d := tg) _ _ _ h2 hz with ⟨t2, off, a1, a2, a3, a4, a5⟩ | ⟨a1, a2⟩
    · exact (hk _ _ _ _ a5).go fun H locs ls hl w => lv_tableIn hx hb hd a1 (by rw [h3]; simp at a2; omega) (by rw [← a3]; simp) a4 w
    · exact (hk _ _ _ _ a2).go fun H locs ls hl w => lv_tableOut hx hb hd (by rw [h3]; simp at a1; omega) h1 w
  | lookupswitch d ps =>
    obtain ⟨x, q, rfl, hz⟩ := sf_i1_inv hs
    simp only [sf_ok1, Bool.and_eq_true, decide_eq_true_eq] at hok
    obtain ⟨⟨h1, h2⟩, h3⟩ := hok
    obtain ⟨t2, a1, a2⟩ := sf_lks_ok (K := fun t => K t L q σ) h1 _ _ h2 hz
    exact (hk _ _ _ _ a2).go fun H locs ls hl w => lv_lookup hx hb hd h3 rfl a1 w
  | getfield k =>
    obtain ⟨rfl, rfl⟩ := hn.resolve_left (show ¬ sf_len (.getfield k) = 0 by simp [sf_len])
    simp only [sf_step] at hs
    split at hs
    · obtain ⟨ci, fs, j, x, e1, e2, e3, hz⟩ := sf_getf_inv hs
      obtain ⟨kd, e4, -⟩ := sf_hasf_ok hok e2
      exact sf_row_get h0 e1 e3 (hfl _ e4) hd (hk _ _ _ _ hz)
    · cases hs
  | putfield k =>
    obtain ⟨rfl, rfl⟩ := hn.resolve_left (show ¬ sf_len (.putfield k) = 0 by simp [sf_len])
    simp only [sf_step] at hs
    split at hs
    · obtain ⟨ci, fs, j, e1, e2, e3, hz⟩ := sf_putf_inv hs
      split at hz
      · obtain ⟨kd, e4, e5⟩ := sf_hasf_ok hok e2
        have e6 : kd = 1 := by simpa using e5
        exact sf_row_put h0 e1 e3 (hfl _ e4) (Or.inl e6) hd (hk _ _ _ _ hz)
      · rename_i hnv
        have hok2 : sf_hasf fl k [2] fp = true := by
          cases v with
          | null => exact absurd rfl hnv
          | _ => exact hok
        obtain ⟨kd, e4, e5⟩ := sf_hasf_ok hok2 e2
        have e6 : kd = 2 := by simpa using e5
        split at hz
        · rename_i h01
          exact sf_row_put h0 e1 e3 (hfl _ e4) (Or.inr ⟨e6, h01⟩) hd (hk _ _ _ _ hz)
        · cases hz
    · cases hs
  | iaload =>
    obtain ⟨rfl, rfl⟩ := hn.resolve_left (show ¬ sf_len (.iaload) = 0 by simp [sf_len])
    simp only [sf_step] at hs
    split at hs
    · obtain ⟨t, z, e1, hz⟩ := sf_ar_inv hs
      split at hz
      · split at hz
        · rename_i hin
          exact sf_row_ild h0 e1 hin hd (hk _ _ _ _ hz)
        · cases hz
      · cases hz
    · cases hs
  | iastore =>
    obtain ⟨rfl, rfl⟩ := hn.resolve_left (show ¬ sf_len (.iastore) = 0 by simp [sf_len])
    simp only [sf_step] at hs
    split at hs
    · obtain ⟨t, z, e1, hz⟩ := sf_ar_inv hs
      split at hz
      · split at hz
        · rename_i hin
          exact sf_row_ist h0 e1 hin hd (hk _ _ _ _ hz)
        · cases hz
      · cases hz
    · cases hs
  | baload =>
    obtain ⟨rfl, rfl⟩ := hn.resolve_left (show ¬ sf_len (.baload) = 0 by simp [sf_len])
    simp only [sf_step] at hs
    split at hs
    · obtain ⟨t, z, e1, hz⟩ := sf_ar_inv hs
      split at hz
      · split at hz
        · rename_i hin
          exact sf_row_zld h0 e1 hin hd (hk _ _ _ _ hz)
        · cases hz
      · split at hz
        · rename_i hin
          exact sf_row_bld h0 e1 hin hd (hk _ _ _ _ hz)
        · cases hz
      · cases hz
    · cases hs
  | bastore =>
    obtain ⟨rfl, rfl⟩ := hn.resolve_left (show ¬ sf_len (.bastore) = 0 by simp [sf_len])
    simp only [sf_step] at hs
    split at hs
    · obtain ⟨t, z, e1, hz⟩ := sf_ar_inv hs
      split at hz
      · split at hz
        · rename_i hin
          exact sf_row_zst h0 e1 hin hd (hk _ _ _ _ hz)
        · cases hz
      · split at hz
        · rename_i hin
          exact sf_row_bst h0 e1 hin hd (hk _ _ _ _ hz)
        · cases hz
      · cases hz
    · cases hs
  | ireturn =>
    obtain ⟨rfl, rfl⟩ := hn.resolve_left (show ¬ sf_len (.ireturn) = 0 by simp [sf_len])
    simp only [sf_step] at hs
    split at hs
    · exact hret _ _ _ _ _ _ hs hp hd (Or.inl ⟨rfl, _, rfl⟩)
    · cases hs
  | lreturn =>
    obtain ⟨rfl, rfl⟩ := hn.resolve_left (show ¬ sf_len (.lreturn) = 0 by simp [sf_len])
    simp only [sf_step] at hs
    split at hs
    · exact hret _ _ _ _ _ _ hs hp hd (Or.inr (Or.inl ⟨rfl, _, rfl⟩))
    · cases hs
  | return_ =>
    obtain ⟨rfl, rfl⟩ := hn.resolve_left (show ¬ sf_len (.return_) = 0 by simp [sf_len])
    simp only [sf_step] at hs
    split at hs
    · exact hret _ _ _ _ _ _ hs hp hd (Or.inr (Or.inr ⟨rfl, rfl⟩))
    · cases hs
  | invokevirtual k =>
    obtain ⟨rfl, rfl⟩ := hn.resolve_left (show ¬ sf_len (.invokevirtual k) = 0 by simp [sf_len])
    simp only [sf_step] at hs
    split at hs
    · rename_i j hj
      exact hJ _ _ _ _ _ _ _ hj hs (fun st2 σ2 h => hk _ _ _ _ h)
    · cases hs
  | invokestatic k =>
    obtain ⟨rfl, rfl⟩ := hn.resolve_left (show ¬ sf_len (.invokestatic k) = 0 by simp [sf_len])
    simp only [sf_step] at hs
    split at hs
    · rename_i j hj
      exact hJ _ _ _ _ _ _ _ hj hs (fun st2 σ2 h => hk _ _ _ _ h)
    · cases hs
  | _ => simp [sf_step] at hs
theorem sf_run_ok {ρ : Type} {Wt : Nat → sf_L → List Value → sf_S → Prop} {rh : Option Value → sf_S → Option ρ} {J : List (Nat × sf_J ρ)} {tab : List (Nat × sf_E)} {Post : ρ → Prop} {sm : List (Nat × sf_M ρ)} (hsnd : sf_Snd Wt lay rh J tab Post) (hsm : ∀ pc f L st σ r, sf_as sm pc = some f → f L st σ = some r → Post r → Wt pc L st σ) : ∀ (n pc : Nat) (L : sf_L) (st : List Value) (σ : sf_S) (r : ρ), sf_run lay rh J tab sm n pc L st σ = some r → Post r → Wt pc L st σ
  | 0, _, _, _, _, _, h, _ => by simp [sf_run] at h
  | n + 1, pc, L, st, σ, r, h, hp => by
    simp only [sf_run] at h
    split at h
    · rename_i e he
      refine hsnd pc e L st σ _ r he h hp (fun pc2 L2 st2 σ2 h2 => ?_)
      try dsimp only at h2
      split at h2
      · rename_i f hf
        exact hsm _ _ _ _ _ _ hf h2 hp
      · exact sf_run_ok hsnd hsm n pc2 L2 st2 σ2 r h2 hp
    · cases h
end SFS
end
section
/-! a method's contract, in the small machine's words; calls -/
def sf_nest : Cond → Bool
  | .fieldLinkNest _ _ _ _ _ _ => true
  | .methodLinkNest _ _ _ _ => true
  | _ => false
def sf_T : List Cond := lw_tbl.filter goodWord
def sf_N : List Cond := lw_tbl.filter sf_nest
theorem sf_T_of {w : Cond} (i : Nat) (h : lw_tbl[i]? = some w) (hg : goodWord w = true) : w ∈ sf_T := List.mem_filter.mpr ⟨List.mem_of_getElem? h, hg⟩
theorem sf_N_of {w : Cond} (i : Nat) (h : lw_tbl[i]? = some w) (hg : sf_nest w = true) : w ∈ sf_N := List.mem_filter.mpr ⟨List.mem_of_getElem? h, hg⟩
theorem sf_T_good : GoodIn sf_T sf_T := fun w h => ⟨h, good_of_word (List.mem_filter.mp h).2⟩
theorem sf_T_code {y : MethodName} {cc : ByteArray} {nL : Nat} {ret : Option FieldType} (h : Cond.code y cc nL ret ∈ sf_T) : GoodIn sf_T (Cond.code y cc nL ret :: sf_T) := fun w hw => by
  rcases List.mem_cons.mp hw with rfl | hw
  · exact sf_T_good _ h
  · exact sf_T_good _ hw
theorem sf_N_warm {s U : State} (hW : s.WarmedH U.vm) (h : ∀ w ∈ sf_N, va_Nw w s) : ∀ w ∈ sf_N, va_Nw w U := by
  intro w hw
  have h1 := (List.mem_filter.mp hw).2
  have h2 := h w hw
  cases w with
  | fieldLinkNest a b c d e f => exact va_Nw.warmF hW h2
  | methodLinkNest a b c d => exact va_Nw.warmM hW h2
  | _ => cases h1
theorem sf_N_same {s U : State} (hv : s.vm = U.vm) (h : ∀ w ∈ sf_N, va_Nw w s) : ∀ w ∈ sf_N, va_Nw w U := by
  intro w hw
  have h1 := (List.mem_filter.mp hw).2
  have h2 := h w hw
  cases w with
  | fieldLinkNest a b c d e f => exact va_Nw.same rfl hv h2
  | methodLinkNest a b c d => exact va_Nw.same rfl hv h2
  | _ => cases h1
/-- a method's start and end -/
def sf_Pc (lay : sf_Lay) (D : va_G) (cy : Nat → ClassId) (ad : Nat → Nat) (sz : Nat) (av : List Value) (σ : sf_S) : Array Value → State → Prop := va_Pc (av.map (sf_v ad)) fun U => U.heap.size = sz ∧ va_P D vwCl (sf_wd lay ad cy σ) U.heap ∧ va_K D vwCl (sf_ty cy) U ∧ ∀ w ∈ sf_N, va_Nw w U
def sf_Qc (lay : sf_Lay) (D : va_G) (cy : Nat → ClassId) (ad : Nat → Nat) (A : Nat → Prop) (r : sf_Q) : Array Value → State → Outcome → State → Prop := fun _ st oc t => (oc = .returned (r.1.map (sf_v ad)) ∧ va_P D vwCl (sf_wd lay ad cy r.2) t.heap) ∧ va_F A st t
def sf_C (l : Launch) (lay : sf_Lay) (y : MethodName) (cc : ByteArray) (nL : Nat) (ret : Option FieldType) (rm : Room) (F : List Value → sf_S → Option sf_Q) : Prop :=
  rm.cells = 0 ∧ rm.slots = 0 ∧ ∀ (D : va_G) (cy : Nat → ClassId) (ad : Nat → Nat) (sz : Nat) (av : List Value) (σ : sf_S) (r : sf_Q), sf_inj lay ad → F av σ = some r →
    Met l y (Cond.code y cc nL ret :: sf_T) rm (sf_Pc lay D cy ad sz av σ) (sf_Qc lay D cy ad (sf_A lay ad sz) r) 0 0 (sf_A lay ad sz)
theorem sf_pc_blind {lay : sf_Lay} {D : va_G} {cy : Nat → ClassId} {ad : Nat → Nat} {sz : Nat} {av : List Value} {σ : sf_S} : FrameBlind (sf_Pc lay D cy ad sz av σ) := by
  intro a U g mk h
  obtain ⟨h1, h2, h3, h4, h5⟩ := h
  exact ⟨h1, h2, h3, va_K.moved (u := U) (U := U.calling g mk a) (Vm.Alike.refl U.vm) h4, sf_N_same (s := U) (U := U.calling g mk a) rfl h5⟩
theorem sf_v_none {v : Value} (ad : Nat → Nat) (h : ∀ q, v ≠ .ref q) : sf_v ad v = v := by
  cases v with
  | ref q => exact absurd rfl (h q)
  | _ => rfl
theorem sf_cat4 (r : List Value) (h : r.length ≤ 4) : (r.map fun v => v.category).sum ≤ 8 := by
  have key : ∀ (r : List Value), (r.map fun v => v.category).sum ≤ 2 * r.length := by
    intro r
    induction r with
    | nil => simp
    | cons v r ih =>
      simp only [List.map_cons, List.sum_cons, List.length_cons]
      rcases lv_cat v with h1 | h1 <;> omega
  have := key r
  omega
section SFC
variable {p : Program} {l : Launch} {e0 : Env} {R : Room} {s : State} {m : MethodId} {args : Array Value} {below : List Frame} {meth : Method} {c : Code} {Q : State → Prop} {cc : ByteArray} {nL : Nat} {lay : sf_Lay} {D : va_G} {cy : Nat → ClassId} {ad : Nat → Nat} {A : Nat → Prop} {own : String}
/-- behind a call -/
theorem sf_behind {pc : Nat} {L : sf_L} {st rest : List Value} {σ : sf_S} {r : sf_Q} {a : Array Value} (hA : ∀ k, k < lay.length → A (ad k)) (hAs : ∀ q, s.heap.size ≤ q → A q)
    (hr : ∀ (H : Heap) (locs : List Loc) (ls : Array Slot), sf_LV ls nL ad L → va_P D vwCl (sf_wd lay ad cy σ) H → va_S A s.heap H locs → va_Run p l e0 R s m args below meth c H locs 0 0 0 0 (F0 m pc ls (st.map (sf_v ad))) (rest.map (sf_v ad)) (sf_Qc lay D cy ad (sf_A lay ad H.size) r a) (sf_A lay ad H.size))
    (kk : sf_W p l e0 R s m args below meth c Q nL lay D cy ad A (pc + 3) L (r.1.toList ++ rest) r.2) : sf_W p l e0 R s m args below meth c Q nL lay D cy ad A pc L st σ := by
  intro H locs ls hl hP hS T hT X
  obtain ⟨v, st₀, t, T', L', h0, X', hL, e1, e2, ⟨⟨hv, hw⟩, hz, hk⟩, stp⟩ := hr H locs ls hl hP hS T hT X
  have hv : v = r.1.map (sf_v ad) := by injection hv
  subst hv
  rw [h0] at hz hk
  have hfree : ∀ q, sf_A lay ad H.size q → A q := by
    intro q hq
    rcases hq with ⟨k, h1, rfl⟩ | hq
    · exact hA k h1
    · exact hAs q (Nat.le_trans hS.1 hq)
  have hS1 : va_S A s.heap T'.heap (locs ++ L') := ⟨Nat.le_trans hS.1 (by rw [e1]; exact hz), fun q h1 h2 => by rw [e1, hk q (Nat.lt_of_lt_of_le h1 hS.1) (fun z => h2 (hfree q z))]; exact hS.2.1 q h1 h2, fun q hq => by
      rcases List.mem_append.mp hq with h | h
      · exact hS.2.2 q h
      · exact hfree _ (hL q h)⟩
  obtain ⟨t2, a1, b1⟩ := kk T'.heap (locs ++ L') ls hl (by rw [e1]; exact hw) hS1 T' rfl X'
  refine ⟨t2, stp t2 ?_, b1⟩
  have he : (r.1.toList ++ rest).map (sf_v ad) = (r.1.map (sf_v ad)).toList ++ rest.map (sf_v ad) := by
    rw [List.map_append]
    cases r.1 <;> rfl
  rw [he] at a1
  exact a1
end SFC
/-- in every body of a method: its calls are sound (at the place pc) -/
def sf_JE {ρ : Type} (l : Launch) (own : String) (cc : ByteArray) (nL : Nat) (rm : Room) (lay : sf_Lay) (pc : Nat) (j : sf_J ρ) : Prop :=
  ∀ (p : Program) (e0 : Env) (s : State) (m : MethodId) (args : Array Value) (below : List Frame) (meth : Method) (c : Code) (Q : State → Prop) (D : va_G) (cy : Nat → ClassId) (ad : Nat → Nat) (A : Nat → Prop), sf_At p s m args c own cc nL lay D cy ad A sf_T → (∀ w ∈ sf_N, va_Nw w s) →
    ∀ (L : sf_L) (st : List Value) (σ : sf_S) (K : List Value → sf_S → Option ρ) (r : ρ), j st σ K = some r → (∀ st2 σ2, K st2 σ2 = some r → sf_W p l e0 rm s m args below meth c Q nL lay D cy ad A (pc + 3) L st2 σ2) → sf_W p l e0 rm s m args below meth c Q nL lay D cy ad A pc L st σ
def sf_JO {ρ : Type} (l : Launch) (own : String) (cc : ByteArray) (nL : Nat) (rm : Room) (lay : sf_Lay) (J : List (Nat × sf_J ρ)) : Prop := ∀ q ∈ J, sf_JE l own cc nL rm lay q.1 q.2
theorem sf_JO_nil {ρ : Type} {l : Launch} {own : String} {cc : ByteArray} {nL : Nat} {rm : Room} {lay : sf_Lay} : sf_JO (ρ := ρ) l own cc nL rm lay [] := fun _ h => absurd h List.not_mem_nil
theorem sf_JO_cons {ρ : Type} {l : Launch} {own : String} {cc : ByteArray} {nL : Nat} {rm : Room} {lay : sf_Lay} {pc : Nat} {j : sf_J ρ} {J : List (Nat × sf_J ρ)} (h : sf_JE l own cc nL rm lay pc j) (h2 : sf_JO l own cc nL rm lay J) : sf_JO l own cc nL rm lay ((pc, j) :: J) := List.forall_mem_cons.mpr ⟨h, h2⟩
def sf_jG {ρ τ : Type} (lay : sf_Lay) (cs : List Nat) (n : Nat) (g : List Value → sf_S → Option τ) (tv : τ → sf_Q) : sf_J ρ := fun st σ K => if sf_rc lay cs n st then (g (st.take n).reverse σ).bind fun u => K ((tv u).1.toList ++ st.drop n) (tv u).2 else none
/-- what a call hands over -/
theorem sf_pre {lay : sf_Lay} {D : va_G} {cy : Nat → ClassId} {ad : Nat → Nat} {s : State} {H : Heap} {av : List Value} {σ : sf_S} (hP : va_P D vwCl (sf_wd lay ad cy σ) H) (hK : va_K D vwCl (sf_ty cy) s) (hN : ∀ w ∈ sf_N, va_Nw w s) : ∀ U : State, U.heap = H → s.WarmedH U.vm → sf_Pc lay D cy ad H.size av σ (av.map (sf_v ad)).toArray U :=
  fun U hU hW => ⟨rfl, by rw [hU], by rw [hU]; exact hP, va_K.moved hW.alike hK, sf_N_warm hW hN⟩
theorem sf_jG_inv {ρ τ : Type} {lay : sf_Lay} {cs : List Nat} {n : Nat} {g : List Value → sf_S → Option τ} {tv : τ → sf_Q} {st : List Value} {σ : sf_S} {K : List Value → sf_S → Option ρ} {r : ρ} (h : sf_jG lay cs n g tv st σ K = some r) : sf_rc lay cs n st = true ∧ ∃ u, (g (st.take n).reverse σ).map tv = some u ∧ K (u.1.toList ++ st.drop n) u.2 = some r := by
  unfold sf_jG at h
  split at h
  · rename_i hr
    cases hg : g (st.take n).reverse σ with
    | none => rw [hg] at h; cases h
    | some u =>
      rw [hg] at h
      exact ⟨hr, tv u, rfl, h⟩
  · cases h
theorem sf_rc_inv {lay : sf_Lay} {cs : List Nat} {n : Nat} {st : List Value} (h : sf_rc lay cs n st = true) : n ≤ st.length ∧ (st.drop n).length ≤ 4 ∧ (cs = [] ∨ ∃ q ci fs, st[n - 1]? = some (.ref q) ∧ lay[q]? = some (.inl (ci, fs)) ∧ ci ∈ cs) := by
  simp only [sf_rc, Bool.and_eq_true] at h
  obtain ⟨⟨h1, h2⟩, h3⟩ := h
  have h1 := Nat.le_of_ble_eq_true h1
  have h2 := Nat.le_of_ble_eq_true h2
  refine ⟨h1, by simp; omega, ?_⟩
  split at h3
  · exact Or.inl rfl
  · split at h3
    · rename_i q hq
      split at h3
      · rename_i ci fs hl
        obtain ⟨z, hz, e⟩ := List.any_eq_true.mp h3
        rw [Nat.eq_of_beq_eq_true e] at hz
        exact Or.inr ⟨q, ci, fs, hq, hl, hz⟩
      · cases h3
    · cases h3
theorem sf_stack {n : Nat} {st : List Value} {q : Nat} (hn : 1 ≤ n) (hl : n ≤ st.length) (h : st[n - 1]? = some (.ref q)) (ad : Nat → Nat) : (st.take n).reverse = .ref q :: (st.take (n - 1)).reverse ∧ st.map (sf_v ad) = ((st.take (n - 1)).reverse.map (sf_v ad)).reverse ++ .ref (ad q) :: (st.drop n).map (sf_v ad) := by
  have h1 : st.take n = st.take (n - 1) ++ [.ref q] := by
    have : n = (n - 1) + 1 := by omega
    rw [this, List.take_succ, Nat.add_sub_cancel, h]
    rfl
  refine ⟨by rw [h1, List.reverse_append]; rfl, ?_⟩
  have h2 : st = st.take n ++ st.drop n := (List.take_append_drop n st).symm
  conv => lhs; rw [h2, h1]
  simp [sf_v]
/-- the words of a call of a method y, whose code is known -/
def sf_MW (y : MethodName) (cc : ByteArray) (nL : Nat) (ret : Option FieldType) : Prop := Cond.code y cc nL ret ∈ sf_T ∧ Cond.initialized y.cls ∈ sf_T ∧ y.cls ≠ "java/lang/invoke/MethodHandle" ∧ y.cls ≠ "java/lang/invoke/VarHandle"
def sf_RM (rm rm2 : Room) (nL2 : Nat) : Prop := rm2.frames + 1 ≤ rm.frames ∧ 8 + (nL2 + 11) + rm2.locals ≤ rm.locals ∧ rm.cells = 0 ∧ rm.slots = 0
theorem sf_je_V {ρ τ : Type} {l : Launch} {own : String} {cc cc2 : ByteArray} {nL nL2 idx pc n : Nat} {rm rm2 : Room} {lay : sf_Lay} {y : MethodName} {ret : Option FieldType} {cs : List Nat} {g : List Value → sf_S → Option τ} {tv : τ → sf_Q} (hC : sf_C l lay y cc2 nL2 ret rm2 fun av σ => (g av σ).map tv) (hw : sf_MW y cc2 nL2 ret) (hd : decode cc pc = .ok (.invokevirtual idx, 3)) (hl : Cond.methodLink own idx y ∈ sf_T) (hi : Cond.instanceMethod y ∈ sf_T) (hsel : Cond.selects y.cls y y ∈ sf_T)
    (hn : (parseMethodDescriptor y.desc).map (fun d => d.parameters.length) = some (n - 1)) (hn1 : 1 ≤ n) (hcs : cs ≠ []) (hcl : ∀ ci ∈ cs, ∃ T N, vwCl[ci]? = some (y.cls, T, N)) (hrm : sf_RM rm rm2 nL2) : sf_JE (ρ := ρ) l own cc nL rm lay pc (sf_jG lay cs n g tv) := by
  intro p e0 s m args below meth c Q D cy ad A h0 hN L st σ K r hj hk
  obtain ⟨hx, hb, hml, hown, hts, hK, hinj, hA, hAs⟩ := h0
  obtain ⟨hrc, u, hu, hr⟩ := sf_jG_inv hj
  obtain ⟨hlen, hrest, hq⟩ := sf_rc_inv hrc
  obtain ⟨q, ci, fs, hq1, hq2, hq3⟩ := hq.resolve_left hcs
  obtain ⟨T, N, hT⟩ := hcl ci hq3
  obtain ⟨e1, e2⟩ := sf_stack hn1 hlen hq1 ad
  obtain ⟨hc0, hs0, hMet⟩ := hC
  obtain ⟨w1, w2, w3, w4⟩ := hw
  obtain ⟨r1, r2, r3, r4⟩ := hrm
  refine sf_behind (rest := st.drop n) (r := u) (a := (Value.ref (ad q) :: ((st.take (n - 1)).reverse.map (sf_v ad))).toArray) hA hAs (fun H locs ls hl0 hP hS => ?_) (hk _ _ hr)
  have hM := hMet D cy ad H.size _ σ u hinj hu
  have hsz : (((st.take (n - 1)).reverse.map (sf_v ad)).length) = n - 1 := by simp; omega
  have cw : CallW rm s args own y.cls idx y cc2 nL2 ret (Cond.code y cc2 nL2 ret :: sf_T) rm2 0 0 (n - 1) :=
    ⟨callB_of (n - 1) hts (sf_T_code w1) rfl hc0 hs0 (hts _ w2) (hts _ hl) ⟨w3, w4, hn⟩ ⟨r1, r2⟩, hts _ hi, hts _ hsel⟩
  have hpre : PreV s H y.cls (ad q) (sf_Pc lay D cy ad H.size (st.take n).reverse σ) ((st.take (n - 1)).reverse.map (sf_v ad)) := by
    refine ⟨sf_pc_blind, va_recv hK hP hT (sf_wd_at hq2), fun U hU hW => ?_⟩
    have := sf_pre (av := (st.take n).reverse) hP hK hN U hU hW
    rw [e1] at this
    rw [e1]
    exact this
  exact va_runV (As := (st.take (n - 1)).reverse.map (sf_v ad)) (rest := (st.drop n).map (sf_v ad)) ⟨hx, hb, hml, hown, hts⟩ hM cw hpre rfl hsz hl0.1 e2 (lv_room (sf_cat4 _ (by simpa using hrest))) hd ⟨by rw [r3]; exact Nat.zero_le _, by rw [r4]; exact Nat.zero_le _⟩
end
section
/-! the other kinds of calls; a method's contract out of its code -/
theorem sf_je_N {ρ τ : Type} {l : Launch} {own : String} {cc cc2 : ByteArray} {nL nL2 idx pc n : Nat} {rm rm2 : Room} {lay : sf_Lay} {y : MethodName} {ret : Option FieldType} {cs : List Nat} {g : List Value → sf_S → Option τ} {tv : τ → sf_Q} (host : String) (hC : sf_C l lay y cc2 nL2 ret rm2 fun av σ => (g av σ).map tv) (hw : sf_MW y cc2 nL2 ret) (hd : decode cc pc = .ok (.invokevirtual idx, 3)) (hl : Cond.methodLinkNest own idx y host ∈ sf_N) (hi : Cond.instanceMethod y ∈ sf_T) (hsel : Cond.selects y.cls y y ∈ sf_T)
    (hn : (parseMethodDescriptor y.desc).map (fun d => d.parameters.length) = some (n - 1)) (hn1 : 1 ≤ n) (hcs : cs ≠ []) (hcl : ∀ ci ∈ cs, ∃ T N, vwCl[ci]? = some (y.cls, T, N)) (hrm : sf_RM rm rm2 nL2) : sf_JE (ρ := ρ) l own cc nL rm lay pc (sf_jG lay cs n g tv) := by
  intro p e0 s m args below meth c Q D cy ad A h0 hN L st σ K r hj hk
  obtain ⟨hx, hb, hml, hown, hts, hK, hinj, hA, hAs⟩ := h0
  obtain ⟨hrc, u, hu, hr⟩ := sf_jG_inv hj
  obtain ⟨hlen, hrest, hq⟩ := sf_rc_inv hrc
  obtain ⟨q, ci, fs, hq1, hq2, hq3⟩ := hq.resolve_left hcs
  obtain ⟨T, N, hT⟩ := hcl ci hq3
  obtain ⟨e1, e2⟩ := sf_stack hn1 hlen hq1 ad
  obtain ⟨hc0, hs0, hMet⟩ := hC
  obtain ⟨w1, w2, w3, w4⟩ := hw
  obtain ⟨r1, r2, r3, r4⟩ := hrm
  refine sf_behind (rest := st.drop n) (r := u) (a := (Value.ref (ad q) :: ((st.take (n - 1)).reverse.map (sf_v ad))).toArray) hA hAs (fun H locs ls hl0 hP hS => ?_) (hk _ _ hr)
  have hM := hMet D cy ad H.size _ σ u hinj hu
  have hsz : (((st.take (n - 1)).reverse.map (sf_v ad)).length) = n - 1 := by simp; omega
  have cw : va_CN rm s args own idx y host cc2 nL2 ret (Cond.code y cc2 nL2 ret :: sf_T) rm2 0 0 (n - 1) :=
    va_cnB (n - 1) hts (sf_T_code w1) rfl hc0 hs0 (hN _ hl) (hts _ w2) ⟨w3, w4, hn⟩ ⟨r1, r2⟩
  have hpre : PreV s H y.cls (ad q) (sf_Pc lay D cy ad H.size (st.take n).reverse σ) ((st.take (n - 1)).reverse.map (sf_v ad)) := by
    refine ⟨sf_pc_blind, va_recv hK hP hT (sf_wd_at hq2), fun U hU hW => ?_⟩
    have := sf_pre (av := (st.take n).reverse) hP hK hN U hU hW
    rw [e1] at this
    rw [e1]
    exact this
  exact va_runVN (As := (st.take (n - 1)).reverse.map (sf_v ad)) (rest := (st.drop n).map (sf_v ad)) ⟨hx, hb, hml, hown, hts⟩ hM ⟨cw, hts _ hi, hts _ hsel⟩ hpre rfl hsz hl0.1 e2 (lv_room (sf_cat4 _ (by simpa using hrest))) hd ⟨by rw [r3]; exact Nat.zero_le _, by rw [r4]; exact Nat.zero_le _⟩
theorem sf_je_U {ρ τ : Type} {l : Launch} {own : String} {cc cc2 : ByteArray} {nL nL2 idx pc n : Nat} {rm rm2 : Room} {lay : sf_Lay} {x y : MethodName} {ret : Option FieldType} {cs : List Nat} {g : List Value → sf_S → Option τ} {tv : τ → sf_Q} (hC : sf_C l lay y cc2 nL2 ret rm2 fun av σ => (g av σ).map tv) (hw : sf_MW y cc2 nL2 ret) (hd : decode cc pc = .ok (.invokevirtual idx, 3)) (hl : Cond.methodLink own idx x ∈ sf_T) (hi : Cond.instanceMethod y ∈ sf_T) (hsm : Cond.sameMethod x.cls y.cls x.name x.desc ∈ sf_T) (hyx : y = ⟨y.cls, x.name, x.desc⟩)
    (hn : (parseMethodDescriptor x.desc).map (fun d => d.parameters.length) = some (n - 1)) (hn1 : 1 ≤ n) (hcs : cs ≠ []) (hcl : ∀ ci ∈ cs, ∃ C T N, vwCl[ci]? = some (C, T, N) ∧ Cond.selects C x y ∈ sf_T) (hrm : sf_RM rm rm2 nL2) : sf_JE (ρ := ρ) l own cc nL rm lay pc (sf_jG lay cs n g tv) := by
  intro p e0 s m args below meth c Q D cy ad A h0 hN L st σ K r hj hk
  obtain ⟨hx, hb, hml, hown, hts, hK, hinj, hA, hAs⟩ := h0
  obtain ⟨hrc, u, hu, hr⟩ := sf_jG_inv hj
  obtain ⟨hlen, hrest, hq⟩ := sf_rc_inv hrc
  obtain ⟨q, ci, fs, hq1, hq2, hq3⟩ := hq.resolve_left hcs
  obtain ⟨C, T, N, hT, hsel⟩ := hcl ci hq3
  obtain ⟨e1, e2⟩ := sf_stack hn1 hlen hq1 ad
  obtain ⟨hc0, hs0, hMet⟩ := hC
  obtain ⟨w1, w2, w3, w4⟩ := hw
  obtain ⟨r1, r2, r3, r4⟩ := hrm
  refine sf_behind (rest := st.drop n) (r := u) (a := (Value.ref (ad q) :: ((st.take (n - 1)).reverse.map (sf_v ad))).toArray) hA hAs (fun H locs ls hl0 hP hS => ?_) (hk _ _ hr)
  have hM := hMet D cy ad H.size _ σ u hinj hu
  have hsz : (((st.take (n - 1)).reverse.map (sf_v ad)).length) = n - 1 := by simp; omega
  have cw : va_CU rm s args own C y.cls idx x y cc2 nL2 ret (Cond.code y cc2 nL2 ret :: sf_T) rm2 0 0 (n - 1) := by
    refine ⟨⟨hc0, hs0, r1, r2, pay_in hts (sf_T_code w1), List.mem_cons_self⟩, hts _ w1, hts _ w2, ⟨w3, w4⟩, fun sig h => ?_, hts _ hl, hts _ hsm, ?_, hts _ hsel, hts _ hi⟩
    · rw [h] at hn
      exact (Option.some.inj hn).symm
    · rw [← hyx]
      exact va_Decl.of (hts _ hi) (hts _ w1)
  have hpre : PreV s H C (ad q) (sf_Pc lay D cy ad H.size (st.take n).reverse σ) ((st.take (n - 1)).reverse.map (sf_v ad)) := by
    refine ⟨sf_pc_blind, va_recv hK hP hT (sf_wd_at hq2), fun U hU hW => ?_⟩
    have := sf_pre (av := (st.take n).reverse) hP hK hN U hU hW
    rw [e1] at this
    rw [e1]
    exact this
  exact va_runU (As := (st.take (n - 1)).reverse.map (sf_v ad)) (rest := (st.drop n).map (sf_v ad)) ⟨hx, hb, hml, hown, hts⟩ hM cw hpre rfl hsz hl0.1 e2 (lv_room (sf_cat4 _ (by simpa using hrest))) hd ⟨by rw [r3]; exact Nat.zero_le _, by rw [r4]; exact Nat.zero_le _⟩
theorem sf_stackS (n : Nat) (st : List Value) (ad : Nat → Nat) : st.map (sf_v ad) = ((st.take n).reverse.map (sf_v ad)).reverse ++ (st.drop n).map (sf_v ad) := by
  conv => lhs; rw [← List.take_append_drop n st]
  simp
theorem sf_je_S {ρ τ : Type} {l : Launch} {own : String} {cc cc2 : ByteArray} {nL nL2 idx pc n : Nat} {rm rm2 : Room} {lay : sf_Lay} {y : MethodName} {ret : Option FieldType} {g : List Value → sf_S → Option τ} {tv : τ → sf_Q} (hC : sf_C l lay y cc2 nL2 ret rm2 fun av σ => (g av σ).map tv) (hw : sf_MW y cc2 nL2 ret) (hd : decode cc pc = .ok (.invokestatic idx, 3)) (hl : Cond.methodLink own idx y ∈ sf_T) (hi : Cond.static y ∈ sf_T)
    (hn : (parseMethodDescriptor y.desc).map (fun d => d.parameters.length) = some n) (hrm : sf_RM rm rm2 nL2) : sf_JE (ρ := ρ) l own cc nL rm lay pc (sf_jG lay [] n g tv) := by
  intro p e0 s m args below meth c Q D cy ad A h0 hN L st σ K r hj hk
  obtain ⟨hx, hb, hml, hown, hts, hK, hinj, hA, hAs⟩ := h0
  obtain ⟨hrc, u, hu, hr⟩ := sf_jG_inv hj
  obtain ⟨hlen, hrest, -⟩ := sf_rc_inv hrc
  obtain ⟨hc0, hs0, hMet⟩ := hC
  obtain ⟨w1, w2, w3, w4⟩ := hw
  obtain ⟨r1, r2, r3, r4⟩ := hrm
  refine sf_behind (rest := st.drop n) (r := u) (a := ((st.take n).reverse.map (sf_v ad)).toArray) hA hAs (fun H locs ls hl0 hP hS => ?_) (hk _ _ hr)
  have hM := hMet D cy ad H.size _ σ u hinj hu
  have hsz : (((st.take n).reverse.map (sf_v ad)).length) = n := by simp; omega
  have cw : CallB rm s args own idx y cc2 nL2 ret (Cond.code y cc2 nL2 ret :: sf_T) rm2 0 0 n := callB_of n hts (sf_T_code w1) rfl hc0 hs0 (hts _ w2) (hts _ hl) ⟨w3, w4, hn⟩ ⟨r1, r2⟩
  have hpre : PreS s H (sf_Pc lay D cy ad H.size (st.take n).reverse σ) ((st.take n).reverse.map (sf_v ad)) := ⟨sf_pc_blind, sf_pre (av := (st.take n).reverse) hP hK hN⟩
  exact va_runS (As := (st.take n).reverse.map (sf_v ad)) (rest := (st.drop n).map (sf_v ad)) ⟨hx, hb, hml, hown, hts⟩ hM ⟨cw, hts _ hi⟩ hpre rfl hsz hl0.1 (sf_stackS n st ad) (lv_room (sf_cat4 _ (by simpa using hrest))) hd ⟨by rw [r3]; exact Nat.zero_le _, by rw [r4]; exact Nat.zero_le _⟩
theorem sf_je_SN {ρ τ : Type} {l : Launch} {own : String} {cc cc2 : ByteArray} {nL nL2 idx pc n : Nat} {rm rm2 : Room} {lay : sf_Lay} {y : MethodName} {ret : Option FieldType} {g : List Value → sf_S → Option τ} {tv : τ → sf_Q} (host : String) (hC : sf_C l lay y cc2 nL2 ret rm2 fun av σ => (g av σ).map tv) (hw : sf_MW y cc2 nL2 ret) (hd : decode cc pc = .ok (.invokestatic idx, 3)) (hl : Cond.methodLinkNest own idx y host ∈ sf_N) (hi : Cond.static y ∈ sf_T)
    (hn : (parseMethodDescriptor y.desc).map (fun d => d.parameters.length) = some n) (hrm : sf_RM rm rm2 nL2) : sf_JE (ρ := ρ) l own cc nL rm lay pc (sf_jG lay [] n g tv) := by
  intro p e0 s m args below meth c Q D cy ad A h0 hN L st σ K r hj hk
  obtain ⟨hx, hb, hml, hown, hts, hK, hinj, hA, hAs⟩ := h0
  obtain ⟨hrc, u, hu, hr⟩ := sf_jG_inv hj
  obtain ⟨hlen, hrest, -⟩ := sf_rc_inv hrc
  obtain ⟨hc0, hs0, hMet⟩ := hC
  obtain ⟨w1, w2, w3, w4⟩ := hw
  obtain ⟨r1, r2, r3, r4⟩ := hrm
  refine sf_behind (rest := st.drop n) (r := u) (a := ((st.take n).reverse.map (sf_v ad)).toArray) hA hAs (fun H locs ls hl0 hP hS => ?_) (hk _ _ hr)
  have hM := hMet D cy ad H.size _ σ u hinj hu
  have hsz : (((st.take n).reverse.map (sf_v ad)).length) = n := by simp; omega
  have cw : va_CN rm s args own idx y host cc2 nL2 ret (Cond.code y cc2 nL2 ret :: sf_T) rm2 0 0 n := va_cnB n hts (sf_T_code w1) rfl hc0 hs0 (hN _ hl) (hts _ w2) ⟨w3, w4, hn⟩ ⟨r1, r2⟩
  have hpre : PreS s H (sf_Pc lay D cy ad H.size (st.take n).reverse σ) ((st.take n).reverse.map (sf_v ad)) := ⟨sf_pc_blind, sf_pre (av := (st.take n).reverse) hP hK hN⟩
  exact va_runSN (As := (st.take n).reverse.map (sf_v ad)) (rest := (st.drop n).map (sf_v ad)) ⟨hx, hb, hml, hown, hts⟩ hM ⟨cw, hts _ hi, trivial⟩ hpre rfl hsz hl0.1 (sf_stackS n st ad) (lv_room (sf_cat4 _ (by simpa using hrest))) hd ⟨by rw [r3]; exact Nat.zero_le _, by rw [r4]; exact Nat.zero_le _⟩
/-- Math's own -/
def sf_RB (rm : Room) : Prop := 1 ≤ rm.frames ∧ 63 ≤ rm.locals ∧ rm.cells = 0 ∧ rm.slots = 0
theorem sf_room4 {r : List Value} {ad : Nat → Nat} (h : Nat.ble r.length 4 = true) : ((r.map (sf_v ad)).map fun v => v.category).sum ≤ 8 := sf_cat4 _ (by simpa using Nat.le_of_ble_eq_true h)
theorem sf_je_max {ρ : Type} {l : Launch} {own : String} {cc : ByteArray} {nL idx pc : Nat} {rm : Room} {lay : sf_Lay} (hd : decode cc pc = .ok (.invokestatic idx, 3)) (hl : Cond.methodLink own idx Lib.Math.max.name ∈ sf_T) (w1 : Cond.static Lib.Math.max.name ∈ sf_T) (w2 : Cond.initialized "java/lang/Math" ∈ sf_T) (w3 : Cond.code Lib.Math.max.name Lib.Math.max.code 2 (some .int) ∈ sf_T) (hrm : sf_RB rm) : sf_JE (ρ := ρ) l own cc nL rm lay pc sf_jmax := by
  intro p e0 s m args below meth c Q D cy ad A h0 hN L st σ K r hj hk
  obtain ⟨hx, hb, hml, hown, hts, hK, hinj, hA, hAs⟩ := h0
  obtain ⟨r1, r2, r3, r4⟩ := hrm
  simp only [sf_jmax] at hj
  split at hj
  · split at hj
    · rename_i hlen
      refine fun H locs ls hl0 hP hS => va_mmax hx hb (hml.trans hl0.1.symm) hown (hts _ hl) (hts _ w1) (hts _ w2) (hts _ w3) r1 ?_ (Nat.zero_le _) (Nat.zero_le _) hd (hk _ _ hj H locs ls hl0 hP hS)
      have := sf_room4 (ad := ad) hlen
      omega
    · cases hj
  · cases hj
theorem sf_je_min {ρ : Type} {l : Launch} {own : String} {cc : ByteArray} {nL idx pc : Nat} {rm : Room} {lay : sf_Lay} (hd : decode cc pc = .ok (.invokestatic idx, 3)) (hl : Cond.methodLink own idx Lib.Math.min.name ∈ sf_T) (w1 : Cond.static Lib.Math.min.name ∈ sf_T) (w2 : Cond.initialized "java/lang/Math" ∈ sf_T) (w3 : Cond.code Lib.Math.min.name Lib.Math.min.code 2 (some .int) ∈ sf_T) (hrm : sf_RB rm) : sf_JE (ρ := ρ) l own cc nL rm lay pc sf_jmin := by
  intro p e0 s m args below meth c Q D cy ad A h0 hN L st σ K r hj hk
  obtain ⟨hx, hb, hml, hown, hts, hK, hinj, hA, hAs⟩ := h0
  obtain ⟨r1, r2, r3, r4⟩ := hrm
  simp only [sf_jmin] at hj
  split at hj
  · split at hj
    · rename_i hlen
      refine fun H locs ls hl0 hP hS => va_mmin hx hb (hml.trans hl0.1.symm) hown (hts _ hl) (hts _ w1) (hts _ w2) (hts _ w3) r1 ?_ (Nat.zero_le _) (Nat.zero_le _) hd (hk _ _ hj H locs ls hl0 hP hS)
      have := sf_room4 (ad := ad) hlen
      omega
    · cases hj
  · cases hj
theorem sf_je_maxL {ρ : Type} {l : Launch} {own : String} {cc : ByteArray} {nL idx pc : Nat} {rm : Room} {lay : sf_Lay} (hd : decode cc pc = .ok (.invokestatic idx, 3)) (hl : Cond.methodLink own idx Lib.MathLoose.max_long.x ∈ sf_T) (w1 : Cond.static Lib.MathLoose.max_long.x ∈ sf_T) (w2 : Cond.initialized "java/lang/Math" ∈ sf_T) (w3 : Cond.code Lib.MathLoose.max_long.x Lib.MathLoose.max_long.code 4 (some .long) ∈ sf_T) (hrm : sf_RB rm) : sf_JE (ρ := ρ) l own cc nL rm lay pc sf_jmaxL := by
  intro p e0 s m args below meth c Q D cy ad A h0 hN L st σ K r hj hk
  obtain ⟨hx, hb, hml, hown, hts, hK, hinj, hA, hAs⟩ := h0
  obtain ⟨r1, r2, r3, r4⟩ := hrm
  simp only [sf_jmaxL] at hj
  split at hj
  · split at hj
    · rename_i hlen
      refine fun H locs ls hl0 hP hS => va_mmax_long hx hb (hml.trans hl0.1.symm) hown (hts _ hl) (hts _ w1) (hts _ w2) (hts _ w3) r1 ?_ (Nat.zero_le _) (Nat.zero_le _) hd (hk _ _ hj H locs ls hl0 hP hS)
      have := sf_room4 (ad := ad) hlen
      omega
    · cases hj
  · cases hj
theorem sf_je_absL {ρ : Type} {l : Launch} {own : String} {cc : ByteArray} {nL idx pc : Nat} {rm : Room} {lay : sf_Lay} (hd : decode cc pc = .ok (.invokestatic idx, 3)) (hl : Cond.methodLink own idx Lib.MathLoose.abs_long.x ∈ sf_T) (w1 : Cond.static Lib.MathLoose.abs_long.x ∈ sf_T) (w2 : Cond.initialized "java/lang/Math" ∈ sf_T) (w3 : Cond.code Lib.MathLoose.abs_long.x Lib.MathLoose.abs_long.code 2 (some .long) ∈ sf_T) (hrm : sf_RB rm) : sf_JE (ρ := ρ) l own cc nL rm lay pc sf_jabsL := by
  intro p e0 s m args below meth c Q D cy ad A h0 hN L st σ K r hj hk
  obtain ⟨hx, hb, hml, hown, hts, hK, hinj, hA, hAs⟩ := h0
  obtain ⟨r1, r2, r3, r4⟩ := hrm
  simp only [sf_jabsL] at hj
  split at hj
  · split at hj
    · rename_i hlen
      refine fun H locs ls hl0 hP hS => va_mabs_long hx hb (hml.trans hl0.1.symm) hown (hts _ hl) (hts _ w1) (hts _ w2) (hts _ w3) r1 ?_ (Nat.zero_le _) (Nat.zero_le _) hd (hk _ _ hj H locs ls hl0 hP hS)
      have := sf_room4 (ad := ad) hlen
      omega
    · cases hj
  · cases hj
theorem sf_je_cpy {ρ : Type} {l : Launch} {own : String} {cc : ByteArray} {nL idx pc : Nat} {rm : Room} {lay : sf_Lay} (hd : decode cc pc = .ok (.invokestatic idx, 3)) (hl : Cond.methodLink own idx arraycopyName ∈ sf_T) (w1 : Cond.native arraycopyName ∈ sf_T) (w2 : Cond.static arraycopyName ∈ sf_T) (w3 : Cond.initialized "java/lang/System" ∈ sf_T) (hrm : sf_RB rm) (hwords : 8 + (nativeFrameWords "java/lang/System" "arraycopy" 5 + 11) ≤ rm.locals) : sf_JE (ρ := ρ) l own cc nL rm lay pc (sf_jcpy lay) := by
  intro p e0 s m args below meth c Q D cy ad A h0 hN L st σ K r hj hk
  obtain ⟨hx, hb, hml, hown, hts, hK, hinj, hA, hAs⟩ := h0
  obtain ⟨r1, r2, r3, r4⟩ := hrm
  simp only [sf_jcpy] at hj
  split at hj
  · split at hj
    · rename_i n j q i q2 r0 hlen
      simp only [Bool.and_eq_true] at hlen
      obtain ⟨hlen, hqq⟩ := hlen
      have hqq := Nat.eq_of_beq_eq_true hqq
      subst hqq
      obtain ⟨t, N, hq, hj⟩ := sf_ar_inv hj
      split at hj
      · split at hj
        · rename_i hin
          simp only [Bool.and_eq_true, Bool.not_eq_true', decide_eq_false_iff_not] at hin
          obtain ⟨⟨⟨⟨z1, z2⟩, z3⟩, z4⟩, z5⟩ := hin
          intro H locs ls hl0 hP hS
          have hD : va_D A (sf_wd lay ad cy σ) := sf_wd_D cy σ hinj hA
          refine va_copyi hx hb (hml.trans hl0.1.symm) hown (hts _ hl) (hts _ w1) (hts _ w2) (hts _ w3) hK hP hD hS q q 0 0 (sf_wd_at hq) (sf_wd_at hq) rfl rfl rfl z1 z2 z3 (Nat.le_of_ble_eq_true z4) (Nat.le_of_ble_eq_true z5) (fun _ _ => rfl) r1 ?_ hd (fun H1 locs1 hP1 _ hS1 => hk _ _ hj H1 locs1 ls hl0 ?_ hS1)
          · have := sf_room4 (ad := ad) hlen
            omega
          · rw [← sf_wd_row (σ := σ) (f := va_cpy (σ q) (σ q) i.toNatClampNeg j.toNatClampNeg n.toNatClampNeg) hq (by funext b; simp [sf_cpy]) (fun a ha => by funext b; simp [sf_cpy, ha])]
            exact hP1
        · cases hj
      · cases hj
    · cases hj
  · cases hj
/-! a method's contract out of its code -/
def sf_ent : List Value → Nat → sf_L
  | [], n => List.replicate n none
  | .long x :: r, n => some (.long x) :: none :: sf_ent r (n - 2)
  | .double x :: r, n => some (.double x) :: none :: sf_ent r (n - 2)
  | v :: r, n => some v :: sf_ent r (n - 1)
theorem sf_get_rep : ∀ (n i : Nat) (v : Value), sf_get (List.replicate n none) i = some v → False
  | 0, _, _, h => by simp [sf_get] at h
  | n + 1, 0, _, h => by simp [List.replicate, sf_get] at h
  | n + 1, i + 1, v, h => sf_get_rep n i v (by simpa [List.replicate, sf_get] using h)
theorem sf_ent_ok (ad : Nat → Nat) : ∀ (av : List Value) (n i : Nat) (v : Value), sf_get (sf_ent av n) i = some v → (lg_sl (av.map (sf_v ad)))[i]? = some (.val (sf_v ad v)) := by
  intro av
  induction av with
  | nil => intro n i v h; exact (sf_get_rep n i v h).elim
  | cons x r ih =>
    intro n i v h
    have one : x.category = 1 → sf_ent (x :: r) n = some x :: sf_ent r (n - 1) → (lg_sl ((x :: r).map (sf_v ad)))[i]? = some (.val (sf_v ad v)) := by
      intro hc he
      have e : lg_sl ((x :: r).map (sf_v ad)) = .val (sf_v ad x) :: lg_sl (r.map (sf_v ad)) := by
        simp [lg_sl, List.flatMap_cons, sf_v_cat, hc]
      rw [e]
      rw [he] at h
      cases i with
      | zero =>
        have h : some x = some v := h
        cases h
        rfl
      | succ i => exact ih _ _ _ h
    have two : x.category = 2 → sf_ent (x :: r) n = some x :: none :: sf_ent r (n - 2) → (lg_sl ((x :: r).map (sf_v ad)))[i]? = some (.val (sf_v ad v)) := by
      intro hc he
      have e : lg_sl ((x :: r).map (sf_v ad)) = .val (sf_v ad x) :: .second :: lg_sl (r.map (sf_v ad)) := by
        simp [lg_sl, List.flatMap_cons, sf_v_cat, hc]
      rw [e]
      rw [he] at h
      cases i with
      | zero =>
        have h : some x = some v := h
        cases h
        rfl
      | succ i =>
        cases i with
        | zero => cases h
        | succ i => exact ih _ _ _ h
    cases x <;> first | exact one rfl rfl | exact two rfl rfl
theorem sf_ent_LV (ad : Nat → Nat) {av : List Value} {n : Nat} (h : (lg_sl (av.map (sf_v ad))).length ≤ n) : sf_LV ((lg_sl (av.map (sf_v ad)) ++ List.replicate (n - (lg_sl (av.map (sf_v ad))).length) Slot.unset).toArray) n ad (sf_ent av n) := by
  obtain ⟨h1, h2, -⟩ := lv_entry (av.map (sf_v ad)) h
  refine ⟨h1, h2, fun i v hg => ?_⟩
  have := sf_ent_ok ad av n i v hg
  have hl := (List.getElem?_eq_some_iff.mp this).1
  simp only [List.getElem?_toArray]
  rw [List.getElem?_append_left hl]
  exact this
def sf_RH {ρ : Type} (ret : Option FieldType) (rh : Option Value → sf_S → Option ρ) (tv : ρ → sf_Q) : Prop := ∀ v σ u, rh v σ = some u → tv u = (v, σ) ∧ (∀ x, v = some (.int x) → ∃ ty, ret = some ty ∧ narrow ty (.int x) = .int x) ∧ (∀ x, v = some (.long x) → ret = some .long) ∧ (v = none → ret = none)
theorem sf_RH_I : sf_RH (some .int) sf_hI sf_vI := by
  intro v σ u h
  unfold sf_hI at h
  split at h
  · cases h
    exact ⟨rfl, fun x hx => ⟨.int, rfl, vp_nar_int x⟩, fun x hx => (by cases hx), fun hx => (by cases hx)⟩
  · cases h
theorem sf_RH_Z : sf_RH (some .boolean) sf_hZ sf_vI := by
  intro v σ u h
  unfold sf_hZ at h
  split at h
  · rename_i x
    split at h
    · rename_i h01
      cases h
      refine ⟨rfl, fun y hy => ⟨.boolean, rfl, ?_⟩, fun x hx => (by cases hx), fun hx => (by cases hx)⟩
      cases hy
      simp only [sf_01, Bool.or_eq_true, decide_eq_true_eq] at h01
      rcases h01 with rfl | rfl <;> decide +kernel
    · cases h
  · cases h
theorem sf_RH_L : sf_RH (some .long) sf_hL sf_vL := by
  intro v σ u h
  unfold sf_hL at h
  split at h
  · cases h
    exact ⟨rfl, fun x hx => (by cases hx), fun x hx => rfl, fun hx => (by cases hx)⟩
  · cases h
theorem sf_RH_V : sf_RH none sf_hV sf_vV := by
  intro v σ u h
  unfold sf_hV at h
  split at h
  · cases h
    exact ⟨rfl, fun x hx => (by cases hx), fun x hx => (by cases hx), fun _ => rfl⟩
  · cases h
def sf_mono (Wt : Nat → sf_L → List Value → sf_S → Prop) : Prop := ∀ (pc : Nat) (L0 L : sf_L) (st : List Value) (σ : sf_S), (∀ i v, sf_get L0 i = some v → sf_get L i = some v) → Wt pc L0 st σ → Wt pc L st σ
theorem sf_met {ρ : Type} {l : Launch} {y : MethodName} {cc : ByteArray} {nL : Nat} {ret : Option FieldType} {rm : Room} {lay : sf_Lay} {rh : Option Value → sf_S → Option ρ} {tv : ρ → sf_Q} {tab : List (Nat × sf_E)} {J : List (Nat × sf_J ρ)} {fl : sf_FL} {cl : List (Nat × Value)} {g : List Value → sf_S → Option ρ} (hy : plainName y.cls = true) (hrm : rm.cells = 0 ∧ rm.slots = 0) (hrh : sf_RH ret rh tv) (hchk : sf_chk cc nL fl cl tab = true)
    (hfl : ∀ (s : State) (args : Array Value), (∀ w ∈ sf_T, w.before args s = true) → (∀ w ∈ sf_N, va_Nw w s) → ∀ q ∈ fl, sf_FF s args sf_T y.cls q.1 q.2.1 q.2.2.1 q.2.2.2)
    (hcl : ∀ (s : State) (args : Array Value), (∀ w ∈ sf_T, w.before args s = true) → ∀ q ∈ cl, sf_CC s args y.cls q.1 q.2) (hJ : sf_JO l y.cls cc nL rm lay J)
    (hrun : ∀ (Wt : Nat → sf_L → List Value → sf_S → Prop) (Post : ρ → Prop), sf_Snd Wt lay rh J tab Post → sf_mono Wt → ∀ av σ u, g av σ = some u → Post u → (∀ ad, (lg_sl (av.map (sf_v ad))).length ≤ nL) ∧ Wt 0 (sf_ent av nL) [] σ) : sf_C l lay y cc nL ret rm fun av σ => (g av σ).map tv := by
  refine ⟨hrm.1, hrm.2, fun D cy ad sz av σ r hinj hr => ?_⟩
  cases hg : g av σ with
  | none => simp [hg] at hr
  | some u =>
  simp only [hg, Option.map_some, Option.some.injEq] at hr
  subst hr
  refine Met.ofW (cc := cc) (maxL := nL) (ret := ret) hy rfl ?_
  intro p e s m args below meth c s₁ B hml hv
  obtain ⟨rfl, hsz, hP, hK, hN⟩ := hv
  have hx := B.exec
  have hb := B.bytes
  have hr := B.returns
  have hts0 := atoms_spec (ws := Cond.code y cc nL ret :: sf_T) B.pre
  have hts : ∀ w ∈ sf_T, w.before (av.map (sf_v ad)).toArray s = true := fun w h => hts0 w (List.mem_cons_of_mem _ h)
  have hown : s.vm.findClass y.cls = some m.cls := findClass_of_methodNamed B.named
  have hlocks := B.notSynchronized
  subst hsz
  have h0 : sf_At p s m (av.map (sf_v ad)).toArray c y.cls cc nL lay D cy ad (sf_A lay ad s.heap.size) sf_T := ⟨hx, hb, hml, hown, hts, hK, hinj, fun k hk => Or.inl ⟨k, hk, rfl⟩, fun q hq => Or.inr hq⟩
  have hsnd := sf_step_ok (l := l) (e0 := e) (R := rm) (below := below) (meth := meth) (Q := MQ below (sf_Qc lay D cy ad (sf_A lay ad s.heap.size) (tv u)) (av.map (sf_v ad)).toArray s 0 0 (sf_A lay ad s.heap.size)) (rh := rh) (J := J) (tab := tab) (Post := fun z => z = u) h0 hchk (hfl s _ hts hN) (hcl s _ hts)
    (fun pc j L st σ2 K r hj hjj hk => hJ (pc, j) (sf_as_mem hj) p e s m _ below meth c _ D cy ad _ h0 hN L st σ2 K r hjj hk)
    (by
      intro v σ2 r pc L ins hrv hpost hd hins
      subst hpost
      obtain ⟨htv, hI, hL, hV⟩ := hrh v σ2 r hrv
      intro H locs ls hl hP2 hS
      have hq : ∀ t : State, t.heap = H → s.WarmedH t.vm → sf_Qc lay D cy ad (sf_A lay ad s.heap.size) (tv r) (av.map (sf_v ad)).toArray s (.returned (v.map (sf_v ad))) t := by
        intro t ht hW
        rw [htv]
        exact ⟨⟨rfl, by rw [ht]; exact hP2⟩, hS.F ht⟩
      rcases hins with ⟨rfl, x, rfl⟩ | ⟨rfl, x, rfl⟩ | ⟨rfl, rfl⟩
      · obtain ⟨ty, h1, h2⟩ := hI x rfl
        exact W.zret hx hb (hr.trans h1) h2 hq hS.2.2 hd
      · exact W.lret hx hb (hr.trans (hL x rfl)) hq hS.2.2 hd
      · exact W.vret hx hb (hr.trans (hV rfl)) hq hS.2.2 hd)
  obtain ⟨hlen, hgo⟩ := hrun _ _ hsnd (fun pc L0 L st σ2 hm k => k.mono hm) av σ u hg rfl
  rw [lg_entry_eq]
  exact hgo s.heap [] _ (sf_ent_LV ad (hlen ad)) hP va_S.rf
end
