section
-- ===== PART A: goes FIRST, ahead of the names: the tables' words, and 'selects' of the private methods out of them =====
/-- a private method of a class that the tables say can be made, by its rows of tables_1 -/
def lw_okq (q : MethodName × Nat) : Prop := (q.1.cls ≠ "java/lang/invoke/MethodHandle" ∧ q.1.cls ≠ "java/lang/invoke/VarHandle") ∧ Cond.instantiable q.1.cls q.2 ∈ tables_1 ∧ Cond.privateMethod q.1 ∈ tables_1 ∧ Cond.instanceMethod q.1 ∈ tables_1
theorem lw_p0 : lw_okq (⟨"StreamFuser$Reader", "append", "(I)Z"⟩, 7) := ⟨⟨by decide +kernel, by decide +kernel⟩, List.mem_of_getElem? (i := 320) (by decide +kernel), List.mem_of_getElem? (i := 396) (by decide +kernel), List.mem_of_getElem? (i := 397) (by decide +kernel)⟩
theorem lw_p1 : lw_okq (⟨"StreamFuser$Reader", "read", "()I"⟩, 7) := ⟨⟨by decide +kernel, by decide +kernel⟩, List.mem_of_getElem? (i := 320) (by decide +kernel), List.mem_of_getElem? (i := 408) (by decide +kernel), List.mem_of_getElem? (i := 409) (by decide +kernel)⟩
theorem lw_p2 : lw_okq (⟨"StreamFuser$Reader", "expect", "(I)V"⟩, 7) := ⟨⟨by decide +kernel, by decide +kernel⟩, List.mem_of_getElem? (i := 320) (by decide +kernel), List.mem_of_getElem? (i := 412) (by decide +kernel), List.mem_of_getElem? (i := 413) (by decide +kernel)⟩
theorem lw_p3 : lw_okq (⟨"StreamFuser$Reader", "readNode", "()V"⟩, 7) := ⟨⟨by decide +kernel, by decide +kernel⟩, List.mem_of_getElem? (i := 320) (by decide +kernel), List.mem_of_getElem? (i := 416) (by decide +kernel), List.mem_of_getElem? (i := 417) (by decide +kernel)⟩
theorem lw_p4 : lw_okq (⟨"StreamFuser$Reader", "peek", "()I"⟩, 7) := ⟨⟨by decide +kernel, by decide +kernel⟩, List.mem_of_getElem? (i := 320) (by decide +kernel), List.mem_of_getElem? (i := 420) (by decide +kernel), List.mem_of_getElem? (i := 421) (by decide +kernel)⟩
theorem lw_p5 : lw_okq (⟨"StreamFuser$Reader", "accept", "(Z)V"⟩, 7) := ⟨⟨by decide +kernel, by decide +kernel⟩, List.mem_of_getElem? (i := 320) (by decide +kernel), List.mem_of_getElem? (i := 433) (by decide +kernel), List.mem_of_getElem? (i := 434) (by decide +kernel)⟩
theorem lw_p6 : lw_okq (⟨"StreamFuser$Reader", "readMark", "(I)I"⟩, 7) := ⟨⟨by decide +kernel, by decide +kernel⟩, List.mem_of_getElem? (i := 320) (by decide +kernel), List.mem_of_getElem? (i := 443) (by decide +kernel), List.mem_of_getElem? (i := 444) (by decide +kernel)⟩
theorem lw_p7 : lw_okq (⟨"StreamFuser$Reader", "readNumber", "(I)I"⟩, 7) := ⟨⟨by decide +kernel, by decide +kernel⟩, List.mem_of_getElem? (i := 320) (by decide +kernel), List.mem_of_getElem? (i := 453) (by decide +kernel), List.mem_of_getElem? (i := 454) (by decide +kernel)⟩
theorem lw_p8 : lw_okq (⟨"StreamFuser$Plan", "add", "(IIII)V"⟩, 12) := ⟨⟨by decide +kernel, by decide +kernel⟩, List.mem_of_getElem? (i := 25) (by decide +kernel), List.mem_of_getElem? (i := 457) (by decide +kernel), List.mem_of_getElem? (i := 458) (by decide +kernel)⟩
theorem lw_p9 : lw_okq (⟨"StreamFuser$Reader", "expectParts", "(II)V"⟩, 7) := ⟨⟨by decide +kernel, by decide +kernel⟩, List.mem_of_getElem? (i := 320) (by decide +kernel), List.mem_of_getElem? (i := 461) (by decide +kernel), List.mem_of_getElem? (i := 462) (by decide +kernel)⟩
theorem lw_p10 : lw_okq (⟨"StreamFuser$Plan", "takeFrom", "(LStreamFuser$Plan;)V"⟩, 12) := ⟨⟨by decide +kernel, by decide +kernel⟩, List.mem_of_getElem? (i := 25) (by decide +kernel), List.mem_of_getElem? (i := 469) (by decide +kernel), List.mem_of_getElem? (i := 470) (by decide +kernel)⟩
theorem lw_p11 : lw_okq (⟨"StreamFuser$Plan", "measure", "()V"⟩, 12) := ⟨⟨by decide +kernel, by decide +kernel⟩, List.mem_of_getElem? (i := 25) (by decide +kernel), List.mem_of_getElem? (i := 474) (by decide +kernel), List.mem_of_getElem? (i := 475) (by decide +kernel)⟩
theorem lw_p12 : lw_okq (⟨"StreamFuser$Plan", "measureFromParts", "(I)V"⟩, 12) := ⟨⟨by decide +kernel, by decide +kernel⟩, List.mem_of_getElem? (i := 25) (by decide +kernel), List.mem_of_getElem? (i := 478) (by decide +kernel), List.mem_of_getElem? (i := 479) (by decide +kernel)⟩
theorem lw_p13 : lw_okq (⟨"StreamFuser$Plan", "measureParts", "(I)V"⟩, 12) := ⟨⟨by decide +kernel, by decide +kernel⟩, List.mem_of_getElem? (i := 25) (by decide +kernel), List.mem_of_getElem? (i := 483) (by decide +kernel), List.mem_of_getElem? (i := 484) (by decide +kernel)⟩
theorem lw_p14 : lw_okq (⟨"StreamFuser$Printer", "print", "()V"⟩, 3) := ⟨⟨by decide +kernel, by decide +kernel⟩, List.mem_of_getElem? (i := 107) (by decide +kernel), List.mem_of_getElem? (i := 490) (by decide +kernel), List.mem_of_getElem? (i := 491) (by decide +kernel)⟩
theorem lw_p15 : lw_okq (⟨"StreamFuser$Printer", "printNode", "(I)V"⟩, 3) := ⟨⟨by decide +kernel, by decide +kernel⟩, List.mem_of_getElem? (i := 107) (by decide +kernel), List.mem_of_getElem? (i := 494) (by decide +kernel), List.mem_of_getElem? (i := 495) (by decide +kernel)⟩
def lw_privs_1 : List (MethodName × Nat) := [(⟨"StreamFuser$Reader", "append", "(I)Z"⟩, 7), (⟨"StreamFuser$Reader", "read", "()I"⟩, 7), (⟨"StreamFuser$Reader", "expect", "(I)V"⟩, 7), (⟨"StreamFuser$Reader", "readNode", "()V"⟩, 7), (⟨"StreamFuser$Reader", "peek", "()I"⟩, 7), (⟨"StreamFuser$Reader", "accept", "(Z)V"⟩, 7), (⟨"StreamFuser$Reader", "readMark", "(I)I"⟩, 7), (⟨"StreamFuser$Reader", "readNumber", "(I)I"⟩, 7), (⟨"StreamFuser$Plan", "add", "(IIII)V"⟩, 12), (⟨"StreamFuser$Reader", "expectParts", "(II)V"⟩, 7), (⟨"StreamFuser$Plan", "takeFrom", "(LStreamFuser$Plan;)V"⟩, 12), (⟨"StreamFuser$Plan", "measure", "()V"⟩, 12), (⟨"StreamFuser$Plan", "measureFromParts", "(I)V"⟩, 12), (⟨"StreamFuser$Plan", "measureParts", "(I)V"⟩, 12), (⟨"StreamFuser$Printer", "print", "()V"⟩, 3), (⟨"StreamFuser$Printer", "printNode", "(I)V"⟩, 3)]
theorem lw_r1 : ∀ q ∈ lw_privs_1, lw_okq q := List.forall_mem_cons.mpr ⟨lw_p0, List.forall_mem_cons.mpr ⟨lw_p1, List.forall_mem_cons.mpr ⟨lw_p2, List.forall_mem_cons.mpr ⟨lw_p3, List.forall_mem_cons.mpr ⟨lw_p4, List.forall_mem_cons.mpr ⟨lw_p5, List.forall_mem_cons.mpr ⟨lw_p6, List.forall_mem_cons.mpr ⟨lw_p7, List.forall_mem_cons.mpr ⟨lw_p8, List.forall_mem_cons.mpr ⟨lw_p9, List.forall_mem_cons.mpr ⟨lw_p10, List.forall_mem_cons.mpr ⟨lw_p11, List.forall_mem_cons.mpr ⟨lw_p12, List.forall_mem_cons.mpr ⟨lw_p13, List.forall_mem_cons.mpr ⟨lw_p14, List.forall_mem_cons.mpr ⟨lw_p15, fun _ h => absurd h List.not_mem_nil⟩⟩⟩⟩⟩⟩⟩⟩⟩⟩⟩⟩⟩⟩⟩⟩
theorem lw_p16 : lw_okq (⟨"StreamFuser$Printer", "put", "(I)V"⟩, 3) := ⟨⟨by decide +kernel, by decide +kernel⟩, List.mem_of_getElem? (i := 107) (by decide +kernel), List.mem_of_getElem? (i := 499) (by decide +kernel), List.mem_of_getElem? (i := 500) (by decide +kernel)⟩
theorem lw_p17 : lw_okq (⟨"StreamFuser$Printer", "putNumber", "(I)V"⟩, 3) := ⟨⟨by decide +kernel, by decide +kernel⟩, List.mem_of_getElem? (i := 107) (by decide +kernel), List.mem_of_getElem? (i := 505) (by decide +kernel), List.mem_of_getElem? (i := 506) (by decide +kernel)⟩
theorem lw_p18 : lw_okq (⟨"StreamFuser$Plan", "has", "(I)Z"⟩, 12) := ⟨⟨by decide +kernel, by decide +kernel⟩, List.mem_of_getElem? (i := 25) (by decide +kernel), List.mem_of_getElem? (i := 517) (by decide +kernel), List.mem_of_getElem? (i := 518) (by decide +kernel)⟩
theorem lw_p19 : lw_okq (⟨"StreamFuser$Rewriter", "simplify", "(Z)V"⟩, 3) := ⟨⟨by decide +kernel, by decide +kernel⟩, List.mem_of_getElem? (i := 126) (by decide +kernel), List.mem_of_getElem? (i := 530) (by decide +kernel), List.mem_of_getElem? (i := 531) (by decide +kernel)⟩
theorem lw_p20 : lw_okq (⟨"StreamFuser$Rewriter", "place", "(Z)I"⟩, 3) := ⟨⟨by decide +kernel, by decide +kernel⟩, List.mem_of_getElem? (i := 126) (by decide +kernel), List.mem_of_getElem? (i := 535) (by decide +kernel), List.mem_of_getElem? (i := 536) (by decide +kernel)⟩
theorem lw_p21 : lw_okq (⟨"StreamFuser$Rewriter", "ruleFor", "(I)I"⟩, 3) := ⟨⟨by decide +kernel, by decide +kernel⟩, List.mem_of_getElem? (i := 126) (by decide +kernel), List.mem_of_getElem? (i := 539) (by decide +kernel), List.mem_of_getElem? (i := 540) (by decide +kernel)⟩
theorem lw_p22 : lw_okq (⟨"StreamFuser$Plan", "isNil", "(I)Z"⟩, 12) := ⟨⟨by decide +kernel, by decide +kernel⟩, List.mem_of_getElem? (i := 25) (by decide +kernel), List.mem_of_getElem? (i := 544) (by decide +kernel), List.mem_of_getElem? (i := 545) (by decide +kernel)⟩
theorem lw_p23 : lw_okq (⟨"StreamFuser$Rewriter", "ruleForTake", "(I)I"⟩, 3) := ⟨⟨by decide +kernel, by decide +kernel⟩, List.mem_of_getElem? (i := 126) (by decide +kernel), List.mem_of_getElem? (i := 549) (by decide +kernel), List.mem_of_getElem? (i := 550) (by decide +kernel)⟩
theorem lw_p24 : lw_okq (⟨"StreamFuser$Plan", "letterAt", "(I)I"⟩, 12) := ⟨⟨by decide +kernel, by decide +kernel⟩, List.mem_of_getElem? (i := 25) (by decide +kernel), List.mem_of_getElem? (i := 553) (by decide +kernel), List.mem_of_getElem? (i := 554) (by decide +kernel)⟩
theorem lw_p25 : lw_okq (⟨"StreamFuser$Rewriter", "ruleForDrop", "(I)I"⟩, 3) := ⟨⟨by decide +kernel, by decide +kernel⟩, List.mem_of_getElem? (i := 126) (by decide +kernel), List.mem_of_getElem? (i := 557) (by decide +kernel), List.mem_of_getElem? (i := 558) (by decide +kernel)⟩
theorem lw_p26 : lw_okq (⟨"StreamFuser$Plan", "secondPart", "(I)I"⟩, 12) := ⟨⟨by decide +kernel, by decide +kernel⟩, List.mem_of_getElem? (i := 25) (by decide +kernel), List.mem_of_getElem? (i := 561) (by decide +kernel), List.mem_of_getElem? (i := 562) (by decide +kernel)⟩
theorem lw_p27 : lw_okq (⟨"StreamFuser$Plan", "input", "(I)I"⟩, 12) := ⟨⟨by decide +kernel, by decide +kernel⟩, List.mem_of_getElem? (i := 25) (by decide +kernel), List.mem_of_getElem? (i := 565) (by decide +kernel), List.mem_of_getElem? (i := 566) (by decide +kernel)⟩
theorem lw_p28 : lw_okq (⟨"StreamFuser$Rewriter", "apply", "(II)V"⟩, 3) := ⟨⟨by decide +kernel, by decide +kernel⟩, List.mem_of_getElem? (i := 126) (by decide +kernel), List.mem_of_getElem? (i := 571) (by decide +kernel), List.mem_of_getElem? (i := 572) (by decide +kernel)⟩
theorem lw_p29 : lw_okq (⟨"StreamFuser$Plan", "makeNil", "(I)V"⟩, 12) := ⟨⟨by decide +kernel, by decide +kernel⟩, List.mem_of_getElem? (i := 25) (by decide +kernel), List.mem_of_getElem? (i := 575) (by decide +kernel), List.mem_of_getElem? (i := 576) (by decide +kernel)⟩
theorem lw_p30 : lw_okq (⟨"StreamFuser$Plan", "cut", "(II)V"⟩, 12) := ⟨⟨by decide +kernel, by decide +kernel⟩, List.mem_of_getElem? (i := 25) (by decide +kernel), List.mem_of_getElem? (i := 579) (by decide +kernel), List.mem_of_getElem? (i := 580) (by decide +kernel)⟩
theorem lw_p31 : lw_okq (⟨"StreamFuser$Plan", "moveNode", "(II)V"⟩, 12) := ⟨⟨by decide +kernel, by decide +kernel⟩, List.mem_of_getElem? (i := 25) (by decide +kernel), List.mem_of_getElem? (i := 583) (by decide +kernel), List.mem_of_getElem? (i := 584) (by decide +kernel)⟩
def lw_privs_2 : List (MethodName × Nat) := [(⟨"StreamFuser$Printer", "put", "(I)V"⟩, 3), (⟨"StreamFuser$Printer", "putNumber", "(I)V"⟩, 3), (⟨"StreamFuser$Plan", "has", "(I)Z"⟩, 12), (⟨"StreamFuser$Rewriter", "simplify", "(Z)V"⟩, 3), (⟨"StreamFuser$Rewriter", "place", "(Z)I"⟩, 3), (⟨"StreamFuser$Rewriter", "ruleFor", "(I)I"⟩, 3), (⟨"StreamFuser$Plan", "isNil", "(I)Z"⟩, 12), (⟨"StreamFuser$Rewriter", "ruleForTake", "(I)I"⟩, 3), (⟨"StreamFuser$Plan", "letterAt", "(I)I"⟩, 12), (⟨"StreamFuser$Rewriter", "ruleForDrop", "(I)I"⟩, 3), (⟨"StreamFuser$Plan", "secondPart", "(I)I"⟩, 12), (⟨"StreamFuser$Plan", "input", "(I)I"⟩, 12), (⟨"StreamFuser$Rewriter", "apply", "(II)V"⟩, 3), (⟨"StreamFuser$Plan", "makeNil", "(I)V"⟩, 12), (⟨"StreamFuser$Plan", "cut", "(II)V"⟩, 12), (⟨"StreamFuser$Plan", "moveNode", "(II)V"⟩, 12)]
theorem lw_r2 : ∀ q ∈ lw_privs_2, lw_okq q := List.forall_mem_cons.mpr ⟨lw_p16, List.forall_mem_cons.mpr ⟨lw_p17, List.forall_mem_cons.mpr ⟨lw_p18, List.forall_mem_cons.mpr ⟨lw_p19, List.forall_mem_cons.mpr ⟨lw_p20, List.forall_mem_cons.mpr ⟨lw_p21, List.forall_mem_cons.mpr ⟨lw_p22, List.forall_mem_cons.mpr ⟨lw_p23, List.forall_mem_cons.mpr ⟨lw_p24, List.forall_mem_cons.mpr ⟨lw_p25, List.forall_mem_cons.mpr ⟨lw_p26, List.forall_mem_cons.mpr ⟨lw_p27, List.forall_mem_cons.mpr ⟨lw_p28, List.forall_mem_cons.mpr ⟨lw_p29, List.forall_mem_cons.mpr ⟨lw_p30, List.forall_mem_cons.mpr ⟨lw_p31, fun _ h => absurd h List.not_mem_nil⟩⟩⟩⟩⟩⟩⟩⟩⟩⟩⟩⟩⟩⟩⟩⟩
theorem lw_p32 : lw_okq (⟨"StreamFuser$Plan", "swapWithNext", "(I)V"⟩, 12) := ⟨⟨by decide +kernel, by decide +kernel⟩, List.mem_of_getElem? (i := 25) (by decide +kernel), List.mem_of_getElem? (i := 587) (by decide +kernel), List.mem_of_getElem? (i := 588) (by decide +kernel)⟩
theorem lw_p33 : lw_okq (⟨"StreamFuser$Rewriter", "swapDropWithTake", "(I)V"⟩, 3) := ⟨⟨by decide +kernel, by decide +kernel⟩, List.mem_of_getElem? (i := 126) (by decide +kernel), List.mem_of_getElem? (i := 591) (by decide +kernel), List.mem_of_getElem? (i := 592) (by decide +kernel)⟩
theorem lw_p34 : lw_okq (⟨"StreamFuser$Rewriter", "keepOnePart", "(I)V"⟩, 3) := ⟨⟨by decide +kernel, by decide +kernel⟩, List.mem_of_getElem? (i := 126) (by decide +kernel), List.mem_of_getElem? (i := 597) (by decide +kernel), List.mem_of_getElem? (i := 598) (by decide +kernel)⟩
theorem lw_p35 : lw_okq (⟨"StreamFuser$Rewriter", "mergeWithNext", "(II)V"⟩, 3) := ⟨⟨by decide +kernel, by decide +kernel⟩, List.mem_of_getElem? (i := 126) (by decide +kernel), List.mem_of_getElem? (i := 601) (by decide +kernel), List.mem_of_getElem? (i := 602) (by decide +kernel)⟩
theorem lw_p36 : lw_okq (⟨"StreamFuser$Asker", "play", "(I)V"⟩, 7) := ⟨⟨by decide +kernel, by decide +kernel⟩, List.mem_of_getElem? (i := 215) (by decide +kernel), List.mem_of_getElem? (i := 617) (by decide +kernel), List.mem_of_getElem? (i := 618) (by decide +kernel)⟩
theorem lw_p37 : lw_okq (⟨"StreamFuser$Run", "begin", "()V"⟩, 10) := ⟨⟨by decide +kernel, by decide +kernel⟩, List.mem_of_getElem? (i := 163) (by decide +kernel), List.mem_of_getElem? (i := 621) (by decide +kernel), List.mem_of_getElem? (i := 622) (by decide +kernel)⟩
theorem lw_p38 : lw_okq (⟨"StreamFuser$Asker", "ask", "(II)Z"⟩, 7) := ⟨⟨by decide +kernel, by decide +kernel⟩, List.mem_of_getElem? (i := 215) (by decide +kernel), List.mem_of_getElem? (i := 632) (by decide +kernel), List.mem_of_getElem? (i := 633) (by decide +kernel)⟩
theorem lw_p39 : lw_okq (⟨"StreamFuser$Run", "fail", "(II)V"⟩, 10) := ⟨⟨by decide +kernel, by decide +kernel⟩, List.mem_of_getElem? (i := 163) (by decide +kernel), List.mem_of_getElem? (i := 648) (by decide +kernel), List.mem_of_getElem? (i := 649) (by decide +kernel)⟩
theorem lw_p40 : lw_okq (⟨"StreamFuser$Run", "note", "(II)V"⟩, 10) := ⟨⟨by decide +kernel, by decide +kernel⟩, List.mem_of_getElem? (i := 163) (by decide +kernel), List.mem_of_getElem? (i := 658) (by decide +kernel), List.mem_of_getElem? (i := 659) (by decide +kernel)⟩
theorem lw_p41 : lw_okq (⟨"StreamFuser$Asker", "askFilter", "(II)Z"⟩, 7) := ⟨⟨by decide +kernel, by decide +kernel⟩, List.mem_of_getElem? (i := 215) (by decide +kernel), List.mem_of_getElem? (i := 662) (by decide +kernel), List.mem_of_getElem? (i := 663) (by decide +kernel)⟩
theorem lw_p42 : lw_okq (⟨"StreamFuser$Asker", "askWhile", "(II)Z"⟩, 7) := ⟨⟨by decide +kernel, by decide +kernel⟩, List.mem_of_getElem? (i := 215) (by decide +kernel), List.mem_of_getElem? (i := 673) (by decide +kernel), List.mem_of_getElem? (i := 674) (by decide +kernel)⟩
theorem lw_p43 : lw_okq (⟨"StreamFuser$Asker", "askTake", "(II)Z"⟩, 7) := ⟨⟨by decide +kernel, by decide +kernel⟩, List.mem_of_getElem? (i := 215) (by decide +kernel), List.mem_of_getElem? (i := 677) (by decide +kernel), List.mem_of_getElem? (i := 678) (by decide +kernel)⟩
theorem lw_p44 : lw_okq (⟨"StreamFuser$Asker", "askDrop", "(II)Z"⟩, 7) := ⟨⟨by decide +kernel, by decide +kernel⟩, List.mem_of_getElem? (i := 215) (by decide +kernel), List.mem_of_getElem? (i := 681) (by decide +kernel), List.mem_of_getElem? (i := 682) (by decide +kernel)⟩
theorem lw_p45 : lw_okq (⟨"StreamFuser$Asker", "askChain", "(II)Z"⟩, 7) := ⟨⟨by decide +kernel, by decide +kernel⟩, List.mem_of_getElem? (i := 215) (by decide +kernel), List.mem_of_getElem? (i := 686) (by decide +kernel), List.mem_of_getElem? (i := 687) (by decide +kernel)⟩
theorem lw_p46 : lw_okq (⟨"StreamFuser$Run", "failed", "()Z"⟩, 10) := ⟨⟨by decide +kernel, by decide +kernel⟩, List.mem_of_getElem? (i := 163) (by decide +kernel), List.mem_of_getElem? (i := 690) (by decide +kernel), List.mem_of_getElem? (i := 691) (by decide +kernel)⟩
theorem lw_p47 : lw_okq (⟨"StreamFuser$Asker", "askZip", "(II)Z"⟩, 7) := ⟨⟨by decide +kernel, by decide +kernel⟩, List.mem_of_getElem? (i := 215) (by decide +kernel), List.mem_of_getElem? (i := 695) (by decide +kernel), List.mem_of_getElem? (i := 696) (by decide +kernel)⟩
def lw_privs_3 : List (MethodName × Nat) := [(⟨"StreamFuser$Plan", "swapWithNext", "(I)V"⟩, 12), (⟨"StreamFuser$Rewriter", "swapDropWithTake", "(I)V"⟩, 3), (⟨"StreamFuser$Rewriter", "keepOnePart", "(I)V"⟩, 3), (⟨"StreamFuser$Rewriter", "mergeWithNext", "(II)V"⟩, 3), (⟨"StreamFuser$Asker", "play", "(I)V"⟩, 7), (⟨"StreamFuser$Run", "begin", "()V"⟩, 10), (⟨"StreamFuser$Asker", "ask", "(II)Z"⟩, 7), (⟨"StreamFuser$Run", "fail", "(II)V"⟩, 10), (⟨"StreamFuser$Run", "note", "(II)V"⟩, 10), (⟨"StreamFuser$Asker", "askFilter", "(II)Z"⟩, 7), (⟨"StreamFuser$Asker", "askWhile", "(II)Z"⟩, 7), (⟨"StreamFuser$Asker", "askTake", "(II)Z"⟩, 7), (⟨"StreamFuser$Asker", "askDrop", "(II)Z"⟩, 7), (⟨"StreamFuser$Asker", "askChain", "(II)Z"⟩, 7), (⟨"StreamFuser$Run", "failed", "()Z"⟩, 10), (⟨"StreamFuser$Asker", "askZip", "(II)Z"⟩, 7)]
theorem lw_r3 : ∀ q ∈ lw_privs_3, lw_okq q := List.forall_mem_cons.mpr ⟨lw_p32, List.forall_mem_cons.mpr ⟨lw_p33, List.forall_mem_cons.mpr ⟨lw_p34, List.forall_mem_cons.mpr ⟨lw_p35, List.forall_mem_cons.mpr ⟨lw_p36, List.forall_mem_cons.mpr ⟨lw_p37, List.forall_mem_cons.mpr ⟨lw_p38, List.forall_mem_cons.mpr ⟨lw_p39, List.forall_mem_cons.mpr ⟨lw_p40, List.forall_mem_cons.mpr ⟨lw_p41, List.forall_mem_cons.mpr ⟨lw_p42, List.forall_mem_cons.mpr ⟨lw_p43, List.forall_mem_cons.mpr ⟨lw_p44, List.forall_mem_cons.mpr ⟨lw_p45, List.forall_mem_cons.mpr ⟨lw_p46, List.forall_mem_cons.mpr ⟨lw_p47, fun _ h => absurd h List.not_mem_nil⟩⟩⟩⟩⟩⟩⟩⟩⟩⟩⟩⟩⟩⟩⟩⟩
theorem lw_p48 : lw_okq (⟨"StreamFuser$Asker", "askOpener", "(II)Z"⟩, 7) := ⟨⟨by decide +kernel, by decide +kernel⟩, List.mem_of_getElem? (i := 215) (by decide +kernel), List.mem_of_getElem? (i := 706) (by decide +kernel), List.mem_of_getElem? (i := 707) (by decide +kernel)⟩
theorem lw_p49 : lw_okq (⟨"StreamFuser$Sheets", "isLost", "(I)Z"⟩, 3) := ⟨⟨by decide +kernel, by decide +kernel⟩, List.mem_of_getElem? (i := 144) (by decide +kernel), List.mem_of_getElem? (i := 734) (by decide +kernel), List.mem_of_getElem? (i := 735) (by decide +kernel)⟩
theorem lw_p50 : lw_okq (⟨"StreamFuser$Run", "draw", "(I)Z"⟩, 10) := ⟨⟨by decide +kernel, by decide +kernel⟩, List.mem_of_getElem? (i := 163) (by decide +kernel), List.mem_of_getElem? (i := 760) (by decide +kernel), List.mem_of_getElem? (i := 761) (by decide +kernel)⟩
theorem lw_p51 : lw_okq (⟨"StreamFuser$Sheets", "at", "(II)I"⟩, 3) := ⟨⟨by decide +kernel, by decide +kernel⟩, List.mem_of_getElem? (i := 144) (by decide +kernel), List.mem_of_getElem? (i := 772) (by decide +kernel), List.mem_of_getElem? (i := 773) (by decide +kernel)⟩
theorem lw_p52 : lw_okq (⟨"StreamFuser$Run", "give", "(I)V"⟩, 10) := ⟨⟨by decide +kernel, by decide +kernel⟩, List.mem_of_getElem? (i := 163) (by decide +kernel), List.mem_of_getElem? (i := 776) (by decide +kernel), List.mem_of_getElem? (i := 777) (by decide +kernel)⟩
theorem lw_p53 : lw_okq (⟨"StreamFuser$Stepper", "play", "(I)V"⟩, 8) := ⟨⟨by decide +kernel, by decide +kernel⟩, List.mem_of_getElem? (i := 285) (by decide +kernel), List.mem_of_getElem? (i := 784) (by decide +kernel), List.mem_of_getElem? (i := 785) (by decide +kernel)⟩
theorem lw_p54 : lw_okq (⟨"StreamFuser$Stepper", "step", "(II)I"⟩, 8) := ⟨⟨by decide +kernel, by decide +kernel⟩, List.mem_of_getElem? (i := 285) (by decide +kernel), List.mem_of_getElem? (i := 793) (by decide +kernel), List.mem_of_getElem? (i := 794) (by decide +kernel)⟩
theorem lw_p55 : lw_okq (⟨"StreamFuser$Stepper", "stepChain", "(II)I"⟩, 8) := ⟨⟨by decide +kernel, by decide +kernel⟩, List.mem_of_getElem? (i := 285) (by decide +kernel), List.mem_of_getElem? (i := 798) (by decide +kernel), List.mem_of_getElem? (i := 799) (by decide +kernel)⟩
theorem lw_p56 : lw_okq (⟨"StreamFuser$Stepper", "stepZip", "(II)I"⟩, 8) := ⟨⟨by decide +kernel, by decide +kernel⟩, List.mem_of_getElem? (i := 285) (by decide +kernel), List.mem_of_getElem? (i := 803) (by decide +kernel), List.mem_of_getElem? (i := 804) (by decide +kernel)⟩
theorem lw_p57 : lw_okq (⟨"StreamFuser$Stepper", "stepOpener", "(II)I"⟩, 8) := ⟨⟨by decide +kernel, by decide +kernel⟩, List.mem_of_getElem? (i := 285) (by decide +kernel), List.mem_of_getElem? (i := 810) (by decide +kernel), List.mem_of_getElem? (i := 811) (by decide +kernel)⟩
theorem lw_p58 : lw_okq (⟨"StreamFuser$Stepper", "given", "(Z)I"⟩, 8) := ⟨⟨by decide +kernel, by decide +kernel⟩, List.mem_of_getElem? (i := 285) (by decide +kernel), List.mem_of_getElem? (i := 821) (by decide +kernel), List.mem_of_getElem? (i := 822) (by decide +kernel)⟩
theorem lw_p59 : lw_okq (⟨"StreamFuser$Stepper", "stepOne", "(II)I"⟩, 8) := ⟨⟨by decide +kernel, by decide +kernel⟩, List.mem_of_getElem? (i := 285) (by decide +kernel), List.mem_of_getElem? (i := 826) (by decide +kernel), List.mem_of_getElem? (i := 827) (by decide +kernel)⟩
theorem lw_p60 : lw_okq (⟨"StreamFuser$Maker", "play", "(I)V"⟩, 7) := ⟨⟨by decide +kernel, by decide +kernel⟩, List.mem_of_getElem? (i := 302) (by decide +kernel), List.mem_of_getElem? (i := 837) (by decide +kernel), List.mem_of_getElem? (i := 838) (by decide +kernel)⟩
theorem lw_p61 : lw_okq (⟨"StreamFuser$Maker", "make", "(II)Z"⟩, 7) := ⟨⟨by decide +kernel, by decide +kernel⟩, List.mem_of_getElem? (i := 302) (by decide +kernel), List.mem_of_getElem? (i := 842) (by decide +kernel), List.mem_of_getElem? (i := 843) (by decide +kernel)⟩
theorem lw_p62 : lw_okq (⟨"StreamFuser$Maker", "fill", "(II)Z"⟩, 7) := ⟨⟨by decide +kernel, by decide +kernel⟩, List.mem_of_getElem? (i := 302) (by decide +kernel), List.mem_of_getElem? (i := 847) (by decide +kernel), List.mem_of_getElem? (i := 848) (by decide +kernel)⟩
theorem lw_p63 : lw_okq (⟨"StreamFuser$Maker", "fillFromProducer", "(I)Z"⟩, 7) := ⟨⟨by decide +kernel, by decide +kernel⟩, List.mem_of_getElem? (i := 302) (by decide +kernel), List.mem_of_getElem? (i := 852) (by decide +kernel), List.mem_of_getElem? (i := 853) (by decide +kernel)⟩
def lw_privs_4 : List (MethodName × Nat) := [(⟨"StreamFuser$Asker", "askOpener", "(II)Z"⟩, 7), (⟨"StreamFuser$Sheets", "isLost", "(I)Z"⟩, 3), (⟨"StreamFuser$Run", "draw", "(I)Z"⟩, 10), (⟨"StreamFuser$Sheets", "at", "(II)I"⟩, 3), (⟨"StreamFuser$Run", "give", "(I)V"⟩, 10), (⟨"StreamFuser$Stepper", "play", "(I)V"⟩, 8), (⟨"StreamFuser$Stepper", "step", "(II)I"⟩, 8), (⟨"StreamFuser$Stepper", "stepChain", "(II)I"⟩, 8), (⟨"StreamFuser$Stepper", "stepZip", "(II)I"⟩, 8), (⟨"StreamFuser$Stepper", "stepOpener", "(II)I"⟩, 8), (⟨"StreamFuser$Stepper", "given", "(Z)I"⟩, 8), (⟨"StreamFuser$Stepper", "stepOne", "(II)I"⟩, 8), (⟨"StreamFuser$Maker", "play", "(I)V"⟩, 7), (⟨"StreamFuser$Maker", "make", "(II)Z"⟩, 7), (⟨"StreamFuser$Maker", "fill", "(II)Z"⟩, 7), (⟨"StreamFuser$Maker", "fillFromProducer", "(I)Z"⟩, 7)]
theorem lw_r4 : ∀ q ∈ lw_privs_4, lw_okq q := List.forall_mem_cons.mpr ⟨lw_p48, List.forall_mem_cons.mpr ⟨lw_p49, List.forall_mem_cons.mpr ⟨lw_p50, List.forall_mem_cons.mpr ⟨lw_p51, List.forall_mem_cons.mpr ⟨lw_p52, List.forall_mem_cons.mpr ⟨lw_p53, List.forall_mem_cons.mpr ⟨lw_p54, List.forall_mem_cons.mpr ⟨lw_p55, List.forall_mem_cons.mpr ⟨lw_p56, List.forall_mem_cons.mpr ⟨lw_p57, List.forall_mem_cons.mpr ⟨lw_p58, List.forall_mem_cons.mpr ⟨lw_p59, List.forall_mem_cons.mpr ⟨lw_p60, List.forall_mem_cons.mpr ⟨lw_p61, List.forall_mem_cons.mpr ⟨lw_p62, List.forall_mem_cons.mpr ⟨lw_p63, fun _ h => absurd h List.not_mem_nil⟩⟩⟩⟩⟩⟩⟩⟩⟩⟩⟩⟩⟩⟩⟩⟩
theorem lw_p64 : lw_okq (⟨"StreamFuser$Maker", "add", "(II)V"⟩, 7) := ⟨⟨by decide +kernel, by decide +kernel⟩, List.mem_of_getElem? (i := 302) (by decide +kernel), List.mem_of_getElem? (i := 868) (by decide +kernel), List.mem_of_getElem? (i := 869) (by decide +kernel)⟩
theorem lw_p65 : lw_okq (⟨"StreamFuser$Maker", "fillByOpening", "(II)Z"⟩, 7) := ⟨⟨by decide +kernel, by decide +kernel⟩, List.mem_of_getElem? (i := 302) (by decide +kernel), List.mem_of_getElem? (i := 873) (by decide +kernel), List.mem_of_getElem? (i := 874) (by decide +kernel)⟩
theorem lw_p66 : lw_okq (⟨"StreamFuser$Maker", "element", "(II)I"⟩, 7) := ⟨⟨by decide +kernel, by decide +kernel⟩, List.mem_of_getElem? (i := 302) (by decide +kernel), List.mem_of_getElem? (i := 877) (by decide +kernel), List.mem_of_getElem? (i := 878) (by decide +kernel)⟩
theorem lw_p67 : lw_okq (⟨"StreamFuser$Maker", "addRow", "(II)Z"⟩, 7) := ⟨⟨by decide +kernel, by decide +kernel⟩, List.mem_of_getElem? (i := 302) (by decide +kernel), List.mem_of_getElem? (i := 881) (by decide +kernel), List.mem_of_getElem? (i := 882) (by decide +kernel)⟩
theorem lw_p68 : lw_okq (⟨"StreamFuser$Maker", "fillFromInput", "(I)Z"⟩, 7) := ⟨⟨by decide +kernel, by decide +kernel⟩, List.mem_of_getElem? (i := 302) (by decide +kernel), List.mem_of_getElem? (i := 888) (by decide +kernel), List.mem_of_getElem? (i := 889) (by decide +kernel)⟩
theorem lw_p69 : lw_okq (⟨"StreamFuser$Maker", "zip", "(II)V"⟩, 7) := ⟨⟨by decide +kernel, by decide +kernel⟩, List.mem_of_getElem? (i := 302) (by decide +kernel), List.mem_of_getElem? (i := 899) (by decide +kernel), List.mem_of_getElem? (i := 900) (by decide +kernel)⟩
theorem lw_p70 : lw_okq (⟨"StreamFuser$Run", "sum", "()J"⟩, 10) := ⟨⟨by decide +kernel, by decide +kernel⟩, List.mem_of_getElem? (i := 163) (by decide +kernel), List.mem_of_getElem? (i := 917) (by decide +kernel), List.mem_of_getElem? (i := 918) (by decide +kernel)⟩
theorem lw_p71 : lw_okq (⟨"StreamFuser$Run", "greatest", "()I"⟩, 10) := ⟨⟨by decide +kernel, by decide +kernel⟩, List.mem_of_getElem? (i := 163) (by decide +kernel), List.mem_of_getElem? (i := 922) (by decide +kernel), List.mem_of_getElem? (i := 923) (by decide +kernel)⟩
theorem lw_p72 : lw_okq (⟨"StreamFuser$Run", "smallest", "()I"⟩, 10) := ⟨⟨by decide +kernel, by decide +kernel⟩, List.mem_of_getElem? (i := 163) (by decide +kernel), List.mem_of_getElem? (i := 928) (by decide +kernel), List.mem_of_getElem? (i := 929) (by decide +kernel)⟩
theorem lw_p73 : lw_okq (⟨"StreamFuser$Run", "kept", "()I"⟩, 10) := ⟨⟨by decide +kernel, by decide +kernel⟩, List.mem_of_getElem? (i := 163) (by decide +kernel), List.mem_of_getElem? (i := 946) (by decide +kernel), List.mem_of_getElem? (i := 947) (by decide +kernel)⟩
theorem lw_p74 : lw_okq (⟨"StreamFuser", "find", "(I)I"⟩, 14) := ⟨⟨by decide +kernel, by decide +kernel⟩, List.mem_of_getElem? (i := 17) (by decide +kernel), List.mem_of_getElem? (i := 958) (by decide +kernel), List.mem_of_getElem? (i := 959) (by decide +kernel)⟩
theorem lw_p75 : lw_okq (⟨"StreamFuser$Sheets", "renew", "(III)V"⟩, 3) := ⟨⟨by decide +kernel, by decide +kernel⟩, List.mem_of_getElem? (i := 144) (by decide +kernel), List.mem_of_getElem? (i := 962) (by decide +kernel), List.mem_of_getElem? (i := 963) (by decide +kernel)⟩
theorem lw_p76 : lw_okq (⟨"StreamFuser", "elementError", "(III)I"⟩, 14) := ⟨⟨by decide +kernel, by decide +kernel⟩, List.mem_of_getElem? (i := 17) (by decide +kernel), List.mem_of_getElem? (i := 975) (by decide +kernel), List.mem_of_getElem? (i := 976) (by decide +kernel)⟩
theorem lw_p77 : lw_okq (⟨"StreamFuser$Sheets", "hasElement", "(II)Z"⟩, 3) := ⟨⟨by decide +kernel, by decide +kernel⟩, List.mem_of_getElem? (i := 144) (by decide +kernel), List.mem_of_getElem? (i := 979) (by decide +kernel), List.mem_of_getElem? (i := 980) (by decide +kernel)⟩
theorem lw_p78 : lw_okq (⟨"StreamFuser$Sheets", "store", "(III)V"⟩, 3) := ⟨⟨by decide +kernel, by decide +kernel⟩, List.mem_of_getElem? (i := 144) (by decide +kernel), List.mem_of_getElem? (i := 983) (by decide +kernel), List.mem_of_getElem? (i := 984) (by decide +kernel)⟩
theorem lw_p79 : lw_okq (⟨"StreamFuser$Sheets", "hasPart", "(III)Z"⟩, 3) := ⟨⟨by decide +kernel, by decide +kernel⟩, List.mem_of_getElem? (i := 144) (by decide +kernel), List.mem_of_getElem? (i := 1000) (by decide +kernel), List.mem_of_getElem? (i := 1001) (by decide +kernel)⟩
def lw_privs_5 : List (MethodName × Nat) := [(⟨"StreamFuser$Maker", "add", "(II)V"⟩, 7), (⟨"StreamFuser$Maker", "fillByOpening", "(II)Z"⟩, 7), (⟨"StreamFuser$Maker", "element", "(II)I"⟩, 7), (⟨"StreamFuser$Maker", "addRow", "(II)Z"⟩, 7), (⟨"StreamFuser$Maker", "fillFromInput", "(I)Z"⟩, 7), (⟨"StreamFuser$Maker", "zip", "(II)V"⟩, 7), (⟨"StreamFuser$Run", "sum", "()J"⟩, 10), (⟨"StreamFuser$Run", "greatest", "()I"⟩, 10), (⟨"StreamFuser$Run", "smallest", "()I"⟩, 10), (⟨"StreamFuser$Run", "kept", "()I"⟩, 10), (⟨"StreamFuser", "find", "(I)I"⟩, 14), (⟨"StreamFuser$Sheets", "renew", "(III)V"⟩, 3), (⟨"StreamFuser", "elementError", "(III)I"⟩, 14), (⟨"StreamFuser$Sheets", "hasElement", "(II)Z"⟩, 3), (⟨"StreamFuser$Sheets", "store", "(III)V"⟩, 3), (⟨"StreamFuser$Sheets", "hasPart", "(III)Z"⟩, 3)]
theorem lw_r5 : ∀ q ∈ lw_privs_5, lw_okq q := List.forall_mem_cons.mpr ⟨lw_p64, List.forall_mem_cons.mpr ⟨lw_p65, List.forall_mem_cons.mpr ⟨lw_p66, List.forall_mem_cons.mpr ⟨lw_p67, List.forall_mem_cons.mpr ⟨lw_p68, List.forall_mem_cons.mpr ⟨lw_p69, List.forall_mem_cons.mpr ⟨lw_p70, List.forall_mem_cons.mpr ⟨lw_p71, List.forall_mem_cons.mpr ⟨lw_p72, List.forall_mem_cons.mpr ⟨lw_p73, List.forall_mem_cons.mpr ⟨lw_p74, List.forall_mem_cons.mpr ⟨lw_p75, List.forall_mem_cons.mpr ⟨lw_p76, List.forall_mem_cons.mpr ⟨lw_p77, List.forall_mem_cons.mpr ⟨lw_p78, List.forall_mem_cons.mpr ⟨lw_p79, fun _ h => absurd h List.not_mem_nil⟩⟩⟩⟩⟩⟩⟩⟩⟩⟩⟩⟩⟩⟩⟩⟩
theorem lw_p80 : lw_okq (⟨"StreamFuser$Sheets", "move", "(IIIII)V"⟩, 3) := ⟨⟨by decide +kernel, by decide +kernel⟩, List.mem_of_getElem? (i := 144) (by decide +kernel), List.mem_of_getElem? (i := 1004) (by decide +kernel), List.mem_of_getElem? (i := 1005) (by decide +kernel)⟩
theorem lw_p81 : lw_okq (⟨"StreamFuser", "mixPlan", "(J)J"⟩, 14) := ⟨⟨by decide +kernel, by decide +kernel⟩, List.mem_of_getElem? (i := 17) (by decide +kernel), List.mem_of_getElem? (i := 1027) (by decide +kernel), List.mem_of_getElem? (i := 1028) (by decide +kernel)⟩
theorem lw_p82 : lw_okq (⟨"StreamFuser", "mixRun", "(J)J"⟩, 14) := ⟨⟨by decide +kernel, by decide +kernel⟩, List.mem_of_getElem? (i := 17) (by decide +kernel), List.mem_of_getElem? (i := 1034) (by decide +kernel), List.mem_of_getElem? (i := 1035) (by decide +kernel)⟩
theorem lw_p83 : lw_okq (⟨"StreamFuserModel", "finds", "(I)I"⟩, 59) := ⟨⟨by decide +kernel, by decide +kernel⟩, List.mem_of_getElem? (i := 1044) (by decide +kernel), List.mem_of_getElem? (i := 1240) (by decide +kernel), List.mem_of_getElem? (i := 1241) (by decide +kernel)⟩
theorem lw_p84 : lw_okq (⟨"StreamFuserModel", "lacks", "(III)I"⟩, 59) := ⟨⟨by decide +kernel, by decide +kernel⟩, List.mem_of_getElem? (i := 1044) (by decide +kernel), List.mem_of_getElem? (i := 1252) (by decide +kernel), List.mem_of_getElem? (i := 1253) (by decide +kernel)⟩
theorem lw_p85 : lw_okq (⟨"StreamFuserModel", "faultNow", "()I"⟩, 59) := ⟨⟨by decide +kernel, by decide +kernel⟩, List.mem_of_getElem? (i := 1044) (by decide +kernel), List.mem_of_getElem? (i := 1281) (by decide +kernel), List.mem_of_getElem? (i := 1282) (by decide +kernel)⟩
theorem lw_p86 : lw_okq (⟨"StreamFuserModel", "takesLetter", "(II)Z"⟩, 59) := ⟨⟨by decide +kernel, by decide +kernel⟩, List.mem_of_getElem? (i := 1044) (by decide +kernel), List.mem_of_getElem? (i := 1285) (by decide +kernel), List.mem_of_getElem? (i := 1286) (by decide +kernel)⟩
theorem lw_p87 : lw_okq (⟨"StreamFuserModel", "wantsBehind", "(II)V"⟩, 59) := ⟨⟨by decide +kernel, by decide +kernel⟩, List.mem_of_getElem? (i := 1044) (by decide +kernel), List.mem_of_getElem? (i := 1292) (by decide +kernel), List.mem_of_getElem? (i := 1293) (by decide +kernel)⟩
theorem lw_p88 : lw_okq (⟨"StreamFuserModel", "wants", "(I)V"⟩, 59) := ⟨⟨by decide +kernel, by decide +kernel⟩, List.mem_of_getElem? (i := 1044) (by decide +kernel), List.mem_of_getElem? (i := 1296) (by decide +kernel), List.mem_of_getElem? (i := 1297) (by decide +kernel)⟩
theorem lw_p89 : lw_okq (⟨"StreamFuserModel", "takesNumber", "(II)Z"⟩, 59) := ⟨⟨by decide +kernel, by decide +kernel⟩, List.mem_of_getElem? (i := 1044) (by decide +kernel), List.mem_of_getElem? (i := 1300) (by decide +kernel), List.mem_of_getElem? (i := 1301) (by decide +kernel)⟩
theorem lw_p90 : lw_okq (⟨"StreamFuserModel", "takesSign", "(II)Z"⟩, 59) := ⟨⟨by decide +kernel, by decide +kernel⟩, List.mem_of_getElem? (i := 1044) (by decide +kernel), List.mem_of_getElem? (i := 1306) (by decide +kernel), List.mem_of_getElem? (i := 1307) (by decide +kernel)⟩
theorem lw_p91 : lw_okq (⟨"StreamFuserModel", "places", "()V"⟩, 59) := ⟨⟨by decide +kernel, by decide +kernel⟩, List.mem_of_getElem? (i := 1044) (by decide +kernel), List.mem_of_getElem? (i := 1315) (by decide +kernel), List.mem_of_getElem? (i := 1316) (by decide +kernel)⟩
theorem lw_p92 : lw_okq (⟨"StreamFuserModel", "hangs", "(IIZ)V"⟩, 59) := ⟨⟨by decide +kernel, by decide +kernel⟩, List.mem_of_getElem? (i := 1044) (by decide +kernel), List.mem_of_getElem? (i := 1319) (by decide +kernel), List.mem_of_getElem? (i := 1320) (by decide +kernel)⟩
theorem lw_p93 : lw_okq (⟨"StreamFuserModel", "nodeBy", "(II)I"⟩, 59) := ⟨⟨by decide +kernel, by decide +kernel⟩, List.mem_of_getElem? (i := 1044) (by decide +kernel), List.mem_of_getElem? (i := 1328) (by decide +kernel), List.mem_of_getElem? (i := 1329) (by decide +kernel)⟩
theorem lw_p94 : lw_okq (⟨"StreamFuserModel", "isPure", "(I)Z"⟩, 59) := ⟨⟨by decide +kernel, by decide +kernel⟩, List.mem_of_getElem? (i := 1044) (by decide +kernel), List.mem_of_getElem? (i := 1332) (by decide +kernel), List.mem_of_getElem? (i := 1333) (by decide +kernel)⟩
theorem lw_p95 : lw_okq (⟨"StreamFuserModel", "writesPlan", "()V"⟩, 59) := ⟨⟨by decide +kernel, by decide +kernel⟩, List.mem_of_getElem? (i := 1044) (by decide +kernel), List.mem_of_getElem? (i := 1340) (by decide +kernel), List.mem_of_getElem? (i := 1341) (by decide +kernel)⟩
def lw_privs_6 : List (MethodName × Nat) := [(⟨"StreamFuser$Sheets", "move", "(IIIII)V"⟩, 3), (⟨"StreamFuser", "mixPlan", "(J)J"⟩, 14), (⟨"StreamFuser", "mixRun", "(J)J"⟩, 14), (⟨"StreamFuserModel", "finds", "(I)I"⟩, 59), (⟨"StreamFuserModel", "lacks", "(III)I"⟩, 59), (⟨"StreamFuserModel", "faultNow", "()I"⟩, 59), (⟨"StreamFuserModel", "takesLetter", "(II)Z"⟩, 59), (⟨"StreamFuserModel", "wantsBehind", "(II)V"⟩, 59), (⟨"StreamFuserModel", "wants", "(I)V"⟩, 59), (⟨"StreamFuserModel", "takesNumber", "(II)Z"⟩, 59), (⟨"StreamFuserModel", "takesSign", "(II)Z"⟩, 59), (⟨"StreamFuserModel", "places", "()V"⟩, 59), (⟨"StreamFuserModel", "hangs", "(IIZ)V"⟩, 59), (⟨"StreamFuserModel", "nodeBy", "(II)I"⟩, 59), (⟨"StreamFuserModel", "isPure", "(I)Z"⟩, 59), (⟨"StreamFuserModel", "writesPlan", "()V"⟩, 59)]
theorem lw_r6 : ∀ q ∈ lw_privs_6, lw_okq q := List.forall_mem_cons.mpr ⟨lw_p80, List.forall_mem_cons.mpr ⟨lw_p81, List.forall_mem_cons.mpr ⟨lw_p82, List.forall_mem_cons.mpr ⟨lw_p83, List.forall_mem_cons.mpr ⟨lw_p84, List.forall_mem_cons.mpr ⟨lw_p85, List.forall_mem_cons.mpr ⟨lw_p86, List.forall_mem_cons.mpr ⟨lw_p87, List.forall_mem_cons.mpr ⟨lw_p88, List.forall_mem_cons.mpr ⟨lw_p89, List.forall_mem_cons.mpr ⟨lw_p90, List.forall_mem_cons.mpr ⟨lw_p91, List.forall_mem_cons.mpr ⟨lw_p92, List.forall_mem_cons.mpr ⟨lw_p93, List.forall_mem_cons.mpr ⟨lw_p94, List.forall_mem_cons.mpr ⟨lw_p95, fun _ h => absurd h List.not_mem_nil⟩⟩⟩⟩⟩⟩⟩⟩⟩⟩⟩⟩⟩⟩⟩⟩
theorem lw_p96 : lw_okq (⟨"StreamFuserModel", "tells", "(I)V"⟩, 59) := ⟨⟨by decide +kernel, by decide +kernel⟩, List.mem_of_getElem? (i := 1044) (by decide +kernel), List.mem_of_getElem? (i := 1344) (by decide +kernel), List.mem_of_getElem? (i := 1345) (by decide +kernel)⟩
theorem lw_p97 : lw_okq (⟨"StreamFuserModel", "tellsNumber", "(I)V"⟩, 59) := ⟨⟨by decide +kernel, by decide +kernel⟩, List.mem_of_getElem? (i := 1044) (by decide +kernel), List.mem_of_getElem? (i := 1351) (by decide +kernel), List.mem_of_getElem? (i := 1352) (by decide +kernel)⟩
theorem lw_p98 : lw_okq (⟨"StreamFuserModel", "textBy", "(I)I"⟩, 59) := ⟨⟨by decide +kernel, by decide +kernel⟩, List.mem_of_getElem? (i := 1044) (by decide +kernel), List.mem_of_getElem? (i := 1356) (by decide +kernel), List.mem_of_getElem? (i := 1357) (by decide +kernel)⟩
theorem lw_p99 : lw_okq (⟨"StreamFuserModel", "tidies", "(I)I"⟩, 59) := ⟨⟨by decide +kernel, by decide +kernel⟩, List.mem_of_getElem? (i := 1044) (by decide +kernel), List.mem_of_getElem? (i := 1364) (by decide +kernel), List.mem_of_getElem? (i := 1365) (by decide +kernel)⟩
theorem lw_p100 : lw_okq (⟨"StreamFuserModel", "tidiesOnce", "(I)Z"⟩, 59) := ⟨⟨by decide +kernel, by decide +kernel⟩, List.mem_of_getElem? (i := 1044) (by decide +kernel), List.mem_of_getElem? (i := 1369) (by decide +kernel), List.mem_of_getElem? (i := 1370) (by decide +kernel)⟩
theorem lw_p101 : lw_okq (⟨"StreamFuserModel", "ruleAt", "(I)I"⟩, 59) := ⟨⟨by decide +kernel, by decide +kernel⟩, List.mem_of_getElem? (i := 1044) (by decide +kernel), List.mem_of_getElem? (i := 1373) (by decide +kernel), List.mem_of_getElem? (i := 1374) (by decide +kernel)⟩
theorem lw_p102 : lw_okq (⟨"StreamFuserModel", "isNil", "(I)Z"⟩, 59) := ⟨⟨by decide +kernel, by decide +kernel⟩, List.mem_of_getElem? (i := 1044) (by decide +kernel), List.mem_of_getElem? (i := 1377) (by decide +kernel), List.mem_of_getElem? (i := 1378) (by decide +kernel)⟩
theorem lw_p103 : lw_okq (⟨"StreamFuserModel", "ruleOfCut", "(I)I"⟩, 59) := ⟨⟨by decide +kernel, by decide +kernel⟩, List.mem_of_getElem? (i := 1044) (by decide +kernel), List.mem_of_getElem? (i := 1381) (by decide +kernel), List.mem_of_getElem? (i := 1382) (by decide +kernel)⟩
theorem lw_p104 : lw_okq (⟨"StreamFuserModel", "uses", "(II)V"⟩, 59) := ⟨⟨by decide +kernel, by decide +kernel⟩, List.mem_of_getElem? (i := 1044) (by decide +kernel), List.mem_of_getElem? (i := 1388) (by decide +kernel), List.mem_of_getElem? (i := 1389) (by decide +kernel)⟩
theorem lw_p105 : lw_okq (⟨"StreamFuserModel", "becomes", "(IIII)V"⟩, 59) := ⟨⟨by decide +kernel, by decide +kernel⟩, List.mem_of_getElem? (i := 1044) (by decide +kernel), List.mem_of_getElem? (i := 1392) (by decide +kernel), List.mem_of_getElem? (i := 1393) (by decide +kernel)⟩
theorem lw_p106 : lw_okq (⟨"StreamFuserModel", "cuts", "(II)V"⟩, 59) := ⟨⟨by decide +kernel, by decide +kernel⟩, List.mem_of_getElem? (i := 1044) (by decide +kernel), List.mem_of_getElem? (i := 1399) (by decide +kernel), List.mem_of_getElem? (i := 1400) (by decide +kernel)⟩
theorem lw_p107 : lw_okq (⟨"StreamFuserModel", "turns", "(I)V"⟩, 59) := ⟨⟨by decide +kernel, by decide +kernel⟩, List.mem_of_getElem? (i := 1044) (by decide +kernel), List.mem_of_getElem? (i := 1403) (by decide +kernel), List.mem_of_getElem? (i := 1404) (by decide +kernel)⟩
theorem lw_p108 : lw_okq (⟨"StreamFuserModel", "usesMore", "(III)V"⟩, 59) := ⟨⟨by decide +kernel, by decide +kernel⟩, List.mem_of_getElem? (i := 1044) (by decide +kernel), List.mem_of_getElem? (i := 1410) (by decide +kernel), List.mem_of_getElem? (i := 1411) (by decide +kernel)⟩
theorem lw_p109 : lw_okq (⟨"StreamFuserModel", "nil", "(I)V"⟩, 59) := ⟨⟨by decide +kernel, by decide +kernel⟩, List.mem_of_getElem? (i := 1044) (by decide +kernel), List.mem_of_getElem? (i := 1414) (by decide +kernel), List.mem_of_getElem? (i := 1415) (by decide +kernel)⟩
theorem lw_p110 : lw_okq (⟨"StreamFuserModel", "hasEndless", "()Z"⟩, 59) := ⟨⟨by decide +kernel, by decide +kernel⟩, List.mem_of_getElem? (i := 1044) (by decide +kernel), List.mem_of_getElem? (i := 1428) (by decide +kernel), List.mem_of_getElem? (i := 1429) (by decide +kernel)⟩
theorem lw_p111 : lw_okq (⟨"StreamFuserModel", "runs", "(II)V"⟩, 59) := ⟨⟨by decide +kernel, by decide +kernel⟩, List.mem_of_getElem? (i := 1044) (by decide +kernel), List.mem_of_getElem? (i := 1432) (by decide +kernel), List.mem_of_getElem? (i := 1433) (by decide +kernel)⟩
def lw_privs_7 : List (MethodName × Nat) := [(⟨"StreamFuserModel", "tells", "(I)V"⟩, 59), (⟨"StreamFuserModel", "tellsNumber", "(I)V"⟩, 59), (⟨"StreamFuserModel", "textBy", "(I)I"⟩, 59), (⟨"StreamFuserModel", "tidies", "(I)I"⟩, 59), (⟨"StreamFuserModel", "tidiesOnce", "(I)Z"⟩, 59), (⟨"StreamFuserModel", "ruleAt", "(I)I"⟩, 59), (⟨"StreamFuserModel", "isNil", "(I)Z"⟩, 59), (⟨"StreamFuserModel", "ruleOfCut", "(I)I"⟩, 59), (⟨"StreamFuserModel", "uses", "(II)V"⟩, 59), (⟨"StreamFuserModel", "becomes", "(IIII)V"⟩, 59), (⟨"StreamFuserModel", "cuts", "(II)V"⟩, 59), (⟨"StreamFuserModel", "turns", "(I)V"⟩, 59), (⟨"StreamFuserModel", "usesMore", "(III)V"⟩, 59), (⟨"StreamFuserModel", "nil", "(I)V"⟩, 59), (⟨"StreamFuserModel", "hasEndless", "()Z"⟩, 59), (⟨"StreamFuserModel", "runs", "(II)V"⟩, 59)]
theorem lw_r7 : ∀ q ∈ lw_privs_7, lw_okq q := List.forall_mem_cons.mpr ⟨lw_p96, List.forall_mem_cons.mpr ⟨lw_p97, List.forall_mem_cons.mpr ⟨lw_p98, List.forall_mem_cons.mpr ⟨lw_p99, List.forall_mem_cons.mpr ⟨lw_p100, List.forall_mem_cons.mpr ⟨lw_p101, List.forall_mem_cons.mpr ⟨lw_p102, List.forall_mem_cons.mpr ⟨lw_p103, List.forall_mem_cons.mpr ⟨lw_p104, List.forall_mem_cons.mpr ⟨lw_p105, List.forall_mem_cons.mpr ⟨lw_p106, List.forall_mem_cons.mpr ⟨lw_p107, List.forall_mem_cons.mpr ⟨lw_p108, List.forall_mem_cons.mpr ⟨lw_p109, List.forall_mem_cons.mpr ⟨lw_p110, List.forall_mem_cons.mpr ⟨lw_p111, fun _ h => absurd h List.not_mem_nil⟩⟩⟩⟩⟩⟩⟩⟩⟩⟩⟩⟩⟩⟩⟩⟩
theorem lw_p112 : lw_okq (⟨"StreamFuserModel", "begins", "(II)V"⟩, 59) := ⟨⟨by decide +kernel, by decide +kernel⟩, List.mem_of_getElem? (i := 1044) (by decide +kernel), List.mem_of_getElem? (i := 1436) (by decide +kernel), List.mem_of_getElem? (i := 1437) (by decide +kernel)⟩
theorem lw_p113 : lw_okq (⟨"StreamFuserModel", "makesRows", "()V"⟩, 59) := ⟨⟨by decide +kernel, by decide +kernel⟩, List.mem_of_getElem? (i := 1044) (by decide +kernel), List.mem_of_getElem? (i := 1440) (by decide +kernel), List.mem_of_getElem? (i := 1441) (by decide +kernel)⟩
theorem lw_p114 : lw_okq (⟨"StreamFuserModel", "wantsRow", "(I)I"⟩, 59) := ⟨⟨by decide +kernel, by decide +kernel⟩, List.mem_of_getElem? (i := 1044) (by decide +kernel), List.mem_of_getElem? (i := 1445) (by decide +kernel), List.mem_of_getElem? (i := 1446) (by decide +kernel)⟩
theorem lw_p115 : lw_okq (⟨"StreamFuserModel", "opensRow", "(I)I"⟩, 59) := ⟨⟨by decide +kernel, by decide +kernel⟩, List.mem_of_getElem? (i := 1044) (by decide +kernel), List.mem_of_getElem? (i := 1449) (by decide +kernel), List.mem_of_getElem? (i := 1450) (by decide +kernel)⟩
theorem lw_p116 : lw_okq (⟨"StreamFuserModel", "fails", "(II)V"⟩, 59) := ⟨⟨by decide +kernel, by decide +kernel⟩, List.mem_of_getElem? (i := 1044) (by decide +kernel), List.mem_of_getElem? (i := 1453) (by decide +kernel), List.mem_of_getElem? (i := 1454) (by decide +kernel)⟩
theorem lw_p117 : lw_okq (⟨"StreamFuserModel", "adds", "(II)V"⟩, 59) := ⟨⟨by decide +kernel, by decide +kernel⟩, List.mem_of_getElem? (i := 1044) (by decide +kernel), List.mem_of_getElem? (i := 1457) (by decide +kernel), List.mem_of_getElem? (i := 1458) (by decide +kernel)⟩
theorem lw_p118 : lw_okq (⟨"StreamFuserModel", "fills", "(I)V"⟩, 59) := ⟨⟨by decide +kernel, by decide +kernel⟩, List.mem_of_getElem? (i := 1044) (by decide +kernel), List.mem_of_getElem? (i := 1461) (by decide +kernel), List.mem_of_getElem? (i := 1462) (by decide +kernel)⟩
theorem lw_p119 : lw_okq (⟨"StreamFuserModel", "draws", "()Z"⟩, 59) := ⟨⟨by decide +kernel, by decide +kernel⟩, List.mem_of_getElem? (i := 1044) (by decide +kernel), List.mem_of_getElem? (i := 1466) (by decide +kernel), List.mem_of_getElem? (i := 1467) (by decide +kernel)⟩
theorem lw_p120 : lw_okq (⟨"StreamFuserModel", "changesRow", "(I)V"⟩, 59) := ⟨⟨by decide +kernel, by decide +kernel⟩, List.mem_of_getElem? (i := 1044) (by decide +kernel), List.mem_of_getElem? (i := 1470) (by decide +kernel), List.mem_of_getElem? (i := 1471) (by decide +kernel)⟩
theorem lw_p121 : lw_okq (⟨"StreamFuserModel", "passes", "(II)Z"⟩, 59) := ⟨⟨by decide +kernel, by decide +kernel⟩, List.mem_of_getElem? (i := 1044) (by decide +kernel), List.mem_of_getElem? (i := 1474) (by decide +kernel), List.mem_of_getElem? (i := 1475) (by decide +kernel)⟩
theorem lw_p122 : lw_okq (⟨"StreamFuserModel", "made", "(II)I"⟩, 59) := ⟨⟨by decide +kernel, by decide +kernel⟩, List.mem_of_getElem? (i := 1044) (by decide +kernel), List.mem_of_getElem? (i := 1478) (by decide +kernel), List.mem_of_getElem? (i := 1479) (by decide +kernel)⟩
theorem lw_p123 : lw_okq (⟨"StreamFuserModel", "writesDown", "(II)V"⟩, 59) := ⟨⟨by decide +kernel, by decide +kernel⟩, List.mem_of_getElem? (i := 1044) (by decide +kernel), List.mem_of_getElem? (i := 1482) (by decide +kernel), List.mem_of_getElem? (i := 1483) (by decide +kernel)⟩
theorem lw_p124 : lw_okq (⟨"StreamFuserModel", "joinsRows", "(I)V"⟩, 59) := ⟨⟨by decide +kernel, by decide +kernel⟩, List.mem_of_getElem? (i := 1044) (by decide +kernel), List.mem_of_getElem? (i := 1486) (by decide +kernel), List.mem_of_getElem? (i := 1487) (by decide +kernel)⟩
theorem lw_p125 : lw_okq (⟨"StreamFuserModel", "joined", "(III)I"⟩, 59) := ⟨⟨by decide +kernel, by decide +kernel⟩, List.mem_of_getElem? (i := 1044) (by decide +kernel), List.mem_of_getElem? (i := 1490) (by decide +kernel), List.mem_of_getElem? (i := 1491) (by decide +kernel)⟩
theorem lw_p126 : lw_okq (⟨"StreamFuserModel", "steps", "()I"⟩, 59) := ⟨⟨by decide +kernel, by decide +kernel⟩, List.mem_of_getElem? (i := 1044) (by decide +kernel), List.mem_of_getElem? (i := 1494) (by decide +kernel), List.mem_of_getElem? (i := 1495) (by decide +kernel)⟩
theorem lw_p127 : lw_okq (⟨"StreamFuserModel", "gives", "(I)V"⟩, 59) := ⟨⟨by decide +kernel, by decide +kernel⟩, List.mem_of_getElem? (i := 1044) (by decide +kernel), List.mem_of_getElem? (i := 1498) (by decide +kernel), List.mem_of_getElem? (i := 1499) (by decide +kernel)⟩
def lw_privs_8 : List (MethodName × Nat) := [(⟨"StreamFuserModel", "begins", "(II)V"⟩, 59), (⟨"StreamFuserModel", "makesRows", "()V"⟩, 59), (⟨"StreamFuserModel", "wantsRow", "(I)I"⟩, 59), (⟨"StreamFuserModel", "opensRow", "(I)I"⟩, 59), (⟨"StreamFuserModel", "fails", "(II)V"⟩, 59), (⟨"StreamFuserModel", "adds", "(II)V"⟩, 59), (⟨"StreamFuserModel", "fills", "(I)V"⟩, 59), (⟨"StreamFuserModel", "draws", "()Z"⟩, 59), (⟨"StreamFuserModel", "changesRow", "(I)V"⟩, 59), (⟨"StreamFuserModel", "passes", "(II)Z"⟩, 59), (⟨"StreamFuserModel", "made", "(II)I"⟩, 59), (⟨"StreamFuserModel", "writesDown", "(II)V"⟩, 59), (⟨"StreamFuserModel", "joinsRows", "(I)V"⟩, 59), (⟨"StreamFuserModel", "joined", "(III)I"⟩, 59), (⟨"StreamFuserModel", "steps", "()I"⟩, 59), (⟨"StreamFuserModel", "gives", "(I)V"⟩, 59)]
theorem lw_r8 : ∀ q ∈ lw_privs_8, lw_okq q := List.forall_mem_cons.mpr ⟨lw_p112, List.forall_mem_cons.mpr ⟨lw_p113, List.forall_mem_cons.mpr ⟨lw_p114, List.forall_mem_cons.mpr ⟨lw_p115, List.forall_mem_cons.mpr ⟨lw_p116, List.forall_mem_cons.mpr ⟨lw_p117, List.forall_mem_cons.mpr ⟨lw_p118, List.forall_mem_cons.mpr ⟨lw_p119, List.forall_mem_cons.mpr ⟨lw_p120, List.forall_mem_cons.mpr ⟨lw_p121, List.forall_mem_cons.mpr ⟨lw_p122, List.forall_mem_cons.mpr ⟨lw_p123, List.forall_mem_cons.mpr ⟨lw_p124, List.forall_mem_cons.mpr ⟨lw_p125, List.forall_mem_cons.mpr ⟨lw_p126, List.forall_mem_cons.mpr ⟨lw_p127, fun _ h => absurd h List.not_mem_nil⟩⟩⟩⟩⟩⟩⟩⟩⟩⟩⟩⟩⟩⟩⟩⟩
theorem lw_p128 : lw_okq (⟨"StreamFuserModel", "after", "(II)I"⟩, 59) := ⟨⟨by decide +kernel, by decide +kernel⟩, List.mem_of_getElem? (i := 1044) (by decide +kernel), List.mem_of_getElem? (i := 1502) (by decide +kernel), List.mem_of_getElem? (i := 1503) (by decide +kernel)⟩
theorem lw_p129 : lw_okq (⟨"StreamFuserModel", "afterOne", "(II)I"⟩, 59) := ⟨⟨by decide +kernel, by decide +kernel⟩, List.mem_of_getElem? (i := 1044) (by decide +kernel), List.mem_of_getElem? (i := 1506) (by decide +kernel), List.mem_of_getElem? (i := 1507) (by decide +kernel)⟩
theorem lw_p130 : lw_okq (⟨"StreamFuserModel", "opensFor", "(II)V"⟩, 59) := ⟨⟨by decide +kernel, by decide +kernel⟩, List.mem_of_getElem? (i := 1044) (by decide +kernel), List.mem_of_getElem? (i := 1510) (by decide +kernel), List.mem_of_getElem? (i := 1511) (by decide +kernel)⟩
theorem lw_p131 : lw_okq (⟨"StreamFuserModel", "asks", "()Z"⟩, 59) := ⟨⟨by decide +kernel, by decide +kernel⟩, List.mem_of_getElem? (i := 1044) (by decide +kernel), List.mem_of_getElem? (i := 1514) (by decide +kernel), List.mem_of_getElem? (i := 1515) (by decide +kernel)⟩
theorem lw_p132 : lw_okq (⟨"StreamFuserModel", "asksNext", "(I)I"⟩, 59) := ⟨⟨by decide +kernel, by decide +kernel⟩, List.mem_of_getElem? (i := 1044) (by decide +kernel), List.mem_of_getElem? (i := 1518) (by decide +kernel), List.mem_of_getElem? (i := 1519) (by decide +kernel)⟩
theorem lw_p133 : lw_okq (⟨"StreamFuserModel", "hears", "(I)I"⟩, 59) := ⟨⟨by decide +kernel, by decide +kernel⟩, List.mem_of_getElem? (i := 1044) (by decide +kernel), List.mem_of_getElem? (i := 1522) (by decide +kernel), List.mem_of_getElem? (i := 1523) (by decide +kernel)⟩
theorem lw_p134 : lw_okq (⟨"StreamFuserModel", "hearsOne", "(I)I"⟩, 59) := ⟨⟨by decide +kernel, by decide +kernel⟩, List.mem_of_getElem? (i := 1044) (by decide +kernel), List.mem_of_getElem? (i := 1526) (by decide +kernel), List.mem_of_getElem? (i := 1527) (by decide +kernel)⟩
theorem lw_p135 : lw_okq (⟨"StreamFuserModel", "hearsOpen", "(I)I"⟩, 59) := ⟨⟨by decide +kernel, by decide +kernel⟩, List.mem_of_getElem? (i := 1044) (by decide +kernel), List.mem_of_getElem? (i := 1530) (by decide +kernel), List.mem_of_getElem? (i := 1531) (by decide +kernel)⟩
theorem lw_p136 : lw_okq (⟨"StreamFuserModel", "foldBy", "(I)J"⟩, 59) := ⟨⟨by decide +kernel, by decide +kernel⟩, List.mem_of_getElem? (i := 1044) (by decide +kernel), List.mem_of_getElem? (i := 1546) (by decide +kernel), List.mem_of_getElem? (i := 1547) (by decide +kernel)⟩
theorem lw_p137 : lw_okq (⟨"StreamFuserModel", "keptDown", "()I"⟩, 59) := ⟨⟨by decide +kernel, by decide +kernel⟩, List.mem_of_getElem? (i := 1044) (by decide +kernel), List.mem_of_getElem? (i := 1563) (by decide +kernel), List.mem_of_getElem? (i := 1564) (by decide +kernel)⟩
theorem lw_p138 : lw_okq (⟨"StreamFuserModel", "writtenBy", "(II)J"⟩, 59) := ⟨⟨by decide +kernel, by decide +kernel⟩, List.mem_of_getElem? (i := 1044) (by decide +kernel), List.mem_of_getElem? (i := 1567) (by decide +kernel), List.mem_of_getElem? (i := 1568) (by decide +kernel)⟩
theorem lw_p139 : lw_okq (⟨"StreamFuserModel", "savesBy", "(I)I"⟩, 59) := ⟨⟨by decide +kernel, by decide +kernel⟩, List.mem_of_getElem? (i := 1044) (by decide +kernel), List.mem_of_getElem? (i := 1579) (by decide +kernel), List.mem_of_getElem? (i := 1580) (by decide +kernel)⟩
theorem lw_p140 : lw_okq (⟨"StreamFuserModel", "lays", "(ZI)V"⟩, 59) := ⟨⟨by decide +kernel, by decide +kernel⟩, List.mem_of_getElem? (i := 1044) (by decide +kernel), List.mem_of_getElem? (i := 1583) (by decide +kernel), List.mem_of_getElem? (i := 1584) (by decide +kernel)⟩
theorem lw_p141 : lw_okq (⟨"StreamFuserModel", "deepest", "()I"⟩, 59) := ⟨⟨by decide +kernel, by decide +kernel⟩, List.mem_of_getElem? (i := 1044) (by decide +kernel), List.mem_of_getElem? (i := 1591) (by decide +kernel), List.mem_of_getElem? (i := 1592) (by decide +kernel)⟩
theorem lw_p142 : lw_okq (⟨"StreamFuserModel", "planTells", "(J)J"⟩, 59) := ⟨⟨by decide +kernel, by decide +kernel⟩, List.mem_of_getElem? (i := 1044) (by decide +kernel), List.mem_of_getElem? (i := 1602) (by decide +kernel), List.mem_of_getElem? (i := 1603) (by decide +kernel)⟩
def lw_privs_9 : List (MethodName × Nat) := [(⟨"StreamFuserModel", "after", "(II)I"⟩, 59), (⟨"StreamFuserModel", "afterOne", "(II)I"⟩, 59), (⟨"StreamFuserModel", "opensFor", "(II)V"⟩, 59), (⟨"StreamFuserModel", "asks", "()Z"⟩, 59), (⟨"StreamFuserModel", "asksNext", "(I)I"⟩, 59), (⟨"StreamFuserModel", "hears", "(I)I"⟩, 59), (⟨"StreamFuserModel", "hearsOne", "(I)I"⟩, 59), (⟨"StreamFuserModel", "hearsOpen", "(I)I"⟩, 59), (⟨"StreamFuserModel", "foldBy", "(I)J"⟩, 59), (⟨"StreamFuserModel", "keptDown", "()I"⟩, 59), (⟨"StreamFuserModel", "writtenBy", "(II)J"⟩, 59), (⟨"StreamFuserModel", "savesBy", "(I)I"⟩, 59), (⟨"StreamFuserModel", "lays", "(ZI)V"⟩, 59), (⟨"StreamFuserModel", "deepest", "()I"⟩, 59), (⟨"StreamFuserModel", "planTells", "(J)J"⟩, 59)]
theorem lw_r9 : ∀ q ∈ lw_privs_9, lw_okq q := List.forall_mem_cons.mpr ⟨lw_p128, List.forall_mem_cons.mpr ⟨lw_p129, List.forall_mem_cons.mpr ⟨lw_p130, List.forall_mem_cons.mpr ⟨lw_p131, List.forall_mem_cons.mpr ⟨lw_p132, List.forall_mem_cons.mpr ⟨lw_p133, List.forall_mem_cons.mpr ⟨lw_p134, List.forall_mem_cons.mpr ⟨lw_p135, List.forall_mem_cons.mpr ⟨lw_p136, List.forall_mem_cons.mpr ⟨lw_p137, List.forall_mem_cons.mpr ⟨lw_p138, List.forall_mem_cons.mpr ⟨lw_p139, List.forall_mem_cons.mpr ⟨lw_p140, List.forall_mem_cons.mpr ⟨lw_p141, List.forall_mem_cons.mpr ⟨lw_p142, fun _ h => absurd h List.not_mem_nil⟩⟩⟩⟩⟩⟩⟩⟩⟩⟩⟩⟩⟩⟩⟩
def lw_privs : List (MethodName × Nat) := lw_privs_1 ++ (lw_privs_2 ++ (lw_privs_3 ++ (lw_privs_4 ++ (lw_privs_5 ++ (lw_privs_6 ++ (lw_privs_7 ++ (lw_privs_8 ++ (lw_privs_9))))))))
def lw_tbl : List Cond := k2_sels lw_privs ++ tables_1
theorem lw_privs_ok : ∀ q ∈ lw_privs, lw_okq q := by
  show ∀ q ∈ lw_privs_1 ++ (lw_privs_2 ++ (lw_privs_3 ++ (lw_privs_4 ++ (lw_privs_5 ++ (lw_privs_6 ++ (lw_privs_7 ++ (lw_privs_8 ++ (lw_privs_9)))))))), lw_okq q
  exact List.forall_mem_append.mpr ⟨lw_r1, List.forall_mem_append.mpr ⟨lw_r2, List.forall_mem_append.mpr ⟨lw_r3, List.forall_mem_append.mpr ⟨lw_r4, List.forall_mem_append.mpr ⟨lw_r5, List.forall_mem_append.mpr ⟨lw_r6, List.forall_mem_append.mpr ⟨lw_r7, List.forall_mem_append.mpr ⟨lw_r8, lw_r9⟩⟩⟩⟩⟩⟩⟩⟩

-- ===== names: classes, fields, types, methods =====
def RX0 : String := "StreamFuser$Asker"
def TX0 : u_T := fun k => match k with
  | 0 => ("StreamFuser$Walk", "used", "[I", true)
  | 1 => ("StreamFuser$Walk", "turned", "[Z", true)
  | 2 => ("StreamFuser$Way", "plan", "LStreamFuser$Plan;", true)
  | 3 => ("StreamFuser$Way", "run", "LStreamFuser$Run;", true)
  | 4 => ("StreamFuser$Way", "sheets", "LStreamFuser$Sheets;", true)
  | 5 => ("StreamFuser$Way", "opened", "[I", true)
  | _ => ("StreamFuser$Way", "value", "I", false)
def tyX0 : Nat → FieldType := fun k => match k with
  | 0 => .array .int
  | 1 => .array .boolean
  | 2 => .object "StreamFuser$Plan"
  | 3 => .object "StreamFuser$Run"
  | 4 => .object "StreamFuser$Sheets"
  | 5 => .array .int
  | _ => .int
abbrev wsX00 : List Cond := u_ws RX0 TX0 7
theorem nmX0 : ∀ a, a < 7 → ∀ b, b < 7 → a ≠ b → (TX0 a).2.1 ≠ (TX0 b).2.1 := by decide +kernel
theorem tyX0_ok : ∀ k, k < 7 → parseFieldDescriptor (TX0 k).2.2.1 = some (tyX0 k) := by decide +kernel
abbrev cX0_init : ByteArray := prog_2_method_1_code
def yX0_init : MethodName := ⟨RX0, "<init>", "(LStreamFuser$Plan;LStreamFuser$Run;LStreamFuser$Sheets;)V"⟩
abbrev cX0_play : ByteArray := prog_2_method_2_code
def yX0_play : MethodName := ⟨RX0, "play", "(I)V"⟩
abbrev cX0_ask : ByteArray := prog_2_method_3_code
def yX0_ask : MethodName := ⟨RX0, "ask", "(II)Z"⟩
abbrev cX0_askFilter : ByteArray := prog_2_method_4_code
def yX0_askFilter : MethodName := ⟨RX0, "askFilter", "(II)Z"⟩
abbrev cX0_askWhile : ByteArray := prog_2_method_5_code
def yX0_askWhile : MethodName := ⟨RX0, "askWhile", "(II)Z"⟩
abbrev cX0_askTake : ByteArray := prog_2_method_6_code
def yX0_askTake : MethodName := ⟨RX0, "askTake", "(II)Z"⟩
abbrev cX0_askDrop : ByteArray := prog_2_method_7_code
def yX0_askDrop : MethodName := ⟨RX0, "askDrop", "(II)Z"⟩
abbrev cX0_askChain : ByteArray := prog_2_method_8_code
def yX0_askChain : MethodName := ⟨RX0, "askChain", "(II)Z"⟩
abbrev cX0_askZip : ByteArray := prog_2_method_9_code
def yX0_askZip : MethodName := ⟨RX0, "askZip", "(II)Z"⟩
abbrev cX0_askOpener : ByteArray := prog_2_method_10_code
def yX0_askOpener : MethodName := ⟨RX0, "askOpener", "(II)Z"⟩
def RX1 : String := "StreamFuser$Maker"
def TX1 : u_T := fun k => match k with
  | 0 => ("StreamFuser$Way", "plan", "LStreamFuser$Plan;", true)
  | 1 => ("StreamFuser$Way", "run", "LStreamFuser$Run;", true)
  | 2 => ("StreamFuser$Way", "sheets", "LStreamFuser$Sheets;", true)
  | 3 => ("StreamFuser$Way", "opened", "[I", true)
  | 4 => ("StreamFuser$Way", "value", "I", false)
  | 5 => ("StreamFuser$Maker", "rows", "[I", true)
  | _ => ("StreamFuser$Maker", "length", "[I", true)
def tyX1 : Nat → FieldType := fun k => match k with
  | 0 => .object "StreamFuser$Plan"
  | 1 => .object "StreamFuser$Run"
  | 2 => .object "StreamFuser$Sheets"
  | 3 => .array .int
  | 4 => .int
  | 5 => .array .int
  | _ => .array .int
abbrev wsX10 : List Cond := u_ws RX1 TX1 7
theorem nmX1 : ∀ a, a < 7 → ∀ b, b < 7 → a ≠ b → (TX1 a).2.1 ≠ (TX1 b).2.1 := by decide +kernel
theorem tyX1_ok : ∀ k, k < 7 → parseFieldDescriptor (TX1 k).2.2.1 = some (tyX1 k) := by decide +kernel
abbrev cX1_init : ByteArray := prog_3_method_1_code
def yX1_init : MethodName := ⟨RX1, "<init>", "(LStreamFuser$Plan;LStreamFuser$Run;LStreamFuser$Sheets;)V"⟩
abbrev cX1_play : ByteArray := prog_3_method_2_code
def yX1_play : MethodName := ⟨RX1, "play", "(I)V"⟩
abbrev cX1_make : ByteArray := prog_3_method_3_code
def yX1_make : MethodName := ⟨RX1, "make", "(II)Z"⟩
abbrev cX1_fill : ByteArray := prog_3_method_4_code
def yX1_fill : MethodName := ⟨RX1, "fill", "(II)Z"⟩
abbrev cX1_fillFromProducer : ByteArray := prog_3_method_5_code
def yX1_fillFromProducer : MethodName := ⟨RX1, "fillFromProducer", "(I)Z"⟩
abbrev cX1_fillFromInput : ByteArray := prog_3_method_6_code
def yX1_fillFromInput : MethodName := ⟨RX1, "fillFromInput", "(I)Z"⟩
abbrev cX1_fillByOpening : ByteArray := prog_3_method_7_code
def yX1_fillByOpening : MethodName := ⟨RX1, "fillByOpening", "(II)Z"⟩
abbrev cX1_addRow : ByteArray := prog_3_method_8_code
def yX1_addRow : MethodName := ⟨RX1, "addRow", "(II)Z"⟩
abbrev cX1_zip : ByteArray := prog_3_method_9_code
def yX1_zip : MethodName := ⟨RX1, "zip", "(II)V"⟩
abbrev cX1_element : ByteArray := prog_3_method_10_code
def yX1_element : MethodName := ⟨RX1, "element", "(II)I"⟩
abbrev cX1_add : ByteArray := prog_3_method_11_code
def yX1_add : MethodName := ⟨RX1, "add", "(II)V"⟩
def RX2 : String := "StreamFuser$Plan"
def TX2 : u_T := fun k => match k with
  | 0 => ("StreamFuser$Plan", "letter", "[I", true)
  | 1 => ("StreamFuser$Plan", "mark", "[I", true)
  | 2 => ("StreamFuser$Plan", "first", "[I", true)
  | 3 => ("StreamFuser$Plan", "second", "[I", true)
  | 4 => ("StreamFuser$Plan", "size", "I", false)
  | 5 => ("StreamFuser$Plan", "end", "[I", true)
  | 6 => ("StreamFuser$Plan", "within", "[I", true)
  | 7 => ("StreamFuser$Plan", "nested", "[I", true)
  | 8 => ("StreamFuser$Plan", "opener", "[I", true)
  | 9 => ("StreamFuser$Plan", "pure", "[Z", true)
  | 10 => ("StreamFuser$Plan", "deepest", "I", false)
  | _ => ("StreamFuser$Plan", "endless", "Z", false)
def tyX2 : Nat → FieldType := fun k => match k with
  | 0 => .array .int
  | 1 => .array .int
  | 2 => .array .int
  | 3 => .array .int
  | 4 => .int
  | 5 => .array .int
  | 6 => .array .int
  | 7 => .array .int
  | 8 => .array .int
  | 9 => .array .boolean
  | 10 => .int
  | _ => .boolean
abbrev wsX20 : List Cond := u_ws RX2 TX2 12
theorem nmX2 : ∀ a, a < 12 → ∀ b, b < 12 → a ≠ b → (TX2 a).2.1 ≠ (TX2 b).2.1 := by decide +kernel
theorem tyX2_ok : ∀ k, k < 12 → parseFieldDescriptor (TX2 k).2.2.1 = some (tyX2 k) := by decide +kernel
abbrev cX2_init : ByteArray := prog_4_method_1_code
def yX2_init : MethodName := ⟨RX2, "<init>", "()V"⟩
abbrev cX2_partsOf : ByteArray := prog_4_method_2_code
def yX2_partsOf : MethodName := ⟨RX2, "partsOf", "(I)I"⟩
abbrev cX2_numbersOf : ByteArray := prog_4_method_3_code
def yX2_numbersOf : MethodName := ⟨RX2, "numbersOf", "(I)I"⟩
abbrev cX2_has : ByteArray := prog_4_method_4_code
def yX2_has : MethodName := ⟨RX2, "has", "(I)Z"⟩
abbrev cX2_letterAt : ByteArray := prog_4_method_5_code
def yX2_letterAt : MethodName := ⟨RX2, "letterAt", "(I)I"⟩
abbrev cX2_isNil : ByteArray := prog_4_method_6_code
def yX2_isNil : MethodName := ⟨RX2, "isNil", "(I)Z"⟩
abbrev cX2_secondPart : ByteArray := prog_4_method_7_code
def yX2_secondPart : MethodName := ⟨RX2, "secondPart", "(I)I"⟩
abbrev cX2_input : ByteArray := prog_4_method_8_code
def yX2_input : MethodName := ⟨RX2, "input", "(I)I"⟩
abbrev cX2_add : ByteArray := prog_4_method_9_code
def yX2_add : MethodName := ⟨RX2, "add", "(IIII)V"⟩
abbrev cX2_takeFrom : ByteArray := prog_4_method_10_code
def yX2_takeFrom : MethodName := ⟨RX2, "takeFrom", "(LStreamFuser$Plan;)V"⟩
abbrev cX2_swapWithNext : ByteArray := prog_4_method_11_code
def yX2_swapWithNext : MethodName := ⟨RX2, "swapWithNext", "(I)V"⟩
abbrev cX2_cut : ByteArray := prog_4_method_12_code
def yX2_cut : MethodName := ⟨RX2, "cut", "(II)V"⟩
abbrev cX2_moveNode : ByteArray := prog_4_method_13_code
def yX2_moveNode : MethodName := ⟨RX2, "moveNode", "(II)V"⟩
abbrev cX2_makeNil : ByteArray := prog_4_method_14_code
def yX2_makeNil : MethodName := ⟨RX2, "makeNil", "(I)V"⟩
abbrev cX2_measure : ByteArray := prog_4_method_15_code
def yX2_measure : MethodName := ⟨RX2, "measure", "()V"⟩
abbrev cX2_measureFromParts : ByteArray := prog_4_method_16_code
def yX2_measureFromParts : MethodName := ⟨RX2, "measureFromParts", "(I)V"⟩
abbrev cX2_measureParts : ByteArray := prog_4_method_17_code
def yX2_measureParts : MethodName := ⟨RX2, "measureParts", "(I)V"⟩
def RX3 : String := "StreamFuser$Printer"
def TX3 : u_T := fun k => match k with
  | 0 => ("StreamFuser$Printer", "source", "LStreamFuser$Plan;", true)
  | 1 => ("StreamFuser$Printer", "bytes", "[B", true)
  | _ => ("StreamFuser$Printer", "length", "I", false)
def tyX3 : Nat → FieldType := fun k => match k with
  | 0 => .object "StreamFuser$Plan"
  | 1 => .array .byte
  | _ => .int
abbrev wsX30 : List Cond := u_ws RX3 TX3 3
theorem nmX3 : ∀ a, a < 3 → ∀ b, b < 3 → a ≠ b → (TX3 a).2.1 ≠ (TX3 b).2.1 := by decide +kernel
theorem tyX3_ok : ∀ k, k < 3 → parseFieldDescriptor (TX3 k).2.2.1 = some (tyX3 k) := by decide +kernel
abbrev cX3_init : ByteArray := prog_5_method_1_code
def yX3_init : MethodName := ⟨RX3, "<init>", "(LStreamFuser$Plan;)V"⟩
abbrev cX3_print : ByteArray := prog_5_method_2_code
def yX3_print : MethodName := ⟨RX3, "print", "()V"⟩
abbrev cX3_printNode : ByteArray := prog_5_method_3_code
def yX3_printNode : MethodName := ⟨RX3, "printNode", "(I)V"⟩
abbrev cX3_put : ByteArray := prog_5_method_4_code
def yX3_put : MethodName := ⟨RX3, "put", "(I)V"⟩
abbrev cX3_putNumber : ByteArray := prog_5_method_5_code
def yX3_putNumber : MethodName := ⟨RX3, "putNumber", "(I)V"⟩
def RX4 : String := "StreamFuser$Reader"
def TX4 : u_T := fun k => match k with
  | 0 => ("StreamFuser$Reader", "target", "LStreamFuser$Plan;", true)
  | 1 => ("StreamFuser$Reader", "bytes", "[I", true)
  | 2 => ("StreamFuser$Reader", "length", "I", false)
  | 3 => ("StreamFuser$Reader", "due", "[I", true)
  | 4 => ("StreamFuser$Reader", "dues", "I", false)
  | 5 => ("StreamFuser$Reader", "at", "I", false)
  | _ => ("StreamFuser$Reader", "fault", "I", false)
def tyX4 : Nat → FieldType := fun k => match k with
  | 0 => .object "StreamFuser$Plan"
  | 1 => .array .int
  | 2 => .int
  | 3 => .array .int
  | 4 => .int
  | 5 => .int
  | _ => .int
abbrev wsX40 : List Cond := u_ws RX4 TX4 7
theorem nmX4 : ∀ a, a < 7 → ∀ b, b < 7 → a ≠ b → (TX4 a).2.1 ≠ (TX4 b).2.1 := by decide +kernel
theorem tyX4_ok : ∀ k, k < 7 → parseFieldDescriptor (TX4 k).2.2.1 = some (tyX4 k) := by decide +kernel
abbrev cX4_init : ByteArray := prog_6_method_1_code
def yX4_init : MethodName := ⟨RX4, "<init>", "(LStreamFuser$Plan;)V"⟩
abbrev cX4_append : ByteArray := prog_6_method_2_code
def yX4_append : MethodName := ⟨RX4, "append", "(I)Z"⟩
abbrev cX4_read : ByteArray := prog_6_method_3_code
def yX4_read : MethodName := ⟨RX4, "read", "()I"⟩
abbrev cX4_expect : ByteArray := prog_6_method_4_code
def yX4_expect : MethodName := ⟨RX4, "expect", "(I)V"⟩
abbrev cX4_readNode : ByteArray := prog_6_method_5_code
def yX4_readNode : MethodName := ⟨RX4, "readNode", "()V"⟩
abbrev cX4_expectParts : ByteArray := prog_6_method_6_code
def yX4_expectParts : MethodName := ⟨RX4, "expectParts", "(II)V"⟩
abbrev cX4_peek : ByteArray := prog_6_method_7_code
def yX4_peek : MethodName := ⟨RX4, "peek", "()I"⟩
abbrev cX4_accept : ByteArray := prog_6_method_8_code
def yX4_accept : MethodName := ⟨RX4, "accept", "(Z)V"⟩
abbrev cX4_isLetter : ByteArray := prog_6_method_9_code
def yX4_isLetter : MethodName := ⟨RX4, "isLetter", "(II)Z"⟩
abbrev cX4_hasMark : ByteArray := prog_6_method_10_code
def yX4_hasMark : MethodName := ⟨RX4, "hasMark", "(I)Z"⟩
abbrev cX4_hasDigit : ByteArray := prog_6_method_11_code
def yX4_hasDigit : MethodName := ⟨RX4, "hasDigit", "(I)Z"⟩
abbrev cX4_readMark : ByteArray := prog_6_method_12_code
def yX4_readMark : MethodName := ⟨RX4, "readMark", "(I)I"⟩
abbrev cX4_fitsMark : ByteArray := prog_6_method_13_code
def yX4_fitsMark : MethodName := ⟨RX4, "fitsMark", "(II)Z"⟩
abbrev cX4_isDigit : ByteArray := prog_6_method_14_code
def yX4_isDigit : MethodName := ⟨RX4, "isDigit", "(I)Z"⟩
abbrev cX4_readNumber : ByteArray := prog_6_method_15_code
def yX4_readNumber : MethodName := ⟨RX4, "readNumber", "(I)I"⟩
def RX5 : String := "StreamFuser$Rewriter"
def TX5 : u_T := fun k => match k with
  | 0 => ("StreamFuser$Rewriter", "plan", "LStreamFuser$Plan;", true)
  | 1 => ("StreamFuser$Rewriter", "applied", "[I", true)
  | _ => ("StreamFuser$Rewriter", "total", "I", false)
def tyX5 : Nat → FieldType := fun k => match k with
  | 0 => .object "StreamFuser$Plan"
  | 1 => .array .int
  | _ => .int
abbrev wsX50 : List Cond := u_ws RX5 TX5 3
theorem nmX5 : ∀ a, a < 3 → ∀ b, b < 3 → a ≠ b → (TX5 a).2.1 ≠ (TX5 b).2.1 := by decide +kernel
theorem tyX5_ok : ∀ k, k < 3 → parseFieldDescriptor (TX5 k).2.2.1 = some (tyX5 k) := by decide +kernel
abbrev cX5_init : ByteArray := prog_7_method_1_code
def yX5_init : MethodName := ⟨RX5, "<init>", "(LStreamFuser$Plan;)V"⟩
abbrev cX5_simplify : ByteArray := prog_7_method_2_code
def yX5_simplify : MethodName := ⟨RX5, "simplify", "(Z)V"⟩
abbrev cX5_place : ByteArray := prog_7_method_3_code
def yX5_place : MethodName := ⟨RX5, "place", "(Z)I"⟩
abbrev cX5_ruleFor : ByteArray := prog_7_method_4_code
def yX5_ruleFor : MethodName := ⟨RX5, "ruleFor", "(I)I"⟩
abbrev cX5_ruleForTake : ByteArray := prog_7_method_5_code
def yX5_ruleForTake : MethodName := ⟨RX5, "ruleForTake", "(I)I"⟩
abbrev cX5_ruleForDrop : ByteArray := prog_7_method_6_code
def yX5_ruleForDrop : MethodName := ⟨RX5, "ruleForDrop", "(I)I"⟩
abbrev cX5_apply : ByteArray := prog_7_method_7_code
def yX5_apply : MethodName := ⟨RX5, "apply", "(II)V"⟩
abbrev cX5_swapDropWithTake : ByteArray := prog_7_method_8_code
def yX5_swapDropWithTake : MethodName := ⟨RX5, "swapDropWithTake", "(I)V"⟩
abbrev cX5_keepOnePart : ByteArray := prog_7_method_9_code
def yX5_keepOnePart : MethodName := ⟨RX5, "keepOnePart", "(I)V"⟩
abbrev cX5_mergeWithNext : ByteArray := prog_7_method_10_code
def yX5_mergeWithNext : MethodName := ⟨RX5, "mergeWithNext", "(II)V"⟩
def RX6 : String := "StreamFuser$Run"
def TX6 : u_T := fun k => match k with
  | 0 => ("StreamFuser$Run", "numbers", "[I", true)
  | 1 => ("StreamFuser$Run", "size", "I", false)
  | 2 => ("StreamFuser$Run", "drawn", "I", false)
  | 3 => ("StreamFuser$Run", "work", "I", false)
  | 4 => ("StreamFuser$Run", "elements", "I", false)
  | 5 => ("StreamFuser$Run", "failure", "I", false)
  | 6 => ("StreamFuser$Run", "failureDepth", "I", false)
  | 7 => ("StreamFuser$Run", "digits", "[I", true)
  | 8 => ("StreamFuser$Run", "notes", "[I", true)
  | _ => ("StreamFuser$Run", "pairs", "I", false)
def tyX6 : Nat → FieldType := fun k => match k with
  | 0 => .array .int
  | 1 => .int
  | 2 => .int
  | 3 => .int
  | 4 => .int
  | 5 => .int
  | 6 => .int
  | 7 => .array .int
  | 8 => .array .int
  | _ => .int
abbrev wsX60 : List Cond := u_ws RX6 TX6 10
theorem nmX6 : ∀ a, a < 10 → ∀ b, b < 10 → a ≠ b → (TX6 a).2.1 ≠ (TX6 b).2.1 := by decide +kernel
theorem tyX6_ok : ∀ k, k < 10 → parseFieldDescriptor (TX6 k).2.2.1 = some (tyX6 k) := by decide +kernel
abbrev cX6_init : ByteArray := prog_8_method_1_code
def yX6_init : MethodName := ⟨RX6, "<init>", "()V"⟩
abbrev cX6_begin : ByteArray := prog_8_method_2_code
def yX6_begin : MethodName := ⟨RX6, "begin", "()V"⟩
abbrev cX6_give : ByteArray := prog_8_method_3_code
def yX6_give : MethodName := ⟨RX6, "give", "(I)V"⟩
abbrev cX6_draw : ByteArray := prog_8_method_4_code
def yX6_draw : MethodName := ⟨RX6, "draw", "(I)Z"⟩
abbrev cX6_fail : ByteArray := prog_8_method_5_code
def yX6_fail : MethodName := ⟨RX6, "fail", "(II)V"⟩
abbrev cX6_failed : ByteArray := prog_8_method_6_code
def yX6_failed : MethodName := ⟨RX6, "failed", "()Z"⟩
abbrev cX6_note : ByteArray := prog_8_method_7_code
def yX6_note : MethodName := ⟨RX6, "note", "(II)V"⟩
abbrev cX6_kept : ByteArray := prog_8_method_8_code
def yX6_kept : MethodName := ⟨RX6, "kept", "()I"⟩
abbrev cX6_sum : ByteArray := prog_8_method_9_code
def yX6_sum : MethodName := ⟨RX6, "sum", "()J"⟩
abbrev cX6_greatest : ByteArray := prog_8_method_10_code
def yX6_greatest : MethodName := ⟨RX6, "greatest", "()I"⟩
abbrev cX6_smallest : ByteArray := prog_8_method_11_code
def yX6_smallest : MethodName := ⟨RX6, "smallest", "()I"⟩
def RX7 : String := "StreamFuser$Sheets"
def TX7 : u_T := fun k => match k with
  | 0 => ("StreamFuser$Sheets", "form", "[I", true)
  | 1 => ("StreamFuser$Sheets", "length", "[I", true)
  | _ => ("StreamFuser$Sheets", "elements", "[I", true)
def tyX7 : Nat → FieldType := fun k => match k with
  | 0 => .array .int
  | 1 => .array .int
  | _ => .array .int
abbrev wsX70 : List Cond := u_ws RX7 TX7 3
theorem nmX7 : ∀ a, a < 3 → ∀ b, b < 3 → a ≠ b → (TX7 a).2.1 ≠ (TX7 b).2.1 := by decide +kernel
theorem tyX7_ok : ∀ k, k < 3 → parseFieldDescriptor (TX7 k).2.2.1 = some (tyX7 k) := by decide +kernel
abbrev cX7_init : ByteArray := prog_9_method_1_code
def yX7_init : MethodName := ⟨RX7, "<init>", "()V"⟩
abbrev cX7_isLost : ByteArray := prog_9_method_2_code
def yX7_isLost : MethodName := ⟨RX7, "isLost", "(I)Z"⟩
abbrev cX7_hasElement : ByteArray := prog_9_method_3_code
def yX7_hasElement : MethodName := ⟨RX7, "hasElement", "(II)Z"⟩
abbrev cX7_hasPart : ByteArray := prog_9_method_4_code
def yX7_hasPart : MethodName := ⟨RX7, "hasPart", "(III)Z"⟩
abbrev cX7_renew : ByteArray := prog_9_method_5_code
def yX7_renew : MethodName := ⟨RX7, "renew", "(III)V"⟩
abbrev cX7_store : ByteArray := prog_9_method_6_code
def yX7_store : MethodName := ⟨RX7, "store", "(III)V"⟩
abbrev cX7_cast : ByteArray := prog_9_method_7_code
def yX7_cast : MethodName := ⟨RX7, "cast", "(II)I"⟩
abbrev cX7_at : ByteArray := prog_9_method_8_code
def yX7_at : MethodName := ⟨RX7, "at", "(II)I"⟩
abbrev cX7_move : ByteArray := prog_9_method_9_code
def yX7_move : MethodName := ⟨RX7, "move", "(IIIII)V"⟩
def RX8 : String := "StreamFuser$Stepper"
def TX8 : u_T := fun k => match k with
  | 0 => ("StreamFuser$Walk", "used", "[I", true)
  | 1 => ("StreamFuser$Walk", "turned", "[Z", true)
  | 2 => ("StreamFuser$Way", "plan", "LStreamFuser$Plan;", true)
  | 3 => ("StreamFuser$Way", "run", "LStreamFuser$Run;", true)
  | 4 => ("StreamFuser$Way", "sheets", "LStreamFuser$Sheets;", true)
  | 5 => ("StreamFuser$Way", "opened", "[I", true)
  | 6 => ("StreamFuser$Way", "value", "I", false)
  | _ => ("StreamFuser$Stepper", "held", "[I", true)
def tyX8 : Nat → FieldType := fun k => match k with
  | 0 => .array .int
  | 1 => .array .boolean
  | 2 => .object "StreamFuser$Plan"
  | 3 => .object "StreamFuser$Run"
  | 4 => .object "StreamFuser$Sheets"
  | 5 => .array .int
  | 6 => .int
  | _ => .array .int
abbrev wsX80 : List Cond := u_ws RX8 TX8 8
theorem nmX8 : ∀ a, a < 8 → ∀ b, b < 8 → a ≠ b → (TX8 a).2.1 ≠ (TX8 b).2.1 := by decide +kernel
theorem tyX8_ok : ∀ k, k < 8 → parseFieldDescriptor (TX8 k).2.2.1 = some (tyX8 k) := by decide +kernel
abbrev cX8_init : ByteArray := prog_10_method_1_code
def yX8_init : MethodName := ⟨RX8, "<init>", "(LStreamFuser$Plan;LStreamFuser$Run;LStreamFuser$Sheets;)V"⟩
abbrev cX8_play : ByteArray := prog_10_method_2_code
def yX8_play : MethodName := ⟨RX8, "play", "(I)V"⟩
abbrev cX8_step : ByteArray := prog_10_method_3_code
def yX8_step : MethodName := ⟨RX8, "step", "(II)I"⟩
abbrev cX8_stepOne : ByteArray := prog_10_method_4_code
def yX8_stepOne : MethodName := ⟨RX8, "stepOne", "(II)I"⟩
abbrev cX8_given : ByteArray := prog_10_method_5_code
def yX8_given : MethodName := ⟨RX8, "given", "(Z)I"⟩
abbrev cX8_stepChain : ByteArray := prog_10_method_6_code
def yX8_stepChain : MethodName := ⟨RX8, "stepChain", "(II)I"⟩
abbrev cX8_stepZip : ByteArray := prog_10_method_7_code
def yX8_stepZip : MethodName := ⟨RX8, "stepZip", "(II)I"⟩
abbrev cX8_stepOpener : ByteArray := prog_10_method_8_code
def yX8_stepOpener : MethodName := ⟨RX8, "stepOpener", "(II)I"⟩
def RX9 : String := "StreamFuser$Walk"
def TX9 : u_T := fun k => match k with
  | _ => ("", "", "", false)
def tyX9 : Nat → FieldType := fun k => match k with
  | _ => .int
abbrev wsX90 : List Cond := u_ws RX9 TX9 0
theorem nmX9 : ∀ a, a < 0 → ∀ b, b < 0 → a ≠ b → (TX9 a).2.1 ≠ (TX9 b).2.1 := by decide +kernel
theorem tyX9_ok : ∀ k, k < 0 → parseFieldDescriptor (TX9 k).2.2.1 = some (tyX9 k) := by decide +kernel
abbrev cX9_init : ByteArray := prog_11_method_1_code
def yX9_init : MethodName := ⟨RX9, "<init>", "(LStreamFuser$Plan;LStreamFuser$Run;LStreamFuser$Sheets;)V"⟩
abbrev cX9_restart : ByteArray := prog_11_method_2_code
def yX9_restart : MethodName := ⟨RX9, "restart", "(II)V"⟩
abbrev cX9_open : ByteArray := prog_11_method_3_code
def yX9_open : MethodName := ⟨RX9, "open", "(II)V"⟩
abbrev cX9_produce : ByteArray := prog_11_method_4_code
def yX9_produce : MethodName := ⟨RX9, "produce", "(I)Z"⟩
def RX10 : String := "StreamFuser$Way"
def TX10 : u_T := fun k => match k with
  | _ => ("", "", "", false)
def tyX10 : Nat → FieldType := fun k => match k with
  | _ => .int
abbrev wsX100 : List Cond := u_ws RX10 TX10 0
theorem nmX10 : ∀ a, a < 0 → ∀ b, b < 0 → a ≠ b → (TX10 a).2.1 ≠ (TX10 b).2.1 := by decide +kernel
theorem tyX10_ok : ∀ k, k < 0 → parseFieldDescriptor (TX10 k).2.2.1 = some (tyX10 k) := by decide +kernel
abbrev cX10_init : ByteArray := prog_12_method_1_code
def yX10_init : MethodName := ⟨RX10, "<init>", "(LStreamFuser$Plan;LStreamFuser$Run;LStreamFuser$Sheets;)V"⟩
abbrev cX10_openedFor : ByteArray := prog_12_method_2_code
def yX10_openedFor : MethodName := ⟨RX10, "openedFor", "(I)I"⟩
abbrev cX10_isReady : ByteArray := prog_12_method_3_code
def yX10_isReady : MethodName := ⟨RX10, "isReady", "(I)Z"⟩
abbrev cX10_supply : ByteArray := prog_12_method_4_code
def yX10_supply : MethodName := ⟨RX10, "supply", "(I)J"⟩
abbrev cX10_supplied : ByteArray := prog_12_method_5_code
def yX10_supplied : MethodName := ⟨RX10, "supplied", "(II)I"⟩
abbrev cX10_change : ByteArray := prog_12_method_6_code
def yX10_change : MethodName := ⟨RX10, "change", "(II)Z"⟩
abbrev cX10_divide : ByteArray := prog_12_method_7_code
def yX10_divide : MethodName := ⟨RX10, "divide", "(III)Z"⟩
abbrev cX10_modulo : ByteArray := prog_12_method_8_code
def yX10_modulo : MethodName := ⟨RX10, "modulo", "(II)I"⟩
abbrev cX10_passes : ByteArray := prog_12_method_9_code
def yX10_passes : MethodName := ⟨RX10, "passes", "(II)Z"⟩
abbrev cX10_join : ByteArray := prog_12_method_10_code
def yX10_join : MethodName := ⟨RX10, "join", "(III)I"⟩
def RX11 : String := "StreamFuser"
def TX11 : u_T := fun k => match k with
  | 0 => ("StreamFuser", "main", "LStreamFuser$Plan;", true)
  | 1 => ("StreamFuser", "printer", "LStreamFuser$Printer;", true)
  | 2 => ("StreamFuser", "rewriter", "LStreamFuser$Rewriter;", true)
  | 3 => ("StreamFuser", "sheets", "LStreamFuser$Sheets;", true)
  | 4 => ("StreamFuser", "latest", "LStreamFuser$Run;", true)
  | 5 => ("StreamFuser", "asker", "LStreamFuser$Asker;", true)
  | 6 => ("StreamFuser", "stepper", "LStreamFuser$Stepper;", true)
  | 7 => ("StreamFuser", "maker", "LStreamFuser$Maker;", true)
  | 8 => ("StreamFuser", "draft", "LStreamFuser$Plan;", true)
  | 9 => ("StreamFuser", "reader", "LStreamFuser$Reader;", true)
  | 10 => ("StreamFuser", "draftRewriter", "LStreamFuser$Rewriter;", true)
  | 11 => ("StreamFuser", "trial", "LStreamFuser$Run;", true)
  | 12 => ("StreamFuser", "trialAsker", "LStreamFuser$Asker;", true)
  | _ => ("StreamFuser", "finding", "I", false)
def tyX11 : Nat → FieldType := fun k => match k with
  | 0 => .object "StreamFuser$Plan"
  | 1 => .object "StreamFuser$Printer"
  | 2 => .object "StreamFuser$Rewriter"
  | 3 => .object "StreamFuser$Sheets"
  | 4 => .object "StreamFuser$Run"
  | 5 => .object "StreamFuser$Asker"
  | 6 => .object "StreamFuser$Stepper"
  | 7 => .object "StreamFuser$Maker"
  | 8 => .object "StreamFuser$Plan"
  | 9 => .object "StreamFuser$Reader"
  | 10 => .object "StreamFuser$Rewriter"
  | 11 => .object "StreamFuser$Run"
  | 12 => .object "StreamFuser$Asker"
  | _ => .int
abbrev wsX110 : List Cond := u_ws RX11 TX11 14
theorem nmX11 : ∀ a, a < 14 → ∀ b, b < 14 → a ≠ b → (TX11 a).2.1 ≠ (TX11 b).2.1 := by decide +kernel
theorem tyX11_ok : ∀ k, k < 14 → parseFieldDescriptor (TX11 k).2.2.1 = some (tyX11 k) := by decide +kernel
abbrev cX11_init : ByteArray := prog_1_method_1_code
def yX11_init : MethodName := ⟨RX11, "<init>", "()V"⟩
abbrev cX11_type : ByteArray := prog_1_method_2_code
def yX11_type : MethodName := ⟨RX11, "type", "(I)I"⟩
abbrev cX11_wipe : ByteArray := prog_1_method_3_code
def yX11_wipe : MethodName := ⟨RX11, "wipe", "()I"⟩
abbrev cX11_fault : ByteArray := prog_1_method_4_code
def yX11_fault : MethodName := ⟨RX11, "fault", "()I"⟩
abbrev cX11_plan : ByteArray := prog_1_method_5_code
def yX11_plan : MethodName := ⟨RX11, "plan", "()I"⟩
abbrev cX11_node : ByteArray := prog_1_method_6_code
def yX11_node : MethodName := ⟨RX11, "node", "(II)I"⟩
abbrev cX11_text : ByteArray := prog_1_method_7_code
def yX11_text : MethodName := ⟨RX11, "text", "(I)I"⟩
abbrev cX11_tidy : ByteArray := prog_1_method_8_code
def yX11_tidy : MethodName := ⟨RX11, "tidy", "(I)I"⟩
abbrev cX11_rules : ByteArray := prog_1_method_9_code
def yX11_rules : MethodName := ⟨RX11, "rules", "(I)I"⟩
abbrev cX11_saves : ByteArray := prog_1_method_10_code
def yX11_saves : MethodName := ⟨RX11, "saves", "(I)I"⟩
abbrev cX11_run : ByteArray := prog_1_method_11_code
def yX11_run : MethodName := ⟨RX11, "run", "(II)I"⟩
abbrev cX11_result : ByteArray := prog_1_method_12_code
def yX11_result : MethodName := ⟨RX11, "result", "(I)J"⟩
abbrev cX11_fold : ByteArray := prog_1_method_13_code
def yX11_fold : MethodName := ⟨RX11, "fold", "(I)J"⟩
abbrev cX11_failure : ByteArray := prog_1_method_14_code
def yX11_failure : MethodName := ⟨RX11, "failure", "(I)I"⟩
abbrev cX11_told : ByteArray := prog_1_method_15_code
def yX11_told : MethodName := ⟨RX11, "told", "(I)I"⟩
abbrev cX11_written : ByteArray := prog_1_method_16_code
def yX11_written : MethodName := ⟨RX11, "written", "(II)J"⟩
abbrev cX11_sheet : ByteArray := prog_1_method_17_code
def yX11_sheet : MethodName := ⟨RX11, "sheet", "(III)I"⟩
abbrev cX11_lose : ByteArray := prog_1_method_18_code
def yX11_lose : MethodName := ⟨RX11, "lose", "(I)I"⟩
abbrev cX11_lay : ByteArray := prog_1_method_19_code
def yX11_lay : MethodName := ⟨RX11, "lay", "(IIII)I"⟩
abbrev cX11_get : ByteArray := prog_1_method_20_code
def yX11_get : MethodName := ⟨RX11, "get", "(III)I"⟩
abbrev cX11_copy : ByteArray := prog_1_method_21_code
def yX11_copy : MethodName := ⟨RX11, "copy", "(IIIII)I"⟩
abbrev cX11_write : ByteArray := prog_1_method_22_code
def yX11_write : MethodName := ⟨RX11, "write", "(I)I"⟩
abbrev cX11_count : ByteArray := prog_1_method_23_code
def yX11_count : MethodName := ⟨RX11, "count", "(I)I"⟩
abbrev cX11_digest : ByteArray := prog_1_method_24_code
def yX11_digest : MethodName := ⟨RX11, "digest", "()J"⟩
abbrev cX11_mixPlan : ByteArray := prog_1_method_25_code
def yX11_mixPlan : MethodName := ⟨RX11, "mixPlan", "(J)J"⟩
abbrev cX11_mixRun : ByteArray := prog_1_method_26_code
def yX11_mixRun : MethodName := ⟨RX11, "mixRun", "(J)J"⟩
abbrev cX11_find : ByteArray := prog_1_method_27_code
def yX11_find : MethodName := ⟨RX11, "find", "(I)I"⟩
abbrev cX11_elementError : ByteArray := prog_1_method_28_code
def yX11_elementError : MethodName := ⟨RX11, "elementError", "(III)I"⟩
abbrev cX11_isSheet : ByteArray := prog_1_method_29_code
def yX11_isSheet : MethodName := ⟨RX11, "isSheet", "(I)Z"⟩
abbrev cX11_isForm : ByteArray := prog_1_method_30_code
def yX11_isForm : MethodName := ⟨RX11, "isForm", "(I)Z"⟩
def RX12 : String := "StreamFuserModel"
def TX12 : u_T := fun k => match k with
  | 0 => ("StreamFuserModel", "forms", "[I", true)
  | 1 => ("StreamFuserModel", "sizes", "[I", true)
  | 2 => ("StreamFuserModel", "items", "[I", true)
  | 3 => ("StreamFuserModel", "moved", "[I", true)
  | 4 => ("StreamFuserModel", "latest", "I", false)
  | 5 => ("StreamFuserModel", "text", "[I", true)
  | 6 => ("StreamFuserModel", "typed", "I", false)
  | 7 => ("StreamFuserModel", "wants", "[I", true)
  | 8 => ("StreamFuserModel", "wanted", "I", false)
  | 9 => ("StreamFuserModel", "figures", "I", false)
  | 10 => ("StreamFuserModel", "number", "I", false)
  | 11 => ("StreamFuserModel", "below", "Z", false)
  | 12 => ("StreamFuserModel", "readLetters", "[I", true)
  | 13 => ("StreamFuserModel", "readSigns", "[I", true)
  | 14 => ("StreamFuserModel", "readFirsts", "[I", true)
  | 15 => ("StreamFuserModel", "readSeconds", "[I", true)
  | 16 => ("StreamFuserModel", "read", "I", false)
  | 17 => ("StreamFuserModel", "letters", "[I", true)
  | 18 => ("StreamFuserModel", "signs", "[I", true)
  | 19 => ("StreamFuserModel", "firsts", "[I", true)
  | 20 => ("StreamFuserModel", "seconds", "[I", true)
  | 21 => ("StreamFuserModel", "nodes", "I", false)
  | 22 => ("StreamFuserModel", "sizes2", "[I", true)
  | 23 => ("StreamFuserModel", "ps", "[I", true)
  | 24 => ("StreamFuserModel", "qs", "[I", true)
  | 25 => ("StreamFuserModel", "deeps", "[I", true)
  | 26 => ("StreamFuserModel", "opens", "[I", true)
  | 27 => ("StreamFuserModel", "binders", "[I", true)
  | 28 => ("StreamFuserModel", "told", "[I", true)
  | 29 => ("StreamFuserModel", "bytes", "I", false)
  | 30 => ("StreamFuserModel", "used", "[I", true)
  | 31 => ("StreamFuserModel", "latestUsed", "[I", true)
  | 32 => ("StreamFuserModel", "usedAll", "I", false)
  | 33 => ("StreamFuserModel", "kept", "[I", true)
  | 34 => ("StreamFuserModel", "held", "[I", true)
  | 35 => ("StreamFuserModel", "failure", "I", false)
  | 36 => ("StreamFuserModel", "depth", "I", false)
  | 37 => ("StreamFuserModel", "drawn", "I", false)
  | 38 => ("StreamFuserModel", "counted", "I", false)
  | 39 => ("StreamFuserModel", "cells", "I", false)
  | 40 => ("StreamFuserModel", "results", "[I", true)
  | 41 => ("StreamFuserModel", "got", "I", false)
  | 42 => ("StreamFuserModel", "figuresDown", "[I", true)
  | 43 => ("StreamFuserModel", "numbersDown", "[I", true)
  | 44 => ("StreamFuserModel", "down", "I", false)
  | 45 => ("StreamFuserModel", "has", "Z", false)
  | 46 => ("StreamFuserModel", "value", "I", false)
  | 47 => ("StreamFuserModel", "pile", "[I", true)
  | 48 => ("StreamFuserModel", "high", "I", false)
  | 49 => ("StreamFuserModel", "rows", "[I", true)
  | 50 => ("StreamFuserModel", "longs", "[I", true)
  | 51 => ("StreamFuserModel", "phases", "[I", true)
  | 52 => ("StreamFuserModel", "at", "[I", true)
  | 53 => ("StreamFuserModel", "latestTold", "[I", true)
  | 54 => ("StreamFuserModel", "latestResults", "[I", true)
  | 55 => ("StreamFuserModel", "latestGot", "I", false)
  | 56 => ("StreamFuserModel", "latestFigures", "[I", true)
  | 57 => ("StreamFuserModel", "latestNumbers", "[I", true)
  | _ => ("StreamFuserModel", "asideNodes", "[I", true)
def tyX12 : Nat → FieldType := fun k => match k with
  | 0 => .array .int
  | 1 => .array .int
  | 2 => .array .int
  | 3 => .array .int
  | 4 => .int
  | 5 => .array .int
  | 6 => .int
  | 7 => .array .int
  | 8 => .int
  | 9 => .int
  | 10 => .int
  | 11 => .boolean
  | 12 => .array .int
  | 13 => .array .int
  | 14 => .array .int
  | 15 => .array .int
  | 16 => .int
  | 17 => .array .int
  | 18 => .array .int
  | 19 => .array .int
  | 20 => .array .int
  | 21 => .int
  | 22 => .array .int
  | 23 => .array .int
  | 24 => .array .int
  | 25 => .array .int
  | 26 => .array .int
  | 27 => .array .int
  | 28 => .array .int
  | 29 => .int
  | 30 => .array .int
  | 31 => .array .int
  | 32 => .int
  | 33 => .array .int
  | 34 => .array .int
  | 35 => .int
  | 36 => .int
  | 37 => .int
  | 38 => .int
  | 39 => .int
  | 40 => .array .int
  | 41 => .int
  | 42 => .array .int
  | 43 => .array .int
  | 44 => .int
  | 45 => .boolean
  | 46 => .int
  | 47 => .array .int
  | 48 => .int
  | 49 => .array .int
  | 50 => .array .int
  | 51 => .array .int
  | 52 => .array .int
  | 53 => .array .int
  | 54 => .array .int
  | 55 => .int
  | 56 => .array .int
  | 57 => .array .int
  | _ => .array .int
abbrev wsX120 : List Cond := u_ws RX12 TX12 59
theorem nmX12 : ∀ a, a < 59 → ∀ b, b < 59 → a ≠ b → (TX12 a).2.1 ≠ (TX12 b).2.1 := by decide +kernel
theorem tyX12_ok : ∀ k, k < 59 → parseFieldDescriptor (TX12 k).2.2.1 = some (tyX12 k) := by decide +kernel
abbrev cX12_init : ByteArray := prog_14_method_1_code
def yX12_init : MethodName := ⟨RX12, "<init>", "()V"⟩
abbrev cX12_in : ByteArray := prog_14_method_3_code
def yX12_in : MethodName := ⟨RX12, "in", "(JJJ)Z"⟩
abbrev cX12_no : ByteArray := prog_14_method_4_code
def yX12_no : MethodName := ⟨RX12, "no", "(I)J"⟩
abbrev cX12_lesser : ByteArray := prog_14_method_5_code
def yX12_lesser : MethodName := ⟨RX12, "lesser", "(II)I"⟩
abbrev cX12_greater : ByteArray := prog_14_method_6_code
def yX12_greater : MethodName := ⟨RX12, "greater", "(II)I"⟩
abbrev cX12_finds : ByteArray := prog_14_method_7_code
def yX12_finds : MethodName := ⟨RX12, "finds", "(I)I"⟩
abbrev cX12_isSheet : ByteArray := prog_14_method_8_code
def yX12_isSheet : MethodName := ⟨RX12, "isSheet", "(I)Z"⟩
abbrev cX12_sheet : ByteArray := prog_14_method_9_code
def yX12_sheet : MethodName := ⟨RX12, "sheet", "(III)I"⟩
abbrev cX12_lose : ByteArray := prog_14_method_10_code
def yX12_lose : MethodName := ⟨RX12, "lose", "(I)I"⟩
abbrev cX12_lacks : ByteArray := prog_14_method_11_code
def yX12_lacks : MethodName := ⟨RX12, "lacks", "(III)I"⟩
abbrev cX12_cut : ByteArray := prog_14_method_12_code
def yX12_cut : MethodName := ⟨RX12, "cut", "(II)I"⟩
abbrev cX12_lay : ByteArray := prog_14_method_13_code
def yX12_lay : MethodName := ⟨RX12, "lay", "(IIII)I"⟩
abbrev cX12_get : ByteArray := prog_14_method_14_code
def yX12_get : MethodName := ⟨RX12, "get", "(III)I"⟩
abbrev cX12_copy : ByteArray := prog_14_method_15_code
def yX12_copy : MethodName := ⟨RX12, "copy", "(IIIII)I"⟩
abbrev cX12_type : ByteArray := prog_14_method_16_code
def yX12_type : MethodName := ⟨RX12, "type", "(I)I"⟩
abbrev cX12_wipe : ByteArray := prog_14_method_17_code
def yX12_wipe : MethodName := ⟨RX12, "wipe", "()I"⟩
abbrev cX12_partsOf : ByteArray := prog_14_method_18_code
def yX12_partsOf : MethodName := ⟨RX12, "partsOf", "(I)I"⟩
abbrev cX12_wants : ByteArray := prog_14_method_19_code
def yX12_wants : MethodName := ⟨RX12, "wants", "(I)V"⟩
abbrev cX12_wantsBehind : ByteArray := prog_14_method_20_code
def yX12_wantsBehind : MethodName := ⟨RX12, "wantsBehind", "(II)V"⟩
abbrev cX12_takesLetter : ByteArray := prog_14_method_21_code
def yX12_takesLetter : MethodName := ⟨RX12, "takesLetter", "(II)Z"⟩
abbrev cX12_takesNumber : ByteArray := prog_14_method_22_code
def yX12_takesNumber : MethodName := ⟨RX12, "takesNumber", "(II)Z"⟩
abbrev cX12_takesSign : ByteArray := prog_14_method_23_code
def yX12_takesSign : MethodName := ⟨RX12, "takesSign", "(II)Z"⟩
abbrev cX12_faultNow : ByteArray := prog_14_method_24_code
def yX12_faultNow : MethodName := ⟨RX12, "faultNow", "()I"⟩
abbrev cX12_fault : ByteArray := prog_14_method_25_code
def yX12_fault : MethodName := ⟨RX12, "fault", "()I"⟩
abbrev cX12_places : ByteArray := prog_14_method_26_code
def yX12_places : MethodName := ⟨RX12, "places", "()V"⟩
abbrev cX12_hangs : ByteArray := prog_14_method_27_code
def yX12_hangs : MethodName := ⟨RX12, "hangs", "(IIZ)V"⟩
abbrev cX12_plan : ByteArray := prog_14_method_28_code
def yX12_plan : MethodName := ⟨RX12, "plan", "()I"⟩
abbrev cX12_isPure : ByteArray := prog_14_method_29_code
def yX12_isPure : MethodName := ⟨RX12, "isPure", "(I)Z"⟩
abbrev cX12_nodeBy : ByteArray := prog_14_method_30_code
def yX12_nodeBy : MethodName := ⟨RX12, "nodeBy", "(II)I"⟩
abbrev cX12_node : ByteArray := prog_14_method_31_code
def yX12_node : MethodName := ⟨RX12, "node", "(II)I"⟩
abbrev cX12_tells : ByteArray := prog_14_method_32_code
def yX12_tells : MethodName := ⟨RX12, "tells", "(I)V"⟩
abbrev cX12_tellsNumber : ByteArray := prog_14_method_33_code
def yX12_tellsNumber : MethodName := ⟨RX12, "tellsNumber", "(I)V"⟩
abbrev cX12_numbersOf : ByteArray := prog_14_method_34_code
def yX12_numbersOf : MethodName := ⟨RX12, "numbersOf", "(I)I"⟩
abbrev cX12_writesPlan : ByteArray := prog_14_method_35_code
def yX12_writesPlan : MethodName := ⟨RX12, "writesPlan", "()V"⟩
abbrev cX12_textBy : ByteArray := prog_14_method_36_code
def yX12_textBy : MethodName := ⟨RX12, "textBy", "(I)I"⟩
abbrev cX12_text : ByteArray := prog_14_method_37_code
def yX12_text : MethodName := ⟨RX12, "text", "(I)I"⟩
abbrev cX12_isNil : ByteArray := prog_14_method_38_code
def yX12_isNil : MethodName := ⟨RX12, "isNil", "(I)Z"⟩
abbrev cX12_changes : ByteArray := prog_14_method_39_code
def yX12_changes : MethodName := ⟨RX12, "changes", "(I)Z"⟩
abbrev cX12_ruleOfCut : ByteArray := prog_14_method_40_code
def yX12_ruleOfCut : MethodName := ⟨RX12, "ruleOfCut", "(I)I"⟩
abbrev cX12_ruleAt : ByteArray := prog_14_method_41_code
def yX12_ruleAt : MethodName := ⟨RX12, "ruleAt", "(I)I"⟩
abbrev cX12_cuts : ByteArray := prog_14_method_42_code
def yX12_cuts : MethodName := ⟨RX12, "cuts", "(II)V"⟩
abbrev cX12_becomes : ByteArray := prog_14_method_43_code
def yX12_becomes : MethodName := ⟨RX12, "becomes", "(IIII)V"⟩
abbrev cX12_nil : ByteArray := prog_14_method_44_code
def yX12_nil : MethodName := ⟨RX12, "nil", "(I)V"⟩
abbrev cX12_turns : ByteArray := prog_14_method_45_code
def yX12_turns : MethodName := ⟨RX12, "turns", "(I)V"⟩
abbrev cX12_uses : ByteArray := prog_14_method_46_code
def yX12_uses : MethodName := ⟨RX12, "uses", "(II)V"⟩
abbrev cX12_usesMore : ByteArray := prog_14_method_47_code
def yX12_usesMore : MethodName := ⟨RX12, "usesMore", "(III)V"⟩
abbrev cX12_tidiesOnce : ByteArray := prog_14_method_48_code
def yX12_tidiesOnce : MethodName := ⟨RX12, "tidiesOnce", "(I)Z"⟩
abbrev cX12_tidies : ByteArray := prog_14_method_49_code
def yX12_tidies : MethodName := ⟨RX12, "tidies", "(I)I"⟩
abbrev cX12_tidy : ByteArray := prog_14_method_50_code
def yX12_tidy : MethodName := ⟨RX12, "tidy", "(I)I"⟩
abbrev cX12_rules : ByteArray := prog_14_method_51_code
def yX12_rules : MethodName := ⟨RX12, "rules", "(I)I"⟩
abbrev cX12_fails : ByteArray := prog_14_method_52_code
def yX12_fails : MethodName := ⟨RX12, "fails", "(II)V"⟩
abbrev cX12_writesDown : ByteArray := prog_14_method_53_code
def yX12_writesDown : MethodName := ⟨RX12, "writesDown", "(II)V"⟩
abbrev cX12_begins : ByteArray := prog_14_method_54_code
def yX12_begins : MethodName := ⟨RX12, "begins", "(II)V"⟩
abbrev cX12_draws : ByteArray := prog_14_method_55_code
def yX12_draws : MethodName := ⟨RX12, "draws", "()Z"⟩
abbrev cX12_gives : ByteArray := prog_14_method_56_code
def yX12_gives : MethodName := ⟨RX12, "gives", "(I)V"⟩
abbrev cX12_made : ByteArray := prog_14_method_57_code
def yX12_made : MethodName := ⟨RX12, "made", "(II)I"⟩
abbrev cX12_passes : ByteArray := prog_14_method_58_code
def yX12_passes : MethodName := ⟨RX12, "passes", "(II)Z"⟩
abbrev cX12_joined : ByteArray := prog_14_method_59_code
def yX12_joined : MethodName := ⟨RX12, "joined", "(III)I"⟩
abbrev cX12_opensFor : ByteArray := prog_14_method_60_code
def yX12_opensFor : MethodName := ⟨RX12, "opensFor", "(II)V"⟩
abbrev cX12_asksNext : ByteArray := prog_14_method_61_code
def yX12_asksNext : MethodName := ⟨RX12, "asksNext", "(I)I"⟩
abbrev cX12_hears : ByteArray := prog_14_method_62_code
def yX12_hears : MethodName := ⟨RX12, "hears", "(I)I"⟩
abbrev cX12_hearsOne : ByteArray := prog_14_method_63_code
def yX12_hearsOne : MethodName := ⟨RX12, "hearsOne", "(I)I"⟩
abbrev cX12_hearsOpen : ByteArray := prog_14_method_64_code
def yX12_hearsOpen : MethodName := ⟨RX12, "hearsOpen", "(I)I"⟩
abbrev cX12_asks : ByteArray := prog_14_method_65_code
def yX12_asks : MethodName := ⟨RX12, "asks", "()Z"⟩
abbrev cX12_after : ByteArray := prog_14_method_66_code
def yX12_after : MethodName := ⟨RX12, "after", "(II)I"⟩
abbrev cX12_afterOne : ByteArray := prog_14_method_67_code
def yX12_afterOne : MethodName := ⟨RX12, "afterOne", "(II)I"⟩
abbrev cX12_steps : ByteArray := prog_14_method_68_code
def yX12_steps : MethodName := ⟨RX12, "steps", "()I"⟩
abbrev cX12_adds : ByteArray := prog_14_method_69_code
def yX12_adds : MethodName := ⟨RX12, "adds", "(II)V"⟩
abbrev cX12_fills : ByteArray := prog_14_method_70_code
def yX12_fills : MethodName := ⟨RX12, "fills", "(I)V"⟩
abbrev cX12_changesRow : ByteArray := prog_14_method_71_code
def yX12_changesRow : MethodName := ⟨RX12, "changesRow", "(I)V"⟩
abbrev cX12_joinsRows : ByteArray := prog_14_method_72_code
def yX12_joinsRows : MethodName := ⟨RX12, "joinsRows", "(I)V"⟩
abbrev cX12_opensRow : ByteArray := prog_14_method_73_code
def yX12_opensRow : MethodName := ⟨RX12, "opensRow", "(I)I"⟩
abbrev cX12_wantsRow : ByteArray := prog_14_method_74_code
def yX12_wantsRow : MethodName := ⟨RX12, "wantsRow", "(I)I"⟩
abbrev cX12_makesRows : ByteArray := prog_14_method_75_code
def yX12_makesRows : MethodName := ⟨RX12, "makesRows", "()V"⟩
abbrev cX12_runs : ByteArray := prog_14_method_76_code
def yX12_runs : MethodName := ⟨RX12, "runs", "(II)V"⟩
abbrev cX12_hasEndless : ByteArray := prog_14_method_77_code
def yX12_hasEndless : MethodName := ⟨RX12, "hasEndless", "()Z"⟩
abbrev cX12_run : ByteArray := prog_14_method_78_code
def yX12_run : MethodName := ⟨RX12, "run", "(II)I"⟩
abbrev cX12_result : ByteArray := prog_14_method_79_code
def yX12_result : MethodName := ⟨RX12, "result", "(I)J"⟩
abbrev cX12_foldBy : ByteArray := prog_14_method_80_code
def yX12_foldBy : MethodName := ⟨RX12, "foldBy", "(I)J"⟩
abbrev cX12_fold : ByteArray := prog_14_method_81_code
def yX12_fold : MethodName := ⟨RX12, "fold", "(I)J"⟩
abbrev cX12_failure : ByteArray := prog_14_method_82_code
def yX12_failure : MethodName := ⟨RX12, "failure", "(I)I"⟩
abbrev cX12_told : ByteArray := prog_14_method_83_code
def yX12_told : MethodName := ⟨RX12, "told", "(I)I"⟩
abbrev cX12_writtenBy : ByteArray := prog_14_method_84_code
def yX12_writtenBy : MethodName := ⟨RX12, "writtenBy", "(II)J"⟩
abbrev cX12_keptDown : ByteArray := prog_14_method_85_code
def yX12_keptDown : MethodName := ⟨RX12, "keptDown", "()I"⟩
abbrev cX12_written : ByteArray := prog_14_method_86_code
def yX12_written : MethodName := ⟨RX12, "written", "(II)J"⟩
abbrev cX12_write : ByteArray := prog_14_method_87_code
def yX12_write : MethodName := ⟨RX12, "write", "(I)I"⟩
abbrev cX12_lays : ByteArray := prog_14_method_88_code
def yX12_lays : MethodName := ⟨RX12, "lays", "(ZI)V"⟩
abbrev cX12_savesBy : ByteArray := prog_14_method_89_code
def yX12_savesBy : MethodName := ⟨RX12, "savesBy", "(I)I"⟩
abbrev cX12_saves : ByteArray := prog_14_method_90_code
def yX12_saves : MethodName := ⟨RX12, "saves", "(I)I"⟩
abbrev cX12_deepest : ByteArray := prog_14_method_91_code
def yX12_deepest : MethodName := ⟨RX12, "deepest", "()I"⟩
abbrev cX12_count : ByteArray := prog_14_method_92_code
def yX12_count : MethodName := ⟨RX12, "count", "(I)I"⟩
abbrev cX12_planTells : ByteArray := prog_14_method_93_code
def yX12_planTells : MethodName := ⟨RX12, "planTells", "(J)J"⟩
abbrev cX12_digest : ByteArray := prog_14_method_94_code
def yX12_digest : MethodName := ⟨RX12, "digest", "()J"⟩
def RJ9 : String := "java/lang/Math"
def TJ9 : u_T := fun k => match k with
  | _ => ("", "", "", false)
def tyJ9 : Nat → FieldType := fun k => match k with
  | _ => .int
abbrev wsJ90 : List Cond := u_ws RJ9 TJ9 0
theorem nmJ9 : ∀ a, a < 0 → ∀ b, b < 0 → a ≠ b → (TJ9 a).2.1 ≠ (TJ9 b).2.1 := by decide +kernel
theorem tyJ9_ok : ∀ k, k < 0 → parseFieldDescriptor (TJ9 k).2.2.1 = some (tyJ9 k) := by decide +kernel
abbrev cJ9_floorMod_7cf53 : ByteArray := prog_15_method_50_code
def yJ9_floorMod_7cf53 : MethodName := ⟨RJ9, "floorMod", "(II)I"⟩
abbrev cJ9_abs_067f4 : ByteArray := prog_15_method_61_code
def yJ9_abs_067f4 : MethodName := ⟨RJ9, "abs", "(J)J"⟩
abbrev cJ9_max_7cf53 : ByteArray := prog_15_method_65_code
def yJ9_max_7cf53 : MethodName := ⟨RJ9, "max", "(II)I"⟩
abbrev cJ9_max_f86c9 : ByteArray := prog_15_method_66_code
def yJ9_max_f86c9 : MethodName := ⟨RJ9, "max", "(JJ)J"⟩
abbrev cJ9_min_7cf53 : ByteArray := prog_15_method_69_code
def yJ9_min_7cf53 : MethodName := ⟨RJ9, "min", "(II)I"⟩
def RJ10 : String := "java/lang/System"
def TJ10 : u_T := fun k => match k with
  | _ => ("", "", "", false)
def tyJ10 : Nat → FieldType := fun k => match k with
  | _ => .int
abbrev wsJ100 : List Cond := u_ws RJ10 TJ10 0
theorem nmJ10 : ∀ a, a < 0 → ∀ b, b < 0 → a ≠ b → (TJ10 a).2.1 ≠ (TJ10 b).2.1 := by decide +kernel
theorem tyJ10_ok : ∀ k, k < 0 → parseFieldDescriptor (TJ10 k).2.2.1 = some (tyJ10 k) := by decide +kernel
def RL : String := "StreamFuserLaw"
abbrev cL_law : ByteArray := code
def yL_law : MethodName := ⟨RL, "law", "([I)Z"⟩
abbrev vwCl : List vw_C := [(RX0, TX0, 7), (RX1, TX1, 7), (RX2, TX2, 12), (RX3, TX3, 3), (RX4, TX4, 7), (RX5, TX5, 3), (RX6, TX6, 10), (RX7, TX7, 3), (RX8, TX8, 8), (RX11, TX11, 14), (RX12, TX12, 59)]
end
section
/-! the words of the tables, by their places -/
def sf_nest : Cond → Bool
  | .fieldLinkNest _ _ _ _ _ _ => true
  | .methodLinkNest _ _ _ _ => true
  | _ => false
/-- private methods of a superclass, called on its heirs: true at the law's entry, by sf_selP -/
def sf_more : List Cond := [.selects "StreamFuser$Asker" ⟨"StreamFuser$Way", "divide", "(III)Z"⟩ ⟨"StreamFuser$Way", "divide", "(III)Z"⟩, .selects "StreamFuser$Maker" ⟨"StreamFuser$Way", "divide", "(III)Z"⟩ ⟨"StreamFuser$Way", "divide", "(III)Z"⟩, .selects "StreamFuser$Stepper" ⟨"StreamFuser$Way", "divide", "(III)Z"⟩ ⟨"StreamFuser$Way", "divide", "(III)Z"⟩]
def sf_all : List Cond := lw_tbl ++ sf_more
def sf_T : List Cond := sf_all.filter goodWord
def sf_N : List Cond := sf_all.filter sf_nest
theorem sf_T_in {w : Cond} (h : w ∈ tables_1) (hg : goodWord w = true) : w ∈ sf_T := List.mem_filter.mpr ⟨List.mem_append_left _ (List.mem_append_right _ h), hg⟩
theorem sf_N_in {w : Cond} (h : w ∈ tables_1) (hg : sf_nest w = true) : w ∈ sf_N := List.mem_filter.mpr ⟨List.mem_append_left _ (List.mem_append_right _ h), hg⟩
theorem sf_S_in {q : MethodName × Nat} (h : q ∈ lw_privs) : Cond.selects q.1.cls q.1 q.1 ∈ sf_T := List.mem_filter.mpr ⟨List.mem_append_left _ (List.mem_append_left _ (List.mem_map.mpr ⟨q, h, rfl⟩)), rfl⟩
theorem sf_M_of {w : Cond} (i : Nat) (h : sf_more[i]? = some w) (hg : goodWord w = true) : w ∈ sf_T := List.mem_filter.mpr ⟨List.mem_append_right _ (List.mem_of_getElem? h), hg⟩
theorem sf_T_1 {w : Cond} (i : Nat) (h : tables_1_1[i]? = some w) (hg : goodWord w = true) : w ∈ sf_T := sf_T_in (List.mem_append_left _ (List.mem_of_getElem? h)) hg
theorem sf_N_1 {w : Cond} (i : Nat) (h : tables_1_1[i]? = some w) (hg : sf_nest w = true) : w ∈ sf_N := sf_N_in (List.mem_append_left _ (List.mem_of_getElem? h)) hg
theorem sf_T_2 {w : Cond} (i : Nat) (h : tables_1_2[i]? = some w) (hg : goodWord w = true) : w ∈ sf_T := sf_T_in (List.mem_append_right _ (List.mem_append_left _ (List.mem_of_getElem? h))) hg
theorem sf_N_2 {w : Cond} (i : Nat) (h : tables_1_2[i]? = some w) (hg : sf_nest w = true) : w ∈ sf_N := sf_N_in (List.mem_append_right _ (List.mem_append_left _ (List.mem_of_getElem? h))) hg
theorem sf_T_3 {w : Cond} (i : Nat) (h : tables_1_3[i]? = some w) (hg : goodWord w = true) : w ∈ sf_T := sf_T_in (List.mem_append_right _ (List.mem_append_right _ (List.mem_append_left _ (List.mem_of_getElem? h)))) hg
theorem sf_N_3 {w : Cond} (i : Nat) (h : tables_1_3[i]? = some w) (hg : sf_nest w = true) : w ∈ sf_N := sf_N_in (List.mem_append_right _ (List.mem_append_right _ (List.mem_append_left _ (List.mem_of_getElem? h)))) hg
theorem sf_T_4 {w : Cond} (i : Nat) (h : tables_1_4[i]? = some w) (hg : goodWord w = true) : w ∈ sf_T := sf_T_in (List.mem_append_right _ (List.mem_append_right _ (List.mem_append_right _ (List.mem_append_left _ (List.mem_of_getElem? h))))) hg
theorem sf_N_4 {w : Cond} (i : Nat) (h : tables_1_4[i]? = some w) (hg : sf_nest w = true) : w ∈ sf_N := sf_N_in (List.mem_append_right _ (List.mem_append_right _ (List.mem_append_right _ (List.mem_append_left _ (List.mem_of_getElem? h))))) hg
theorem sf_T_5 {w : Cond} (i : Nat) (h : tables_1_5[i]? = some w) (hg : goodWord w = true) : w ∈ sf_T := sf_T_in (List.mem_append_right _ (List.mem_append_right _ (List.mem_append_right _ (List.mem_append_right _ (List.mem_append_left _ (List.mem_of_getElem? h)))))) hg
theorem sf_N_5 {w : Cond} (i : Nat) (h : tables_1_5[i]? = some w) (hg : sf_nest w = true) : w ∈ sf_N := sf_N_in (List.mem_append_right _ (List.mem_append_right _ (List.mem_append_right _ (List.mem_append_right _ (List.mem_append_left _ (List.mem_of_getElem? h)))))) hg
theorem sf_T_6 {w : Cond} (i : Nat) (h : tables_1_6[i]? = some w) (hg : goodWord w = true) : w ∈ sf_T := sf_T_in (List.mem_append_right _ (List.mem_append_right _ (List.mem_append_right _ (List.mem_append_right _ (List.mem_append_right _ (List.mem_append_left _ (List.mem_of_getElem? h))))))) hg
theorem sf_N_6 {w : Cond} (i : Nat) (h : tables_1_6[i]? = some w) (hg : sf_nest w = true) : w ∈ sf_N := sf_N_in (List.mem_append_right _ (List.mem_append_right _ (List.mem_append_right _ (List.mem_append_right _ (List.mem_append_right _ (List.mem_append_left _ (List.mem_of_getElem? h))))))) hg
theorem sf_T_7 {w : Cond} (i : Nat) (h : tables_1_7[i]? = some w) (hg : goodWord w = true) : w ∈ sf_T := sf_T_in (List.mem_append_right _ (List.mem_append_right _ (List.mem_append_right _ (List.mem_append_right _ (List.mem_append_right _ (List.mem_append_right _ ((List.mem_of_getElem? h)))))))) hg
theorem sf_N_7 {w : Cond} (i : Nat) (h : tables_1_7[i]? = some w) (hg : sf_nest w = true) : w ∈ sf_N := sf_N_in (List.mem_append_right _ (List.mem_append_right _ (List.mem_append_right _ (List.mem_append_right _ (List.mem_append_right _ (List.mem_append_right _ ((List.mem_of_getElem? h)))))))) hg
theorem sf_S_1 {q : MethodName × Nat} (i : Nat) (h : lw_privs_1[i]? = some q) : Cond.selects q.1.cls q.1 q.1 ∈ sf_T := sf_S_in (List.mem_append_left _ (List.mem_of_getElem? h))
theorem sf_S_2 {q : MethodName × Nat} (i : Nat) (h : lw_privs_2[i]? = some q) : Cond.selects q.1.cls q.1 q.1 ∈ sf_T := sf_S_in (List.mem_append_right _ (List.mem_append_left _ (List.mem_of_getElem? h)))
theorem sf_S_3 {q : MethodName × Nat} (i : Nat) (h : lw_privs_3[i]? = some q) : Cond.selects q.1.cls q.1 q.1 ∈ sf_T := sf_S_in (List.mem_append_right _ (List.mem_append_right _ (List.mem_append_left _ (List.mem_of_getElem? h))))
theorem sf_S_4 {q : MethodName × Nat} (i : Nat) (h : lw_privs_4[i]? = some q) : Cond.selects q.1.cls q.1 q.1 ∈ sf_T := sf_S_in (List.mem_append_right _ (List.mem_append_right _ (List.mem_append_right _ (List.mem_append_left _ (List.mem_of_getElem? h)))))
theorem sf_S_5 {q : MethodName × Nat} (i : Nat) (h : lw_privs_5[i]? = some q) : Cond.selects q.1.cls q.1 q.1 ∈ sf_T := sf_S_in (List.mem_append_right _ (List.mem_append_right _ (List.mem_append_right _ (List.mem_append_right _ (List.mem_append_left _ (List.mem_of_getElem? h))))))
theorem sf_S_6 {q : MethodName × Nat} (i : Nat) (h : lw_privs_6[i]? = some q) : Cond.selects q.1.cls q.1 q.1 ∈ sf_T := sf_S_in (List.mem_append_right _ (List.mem_append_right _ (List.mem_append_right _ (List.mem_append_right _ (List.mem_append_right _ (List.mem_append_left _ (List.mem_of_getElem? h)))))))
theorem sf_S_7 {q : MethodName × Nat} (i : Nat) (h : lw_privs_7[i]? = some q) : Cond.selects q.1.cls q.1 q.1 ∈ sf_T := sf_S_in (List.mem_append_right _ (List.mem_append_right _ (List.mem_append_right _ (List.mem_append_right _ (List.mem_append_right _ (List.mem_append_right _ (List.mem_append_left _ (List.mem_of_getElem? h))))))))
theorem sf_S_8 {q : MethodName × Nat} (i : Nat) (h : lw_privs_8[i]? = some q) : Cond.selects q.1.cls q.1 q.1 ∈ sf_T := sf_S_in (List.mem_append_right _ (List.mem_append_right _ (List.mem_append_right _ (List.mem_append_right _ (List.mem_append_right _ (List.mem_append_right _ (List.mem_append_right _ (List.mem_append_left _ (List.mem_of_getElem? h)))))))))
theorem sf_S_9 {q : MethodName × Nat} (i : Nat) (h : lw_privs_9[i]? = some q) : Cond.selects q.1.cls q.1 q.1 ∈ sf_T := sf_S_in (List.mem_append_right _ (List.mem_append_right _ (List.mem_append_right _ (List.mem_append_right _ (List.mem_append_right _ (List.mem_append_right _ (List.mem_append_right _ (List.mem_append_right _ ((List.mem_of_getElem? h))))))))))
theorem wt_0 : (Cond.selects "StreamFuser$Reader" ({ cls := "StreamFuser$Reader", name := "append", desc := "(I)Z" } : MethodName) ({ cls := "StreamFuser$Reader", name := "append", desc := "(I)Z" } : MethodName)) ∈ sf_T := sf_S_1 (q := (⟨"StreamFuser$Reader", "append", "(I)Z"⟩, 7)) 0 rfl
theorem wt_1 : (Cond.selects "StreamFuser$Reader" ({ cls := "StreamFuser$Reader", name := "read", desc := "()I" } : MethodName) ({ cls := "StreamFuser$Reader", name := "read", desc := "()I" } : MethodName)) ∈ sf_T := sf_S_1 (q := (⟨"StreamFuser$Reader", "read", "()I"⟩, 7)) 1 rfl
theorem wt_2 : (Cond.selects "StreamFuser$Reader" ({ cls := "StreamFuser$Reader", name := "expect", desc := "(I)V" } : MethodName) ({ cls := "StreamFuser$Reader", name := "expect", desc := "(I)V" } : MethodName)) ∈ sf_T := sf_S_1 (q := (⟨"StreamFuser$Reader", "expect", "(I)V"⟩, 7)) 2 rfl
theorem wt_3 : (Cond.selects "StreamFuser$Reader" ({ cls := "StreamFuser$Reader", name := "readNode", desc := "()V" } : MethodName) ({ cls := "StreamFuser$Reader", name := "readNode", desc := "()V" } : MethodName)) ∈ sf_T := sf_S_1 (q := (⟨"StreamFuser$Reader", "readNode", "()V"⟩, 7)) 3 rfl
theorem wt_4 : (Cond.selects "StreamFuser$Reader" ({ cls := "StreamFuser$Reader", name := "peek", desc := "()I" } : MethodName) ({ cls := "StreamFuser$Reader", name := "peek", desc := "()I" } : MethodName)) ∈ sf_T := sf_S_1 (q := (⟨"StreamFuser$Reader", "peek", "()I"⟩, 7)) 4 rfl
theorem wt_5 : (Cond.selects "StreamFuser$Reader" ({ cls := "StreamFuser$Reader", name := "accept", desc := "(Z)V" } : MethodName) ({ cls := "StreamFuser$Reader", name := "accept", desc := "(Z)V" } : MethodName)) ∈ sf_T := sf_S_1 (q := (⟨"StreamFuser$Reader", "accept", "(Z)V"⟩, 7)) 5 rfl
theorem wt_6 : (Cond.selects "StreamFuser$Reader" ({ cls := "StreamFuser$Reader", name := "readMark", desc := "(I)I" } : MethodName) ({ cls := "StreamFuser$Reader", name := "readMark", desc := "(I)I" } : MethodName)) ∈ sf_T := sf_S_1 (q := (⟨"StreamFuser$Reader", "readMark", "(I)I"⟩, 7)) 6 rfl
theorem wt_7 : (Cond.selects "StreamFuser$Reader" ({ cls := "StreamFuser$Reader", name := "readNumber", desc := "(I)I" } : MethodName) ({ cls := "StreamFuser$Reader", name := "readNumber", desc := "(I)I" } : MethodName)) ∈ sf_T := sf_S_1 (q := (⟨"StreamFuser$Reader", "readNumber", "(I)I"⟩, 7)) 7 rfl
theorem wt_8 : (Cond.selects "StreamFuser$Plan" ({ cls := "StreamFuser$Plan", name := "add", desc := "(IIII)V" } : MethodName) ({ cls := "StreamFuser$Plan", name := "add", desc := "(IIII)V" } : MethodName)) ∈ sf_T := sf_S_1 (q := (⟨"StreamFuser$Plan", "add", "(IIII)V"⟩, 12)) 8 rfl
theorem wt_9 : (Cond.selects "StreamFuser$Reader" ({ cls := "StreamFuser$Reader", name := "expectParts", desc := "(II)V" } : MethodName) ({ cls := "StreamFuser$Reader", name := "expectParts", desc := "(II)V" } : MethodName)) ∈ sf_T := sf_S_1 (q := (⟨"StreamFuser$Reader", "expectParts", "(II)V"⟩, 7)) 9 rfl
theorem wt_10 : (Cond.selects "StreamFuser$Plan" ({ cls := "StreamFuser$Plan", name := "takeFrom", desc := "(LStreamFuser$Plan;)V" } : MethodName) ({ cls := "StreamFuser$Plan", name := "takeFrom", desc := "(LStreamFuser$Plan;)V" } : MethodName)) ∈ sf_T := sf_S_1 (q := (⟨"StreamFuser$Plan", "takeFrom", "(LStreamFuser$Plan;)V"⟩, 12)) 10 rfl
theorem wt_11 : (Cond.selects "StreamFuser$Plan" ({ cls := "StreamFuser$Plan", name := "measure", desc := "()V" } : MethodName) ({ cls := "StreamFuser$Plan", name := "measure", desc := "()V" } : MethodName)) ∈ sf_T := sf_S_1 (q := (⟨"StreamFuser$Plan", "measure", "()V"⟩, 12)) 11 rfl
theorem wt_12 : (Cond.selects "StreamFuser$Plan" ({ cls := "StreamFuser$Plan", name := "measureFromParts", desc := "(I)V" } : MethodName) ({ cls := "StreamFuser$Plan", name := "measureFromParts", desc := "(I)V" } : MethodName)) ∈ sf_T := sf_S_1 (q := (⟨"StreamFuser$Plan", "measureFromParts", "(I)V"⟩, 12)) 12 rfl
theorem wt_13 : (Cond.selects "StreamFuser$Plan" ({ cls := "StreamFuser$Plan", name := "measureParts", desc := "(I)V" } : MethodName) ({ cls := "StreamFuser$Plan", name := "measureParts", desc := "(I)V" } : MethodName)) ∈ sf_T := sf_S_1 (q := (⟨"StreamFuser$Plan", "measureParts", "(I)V"⟩, 12)) 13 rfl
theorem wt_14 : (Cond.selects "StreamFuser$Printer" ({ cls := "StreamFuser$Printer", name := "print", desc := "()V" } : MethodName) ({ cls := "StreamFuser$Printer", name := "print", desc := "()V" } : MethodName)) ∈ sf_T := sf_S_1 (q := (⟨"StreamFuser$Printer", "print", "()V"⟩, 3)) 14 rfl
theorem wt_15 : (Cond.selects "StreamFuser$Printer" ({ cls := "StreamFuser$Printer", name := "printNode", desc := "(I)V" } : MethodName) ({ cls := "StreamFuser$Printer", name := "printNode", desc := "(I)V" } : MethodName)) ∈ sf_T := sf_S_1 (q := (⟨"StreamFuser$Printer", "printNode", "(I)V"⟩, 3)) 15 rfl
theorem wt_16 : (Cond.selects "StreamFuser$Printer" ({ cls := "StreamFuser$Printer", name := "put", desc := "(I)V" } : MethodName) ({ cls := "StreamFuser$Printer", name := "put", desc := "(I)V" } : MethodName)) ∈ sf_T := sf_S_2 (q := (⟨"StreamFuser$Printer", "put", "(I)V"⟩, 3)) 0 rfl
theorem wt_17 : (Cond.selects "StreamFuser$Printer" ({ cls := "StreamFuser$Printer", name := "putNumber", desc := "(I)V" } : MethodName) ({ cls := "StreamFuser$Printer", name := "putNumber", desc := "(I)V" } : MethodName)) ∈ sf_T := sf_S_2 (q := (⟨"StreamFuser$Printer", "putNumber", "(I)V"⟩, 3)) 1 rfl
theorem wt_18 : (Cond.selects "StreamFuser$Plan" ({ cls := "StreamFuser$Plan", name := "has", desc := "(I)Z" } : MethodName) ({ cls := "StreamFuser$Plan", name := "has", desc := "(I)Z" } : MethodName)) ∈ sf_T := sf_S_2 (q := (⟨"StreamFuser$Plan", "has", "(I)Z"⟩, 12)) 2 rfl
theorem wt_19 : (Cond.selects "StreamFuser$Rewriter" ({ cls := "StreamFuser$Rewriter", name := "simplify", desc := "(Z)V" } : MethodName) ({ cls := "StreamFuser$Rewriter", name := "simplify", desc := "(Z)V" } : MethodName)) ∈ sf_T := sf_S_2 (q := (⟨"StreamFuser$Rewriter", "simplify", "(Z)V"⟩, 3)) 3 rfl
theorem wt_20 : (Cond.selects "StreamFuser$Rewriter" ({ cls := "StreamFuser$Rewriter", name := "place", desc := "(Z)I" } : MethodName) ({ cls := "StreamFuser$Rewriter", name := "place", desc := "(Z)I" } : MethodName)) ∈ sf_T := sf_S_2 (q := (⟨"StreamFuser$Rewriter", "place", "(Z)I"⟩, 3)) 4 rfl
theorem wt_21 : (Cond.selects "StreamFuser$Rewriter" ({ cls := "StreamFuser$Rewriter", name := "ruleFor", desc := "(I)I" } : MethodName) ({ cls := "StreamFuser$Rewriter", name := "ruleFor", desc := "(I)I" } : MethodName)) ∈ sf_T := sf_S_2 (q := (⟨"StreamFuser$Rewriter", "ruleFor", "(I)I"⟩, 3)) 5 rfl
theorem wt_22 : (Cond.selects "StreamFuser$Plan" ({ cls := "StreamFuser$Plan", name := "isNil", desc := "(I)Z" } : MethodName) ({ cls := "StreamFuser$Plan", name := "isNil", desc := "(I)Z" } : MethodName)) ∈ sf_T := sf_S_2 (q := (⟨"StreamFuser$Plan", "isNil", "(I)Z"⟩, 12)) 6 rfl
theorem wt_23 : (Cond.selects "StreamFuser$Rewriter" ({ cls := "StreamFuser$Rewriter", name := "ruleForTake", desc := "(I)I" } : MethodName) ({ cls := "StreamFuser$Rewriter", name := "ruleForTake", desc := "(I)I" } : MethodName)) ∈ sf_T := sf_S_2 (q := (⟨"StreamFuser$Rewriter", "ruleForTake", "(I)I"⟩, 3)) 7 rfl
theorem wt_24 : (Cond.selects "StreamFuser$Plan" ({ cls := "StreamFuser$Plan", name := "letterAt", desc := "(I)I" } : MethodName) ({ cls := "StreamFuser$Plan", name := "letterAt", desc := "(I)I" } : MethodName)) ∈ sf_T := sf_S_2 (q := (⟨"StreamFuser$Plan", "letterAt", "(I)I"⟩, 12)) 8 rfl
theorem wt_25 : (Cond.selects "StreamFuser$Rewriter" ({ cls := "StreamFuser$Rewriter", name := "ruleForDrop", desc := "(I)I" } : MethodName) ({ cls := "StreamFuser$Rewriter", name := "ruleForDrop", desc := "(I)I" } : MethodName)) ∈ sf_T := sf_S_2 (q := (⟨"StreamFuser$Rewriter", "ruleForDrop", "(I)I"⟩, 3)) 9 rfl
theorem wt_26 : (Cond.selects "StreamFuser$Plan" ({ cls := "StreamFuser$Plan", name := "secondPart", desc := "(I)I" } : MethodName) ({ cls := "StreamFuser$Plan", name := "secondPart", desc := "(I)I" } : MethodName)) ∈ sf_T := sf_S_2 (q := (⟨"StreamFuser$Plan", "secondPart", "(I)I"⟩, 12)) 10 rfl
theorem wt_27 : (Cond.selects "StreamFuser$Plan" ({ cls := "StreamFuser$Plan", name := "input", desc := "(I)I" } : MethodName) ({ cls := "StreamFuser$Plan", name := "input", desc := "(I)I" } : MethodName)) ∈ sf_T := sf_S_2 (q := (⟨"StreamFuser$Plan", "input", "(I)I"⟩, 12)) 11 rfl
theorem wt_28 : (Cond.selects "StreamFuser$Rewriter" ({ cls := "StreamFuser$Rewriter", name := "apply", desc := "(II)V" } : MethodName) ({ cls := "StreamFuser$Rewriter", name := "apply", desc := "(II)V" } : MethodName)) ∈ sf_T := sf_S_2 (q := (⟨"StreamFuser$Rewriter", "apply", "(II)V"⟩, 3)) 12 rfl
theorem wt_29 : (Cond.selects "StreamFuser$Plan" ({ cls := "StreamFuser$Plan", name := "makeNil", desc := "(I)V" } : MethodName) ({ cls := "StreamFuser$Plan", name := "makeNil", desc := "(I)V" } : MethodName)) ∈ sf_T := sf_S_2 (q := (⟨"StreamFuser$Plan", "makeNil", "(I)V"⟩, 12)) 13 rfl
theorem wt_30 : (Cond.selects "StreamFuser$Plan" ({ cls := "StreamFuser$Plan", name := "cut", desc := "(II)V" } : MethodName) ({ cls := "StreamFuser$Plan", name := "cut", desc := "(II)V" } : MethodName)) ∈ sf_T := sf_S_2 (q := (⟨"StreamFuser$Plan", "cut", "(II)V"⟩, 12)) 14 rfl
theorem wt_31 : (Cond.selects "StreamFuser$Plan" ({ cls := "StreamFuser$Plan", name := "moveNode", desc := "(II)V" } : MethodName) ({ cls := "StreamFuser$Plan", name := "moveNode", desc := "(II)V" } : MethodName)) ∈ sf_T := sf_S_2 (q := (⟨"StreamFuser$Plan", "moveNode", "(II)V"⟩, 12)) 15 rfl
theorem wt_32 : (Cond.selects "StreamFuser$Plan" ({ cls := "StreamFuser$Plan", name := "swapWithNext", desc := "(I)V" } : MethodName) ({ cls := "StreamFuser$Plan", name := "swapWithNext", desc := "(I)V" } : MethodName)) ∈ sf_T := sf_S_3 (q := (⟨"StreamFuser$Plan", "swapWithNext", "(I)V"⟩, 12)) 0 rfl
theorem wt_33 : (Cond.selects "StreamFuser$Rewriter" ({ cls := "StreamFuser$Rewriter", name := "swapDropWithTake", desc := "(I)V" } : MethodName) ({ cls := "StreamFuser$Rewriter", name := "swapDropWithTake", desc := "(I)V" } : MethodName)) ∈ sf_T := sf_S_3 (q := (⟨"StreamFuser$Rewriter", "swapDropWithTake", "(I)V"⟩, 3)) 1 rfl
theorem wt_34 : (Cond.selects "StreamFuser$Rewriter" ({ cls := "StreamFuser$Rewriter", name := "keepOnePart", desc := "(I)V" } : MethodName) ({ cls := "StreamFuser$Rewriter", name := "keepOnePart", desc := "(I)V" } : MethodName)) ∈ sf_T := sf_S_3 (q := (⟨"StreamFuser$Rewriter", "keepOnePart", "(I)V"⟩, 3)) 2 rfl
theorem wt_35 : (Cond.selects "StreamFuser$Rewriter" ({ cls := "StreamFuser$Rewriter", name := "mergeWithNext", desc := "(II)V" } : MethodName) ({ cls := "StreamFuser$Rewriter", name := "mergeWithNext", desc := "(II)V" } : MethodName)) ∈ sf_T := sf_S_3 (q := (⟨"StreamFuser$Rewriter", "mergeWithNext", "(II)V"⟩, 3)) 3 rfl
theorem wt_36 : (Cond.selects "StreamFuser$Asker" ({ cls := "StreamFuser$Asker", name := "play", desc := "(I)V" } : MethodName) ({ cls := "StreamFuser$Asker", name := "play", desc := "(I)V" } : MethodName)) ∈ sf_T := sf_S_3 (q := (⟨"StreamFuser$Asker", "play", "(I)V"⟩, 7)) 4 rfl
theorem wt_37 : (Cond.selects "StreamFuser$Run" ({ cls := "StreamFuser$Run", name := "begin", desc := "()V" } : MethodName) ({ cls := "StreamFuser$Run", name := "begin", desc := "()V" } : MethodName)) ∈ sf_T := sf_S_3 (q := (⟨"StreamFuser$Run", "begin", "()V"⟩, 10)) 5 rfl
theorem wt_38 : (Cond.selects "StreamFuser$Asker" ({ cls := "StreamFuser$Asker", name := "ask", desc := "(II)Z" } : MethodName) ({ cls := "StreamFuser$Asker", name := "ask", desc := "(II)Z" } : MethodName)) ∈ sf_T := sf_S_3 (q := (⟨"StreamFuser$Asker", "ask", "(II)Z"⟩, 7)) 6 rfl
theorem wt_39 : (Cond.selects "StreamFuser$Run" ({ cls := "StreamFuser$Run", name := "fail", desc := "(II)V" } : MethodName) ({ cls := "StreamFuser$Run", name := "fail", desc := "(II)V" } : MethodName)) ∈ sf_T := sf_S_3 (q := (⟨"StreamFuser$Run", "fail", "(II)V"⟩, 10)) 7 rfl
theorem wt_40 : (Cond.selects "StreamFuser$Run" ({ cls := "StreamFuser$Run", name := "note", desc := "(II)V" } : MethodName) ({ cls := "StreamFuser$Run", name := "note", desc := "(II)V" } : MethodName)) ∈ sf_T := sf_S_3 (q := (⟨"StreamFuser$Run", "note", "(II)V"⟩, 10)) 8 rfl
theorem wt_41 : (Cond.selects "StreamFuser$Asker" ({ cls := "StreamFuser$Asker", name := "askFilter", desc := "(II)Z" } : MethodName) ({ cls := "StreamFuser$Asker", name := "askFilter", desc := "(II)Z" } : MethodName)) ∈ sf_T := sf_S_3 (q := (⟨"StreamFuser$Asker", "askFilter", "(II)Z"⟩, 7)) 9 rfl
theorem wt_42 : (Cond.selects "StreamFuser$Asker" ({ cls := "StreamFuser$Asker", name := "askWhile", desc := "(II)Z" } : MethodName) ({ cls := "StreamFuser$Asker", name := "askWhile", desc := "(II)Z" } : MethodName)) ∈ sf_T := sf_S_3 (q := (⟨"StreamFuser$Asker", "askWhile", "(II)Z"⟩, 7)) 10 rfl
theorem wt_43 : (Cond.selects "StreamFuser$Asker" ({ cls := "StreamFuser$Asker", name := "askTake", desc := "(II)Z" } : MethodName) ({ cls := "StreamFuser$Asker", name := "askTake", desc := "(II)Z" } : MethodName)) ∈ sf_T := sf_S_3 (q := (⟨"StreamFuser$Asker", "askTake", "(II)Z"⟩, 7)) 11 rfl
theorem wt_44 : (Cond.selects "StreamFuser$Asker" ({ cls := "StreamFuser$Asker", name := "askDrop", desc := "(II)Z" } : MethodName) ({ cls := "StreamFuser$Asker", name := "askDrop", desc := "(II)Z" } : MethodName)) ∈ sf_T := sf_S_3 (q := (⟨"StreamFuser$Asker", "askDrop", "(II)Z"⟩, 7)) 12 rfl
theorem wt_45 : (Cond.selects "StreamFuser$Asker" ({ cls := "StreamFuser$Asker", name := "askChain", desc := "(II)Z" } : MethodName) ({ cls := "StreamFuser$Asker", name := "askChain", desc := "(II)Z" } : MethodName)) ∈ sf_T := sf_S_3 (q := (⟨"StreamFuser$Asker", "askChain", "(II)Z"⟩, 7)) 13 rfl
theorem wt_46 : (Cond.selects "StreamFuser$Run" ({ cls := "StreamFuser$Run", name := "failed", desc := "()Z" } : MethodName) ({ cls := "StreamFuser$Run", name := "failed", desc := "()Z" } : MethodName)) ∈ sf_T := sf_S_3 (q := (⟨"StreamFuser$Run", "failed", "()Z"⟩, 10)) 14 rfl
theorem wt_47 : (Cond.selects "StreamFuser$Asker" ({ cls := "StreamFuser$Asker", name := "askZip", desc := "(II)Z" } : MethodName) ({ cls := "StreamFuser$Asker", name := "askZip", desc := "(II)Z" } : MethodName)) ∈ sf_T := sf_S_3 (q := (⟨"StreamFuser$Asker", "askZip", "(II)Z"⟩, 7)) 15 rfl
theorem wt_48 : (Cond.selects "StreamFuser$Asker" ({ cls := "StreamFuser$Asker", name := "askOpener", desc := "(II)Z" } : MethodName) ({ cls := "StreamFuser$Asker", name := "askOpener", desc := "(II)Z" } : MethodName)) ∈ sf_T := sf_S_4 (q := (⟨"StreamFuser$Asker", "askOpener", "(II)Z"⟩, 7)) 0 rfl
theorem wt_49 : (Cond.selects "StreamFuser$Sheets" ({ cls := "StreamFuser$Sheets", name := "isLost", desc := "(I)Z" } : MethodName) ({ cls := "StreamFuser$Sheets", name := "isLost", desc := "(I)Z" } : MethodName)) ∈ sf_T := sf_S_4 (q := (⟨"StreamFuser$Sheets", "isLost", "(I)Z"⟩, 3)) 1 rfl
theorem wt_50 : (Cond.selects "StreamFuser$Run" ({ cls := "StreamFuser$Run", name := "draw", desc := "(I)Z" } : MethodName) ({ cls := "StreamFuser$Run", name := "draw", desc := "(I)Z" } : MethodName)) ∈ sf_T := sf_S_4 (q := (⟨"StreamFuser$Run", "draw", "(I)Z"⟩, 10)) 2 rfl
theorem wt_51 : (Cond.selects "StreamFuser$Sheets" ({ cls := "StreamFuser$Sheets", name := "at", desc := "(II)I" } : MethodName) ({ cls := "StreamFuser$Sheets", name := "at", desc := "(II)I" } : MethodName)) ∈ sf_T := sf_S_4 (q := (⟨"StreamFuser$Sheets", "at", "(II)I"⟩, 3)) 3 rfl
theorem wt_52 : (Cond.selects "StreamFuser$Run" ({ cls := "StreamFuser$Run", name := "give", desc := "(I)V" } : MethodName) ({ cls := "StreamFuser$Run", name := "give", desc := "(I)V" } : MethodName)) ∈ sf_T := sf_S_4 (q := (⟨"StreamFuser$Run", "give", "(I)V"⟩, 10)) 4 rfl
theorem wt_53 : (Cond.selects "StreamFuser$Stepper" ({ cls := "StreamFuser$Stepper", name := "play", desc := "(I)V" } : MethodName) ({ cls := "StreamFuser$Stepper", name := "play", desc := "(I)V" } : MethodName)) ∈ sf_T := sf_S_4 (q := (⟨"StreamFuser$Stepper", "play", "(I)V"⟩, 8)) 5 rfl
theorem wt_54 : (Cond.selects "StreamFuser$Stepper" ({ cls := "StreamFuser$Stepper", name := "step", desc := "(II)I" } : MethodName) ({ cls := "StreamFuser$Stepper", name := "step", desc := "(II)I" } : MethodName)) ∈ sf_T := sf_S_4 (q := (⟨"StreamFuser$Stepper", "step", "(II)I"⟩, 8)) 6 rfl
theorem wt_55 : (Cond.selects "StreamFuser$Stepper" ({ cls := "StreamFuser$Stepper", name := "stepChain", desc := "(II)I" } : MethodName) ({ cls := "StreamFuser$Stepper", name := "stepChain", desc := "(II)I" } : MethodName)) ∈ sf_T := sf_S_4 (q := (⟨"StreamFuser$Stepper", "stepChain", "(II)I"⟩, 8)) 7 rfl
theorem wt_56 : (Cond.selects "StreamFuser$Stepper" ({ cls := "StreamFuser$Stepper", name := "stepZip", desc := "(II)I" } : MethodName) ({ cls := "StreamFuser$Stepper", name := "stepZip", desc := "(II)I" } : MethodName)) ∈ sf_T := sf_S_4 (q := (⟨"StreamFuser$Stepper", "stepZip", "(II)I"⟩, 8)) 8 rfl
theorem wt_57 : (Cond.selects "StreamFuser$Stepper" ({ cls := "StreamFuser$Stepper", name := "stepOpener", desc := "(II)I" } : MethodName) ({ cls := "StreamFuser$Stepper", name := "stepOpener", desc := "(II)I" } : MethodName)) ∈ sf_T := sf_S_4 (q := (⟨"StreamFuser$Stepper", "stepOpener", "(II)I"⟩, 8)) 9 rfl
theorem wt_58 : (Cond.selects "StreamFuser$Stepper" ({ cls := "StreamFuser$Stepper", name := "given", desc := "(Z)I" } : MethodName) ({ cls := "StreamFuser$Stepper", name := "given", desc := "(Z)I" } : MethodName)) ∈ sf_T := sf_S_4 (q := (⟨"StreamFuser$Stepper", "given", "(Z)I"⟩, 8)) 10 rfl
theorem wt_59 : (Cond.selects "StreamFuser$Stepper" ({ cls := "StreamFuser$Stepper", name := "stepOne", desc := "(II)I" } : MethodName) ({ cls := "StreamFuser$Stepper", name := "stepOne", desc := "(II)I" } : MethodName)) ∈ sf_T := sf_S_4 (q := (⟨"StreamFuser$Stepper", "stepOne", "(II)I"⟩, 8)) 11 rfl
theorem wt_60 : (Cond.selects "StreamFuser$Maker" ({ cls := "StreamFuser$Maker", name := "play", desc := "(I)V" } : MethodName) ({ cls := "StreamFuser$Maker", name := "play", desc := "(I)V" } : MethodName)) ∈ sf_T := sf_S_4 (q := (⟨"StreamFuser$Maker", "play", "(I)V"⟩, 7)) 12 rfl
theorem wt_61 : (Cond.selects "StreamFuser$Maker" ({ cls := "StreamFuser$Maker", name := "make", desc := "(II)Z" } : MethodName) ({ cls := "StreamFuser$Maker", name := "make", desc := "(II)Z" } : MethodName)) ∈ sf_T := sf_S_4 (q := (⟨"StreamFuser$Maker", "make", "(II)Z"⟩, 7)) 13 rfl
theorem wt_62 : (Cond.selects "StreamFuser$Maker" ({ cls := "StreamFuser$Maker", name := "fill", desc := "(II)Z" } : MethodName) ({ cls := "StreamFuser$Maker", name := "fill", desc := "(II)Z" } : MethodName)) ∈ sf_T := sf_S_4 (q := (⟨"StreamFuser$Maker", "fill", "(II)Z"⟩, 7)) 14 rfl
theorem wt_63 : (Cond.selects "StreamFuser$Maker" ({ cls := "StreamFuser$Maker", name := "fillFromProducer", desc := "(I)Z" } : MethodName) ({ cls := "StreamFuser$Maker", name := "fillFromProducer", desc := "(I)Z" } : MethodName)) ∈ sf_T := sf_S_4 (q := (⟨"StreamFuser$Maker", "fillFromProducer", "(I)Z"⟩, 7)) 15 rfl
theorem wt_64 : (Cond.selects "StreamFuser$Maker" ({ cls := "StreamFuser$Maker", name := "add", desc := "(II)V" } : MethodName) ({ cls := "StreamFuser$Maker", name := "add", desc := "(II)V" } : MethodName)) ∈ sf_T := sf_S_5 (q := (⟨"StreamFuser$Maker", "add", "(II)V"⟩, 7)) 0 rfl
theorem wt_65 : (Cond.selects "StreamFuser$Maker" ({ cls := "StreamFuser$Maker", name := "fillByOpening", desc := "(II)Z" } : MethodName) ({ cls := "StreamFuser$Maker", name := "fillByOpening", desc := "(II)Z" } : MethodName)) ∈ sf_T := sf_S_5 (q := (⟨"StreamFuser$Maker", "fillByOpening", "(II)Z"⟩, 7)) 1 rfl
theorem wt_66 : (Cond.selects "StreamFuser$Maker" ({ cls := "StreamFuser$Maker", name := "element", desc := "(II)I" } : MethodName) ({ cls := "StreamFuser$Maker", name := "element", desc := "(II)I" } : MethodName)) ∈ sf_T := sf_S_5 (q := (⟨"StreamFuser$Maker", "element", "(II)I"⟩, 7)) 2 rfl
theorem wt_67 : (Cond.selects "StreamFuser$Maker" ({ cls := "StreamFuser$Maker", name := "addRow", desc := "(II)Z" } : MethodName) ({ cls := "StreamFuser$Maker", name := "addRow", desc := "(II)Z" } : MethodName)) ∈ sf_T := sf_S_5 (q := (⟨"StreamFuser$Maker", "addRow", "(II)Z"⟩, 7)) 3 rfl
theorem wt_68 : (Cond.selects "StreamFuser$Maker" ({ cls := "StreamFuser$Maker", name := "fillFromInput", desc := "(I)Z" } : MethodName) ({ cls := "StreamFuser$Maker", name := "fillFromInput", desc := "(I)Z" } : MethodName)) ∈ sf_T := sf_S_5 (q := (⟨"StreamFuser$Maker", "fillFromInput", "(I)Z"⟩, 7)) 4 rfl
theorem wt_69 : (Cond.selects "StreamFuser$Maker" ({ cls := "StreamFuser$Maker", name := "zip", desc := "(II)V" } : MethodName) ({ cls := "StreamFuser$Maker", name := "zip", desc := "(II)V" } : MethodName)) ∈ sf_T := sf_S_5 (q := (⟨"StreamFuser$Maker", "zip", "(II)V"⟩, 7)) 5 rfl
theorem wt_70 : (Cond.selects "StreamFuser$Run" ({ cls := "StreamFuser$Run", name := "sum", desc := "()J" } : MethodName) ({ cls := "StreamFuser$Run", name := "sum", desc := "()J" } : MethodName)) ∈ sf_T := sf_S_5 (q := (⟨"StreamFuser$Run", "sum", "()J"⟩, 10)) 6 rfl
theorem wt_71 : (Cond.selects "StreamFuser$Run" ({ cls := "StreamFuser$Run", name := "greatest", desc := "()I" } : MethodName) ({ cls := "StreamFuser$Run", name := "greatest", desc := "()I" } : MethodName)) ∈ sf_T := sf_S_5 (q := (⟨"StreamFuser$Run", "greatest", "()I"⟩, 10)) 7 rfl
theorem wt_72 : (Cond.selects "StreamFuser$Run" ({ cls := "StreamFuser$Run", name := "smallest", desc := "()I" } : MethodName) ({ cls := "StreamFuser$Run", name := "smallest", desc := "()I" } : MethodName)) ∈ sf_T := sf_S_5 (q := (⟨"StreamFuser$Run", "smallest", "()I"⟩, 10)) 8 rfl
theorem wt_73 : (Cond.selects "StreamFuser$Run" ({ cls := "StreamFuser$Run", name := "kept", desc := "()I" } : MethodName) ({ cls := "StreamFuser$Run", name := "kept", desc := "()I" } : MethodName)) ∈ sf_T := sf_S_5 (q := (⟨"StreamFuser$Run", "kept", "()I"⟩, 10)) 9 rfl
theorem wt_74 : (Cond.selects "StreamFuser" ({ cls := "StreamFuser", name := "find", desc := "(I)I" } : MethodName) ({ cls := "StreamFuser", name := "find", desc := "(I)I" } : MethodName)) ∈ sf_T := sf_S_5 (q := (⟨"StreamFuser", "find", "(I)I"⟩, 14)) 10 rfl
theorem wt_75 : (Cond.selects "StreamFuser$Sheets" ({ cls := "StreamFuser$Sheets", name := "renew", desc := "(III)V" } : MethodName) ({ cls := "StreamFuser$Sheets", name := "renew", desc := "(III)V" } : MethodName)) ∈ sf_T := sf_S_5 (q := (⟨"StreamFuser$Sheets", "renew", "(III)V"⟩, 3)) 11 rfl
theorem wt_76 : (Cond.selects "StreamFuser" ({ cls := "StreamFuser", name := "elementError", desc := "(III)I" } : MethodName) ({ cls := "StreamFuser", name := "elementError", desc := "(III)I" } : MethodName)) ∈ sf_T := sf_S_5 (q := (⟨"StreamFuser", "elementError", "(III)I"⟩, 14)) 12 rfl
theorem wt_77 : (Cond.selects "StreamFuser$Sheets" ({ cls := "StreamFuser$Sheets", name := "hasElement", desc := "(II)Z" } : MethodName) ({ cls := "StreamFuser$Sheets", name := "hasElement", desc := "(II)Z" } : MethodName)) ∈ sf_T := sf_S_5 (q := (⟨"StreamFuser$Sheets", "hasElement", "(II)Z"⟩, 3)) 13 rfl
theorem wt_78 : (Cond.selects "StreamFuser$Sheets" ({ cls := "StreamFuser$Sheets", name := "store", desc := "(III)V" } : MethodName) ({ cls := "StreamFuser$Sheets", name := "store", desc := "(III)V" } : MethodName)) ∈ sf_T := sf_S_5 (q := (⟨"StreamFuser$Sheets", "store", "(III)V"⟩, 3)) 14 rfl
theorem wt_79 : (Cond.selects "StreamFuser$Sheets" ({ cls := "StreamFuser$Sheets", name := "hasPart", desc := "(III)Z" } : MethodName) ({ cls := "StreamFuser$Sheets", name := "hasPart", desc := "(III)Z" } : MethodName)) ∈ sf_T := sf_S_5 (q := (⟨"StreamFuser$Sheets", "hasPart", "(III)Z"⟩, 3)) 15 rfl
theorem wt_80 : (Cond.selects "StreamFuser$Sheets" ({ cls := "StreamFuser$Sheets", name := "move", desc := "(IIIII)V" } : MethodName) ({ cls := "StreamFuser$Sheets", name := "move", desc := "(IIIII)V" } : MethodName)) ∈ sf_T := sf_S_6 (q := (⟨"StreamFuser$Sheets", "move", "(IIIII)V"⟩, 3)) 0 rfl
theorem wt_81 : (Cond.selects "StreamFuser" ({ cls := "StreamFuser", name := "mixPlan", desc := "(J)J" } : MethodName) ({ cls := "StreamFuser", name := "mixPlan", desc := "(J)J" } : MethodName)) ∈ sf_T := sf_S_6 (q := (⟨"StreamFuser", "mixPlan", "(J)J"⟩, 14)) 1 rfl
theorem wt_82 : (Cond.selects "StreamFuser" ({ cls := "StreamFuser", name := "mixRun", desc := "(J)J" } : MethodName) ({ cls := "StreamFuser", name := "mixRun", desc := "(J)J" } : MethodName)) ∈ sf_T := sf_S_6 (q := (⟨"StreamFuser", "mixRun", "(J)J"⟩, 14)) 2 rfl
theorem wt_83 : (Cond.selects "StreamFuserModel" ({ cls := "StreamFuserModel", name := "finds", desc := "(I)I" } : MethodName) ({ cls := "StreamFuserModel", name := "finds", desc := "(I)I" } : MethodName)) ∈ sf_T := sf_S_6 (q := (⟨"StreamFuserModel", "finds", "(I)I"⟩, 59)) 3 rfl
theorem wt_84 : (Cond.selects "StreamFuserModel" ({ cls := "StreamFuserModel", name := "lacks", desc := "(III)I" } : MethodName) ({ cls := "StreamFuserModel", name := "lacks", desc := "(III)I" } : MethodName)) ∈ sf_T := sf_S_6 (q := (⟨"StreamFuserModel", "lacks", "(III)I"⟩, 59)) 4 rfl
theorem wt_85 : (Cond.selects "StreamFuserModel" ({ cls := "StreamFuserModel", name := "faultNow", desc := "()I" } : MethodName) ({ cls := "StreamFuserModel", name := "faultNow", desc := "()I" } : MethodName)) ∈ sf_T := sf_S_6 (q := (⟨"StreamFuserModel", "faultNow", "()I"⟩, 59)) 5 rfl
theorem wt_86 : (Cond.selects "StreamFuserModel" ({ cls := "StreamFuserModel", name := "takesLetter", desc := "(II)Z" } : MethodName) ({ cls := "StreamFuserModel", name := "takesLetter", desc := "(II)Z" } : MethodName)) ∈ sf_T := sf_S_6 (q := (⟨"StreamFuserModel", "takesLetter", "(II)Z"⟩, 59)) 6 rfl
theorem wt_87 : (Cond.selects "StreamFuserModel" ({ cls := "StreamFuserModel", name := "wantsBehind", desc := "(II)V" } : MethodName) ({ cls := "StreamFuserModel", name := "wantsBehind", desc := "(II)V" } : MethodName)) ∈ sf_T := sf_S_6 (q := (⟨"StreamFuserModel", "wantsBehind", "(II)V"⟩, 59)) 7 rfl
theorem wt_88 : (Cond.selects "StreamFuserModel" ({ cls := "StreamFuserModel", name := "wants", desc := "(I)V" } : MethodName) ({ cls := "StreamFuserModel", name := "wants", desc := "(I)V" } : MethodName)) ∈ sf_T := sf_S_6 (q := (⟨"StreamFuserModel", "wants", "(I)V"⟩, 59)) 8 rfl
theorem wt_89 : (Cond.selects "StreamFuserModel" ({ cls := "StreamFuserModel", name := "takesNumber", desc := "(II)Z" } : MethodName) ({ cls := "StreamFuserModel", name := "takesNumber", desc := "(II)Z" } : MethodName)) ∈ sf_T := sf_S_6 (q := (⟨"StreamFuserModel", "takesNumber", "(II)Z"⟩, 59)) 9 rfl
theorem wt_90 : (Cond.selects "StreamFuserModel" ({ cls := "StreamFuserModel", name := "takesSign", desc := "(II)Z" } : MethodName) ({ cls := "StreamFuserModel", name := "takesSign", desc := "(II)Z" } : MethodName)) ∈ sf_T := sf_S_6 (q := (⟨"StreamFuserModel", "takesSign", "(II)Z"⟩, 59)) 10 rfl
theorem wt_91 : (Cond.selects "StreamFuserModel" ({ cls := "StreamFuserModel", name := "places", desc := "()V" } : MethodName) ({ cls := "StreamFuserModel", name := "places", desc := "()V" } : MethodName)) ∈ sf_T := sf_S_6 (q := (⟨"StreamFuserModel", "places", "()V"⟩, 59)) 11 rfl
theorem wt_92 : (Cond.selects "StreamFuserModel" ({ cls := "StreamFuserModel", name := "hangs", desc := "(IIZ)V" } : MethodName) ({ cls := "StreamFuserModel", name := "hangs", desc := "(IIZ)V" } : MethodName)) ∈ sf_T := sf_S_6 (q := (⟨"StreamFuserModel", "hangs", "(IIZ)V"⟩, 59)) 12 rfl
theorem wt_93 : (Cond.selects "StreamFuserModel" ({ cls := "StreamFuserModel", name := "nodeBy", desc := "(II)I" } : MethodName) ({ cls := "StreamFuserModel", name := "nodeBy", desc := "(II)I" } : MethodName)) ∈ sf_T := sf_S_6 (q := (⟨"StreamFuserModel", "nodeBy", "(II)I"⟩, 59)) 13 rfl
theorem wt_94 : (Cond.selects "StreamFuserModel" ({ cls := "StreamFuserModel", name := "isPure", desc := "(I)Z" } : MethodName) ({ cls := "StreamFuserModel", name := "isPure", desc := "(I)Z" } : MethodName)) ∈ sf_T := sf_S_6 (q := (⟨"StreamFuserModel", "isPure", "(I)Z"⟩, 59)) 14 rfl
theorem wt_95 : (Cond.selects "StreamFuserModel" ({ cls := "StreamFuserModel", name := "writesPlan", desc := "()V" } : MethodName) ({ cls := "StreamFuserModel", name := "writesPlan", desc := "()V" } : MethodName)) ∈ sf_T := sf_S_6 (q := (⟨"StreamFuserModel", "writesPlan", "()V"⟩, 59)) 15 rfl
theorem wt_96 : (Cond.selects "StreamFuserModel" ({ cls := "StreamFuserModel", name := "tells", desc := "(I)V" } : MethodName) ({ cls := "StreamFuserModel", name := "tells", desc := "(I)V" } : MethodName)) ∈ sf_T := sf_S_7 (q := (⟨"StreamFuserModel", "tells", "(I)V"⟩, 59)) 0 rfl
theorem wt_97 : (Cond.selects "StreamFuserModel" ({ cls := "StreamFuserModel", name := "tellsNumber", desc := "(I)V" } : MethodName) ({ cls := "StreamFuserModel", name := "tellsNumber", desc := "(I)V" } : MethodName)) ∈ sf_T := sf_S_7 (q := (⟨"StreamFuserModel", "tellsNumber", "(I)V"⟩, 59)) 1 rfl
theorem wt_98 : (Cond.selects "StreamFuserModel" ({ cls := "StreamFuserModel", name := "textBy", desc := "(I)I" } : MethodName) ({ cls := "StreamFuserModel", name := "textBy", desc := "(I)I" } : MethodName)) ∈ sf_T := sf_S_7 (q := (⟨"StreamFuserModel", "textBy", "(I)I"⟩, 59)) 2 rfl
theorem wt_99 : (Cond.selects "StreamFuserModel" ({ cls := "StreamFuserModel", name := "tidies", desc := "(I)I" } : MethodName) ({ cls := "StreamFuserModel", name := "tidies", desc := "(I)I" } : MethodName)) ∈ sf_T := sf_S_7 (q := (⟨"StreamFuserModel", "tidies", "(I)I"⟩, 59)) 3 rfl
theorem wt_100 : (Cond.selects "StreamFuserModel" ({ cls := "StreamFuserModel", name := "tidiesOnce", desc := "(I)Z" } : MethodName) ({ cls := "StreamFuserModel", name := "tidiesOnce", desc := "(I)Z" } : MethodName)) ∈ sf_T := sf_S_7 (q := (⟨"StreamFuserModel", "tidiesOnce", "(I)Z"⟩, 59)) 4 rfl
theorem wt_101 : (Cond.selects "StreamFuserModel" ({ cls := "StreamFuserModel", name := "ruleAt", desc := "(I)I" } : MethodName) ({ cls := "StreamFuserModel", name := "ruleAt", desc := "(I)I" } : MethodName)) ∈ sf_T := sf_S_7 (q := (⟨"StreamFuserModel", "ruleAt", "(I)I"⟩, 59)) 5 rfl
theorem wt_102 : (Cond.selects "StreamFuserModel" ({ cls := "StreamFuserModel", name := "isNil", desc := "(I)Z" } : MethodName) ({ cls := "StreamFuserModel", name := "isNil", desc := "(I)Z" } : MethodName)) ∈ sf_T := sf_S_7 (q := (⟨"StreamFuserModel", "isNil", "(I)Z"⟩, 59)) 6 rfl
theorem wt_103 : (Cond.selects "StreamFuserModel" ({ cls := "StreamFuserModel", name := "ruleOfCut", desc := "(I)I" } : MethodName) ({ cls := "StreamFuserModel", name := "ruleOfCut", desc := "(I)I" } : MethodName)) ∈ sf_T := sf_S_7 (q := (⟨"StreamFuserModel", "ruleOfCut", "(I)I"⟩, 59)) 7 rfl
theorem wt_104 : (Cond.selects "StreamFuserModel" ({ cls := "StreamFuserModel", name := "uses", desc := "(II)V" } : MethodName) ({ cls := "StreamFuserModel", name := "uses", desc := "(II)V" } : MethodName)) ∈ sf_T := sf_S_7 (q := (⟨"StreamFuserModel", "uses", "(II)V"⟩, 59)) 8 rfl
theorem wt_105 : (Cond.selects "StreamFuserModel" ({ cls := "StreamFuserModel", name := "becomes", desc := "(IIII)V" } : MethodName) ({ cls := "StreamFuserModel", name := "becomes", desc := "(IIII)V" } : MethodName)) ∈ sf_T := sf_S_7 (q := (⟨"StreamFuserModel", "becomes", "(IIII)V"⟩, 59)) 9 rfl
theorem wt_106 : (Cond.selects "StreamFuserModel" ({ cls := "StreamFuserModel", name := "cuts", desc := "(II)V" } : MethodName) ({ cls := "StreamFuserModel", name := "cuts", desc := "(II)V" } : MethodName)) ∈ sf_T := sf_S_7 (q := (⟨"StreamFuserModel", "cuts", "(II)V"⟩, 59)) 10 rfl
theorem wt_107 : (Cond.selects "StreamFuserModel" ({ cls := "StreamFuserModel", name := "turns", desc := "(I)V" } : MethodName) ({ cls := "StreamFuserModel", name := "turns", desc := "(I)V" } : MethodName)) ∈ sf_T := sf_S_7 (q := (⟨"StreamFuserModel", "turns", "(I)V"⟩, 59)) 11 rfl
theorem wt_108 : (Cond.selects "StreamFuserModel" ({ cls := "StreamFuserModel", name := "usesMore", desc := "(III)V" } : MethodName) ({ cls := "StreamFuserModel", name := "usesMore", desc := "(III)V" } : MethodName)) ∈ sf_T := sf_S_7 (q := (⟨"StreamFuserModel", "usesMore", "(III)V"⟩, 59)) 12 rfl
theorem wt_109 : (Cond.selects "StreamFuserModel" ({ cls := "StreamFuserModel", name := "nil", desc := "(I)V" } : MethodName) ({ cls := "StreamFuserModel", name := "nil", desc := "(I)V" } : MethodName)) ∈ sf_T := sf_S_7 (q := (⟨"StreamFuserModel", "nil", "(I)V"⟩, 59)) 13 rfl
theorem wt_110 : (Cond.selects "StreamFuserModel" ({ cls := "StreamFuserModel", name := "hasEndless", desc := "()Z" } : MethodName) ({ cls := "StreamFuserModel", name := "hasEndless", desc := "()Z" } : MethodName)) ∈ sf_T := sf_S_7 (q := (⟨"StreamFuserModel", "hasEndless", "()Z"⟩, 59)) 14 rfl
theorem wt_111 : (Cond.selects "StreamFuserModel" ({ cls := "StreamFuserModel", name := "runs", desc := "(II)V" } : MethodName) ({ cls := "StreamFuserModel", name := "runs", desc := "(II)V" } : MethodName)) ∈ sf_T := sf_S_7 (q := (⟨"StreamFuserModel", "runs", "(II)V"⟩, 59)) 15 rfl
theorem wt_112 : (Cond.selects "StreamFuserModel" ({ cls := "StreamFuserModel", name := "begins", desc := "(II)V" } : MethodName) ({ cls := "StreamFuserModel", name := "begins", desc := "(II)V" } : MethodName)) ∈ sf_T := sf_S_8 (q := (⟨"StreamFuserModel", "begins", "(II)V"⟩, 59)) 0 rfl
theorem wt_113 : (Cond.selects "StreamFuserModel" ({ cls := "StreamFuserModel", name := "makesRows", desc := "()V" } : MethodName) ({ cls := "StreamFuserModel", name := "makesRows", desc := "()V" } : MethodName)) ∈ sf_T := sf_S_8 (q := (⟨"StreamFuserModel", "makesRows", "()V"⟩, 59)) 1 rfl
theorem wt_114 : (Cond.selects "StreamFuserModel" ({ cls := "StreamFuserModel", name := "wantsRow", desc := "(I)I" } : MethodName) ({ cls := "StreamFuserModel", name := "wantsRow", desc := "(I)I" } : MethodName)) ∈ sf_T := sf_S_8 (q := (⟨"StreamFuserModel", "wantsRow", "(I)I"⟩, 59)) 2 rfl
theorem wt_115 : (Cond.selects "StreamFuserModel" ({ cls := "StreamFuserModel", name := "opensRow", desc := "(I)I" } : MethodName) ({ cls := "StreamFuserModel", name := "opensRow", desc := "(I)I" } : MethodName)) ∈ sf_T := sf_S_8 (q := (⟨"StreamFuserModel", "opensRow", "(I)I"⟩, 59)) 3 rfl
theorem wt_116 : (Cond.selects "StreamFuserModel" ({ cls := "StreamFuserModel", name := "fails", desc := "(II)V" } : MethodName) ({ cls := "StreamFuserModel", name := "fails", desc := "(II)V" } : MethodName)) ∈ sf_T := sf_S_8 (q := (⟨"StreamFuserModel", "fails", "(II)V"⟩, 59)) 4 rfl
theorem wt_117 : (Cond.selects "StreamFuserModel" ({ cls := "StreamFuserModel", name := "adds", desc := "(II)V" } : MethodName) ({ cls := "StreamFuserModel", name := "adds", desc := "(II)V" } : MethodName)) ∈ sf_T := sf_S_8 (q := (⟨"StreamFuserModel", "adds", "(II)V"⟩, 59)) 5 rfl
theorem wt_118 : (Cond.selects "StreamFuserModel" ({ cls := "StreamFuserModel", name := "fills", desc := "(I)V" } : MethodName) ({ cls := "StreamFuserModel", name := "fills", desc := "(I)V" } : MethodName)) ∈ sf_T := sf_S_8 (q := (⟨"StreamFuserModel", "fills", "(I)V"⟩, 59)) 6 rfl
theorem wt_119 : (Cond.selects "StreamFuserModel" ({ cls := "StreamFuserModel", name := "draws", desc := "()Z" } : MethodName) ({ cls := "StreamFuserModel", name := "draws", desc := "()Z" } : MethodName)) ∈ sf_T := sf_S_8 (q := (⟨"StreamFuserModel", "draws", "()Z"⟩, 59)) 7 rfl
theorem wt_120 : (Cond.selects "StreamFuserModel" ({ cls := "StreamFuserModel", name := "changesRow", desc := "(I)V" } : MethodName) ({ cls := "StreamFuserModel", name := "changesRow", desc := "(I)V" } : MethodName)) ∈ sf_T := sf_S_8 (q := (⟨"StreamFuserModel", "changesRow", "(I)V"⟩, 59)) 8 rfl
theorem wt_121 : (Cond.selects "StreamFuserModel" ({ cls := "StreamFuserModel", name := "passes", desc := "(II)Z" } : MethodName) ({ cls := "StreamFuserModel", name := "passes", desc := "(II)Z" } : MethodName)) ∈ sf_T := sf_S_8 (q := (⟨"StreamFuserModel", "passes", "(II)Z"⟩, 59)) 9 rfl
theorem wt_122 : (Cond.selects "StreamFuserModel" ({ cls := "StreamFuserModel", name := "made", desc := "(II)I" } : MethodName) ({ cls := "StreamFuserModel", name := "made", desc := "(II)I" } : MethodName)) ∈ sf_T := sf_S_8 (q := (⟨"StreamFuserModel", "made", "(II)I"⟩, 59)) 10 rfl
theorem wt_123 : (Cond.selects "StreamFuserModel" ({ cls := "StreamFuserModel", name := "writesDown", desc := "(II)V" } : MethodName) ({ cls := "StreamFuserModel", name := "writesDown", desc := "(II)V" } : MethodName)) ∈ sf_T := sf_S_8 (q := (⟨"StreamFuserModel", "writesDown", "(II)V"⟩, 59)) 11 rfl
theorem wt_124 : (Cond.selects "StreamFuserModel" ({ cls := "StreamFuserModel", name := "joinsRows", desc := "(I)V" } : MethodName) ({ cls := "StreamFuserModel", name := "joinsRows", desc := "(I)V" } : MethodName)) ∈ sf_T := sf_S_8 (q := (⟨"StreamFuserModel", "joinsRows", "(I)V"⟩, 59)) 12 rfl
theorem wt_125 : (Cond.selects "StreamFuserModel" ({ cls := "StreamFuserModel", name := "joined", desc := "(III)I" } : MethodName) ({ cls := "StreamFuserModel", name := "joined", desc := "(III)I" } : MethodName)) ∈ sf_T := sf_S_8 (q := (⟨"StreamFuserModel", "joined", "(III)I"⟩, 59)) 13 rfl
theorem wt_126 : (Cond.selects "StreamFuserModel" ({ cls := "StreamFuserModel", name := "steps", desc := "()I" } : MethodName) ({ cls := "StreamFuserModel", name := "steps", desc := "()I" } : MethodName)) ∈ sf_T := sf_S_8 (q := (⟨"StreamFuserModel", "steps", "()I"⟩, 59)) 14 rfl
theorem wt_127 : (Cond.selects "StreamFuserModel" ({ cls := "StreamFuserModel", name := "gives", desc := "(I)V" } : MethodName) ({ cls := "StreamFuserModel", name := "gives", desc := "(I)V" } : MethodName)) ∈ sf_T := sf_S_8 (q := (⟨"StreamFuserModel", "gives", "(I)V"⟩, 59)) 15 rfl
theorem wt_128 : (Cond.selects "StreamFuserModel" ({ cls := "StreamFuserModel", name := "after", desc := "(II)I" } : MethodName) ({ cls := "StreamFuserModel", name := "after", desc := "(II)I" } : MethodName)) ∈ sf_T := sf_S_9 (q := (⟨"StreamFuserModel", "after", "(II)I"⟩, 59)) 0 rfl
theorem wt_129 : (Cond.selects "StreamFuserModel" ({ cls := "StreamFuserModel", name := "afterOne", desc := "(II)I" } : MethodName) ({ cls := "StreamFuserModel", name := "afterOne", desc := "(II)I" } : MethodName)) ∈ sf_T := sf_S_9 (q := (⟨"StreamFuserModel", "afterOne", "(II)I"⟩, 59)) 1 rfl
theorem wt_130 : (Cond.selects "StreamFuserModel" ({ cls := "StreamFuserModel", name := "opensFor", desc := "(II)V" } : MethodName) ({ cls := "StreamFuserModel", name := "opensFor", desc := "(II)V" } : MethodName)) ∈ sf_T := sf_S_9 (q := (⟨"StreamFuserModel", "opensFor", "(II)V"⟩, 59)) 2 rfl
theorem wt_131 : (Cond.selects "StreamFuserModel" ({ cls := "StreamFuserModel", name := "asks", desc := "()Z" } : MethodName) ({ cls := "StreamFuserModel", name := "asks", desc := "()Z" } : MethodName)) ∈ sf_T := sf_S_9 (q := (⟨"StreamFuserModel", "asks", "()Z"⟩, 59)) 3 rfl
theorem wt_132 : (Cond.selects "StreamFuserModel" ({ cls := "StreamFuserModel", name := "asksNext", desc := "(I)I" } : MethodName) ({ cls := "StreamFuserModel", name := "asksNext", desc := "(I)I" } : MethodName)) ∈ sf_T := sf_S_9 (q := (⟨"StreamFuserModel", "asksNext", "(I)I"⟩, 59)) 4 rfl
theorem wt_133 : (Cond.selects "StreamFuserModel" ({ cls := "StreamFuserModel", name := "hears", desc := "(I)I" } : MethodName) ({ cls := "StreamFuserModel", name := "hears", desc := "(I)I" } : MethodName)) ∈ sf_T := sf_S_9 (q := (⟨"StreamFuserModel", "hears", "(I)I"⟩, 59)) 5 rfl
theorem wt_134 : (Cond.selects "StreamFuserModel" ({ cls := "StreamFuserModel", name := "hearsOne", desc := "(I)I" } : MethodName) ({ cls := "StreamFuserModel", name := "hearsOne", desc := "(I)I" } : MethodName)) ∈ sf_T := sf_S_9 (q := (⟨"StreamFuserModel", "hearsOne", "(I)I"⟩, 59)) 6 rfl
theorem wt_135 : (Cond.selects "StreamFuserModel" ({ cls := "StreamFuserModel", name := "hearsOpen", desc := "(I)I" } : MethodName) ({ cls := "StreamFuserModel", name := "hearsOpen", desc := "(I)I" } : MethodName)) ∈ sf_T := sf_S_9 (q := (⟨"StreamFuserModel", "hearsOpen", "(I)I"⟩, 59)) 7 rfl
theorem wt_136 : (Cond.selects "StreamFuserModel" ({ cls := "StreamFuserModel", name := "foldBy", desc := "(I)J" } : MethodName) ({ cls := "StreamFuserModel", name := "foldBy", desc := "(I)J" } : MethodName)) ∈ sf_T := sf_S_9 (q := (⟨"StreamFuserModel", "foldBy", "(I)J"⟩, 59)) 8 rfl
theorem wt_137 : (Cond.selects "StreamFuserModel" ({ cls := "StreamFuserModel", name := "keptDown", desc := "()I" } : MethodName) ({ cls := "StreamFuserModel", name := "keptDown", desc := "()I" } : MethodName)) ∈ sf_T := sf_S_9 (q := (⟨"StreamFuserModel", "keptDown", "()I"⟩, 59)) 9 rfl
theorem wt_138 : (Cond.selects "StreamFuserModel" ({ cls := "StreamFuserModel", name := "writtenBy", desc := "(II)J" } : MethodName) ({ cls := "StreamFuserModel", name := "writtenBy", desc := "(II)J" } : MethodName)) ∈ sf_T := sf_S_9 (q := (⟨"StreamFuserModel", "writtenBy", "(II)J"⟩, 59)) 10 rfl
theorem wt_139 : (Cond.selects "StreamFuserModel" ({ cls := "StreamFuserModel", name := "savesBy", desc := "(I)I" } : MethodName) ({ cls := "StreamFuserModel", name := "savesBy", desc := "(I)I" } : MethodName)) ∈ sf_T := sf_S_9 (q := (⟨"StreamFuserModel", "savesBy", "(I)I"⟩, 59)) 11 rfl
theorem wt_140 : (Cond.selects "StreamFuserModel" ({ cls := "StreamFuserModel", name := "lays", desc := "(ZI)V" } : MethodName) ({ cls := "StreamFuserModel", name := "lays", desc := "(ZI)V" } : MethodName)) ∈ sf_T := sf_S_9 (q := (⟨"StreamFuserModel", "lays", "(ZI)V"⟩, 59)) 12 rfl
theorem wt_141 : (Cond.selects "StreamFuserModel" ({ cls := "StreamFuserModel", name := "deepest", desc := "()I" } : MethodName) ({ cls := "StreamFuserModel", name := "deepest", desc := "()I" } : MethodName)) ∈ sf_T := sf_S_9 (q := (⟨"StreamFuserModel", "deepest", "()I"⟩, 59)) 13 rfl
theorem wt_142 : (Cond.selects "StreamFuserModel" ({ cls := "StreamFuserModel", name := "planTells", desc := "(J)J" } : MethodName) ({ cls := "StreamFuserModel", name := "planTells", desc := "(J)J" } : MethodName)) ∈ sf_T := sf_S_9 (q := (⟨"StreamFuserModel", "planTells", "(J)J"⟩, 59)) 14 rfl
theorem wt_144 : (Cond.initialized "StreamFuser") ∈ sf_T := sf_T_1 1 rfl rfl
theorem wt_145 : (Cond.initialized "StreamFuser$Plan") ∈ sf_T := sf_T_1 2 rfl rfl
theorem wt_146 : (Cond.initialized "StreamFuser$Printer") ∈ sf_T := sf_T_1 3 rfl rfl
theorem wt_147 : (Cond.initialized "StreamFuser$Rewriter") ∈ sf_T := sf_T_1 4 rfl rfl
theorem wt_148 : (Cond.initialized "StreamFuser$Sheets") ∈ sf_T := sf_T_1 5 rfl rfl
theorem wt_149 : (Cond.initialized "StreamFuser$Run") ∈ sf_T := sf_T_1 6 rfl rfl
theorem wt_150 : (Cond.initialized "StreamFuser$Way") ∈ sf_T := sf_T_1 7 rfl rfl
theorem wt_151 : (Cond.initialized "StreamFuser$Walk") ∈ sf_T := sf_T_1 8 rfl rfl
theorem wt_152 : (Cond.initialized "StreamFuser$Asker") ∈ sf_T := sf_T_1 9 rfl rfl
theorem wt_153 : (Cond.initialized "StreamFuser$Stepper") ∈ sf_T := sf_T_1 10 rfl rfl
theorem wt_154 : (Cond.initialized "StreamFuser$Maker") ∈ sf_T := sf_T_1 11 rfl rfl
theorem wt_155 : (Cond.initialized "StreamFuser$Reader") ∈ sf_T := sf_T_1 12 rfl rfl
theorem wt_156 : (Cond.initialized "StreamFuserModel") ∈ sf_T := sf_T_1 13 rfl rfl
theorem wt_157 : (Cond.initialized "java/lang/Math") ∈ sf_T := sf_T_1 14 rfl rfl
theorem wt_158 : (Cond.initialized "java/lang/System") ∈ sf_T := sf_T_1 15 rfl rfl
theorem wt_161 : (Cond.methodLink "StreamFuserLaw" (9 : Nat) ({ cls := "StreamFuser", name := "<init>", desc := "()V" } : MethodName)) ∈ sf_T := sf_T_1 18 rfl rfl
theorem wt_162 : (Cond.instanceMethod ({ cls := "StreamFuser", name := "<init>", desc := "()V" } : MethodName)) ∈ sf_T := sf_T_1 19 rfl rfl
theorem wt_164 : (Cond.methodLink "StreamFuser" (7 : Nat) ({ cls := "java/lang/Object", name := "<init>", desc := "()V" } : MethodName)) ∈ sf_T := sf_T_1 21 rfl rfl
theorem wt_165 : (Cond.instanceMethod ({ cls := "java/lang/Object", name := "<init>", desc := "()V" } : MethodName)) ∈ sf_T := sf_T_1 22 rfl rfl
theorem wt_169 : (Cond.methodLinkNest "StreamFuser" (15 : Nat) ({ cls := "StreamFuser$Plan", name := "<init>", desc := "()V" } : MethodName) "StreamFuser") ∈ sf_N := sf_N_1 26 rfl rfl
theorem wt_170 : (Cond.instanceMethod ({ cls := "StreamFuser$Plan", name := "<init>", desc := "()V" } : MethodName)) ∈ sf_T := sf_T_1 27 rfl rfl
theorem wt_172 : (Cond.methodLink "StreamFuser$Plan" (3 : Nat) ({ cls := "java/lang/Object", name := "<init>", desc := "()V" } : MethodName)) ∈ sf_T := sf_T_1 29 rfl rfl
theorem wt_173 : (Cond.fieldLink "StreamFuser$Plan" (9 : Nat) "StreamFuser$Plan" "letter" "[I") ∈ sf_T := sf_T_1 30 rfl rfl
theorem wt_174 : (Cond.fieldLinkNest "StreamFuser$Printer" (30 : Nat) "StreamFuser$Plan" "letter" "[I" "StreamFuser") ∈ sf_N := sf_N_1 31 rfl rfl
theorem wt_175 : (Cond.fieldLinkNest "StreamFuser$Stepper" (59 : Nat) "StreamFuser$Plan" "letter" "[I" "StreamFuser") ∈ sf_N := sf_N_1 32 rfl rfl
theorem wt_176 : (Cond.fieldLinkNest "StreamFuser$Asker" (53 : Nat) "StreamFuser$Plan" "letter" "[I" "StreamFuser") ∈ sf_N := sf_N_1 33 rfl rfl
theorem wt_177 : (Cond.fieldLinkNest "StreamFuser$Maker" (56 : Nat) "StreamFuser$Plan" "letter" "[I" "StreamFuser") ∈ sf_N := sf_N_1 34 rfl rfl
theorem wt_178 : (Cond.fieldLinkNest "StreamFuser$Rewriter" (48 : Nat) "StreamFuser$Plan" "letter" "[I" "StreamFuser") ∈ sf_N := sf_N_1 35 rfl rfl
theorem wt_179 : (Cond.fieldLinkNest "StreamFuser$Way" (61 : Nat) "StreamFuser$Plan" "letter" "[I" "StreamFuser") ∈ sf_N := sf_N_1 36 rfl rfl
theorem wt_180 : (Cond.fieldLinkNest "StreamFuser" (117 : Nat) "StreamFuser$Plan" "letter" "[I" "StreamFuser") ∈ sf_N := sf_N_1 37 rfl rfl
theorem wt_181 : (Cond.fieldLink "StreamFuser$Plan" (15 : Nat) "StreamFuser$Plan" "mark" "[I") ∈ sf_T := sf_T_1 38 rfl rfl
theorem wt_182 : (Cond.fieldLinkNest "StreamFuser$Way" (40 : Nat) "StreamFuser$Plan" "mark" "[I" "StreamFuser") ∈ sf_N := sf_N_1 39 rfl rfl
theorem wt_183 : (Cond.fieldLinkNest "StreamFuser$Printer" (47 : Nat) "StreamFuser$Plan" "mark" "[I" "StreamFuser") ∈ sf_N := sf_N_1 40 rfl rfl
theorem wt_184 : (Cond.fieldLinkNest "StreamFuser" (121 : Nat) "StreamFuser$Plan" "mark" "[I" "StreamFuser") ∈ sf_N := sf_N_1 41 rfl rfl
theorem wt_185 : (Cond.fieldLink "StreamFuser$Plan" (18 : Nat) "StreamFuser$Plan" "first" "[I") ∈ sf_T := sf_T_1 42 rfl rfl
theorem wt_186 : (Cond.fieldLinkNest "StreamFuser$Printer" (53 : Nat) "StreamFuser$Plan" "first" "[I" "StreamFuser") ∈ sf_N := sf_N_1 43 rfl rfl
theorem wt_187 : (Cond.fieldLinkNest "StreamFuser$Stepper" (84 : Nat) "StreamFuser$Plan" "first" "[I" "StreamFuser") ∈ sf_N := sf_N_1 44 rfl rfl
theorem wt_188 : (Cond.fieldLinkNest "StreamFuser$Way" (67 : Nat) "StreamFuser$Plan" "first" "[I" "StreamFuser") ∈ sf_N := sf_N_1 45 rfl rfl
theorem wt_189 : (Cond.fieldLinkNest "StreamFuser$Rewriter" (54 : Nat) "StreamFuser$Plan" "first" "[I" "StreamFuser") ∈ sf_N := sf_N_1 46 rfl rfl
theorem wt_190 : (Cond.fieldLinkNest "StreamFuser$Asker" (95 : Nat) "StreamFuser$Plan" "first" "[I" "StreamFuser") ∈ sf_N := sf_N_1 47 rfl rfl
theorem wt_191 : (Cond.fieldLinkNest "StreamFuser" (124 : Nat) "StreamFuser$Plan" "first" "[I" "StreamFuser") ∈ sf_N := sf_N_1 48 rfl rfl
theorem wt_192 : (Cond.fieldLinkNest "StreamFuser$Maker" (116 : Nat) "StreamFuser$Plan" "first" "[I" "StreamFuser") ∈ sf_N := sf_N_1 49 rfl rfl
theorem wt_193 : (Cond.fieldLink "StreamFuser$Plan" (21 : Nat) "StreamFuser$Plan" "second" "[I") ∈ sf_T := sf_T_1 50 rfl rfl
theorem wt_194 : (Cond.fieldLinkNest "StreamFuser$Printer" (59 : Nat) "StreamFuser$Plan" "second" "[I" "StreamFuser") ∈ sf_N := sf_N_1 51 rfl rfl
theorem wt_195 : (Cond.fieldLinkNest "StreamFuser$Way" (64 : Nat) "StreamFuser$Plan" "second" "[I" "StreamFuser") ∈ sf_N := sf_N_1 52 rfl rfl
theorem wt_196 : (Cond.fieldLinkNest "StreamFuser$Rewriter" (51 : Nat) "StreamFuser$Plan" "second" "[I" "StreamFuser") ∈ sf_N := sf_N_1 53 rfl rfl
theorem wt_197 : (Cond.fieldLinkNest "StreamFuser" (127 : Nat) "StreamFuser$Plan" "second" "[I" "StreamFuser") ∈ sf_N := sf_N_1 54 rfl rfl
theorem wt_198 : (Cond.fieldLinkNest "StreamFuser$Way" (27 : Nat) "StreamFuser$Plan" "size" "I" "StreamFuser") ∈ sf_N := sf_N_1 55 rfl rfl
theorem wt_199 : (Cond.fieldLinkNest "StreamFuser$Printer" (21 : Nat) "StreamFuser$Plan" "size" "I" "StreamFuser") ∈ sf_N := sf_N_1 56 rfl rfl
theorem wt_200 : (Cond.fieldLinkNest "StreamFuser$Asker" (25 : Nat) "StreamFuser$Plan" "size" "I" "StreamFuser") ∈ sf_N := sf_N_1 57 rfl rfl
theorem wt_201 : (Cond.fieldLinkNest "StreamFuser$Stepper" (29 : Nat) "StreamFuser$Plan" "size" "I" "StreamFuser") ∈ sf_N := sf_N_1 58 rfl rfl
theorem wt_202 : (Cond.fieldLinkNest "StreamFuser$Walk" (29 : Nat) "StreamFuser$Plan" "size" "I" "StreamFuser") ∈ sf_N := sf_N_1 59 rfl rfl
theorem wt_203 : (Cond.fieldLinkNest "StreamFuser$Rewriter" (41 : Nat) "StreamFuser$Plan" "size" "I" "StreamFuser") ∈ sf_N := sf_N_1 60 rfl rfl
theorem wt_204 : (Cond.fieldLinkNest "StreamFuser$Reader" (26 : Nat) "StreamFuser$Plan" "size" "I" "StreamFuser") ∈ sf_N := sf_N_1 61 rfl rfl
theorem wt_205 : (Cond.fieldLink "StreamFuser$Plan" (44 : Nat) "StreamFuser$Plan" "size" "I") ∈ sf_T := sf_T_1 62 rfl rfl
theorem wt_206 : (Cond.fieldLinkNest "StreamFuser" (110 : Nat) "StreamFuser$Plan" "size" "I" "StreamFuser") ∈ sf_N := sf_N_1 63 rfl rfl
theorem wt_207 : (Cond.fieldLink "StreamFuser$Plan" (24 : Nat) "StreamFuser$Plan" "end" "[I") ∈ sf_T := sf_T_1 64 rfl rfl
theorem wt_208 : (Cond.fieldLink "StreamFuser$Plan" (27 : Nat) "StreamFuser$Plan" "within" "[I") ∈ sf_T := sf_T_1 65 rfl rfl
theorem wt_209 : (Cond.fieldLinkNest "StreamFuser" (130 : Nat) "StreamFuser$Plan" "within" "[I" "StreamFuser") ∈ sf_N := sf_N_1 66 rfl rfl
theorem wt_210 : (Cond.fieldLink "StreamFuser$Plan" (30 : Nat) "StreamFuser$Plan" "nested" "[I") ∈ sf_T := sf_T_1 67 rfl rfl
theorem wt_211 : (Cond.fieldLinkNest "StreamFuser$Way" (49 : Nat) "StreamFuser$Plan" "nested" "[I" "StreamFuser") ∈ sf_N := sf_N_1 68 rfl rfl
theorem wt_212 : (Cond.fieldLinkNest "StreamFuser$Maker" (94 : Nat) "StreamFuser$Plan" "nested" "[I" "StreamFuser") ∈ sf_N := sf_N_1 69 rfl rfl
theorem wt_213 : (Cond.fieldLink "StreamFuser$Plan" (33 : Nat) "StreamFuser$Plan" "opener" "[I") ∈ sf_T := sf_T_1 70 rfl rfl
theorem wt_214 : (Cond.fieldLinkNest "StreamFuser$Way" (33 : Nat) "StreamFuser$Plan" "opener" "[I" "StreamFuser") ∈ sf_N := sf_N_1 71 rfl rfl
theorem wt_215 : (Cond.fieldLink "StreamFuser$Plan" (36 : Nat) "StreamFuser$Plan" "pure" "[Z") ∈ sf_T := sf_T_1 72 rfl rfl
theorem wt_216 : (Cond.fieldLinkNest "StreamFuser$Rewriter" (75 : Nat) "StreamFuser$Plan" "pure" "[Z" "StreamFuser") ∈ sf_N := sf_N_1 73 rfl rfl
theorem wt_217 : (Cond.fieldLinkNest "StreamFuser" (133 : Nat) "StreamFuser$Plan" "pure" "[Z" "StreamFuser") ∈ sf_N := sf_N_1 74 rfl rfl
theorem wt_218 : (Cond.fieldLink "StreamFuser$Plan" (40 : Nat) "StreamFuser$Plan" "deepest" "I") ∈ sf_T := sf_T_1 75 rfl rfl
theorem wt_219 : (Cond.fieldLinkNest "StreamFuser" (253 : Nat) "StreamFuser$Plan" "deepest" "I" "StreamFuser") ∈ sf_N := sf_N_1 76 rfl rfl
theorem wt_220 : (Cond.fieldLinkNest "StreamFuser" (159 : Nat) "StreamFuser$Plan" "endless" "Z" "StreamFuser") ∈ sf_N := sf_N_1 77 rfl rfl
theorem wt_221 : (Cond.fieldLink "StreamFuser$Plan" (76 : Nat) "StreamFuser$Plan" "endless" "Z") ∈ sf_T := sf_T_1 78 rfl rfl
theorem wt_222 : (Cond.laysFinal "StreamFuser$Plan" "StreamFuser$Plan" "letter" "[I") ∈ sf_T := sf_T_1 79 rfl rfl
theorem wt_224 : (Cond.laysFinal "StreamFuser$Plan" "StreamFuser$Plan" "mark" "[I") ∈ sf_T := sf_T_1 81 rfl rfl
theorem wt_226 : (Cond.laysFinal "StreamFuser$Plan" "StreamFuser$Plan" "first" "[I") ∈ sf_T := sf_T_1 83 rfl rfl
theorem wt_228 : (Cond.laysFinal "StreamFuser$Plan" "StreamFuser$Plan" "second" "[I") ∈ sf_T := sf_T_1 85 rfl rfl
theorem wt_230 : (Cond.lays "StreamFuser$Plan" "StreamFuser$Plan" "size" "I") ∈ sf_T := sf_T_1 87 rfl rfl
theorem wt_232 : (Cond.laysFinal "StreamFuser$Plan" "StreamFuser$Plan" "end" "[I") ∈ sf_T := sf_T_1 89 rfl rfl
theorem wt_234 : (Cond.laysFinal "StreamFuser$Plan" "StreamFuser$Plan" "within" "[I") ∈ sf_T := sf_T_1 91 rfl rfl
theorem wt_236 : (Cond.laysFinal "StreamFuser$Plan" "StreamFuser$Plan" "nested" "[I") ∈ sf_T := sf_T_1 93 rfl rfl
theorem wt_238 : (Cond.laysFinal "StreamFuser$Plan" "StreamFuser$Plan" "opener" "[I") ∈ sf_T := sf_T_1 95 rfl rfl
theorem wt_240 : (Cond.laysFinal "StreamFuser$Plan" "StreamFuser$Plan" "pure" "[Z") ∈ sf_T := sf_T_1 97 rfl rfl
theorem wt_242 : (Cond.lays "StreamFuser$Plan" "StreamFuser$Plan" "deepest" "I") ∈ sf_T := sf_T_1 99 rfl rfl
theorem wt_244 : (Cond.lays "StreamFuser$Plan" "StreamFuser$Plan" "endless" "Z") ∈ sf_T := sf_T_1 101 rfl rfl
theorem wt_251 : (Cond.methodLinkNest "StreamFuser" (22 : Nat) ({ cls := "StreamFuser$Printer", name := "<init>", desc := "(LStreamFuser$Plan;)V" } : MethodName) "StreamFuser") ∈ sf_N := sf_N_1 108 rfl rfl
theorem wt_252 : (Cond.instanceMethod ({ cls := "StreamFuser$Printer", name := "<init>", desc := "(LStreamFuser$Plan;)V" } : MethodName)) ∈ sf_T := sf_T_1 109 rfl rfl
theorem wt_254 : (Cond.methodLink "StreamFuser$Printer" (1 : Nat) ({ cls := "java/lang/Object", name := "<init>", desc := "()V" } : MethodName)) ∈ sf_T := sf_T_1 111 rfl rfl
theorem wt_255 : (Cond.fieldLink "StreamFuser$Printer" (13 : Nat) "StreamFuser$Printer" "source" "LStreamFuser$Plan;") ∈ sf_T := sf_T_1 112 rfl rfl
theorem wt_256 : (Cond.fieldLink "StreamFuser$Printer" (9 : Nat) "StreamFuser$Printer" "bytes" "[B") ∈ sf_T := sf_T_1 113 rfl rfl
theorem wt_257 : (Cond.fieldLinkNest "StreamFuser" (138 : Nat) "StreamFuser$Printer" "bytes" "[B" "StreamFuser") ∈ sf_N := sf_N_1 114 rfl rfl
theorem wt_258 : (Cond.fieldLink "StreamFuser$Printer" (17 : Nat) "StreamFuser$Printer" "length" "I") ∈ sf_T := sf_T_1 115 rfl rfl
theorem wt_259 : (Cond.fieldLinkNest "StreamFuser" (137 : Nat) "StreamFuser$Printer" "length" "I" "StreamFuser") ∈ sf_N := sf_N_1 116 rfl rfl
theorem wt_260 : (Cond.laysFinal "StreamFuser$Printer" "StreamFuser$Printer" "source" "LStreamFuser$Plan;") ∈ sf_T := sf_T_1 117 rfl rfl
theorem wt_262 : (Cond.laysFinal "StreamFuser$Printer" "StreamFuser$Printer" "bytes" "[B") ∈ sf_T := sf_T_1 119 rfl rfl
theorem wt_264 : (Cond.lays "StreamFuser$Printer" "StreamFuser$Printer" "length" "I") ∈ sf_T := sf_T_1 121 rfl rfl
theorem wt_270 : (Cond.methodLinkNest "StreamFuser" (31 : Nat) ({ cls := "StreamFuser$Rewriter", name := "<init>", desc := "(LStreamFuser$Plan;)V" } : MethodName) "StreamFuser") ∈ sf_N := sf_N_1 127 rfl rfl
theorem wt_271 : (Cond.instanceMethod ({ cls := "StreamFuser$Rewriter", name := "<init>", desc := "(LStreamFuser$Plan;)V" } : MethodName)) ∈ sf_T := sf_T_1 128 rfl rfl
theorem wt_273 : (Cond.methodLink "StreamFuser$Rewriter" (3 : Nat) ({ cls := "java/lang/Object", name := "<init>", desc := "()V" } : MethodName)) ∈ sf_T := sf_T_1 130 rfl rfl
theorem wt_274 : (Cond.fieldLink "StreamFuser$Rewriter" (15 : Nat) "StreamFuser$Rewriter" "plan" "LStreamFuser$Plan;") ∈ sf_T := sf_T_1 131 rfl rfl
theorem wt_275 : (Cond.fieldLink "StreamFuser$Rewriter" (9 : Nat) "StreamFuser$Rewriter" "applied" "[I") ∈ sf_T := sf_T_1 132 rfl rfl
theorem wt_276 : (Cond.fieldLinkNest "StreamFuser" (149 : Nat) "StreamFuser$Rewriter" "applied" "[I" "StreamFuser") ∈ sf_N := sf_N_1 133 rfl rfl
theorem wt_277 : (Cond.fieldLink "StreamFuser$Rewriter" (19 : Nat) "StreamFuser$Rewriter" "total" "I") ∈ sf_T := sf_T_1 134 rfl rfl
theorem wt_278 : (Cond.fieldLinkNest "StreamFuser" (146 : Nat) "StreamFuser$Rewriter" "total" "I" "StreamFuser") ∈ sf_N := sf_N_1 135 rfl rfl
theorem wt_279 : (Cond.laysFinal "StreamFuser$Rewriter" "StreamFuser$Rewriter" "plan" "LStreamFuser$Plan;") ∈ sf_T := sf_T_1 136 rfl rfl
theorem wt_281 : (Cond.laysFinal "StreamFuser$Rewriter" "StreamFuser$Rewriter" "applied" "[I") ∈ sf_T := sf_T_1 138 rfl rfl
theorem wt_283 : (Cond.lays "StreamFuser$Rewriter" "StreamFuser$Rewriter" "total" "I") ∈ sf_T := sf_T_1 140 rfl rfl
theorem wt_288 : (Cond.methodLinkNest "StreamFuser" (38 : Nat) ({ cls := "StreamFuser$Sheets", name := "<init>", desc := "()V" } : MethodName) "StreamFuser") ∈ sf_N := sf_N_1 145 rfl rfl
theorem wt_289 : (Cond.instanceMethod ({ cls := "StreamFuser$Sheets", name := "<init>", desc := "()V" } : MethodName)) ∈ sf_T := sf_T_1 146 rfl rfl
theorem wt_291 : (Cond.methodLink "StreamFuser$Sheets" (3 : Nat) ({ cls := "java/lang/Object", name := "<init>", desc := "()V" } : MethodName)) ∈ sf_T := sf_T_1 148 rfl rfl
theorem wt_292 : (Cond.fieldLink "StreamFuser$Sheets" (9 : Nat) "StreamFuser$Sheets" "form" "[I") ∈ sf_T := sf_T_1 149 rfl rfl
theorem wt_293 : (Cond.fieldLinkNest "StreamFuser" (237 : Nat) "StreamFuser$Sheets" "form" "[I" "StreamFuser") ∈ sf_N := sf_N_1 150 rfl rfl
theorem wt_294 : (Cond.fieldLink "StreamFuser$Sheets" (15 : Nat) "StreamFuser$Sheets" "length" "[I") ∈ sf_T := sf_T_1 151 rfl rfl
theorem wt_295 : (Cond.fieldLinkNest "StreamFuser$Way" (83 : Nat) "StreamFuser$Sheets" "length" "[I" "StreamFuser") ∈ sf_N := sf_N_1 152 rfl rfl
theorem wt_296 : (Cond.fieldLinkNest "StreamFuser" (224 : Nat) "StreamFuser$Sheets" "length" "[I" "StreamFuser") ∈ sf_N := sf_N_1 153 rfl rfl
theorem wt_297 : (Cond.fieldLink "StreamFuser$Sheets" (18 : Nat) "StreamFuser$Sheets" "elements" "[I") ∈ sf_T := sf_T_1 154 rfl rfl
theorem wt_298 : (Cond.laysFinal "StreamFuser$Sheets" "StreamFuser$Sheets" "form" "[I") ∈ sf_T := sf_T_1 155 rfl rfl
theorem wt_300 : (Cond.laysFinal "StreamFuser$Sheets" "StreamFuser$Sheets" "length" "[I") ∈ sf_T := sf_T_1 157 rfl rfl
theorem wt_302 : (Cond.laysFinal "StreamFuser$Sheets" "StreamFuser$Sheets" "elements" "[I") ∈ sf_T := sf_T_1 159 rfl rfl
theorem wt_307 : (Cond.methodLinkNest "StreamFuser" (45 : Nat) ({ cls := "StreamFuser$Run", name := "<init>", desc := "()V" } : MethodName) "StreamFuser") ∈ sf_N := sf_N_1 164 rfl rfl
theorem wt_308 : (Cond.instanceMethod ({ cls := "StreamFuser$Run", name := "<init>", desc := "()V" } : MethodName)) ∈ sf_T := sf_T_1 165 rfl rfl
theorem wt_310 : (Cond.methodLink "StreamFuser$Run" (3 : Nat) ({ cls := "java/lang/Object", name := "<init>", desc := "()V" } : MethodName)) ∈ sf_T := sf_T_1 167 rfl rfl
theorem wt_311 : (Cond.fieldLink "StreamFuser$Run" (9 : Nat) "StreamFuser$Run" "numbers" "[I") ∈ sf_T := sf_T_1 168 rfl rfl
theorem wt_312 : (Cond.fieldLinkNest "StreamFuser" (166 : Nat) "StreamFuser$Run" "numbers" "[I" "StreamFuser") ∈ sf_N := sf_N_1 169 rfl rfl
theorem wt_313 : (Cond.fieldLink "StreamFuser$Run" (21 : Nat) "StreamFuser$Run" "size" "I") ∈ sf_T := sf_T_1 170 rfl rfl
theorem wt_314 : (Cond.fieldLinkNest "StreamFuser$Stepper" (40 : Nat) "StreamFuser$Run" "size" "I" "StreamFuser") ∈ sf_N := sf_N_1 171 rfl rfl
theorem wt_315 : (Cond.fieldLinkNest "StreamFuser" (165 : Nat) "StreamFuser$Run" "size" "I" "StreamFuser") ∈ sf_N := sf_N_1 172 rfl rfl
theorem wt_316 : (Cond.fieldLink "StreamFuser$Run" (25 : Nat) "StreamFuser$Run" "drawn" "I") ∈ sf_T := sf_T_1 173 rfl rfl
theorem wt_317 : (Cond.fieldLinkNest "StreamFuser" (156 : Nat) "StreamFuser$Run" "drawn" "I" "StreamFuser") ∈ sf_N := sf_N_1 174 rfl rfl
theorem wt_318 : (Cond.fieldLink "StreamFuser$Run" (28 : Nat) "StreamFuser$Run" "work" "I") ∈ sf_T := sf_T_1 175 rfl rfl
theorem wt_319 : (Cond.fieldLinkNest "StreamFuser$Stepper" (41 : Nat) "StreamFuser$Run" "work" "I" "StreamFuser") ∈ sf_N := sf_N_1 176 rfl rfl
theorem wt_320 : (Cond.fieldLinkNest "StreamFuser$Asker" (50 : Nat) "StreamFuser$Run" "work" "I" "StreamFuser") ∈ sf_N := sf_N_1 177 rfl rfl
theorem wt_321 : (Cond.fieldLinkNest "StreamFuser$Maker" (49 : Nat) "StreamFuser$Run" "work" "I" "StreamFuser") ∈ sf_N := sf_N_1 178 rfl rfl
theorem wt_322 : (Cond.fieldLinkNest "StreamFuser" (189 : Nat) "StreamFuser$Run" "work" "I" "StreamFuser") ∈ sf_N := sf_N_1 179 rfl rfl
theorem wt_323 : (Cond.fieldLink "StreamFuser$Run" (31 : Nat) "StreamFuser$Run" "elements" "I") ∈ sf_T := sf_T_1 180 rfl rfl
theorem wt_324 : (Cond.fieldLinkNest "StreamFuser$Maker" (53 : Nat) "StreamFuser$Run" "elements" "I" "StreamFuser") ∈ sf_N := sf_N_1 181 rfl rfl
theorem wt_325 : (Cond.fieldLinkNest "StreamFuser" (192 : Nat) "StreamFuser$Run" "elements" "I" "StreamFuser") ∈ sf_N := sf_N_1 182 rfl rfl
theorem wt_326 : (Cond.fieldLink "StreamFuser$Run" (34 : Nat) "StreamFuser$Run" "failure" "I") ∈ sf_T := sf_T_1 183 rfl rfl
theorem wt_327 : (Cond.fieldLinkNest "StreamFuser" (183 : Nat) "StreamFuser$Run" "failure" "I" "StreamFuser") ∈ sf_N := sf_N_1 184 rfl rfl
theorem wt_328 : (Cond.fieldLink "StreamFuser$Run" (37 : Nat) "StreamFuser$Run" "failureDepth" "I") ∈ sf_T := sf_T_1 185 rfl rfl
theorem wt_329 : (Cond.fieldLinkNest "StreamFuser" (186 : Nat) "StreamFuser$Run" "failureDepth" "I" "StreamFuser") ∈ sf_N := sf_N_1 186 rfl rfl
theorem wt_330 : (Cond.fieldLink "StreamFuser$Run" (15 : Nat) "StreamFuser$Run" "digits" "[I") ∈ sf_T := sf_T_1 187 rfl rfl
theorem wt_331 : (Cond.fieldLinkNest "StreamFuser" (201 : Nat) "StreamFuser$Run" "digits" "[I" "StreamFuser") ∈ sf_N := sf_N_1 188 rfl rfl
theorem wt_332 : (Cond.fieldLink "StreamFuser$Run" (18 : Nat) "StreamFuser$Run" "notes" "[I") ∈ sf_T := sf_T_1 189 rfl rfl
theorem wt_333 : (Cond.fieldLinkNest "StreamFuser" (204 : Nat) "StreamFuser$Run" "notes" "[I" "StreamFuser") ∈ sf_N := sf_N_1 190 rfl rfl
theorem wt_334 : (Cond.fieldLink "StreamFuser$Run" (40 : Nat) "StreamFuser$Run" "pairs" "I") ∈ sf_T := sf_T_1 191 rfl rfl
theorem wt_335 : (Cond.fieldLinkNest "StreamFuser" (195 : Nat) "StreamFuser$Run" "pairs" "I" "StreamFuser") ∈ sf_N := sf_N_1 192 rfl rfl
theorem wt_336 : (Cond.laysFinal "StreamFuser$Run" "StreamFuser$Run" "numbers" "[I") ∈ sf_T := sf_T_1 193 rfl rfl
theorem wt_338 : (Cond.lays "StreamFuser$Run" "StreamFuser$Run" "size" "I") ∈ sf_T := sf_T_1 195 rfl rfl
theorem wt_340 : (Cond.lays "StreamFuser$Run" "StreamFuser$Run" "drawn" "I") ∈ sf_T := sf_T_1 197 rfl rfl
theorem wt_342 : (Cond.lays "StreamFuser$Run" "StreamFuser$Run" "work" "I") ∈ sf_T := sf_T_1 199 rfl rfl
theorem wt_344 : (Cond.lays "StreamFuser$Run" "StreamFuser$Run" "elements" "I") ∈ sf_T := sf_T_1 201 rfl rfl
theorem wt_346 : (Cond.lays "StreamFuser$Run" "StreamFuser$Run" "failure" "I") ∈ sf_T := sf_T_1 203 rfl rfl
theorem wt_348 : (Cond.lays "StreamFuser$Run" "StreamFuser$Run" "failureDepth" "I") ∈ sf_T := sf_T_1 205 rfl rfl
theorem wt_350 : (Cond.laysFinal "StreamFuser$Run" "StreamFuser$Run" "digits" "[I") ∈ sf_T := sf_T_1 207 rfl rfl
theorem wt_352 : (Cond.laysFinal "StreamFuser$Run" "StreamFuser$Run" "notes" "[I") ∈ sf_T := sf_T_1 209 rfl rfl
theorem wt_354 : (Cond.lays "StreamFuser$Run" "StreamFuser$Run" "pairs" "I") ∈ sf_T := sf_T_1 211 rfl rfl
theorem wt_359 : (Cond.methodLinkNest "StreamFuser" (52 : Nat) ({ cls := "StreamFuser$Asker", name := "<init>", desc := "(LStreamFuser$Plan;LStreamFuser$Run;LStreamFuser$Sheets;)V" } : MethodName) "StreamFuser") ∈ sf_N := sf_N_1 216 rfl rfl
theorem wt_360 : (Cond.instanceMethod ({ cls := "StreamFuser$Asker", name := "<init>", desc := "(LStreamFuser$Plan;LStreamFuser$Run;LStreamFuser$Sheets;)V" } : MethodName)) ∈ sf_T := sf_T_1 217 rfl rfl
theorem wt_362 : (Cond.methodLink "StreamFuser$Asker" (3 : Nat) ({ cls := "StreamFuser$Walk", name := "<init>", desc := "(LStreamFuser$Plan;LStreamFuser$Run;LStreamFuser$Sheets;)V" } : MethodName)) ∈ sf_T := sf_T_1 219 rfl rfl
theorem wt_363 : (Cond.instanceMethod ({ cls := "StreamFuser$Walk", name := "<init>", desc := "(LStreamFuser$Plan;LStreamFuser$Run;LStreamFuser$Sheets;)V" } : MethodName)) ∈ sf_T := sf_T_1 220 rfl rfl
theorem wt_365 : (Cond.methodLink "StreamFuser$Walk" (3 : Nat) ({ cls := "StreamFuser$Way", name := "<init>", desc := "(LStreamFuser$Plan;LStreamFuser$Run;LStreamFuser$Sheets;)V" } : MethodName)) ∈ sf_T := sf_T_1 222 rfl rfl
theorem wt_366 : (Cond.instanceMethod ({ cls := "StreamFuser$Way", name := "<init>", desc := "(LStreamFuser$Plan;LStreamFuser$Run;LStreamFuser$Sheets;)V" } : MethodName)) ∈ sf_T := sf_T_1 223 rfl rfl
theorem wt_368 : (Cond.methodLink "StreamFuser$Way" (3 : Nat) ({ cls := "java/lang/Object", name := "<init>", desc := "()V" } : MethodName)) ∈ sf_T := sf_T_1 225 rfl rfl
theorem wt_369 : (Cond.fieldLink "StreamFuser$Walk" (9 : Nat) "StreamFuser$Walk" "used" "[I") ∈ sf_T := sf_T_1 226 rfl rfl
theorem wt_370 : (Cond.fieldLink "StreamFuser$Stepper" (81 : Nat) "StreamFuser$Stepper" "used" "[I") ∈ sf_T := sf_T_1 227 rfl rfl
theorem wt_371 : (Cond.sameField "StreamFuser$Stepper" "StreamFuser$Walk" "used" "[I") ∈ sf_T := sf_T_1 228 rfl rfl
theorem wt_372 : (Cond.fieldLink "StreamFuser$Asker" (92 : Nat) "StreamFuser$Asker" "used" "[I") ∈ sf_T := sf_T_1 229 rfl rfl
theorem wt_373 : (Cond.sameField "StreamFuser$Asker" "StreamFuser$Walk" "used" "[I") ∈ sf_T := sf_T_1 230 rfl rfl
theorem wt_374 : (Cond.fieldLink "StreamFuser$Walk" (15 : Nat) "StreamFuser$Walk" "turned" "[Z") ∈ sf_T := sf_T_1 231 rfl rfl
theorem wt_375 : (Cond.fieldLink "StreamFuser$Asker" (88 : Nat) "StreamFuser$Asker" "turned" "[Z") ∈ sf_T := sf_T_1 232 rfl rfl
theorem wt_376 : (Cond.sameField "StreamFuser$Asker" "StreamFuser$Walk" "turned" "[Z") ∈ sf_T := sf_T_1 233 rfl rfl
theorem wt_377 : (Cond.fieldLink "StreamFuser$Stepper" (98 : Nat) "StreamFuser$Stepper" "turned" "[Z") ∈ sf_T := sf_T_1 234 rfl rfl
theorem wt_378 : (Cond.sameField "StreamFuser$Stepper" "StreamFuser$Walk" "turned" "[Z") ∈ sf_T := sf_T_1 235 rfl rfl
theorem wt_379 : (Cond.fieldLink "StreamFuser$Way" (15 : Nat) "StreamFuser$Way" "plan" "LStreamFuser$Plan;") ∈ sf_T := sf_T_1 236 rfl rfl
theorem wt_380 : (Cond.fieldLink "StreamFuser$Asker" (21 : Nat) "StreamFuser$Asker" "plan" "LStreamFuser$Plan;") ∈ sf_T := sf_T_1 237 rfl rfl
theorem wt_381 : (Cond.sameField "StreamFuser$Asker" "StreamFuser$Way" "plan" "LStreamFuser$Plan;") ∈ sf_T := sf_T_1 238 rfl rfl
theorem wt_382 : (Cond.fieldLink "StreamFuser$Stepper" (25 : Nat) "StreamFuser$Stepper" "plan" "LStreamFuser$Plan;") ∈ sf_T := sf_T_1 239 rfl rfl
theorem wt_383 : (Cond.sameField "StreamFuser$Stepper" "StreamFuser$Way" "plan" "LStreamFuser$Plan;") ∈ sf_T := sf_T_2 0 rfl rfl
theorem wt_384 : (Cond.fieldLink "StreamFuser$Walk" (25 : Nat) "StreamFuser$Walk" "plan" "LStreamFuser$Plan;") ∈ sf_T := sf_T_2 1 rfl rfl
theorem wt_385 : (Cond.sameField "StreamFuser$Walk" "StreamFuser$Way" "plan" "LStreamFuser$Plan;") ∈ sf_T := sf_T_2 2 rfl rfl
theorem wt_386 : (Cond.fieldLink "StreamFuser$Maker" (36 : Nat) "StreamFuser$Maker" "plan" "LStreamFuser$Plan;") ∈ sf_T := sf_T_2 3 rfl rfl
theorem wt_387 : (Cond.sameField "StreamFuser$Maker" "StreamFuser$Way" "plan" "LStreamFuser$Plan;") ∈ sf_T := sf_T_2 4 rfl rfl
theorem wt_388 : (Cond.fieldLink "StreamFuser$Way" (19 : Nat) "StreamFuser$Way" "run" "LStreamFuser$Run;") ∈ sf_T := sf_T_2 5 rfl rfl
theorem wt_389 : (Cond.fieldLink "StreamFuser$Asker" (9 : Nat) "StreamFuser$Asker" "run" "LStreamFuser$Run;") ∈ sf_T := sf_T_2 6 rfl rfl
theorem wt_390 : (Cond.sameField "StreamFuser$Asker" "StreamFuser$Way" "run" "LStreamFuser$Run;") ∈ sf_T := sf_T_2 7 rfl rfl
theorem wt_391 : (Cond.fieldLink "StreamFuser$Stepper" (15 : Nat) "StreamFuser$Stepper" "run" "LStreamFuser$Run;") ∈ sf_T := sf_T_2 8 rfl rfl
theorem wt_392 : (Cond.sameField "StreamFuser$Stepper" "StreamFuser$Way" "run" "LStreamFuser$Run;") ∈ sf_T := sf_T_2 9 rfl rfl
theorem wt_393 : (Cond.fieldLink "StreamFuser$Maker" (18 : Nat) "StreamFuser$Maker" "run" "LStreamFuser$Run;") ∈ sf_T := sf_T_2 10 rfl rfl
theorem wt_394 : (Cond.sameField "StreamFuser$Maker" "StreamFuser$Way" "run" "LStreamFuser$Run;") ∈ sf_T := sf_T_2 11 rfl rfl
theorem wt_395 : (Cond.fieldLink "StreamFuser$Walk" (57 : Nat) "StreamFuser$Walk" "run" "LStreamFuser$Run;") ∈ sf_T := sf_T_2 12 rfl rfl
theorem wt_396 : (Cond.sameField "StreamFuser$Walk" "StreamFuser$Way" "run" "LStreamFuser$Run;") ∈ sf_T := sf_T_2 13 rfl rfl
theorem wt_397 : (Cond.fieldLink "StreamFuser$Way" (23 : Nat) "StreamFuser$Way" "sheets" "LStreamFuser$Sheets;") ∈ sf_T := sf_T_2 14 rfl rfl
theorem wt_398 : (Cond.fieldLink "StreamFuser$Way" (9 : Nat) "StreamFuser$Way" "opened" "[I") ∈ sf_T := sf_T_2 15 rfl rfl
theorem wt_399 : (Cond.fieldLink "StreamFuser$Walk" (39 : Nat) "StreamFuser$Walk" "opened" "[I") ∈ sf_T := sf_T_2 16 rfl rfl
theorem wt_400 : (Cond.sameField "StreamFuser$Walk" "StreamFuser$Way" "opened" "[I") ∈ sf_T := sf_T_2 17 rfl rfl
theorem wt_401 : (Cond.fieldLink "StreamFuser$Maker" (125 : Nat) "StreamFuser$Maker" "opened" "[I") ∈ sf_T := sf_T_2 18 rfl rfl
theorem wt_402 : (Cond.sameField "StreamFuser$Maker" "StreamFuser$Way" "opened" "[I") ∈ sf_T := sf_T_2 19 rfl rfl
theorem wt_403 : (Cond.fieldLink "StreamFuser$Asker" (39 : Nat) "StreamFuser$Asker" "value" "I") ∈ sf_T := sf_T_2 20 rfl rfl
theorem wt_404 : (Cond.sameField "StreamFuser$Asker" "StreamFuser$Way" "value" "I") ∈ sf_T := sf_T_2 21 rfl rfl
theorem wt_405 : (Cond.fieldLink "StreamFuser$Stepper" (48 : Nat) "StreamFuser$Stepper" "value" "I") ∈ sf_T := sf_T_2 22 rfl rfl
theorem wt_406 : (Cond.sameField "StreamFuser$Stepper" "StreamFuser$Way" "value" "I") ∈ sf_T := sf_T_2 23 rfl rfl
theorem wt_407 : (Cond.fieldLink "StreamFuser$Walk" (69 : Nat) "StreamFuser$Walk" "value" "I") ∈ sf_T := sf_T_2 24 rfl rfl
theorem wt_408 : (Cond.sameField "StreamFuser$Walk" "StreamFuser$Way" "value" "I") ∈ sf_T := sf_T_2 25 rfl rfl
theorem wt_409 : (Cond.fieldLink "StreamFuser$Way" (95 : Nat) "StreamFuser$Way" "value" "I") ∈ sf_T := sf_T_2 26 rfl rfl
theorem wt_410 : (Cond.fieldLink "StreamFuser$Maker" (122 : Nat) "StreamFuser$Maker" "value" "I") ∈ sf_T := sf_T_2 27 rfl rfl
theorem wt_411 : (Cond.sameField "StreamFuser$Maker" "StreamFuser$Way" "value" "I") ∈ sf_T := sf_T_2 28 rfl rfl
theorem wt_412 : (Cond.laysFinal "StreamFuser$Asker" "StreamFuser$Walk" "used" "[I") ∈ sf_T := sf_T_2 29 rfl rfl
theorem wt_414 : (Cond.laysFinal "StreamFuser$Asker" "StreamFuser$Walk" "turned" "[Z") ∈ sf_T := sf_T_2 31 rfl rfl
theorem wt_416 : (Cond.laysFinal "StreamFuser$Asker" "StreamFuser$Way" "plan" "LStreamFuser$Plan;") ∈ sf_T := sf_T_2 33 rfl rfl
theorem wt_418 : (Cond.laysFinal "StreamFuser$Asker" "StreamFuser$Way" "run" "LStreamFuser$Run;") ∈ sf_T := sf_T_2 35 rfl rfl
theorem wt_420 : (Cond.laysFinal "StreamFuser$Asker" "StreamFuser$Way" "sheets" "LStreamFuser$Sheets;") ∈ sf_T := sf_T_2 37 rfl rfl
theorem wt_422 : (Cond.laysFinal "StreamFuser$Asker" "StreamFuser$Way" "opened" "[I") ∈ sf_T := sf_T_2 39 rfl rfl
theorem wt_424 : (Cond.lays "StreamFuser$Asker" "StreamFuser$Way" "value" "I") ∈ sf_T := sf_T_2 41 rfl rfl
theorem wt_429 : (Cond.methodLinkNest "StreamFuser" (61 : Nat) ({ cls := "StreamFuser$Stepper", name := "<init>", desc := "(LStreamFuser$Plan;LStreamFuser$Run;LStreamFuser$Sheets;)V" } : MethodName) "StreamFuser") ∈ sf_N := sf_N_2 46 rfl rfl
theorem wt_430 : (Cond.instanceMethod ({ cls := "StreamFuser$Stepper", name := "<init>", desc := "(LStreamFuser$Plan;LStreamFuser$Run;LStreamFuser$Sheets;)V" } : MethodName)) ∈ sf_T := sf_T_2 47 rfl rfl
theorem wt_432 : (Cond.methodLink "StreamFuser$Stepper" (3 : Nat) ({ cls := "StreamFuser$Walk", name := "<init>", desc := "(LStreamFuser$Plan;LStreamFuser$Run;LStreamFuser$Sheets;)V" } : MethodName)) ∈ sf_T := sf_T_2 49 rfl rfl
theorem wt_433 : (Cond.fieldLink "StreamFuser$Stepper" (9 : Nat) "StreamFuser$Stepper" "held" "[I") ∈ sf_T := sf_T_2 50 rfl rfl
theorem wt_434 : (Cond.laysFinal "StreamFuser$Stepper" "StreamFuser$Stepper" "held" "[I") ∈ sf_T := sf_T_2 51 rfl rfl
theorem wt_436 : (Cond.laysFinal "StreamFuser$Stepper" "StreamFuser$Walk" "used" "[I") ∈ sf_T := sf_T_2 53 rfl rfl
theorem wt_437 : (Cond.laysFinal "StreamFuser$Stepper" "StreamFuser$Walk" "turned" "[Z") ∈ sf_T := sf_T_2 54 rfl rfl
theorem wt_438 : (Cond.laysFinal "StreamFuser$Stepper" "StreamFuser$Way" "plan" "LStreamFuser$Plan;") ∈ sf_T := sf_T_2 55 rfl rfl
theorem wt_439 : (Cond.laysFinal "StreamFuser$Stepper" "StreamFuser$Way" "run" "LStreamFuser$Run;") ∈ sf_T := sf_T_2 56 rfl rfl
theorem wt_440 : (Cond.laysFinal "StreamFuser$Stepper" "StreamFuser$Way" "sheets" "LStreamFuser$Sheets;") ∈ sf_T := sf_T_2 57 rfl rfl
theorem wt_441 : (Cond.laysFinal "StreamFuser$Stepper" "StreamFuser$Way" "opened" "[I") ∈ sf_T := sf_T_2 58 rfl rfl
theorem wt_442 : (Cond.lays "StreamFuser$Stepper" "StreamFuser$Way" "value" "I") ∈ sf_T := sf_T_2 59 rfl rfl
theorem wt_446 : (Cond.methodLinkNest "StreamFuser" (68 : Nat) ({ cls := "StreamFuser$Maker", name := "<init>", desc := "(LStreamFuser$Plan;LStreamFuser$Run;LStreamFuser$Sheets;)V" } : MethodName) "StreamFuser") ∈ sf_N := sf_N_2 63 rfl rfl
theorem wt_447 : (Cond.instanceMethod ({ cls := "StreamFuser$Maker", name := "<init>", desc := "(LStreamFuser$Plan;LStreamFuser$Run;LStreamFuser$Sheets;)V" } : MethodName)) ∈ sf_T := sf_T_2 64 rfl rfl
theorem wt_449 : (Cond.methodLink "StreamFuser$Maker" (3 : Nat) ({ cls := "StreamFuser$Way", name := "<init>", desc := "(LStreamFuser$Plan;LStreamFuser$Run;LStreamFuser$Sheets;)V" } : MethodName)) ∈ sf_T := sf_T_2 66 rfl rfl
theorem wt_450 : (Cond.fieldLink "StreamFuser$Maker" (9 : Nat) "StreamFuser$Maker" "rows" "[I") ∈ sf_T := sf_T_2 67 rfl rfl
theorem wt_451 : (Cond.fieldLink "StreamFuser$Maker" (15 : Nat) "StreamFuser$Maker" "length" "[I") ∈ sf_T := sf_T_2 68 rfl rfl
theorem wt_452 : (Cond.laysFinal "StreamFuser$Maker" "StreamFuser$Maker" "rows" "[I") ∈ sf_T := sf_T_2 69 rfl rfl
theorem wt_454 : (Cond.laysFinal "StreamFuser$Maker" "StreamFuser$Maker" "length" "[I") ∈ sf_T := sf_T_2 71 rfl rfl
theorem wt_456 : (Cond.laysFinal "StreamFuser$Maker" "StreamFuser$Way" "plan" "LStreamFuser$Plan;") ∈ sf_T := sf_T_2 73 rfl rfl
theorem wt_457 : (Cond.laysFinal "StreamFuser$Maker" "StreamFuser$Way" "run" "LStreamFuser$Run;") ∈ sf_T := sf_T_2 74 rfl rfl
theorem wt_458 : (Cond.laysFinal "StreamFuser$Maker" "StreamFuser$Way" "sheets" "LStreamFuser$Sheets;") ∈ sf_T := sf_T_2 75 rfl rfl
theorem wt_459 : (Cond.laysFinal "StreamFuser$Maker" "StreamFuser$Way" "opened" "[I") ∈ sf_T := sf_T_2 76 rfl rfl
theorem wt_460 : (Cond.lays "StreamFuser$Maker" "StreamFuser$Way" "value" "I") ∈ sf_T := sf_T_2 77 rfl rfl
theorem wt_464 : (Cond.methodLinkNest "StreamFuser" (78 : Nat) ({ cls := "StreamFuser$Reader", name := "<init>", desc := "(LStreamFuser$Plan;)V" } : MethodName) "StreamFuser") ∈ sf_N := sf_N_2 81 rfl rfl
theorem wt_465 : (Cond.instanceMethod ({ cls := "StreamFuser$Reader", name := "<init>", desc := "(LStreamFuser$Plan;)V" } : MethodName)) ∈ sf_T := sf_T_2 82 rfl rfl
theorem wt_467 : (Cond.methodLink "StreamFuser$Reader" (3 : Nat) ({ cls := "java/lang/Object", name := "<init>", desc := "()V" } : MethodName)) ∈ sf_T := sf_T_2 84 rfl rfl
theorem wt_468 : (Cond.fieldLink "StreamFuser$Reader" (18 : Nat) "StreamFuser$Reader" "target" "LStreamFuser$Plan;") ∈ sf_T := sf_T_2 85 rfl rfl
theorem wt_469 : (Cond.fieldLink "StreamFuser$Reader" (9 : Nat) "StreamFuser$Reader" "bytes" "[I") ∈ sf_T := sf_T_2 86 rfl rfl
theorem wt_470 : (Cond.fieldLink "StreamFuser$Reader" (22 : Nat) "StreamFuser$Reader" "length" "I") ∈ sf_T := sf_T_2 87 rfl rfl
theorem wt_471 : (Cond.fieldLinkNest "StreamFuser" (96 : Nat) "StreamFuser$Reader" "length" "I" "StreamFuser") ∈ sf_N := sf_N_2 88 rfl rfl
theorem wt_472 : (Cond.fieldLink "StreamFuser$Reader" (15 : Nat) "StreamFuser$Reader" "due" "[I") ∈ sf_T := sf_T_2 89 rfl rfl
theorem wt_473 : (Cond.fieldLink "StreamFuser$Reader" (37 : Nat) "StreamFuser$Reader" "dues" "I") ∈ sf_T := sf_T_2 90 rfl rfl
theorem wt_474 : (Cond.fieldLink "StreamFuser$Reader" (31 : Nat) "StreamFuser$Reader" "at" "I") ∈ sf_T := sf_T_2 91 rfl rfl
theorem wt_475 : (Cond.fieldLink "StreamFuser$Reader" (34 : Nat) "StreamFuser$Reader" "fault" "I") ∈ sf_T := sf_T_2 92 rfl rfl
theorem wt_476 : (Cond.laysFinal "StreamFuser$Reader" "StreamFuser$Reader" "target" "LStreamFuser$Plan;") ∈ sf_T := sf_T_2 93 rfl rfl
theorem wt_478 : (Cond.laysFinal "StreamFuser$Reader" "StreamFuser$Reader" "bytes" "[I") ∈ sf_T := sf_T_2 95 rfl rfl
theorem wt_480 : (Cond.lays "StreamFuser$Reader" "StreamFuser$Reader" "length" "I") ∈ sf_T := sf_T_2 97 rfl rfl
theorem wt_482 : (Cond.laysFinal "StreamFuser$Reader" "StreamFuser$Reader" "due" "[I") ∈ sf_T := sf_T_2 99 rfl rfl
theorem wt_484 : (Cond.lays "StreamFuser$Reader" "StreamFuser$Reader" "dues" "I") ∈ sf_T := sf_T_2 101 rfl rfl
theorem wt_486 : (Cond.lays "StreamFuser$Reader" "StreamFuser$Reader" "at" "I") ∈ sf_T := sf_T_2 103 rfl rfl
theorem wt_488 : (Cond.lays "StreamFuser$Reader" "StreamFuser$Reader" "fault" "I") ∈ sf_T := sf_T_2 105 rfl rfl
theorem wt_491 : (Cond.fieldLink "StreamFuser" (16 : Nat) "StreamFuser" "main" "LStreamFuser$Plan;") ∈ sf_T := sf_T_2 108 rfl rfl
theorem wt_492 : (Cond.fieldLink "StreamFuser" (25 : Nat) "StreamFuser" "printer" "LStreamFuser$Printer;") ∈ sf_T := sf_T_2 109 rfl rfl
theorem wt_493 : (Cond.fieldLink "StreamFuser" (32 : Nat) "StreamFuser" "rewriter" "LStreamFuser$Rewriter;") ∈ sf_T := sf_T_2 110 rfl rfl
theorem wt_494 : (Cond.fieldLink "StreamFuser" (39 : Nat) "StreamFuser" "sheets" "LStreamFuser$Sheets;") ∈ sf_T := sf_T_2 111 rfl rfl
theorem wt_495 : (Cond.fieldLink "StreamFuser" (46 : Nat) "StreamFuser" "latest" "LStreamFuser$Run;") ∈ sf_T := sf_T_2 112 rfl rfl
theorem wt_496 : (Cond.fieldLink "StreamFuser" (55 : Nat) "StreamFuser" "asker" "LStreamFuser$Asker;") ∈ sf_T := sf_T_2 113 rfl rfl
theorem wt_497 : (Cond.fieldLink "StreamFuser" (62 : Nat) "StreamFuser" "stepper" "LStreamFuser$Stepper;") ∈ sf_T := sf_T_2 114 rfl rfl
theorem wt_498 : (Cond.fieldLink "StreamFuser" (69 : Nat) "StreamFuser" "maker" "LStreamFuser$Maker;") ∈ sf_T := sf_T_2 115 rfl rfl
theorem wt_499 : (Cond.fieldLink "StreamFuser" (73 : Nat) "StreamFuser" "draft" "LStreamFuser$Plan;") ∈ sf_T := sf_T_2 116 rfl rfl
theorem wt_500 : (Cond.fieldLink "StreamFuser" (79 : Nat) "StreamFuser" "reader" "LStreamFuser$Reader;") ∈ sf_T := sf_T_2 117 rfl rfl
theorem wt_501 : (Cond.fieldLink "StreamFuser" (83 : Nat) "StreamFuser" "draftRewriter" "LStreamFuser$Rewriter;") ∈ sf_T := sf_T_2 118 rfl rfl
theorem wt_502 : (Cond.fieldLink "StreamFuser" (86 : Nat) "StreamFuser" "trial" "LStreamFuser$Run;") ∈ sf_T := sf_T_2 119 rfl rfl
theorem wt_503 : (Cond.fieldLink "StreamFuser" (89 : Nat) "StreamFuser" "trialAsker" "LStreamFuser$Asker;") ∈ sf_T := sf_T_2 120 rfl rfl
theorem wt_504 : (Cond.fieldLink "StreamFuser" (256 : Nat) "StreamFuser" "finding" "I") ∈ sf_T := sf_T_2 121 rfl rfl
theorem wt_505 : (Cond.laysFinal "StreamFuser" "StreamFuser" "main" "LStreamFuser$Plan;") ∈ sf_T := sf_T_2 122 rfl rfl
theorem wt_507 : (Cond.laysFinal "StreamFuser" "StreamFuser" "printer" "LStreamFuser$Printer;") ∈ sf_T := sf_T_2 124 rfl rfl
theorem wt_509 : (Cond.laysFinal "StreamFuser" "StreamFuser" "rewriter" "LStreamFuser$Rewriter;") ∈ sf_T := sf_T_2 126 rfl rfl
theorem wt_511 : (Cond.laysFinal "StreamFuser" "StreamFuser" "sheets" "LStreamFuser$Sheets;") ∈ sf_T := sf_T_2 128 rfl rfl
theorem wt_513 : (Cond.laysFinal "StreamFuser" "StreamFuser" "latest" "LStreamFuser$Run;") ∈ sf_T := sf_T_2 130 rfl rfl
theorem wt_515 : (Cond.laysFinal "StreamFuser" "StreamFuser" "asker" "LStreamFuser$Asker;") ∈ sf_T := sf_T_2 132 rfl rfl
theorem wt_517 : (Cond.laysFinal "StreamFuser" "StreamFuser" "stepper" "LStreamFuser$Stepper;") ∈ sf_T := sf_T_2 134 rfl rfl
theorem wt_519 : (Cond.laysFinal "StreamFuser" "StreamFuser" "maker" "LStreamFuser$Maker;") ∈ sf_T := sf_T_2 136 rfl rfl
theorem wt_521 : (Cond.laysFinal "StreamFuser" "StreamFuser" "draft" "LStreamFuser$Plan;") ∈ sf_T := sf_T_2 138 rfl rfl
theorem wt_523 : (Cond.laysFinal "StreamFuser" "StreamFuser" "reader" "LStreamFuser$Reader;") ∈ sf_T := sf_T_2 140 rfl rfl
theorem wt_525 : (Cond.laysFinal "StreamFuser" "StreamFuser" "draftRewriter" "LStreamFuser$Rewriter;") ∈ sf_T := sf_T_2 142 rfl rfl
theorem wt_527 : (Cond.laysFinal "StreamFuser" "StreamFuser" "trial" "LStreamFuser$Run;") ∈ sf_T := sf_T_2 144 rfl rfl
theorem wt_529 : (Cond.laysFinal "StreamFuser" "StreamFuser" "trialAsker" "LStreamFuser$Asker;") ∈ sf_T := sf_T_2 146 rfl rfl
theorem wt_531 : (Cond.lays "StreamFuser" "StreamFuser" "finding" "I") ∈ sf_T := sf_T_2 148 rfl rfl
theorem wt_534 : (Cond.methodLink "StreamFuserLaw" (13 : Nat) ({ cls := "StreamFuser", name := "type", desc := "(I)I" } : MethodName)) ∈ sf_T := sf_T_2 151 rfl rfl
theorem wt_535 : (Cond.instanceMethod ({ cls := "StreamFuser", name := "type", desc := "(I)I" } : MethodName)) ∈ sf_T := sf_T_2 152 rfl rfl
theorem wt_536 : (Cond.selects "StreamFuser" ({ cls := "StreamFuser", name := "type", desc := "(I)I" } : MethodName) ({ cls := "StreamFuser", name := "type", desc := "(I)I" } : MethodName)) ∈ sf_T := sf_T_2 153 rfl rfl
theorem wt_537 : (Cond.code ({ cls := "StreamFuser", name := "type", desc := "(I)I" } : MethodName) prog_1_method_2_code (2 : Nat) (Option.some FieldType.int)) ∈ sf_T := sf_T_2 154 rfl rfl
theorem wt_538 : (Cond.methodLinkNest "StreamFuser" (92 : Nat) ({ cls := "StreamFuser$Reader", name := "append", desc := "(I)Z" } : MethodName) "StreamFuser") ∈ sf_N := sf_N_2 155 rfl rfl
theorem wt_540 : (Cond.instanceMethod ({ cls := "StreamFuser$Reader", name := "append", desc := "(I)Z" } : MethodName)) ∈ sf_T := sf_T_2 157 rfl rfl
theorem wt_541 : (Cond.code ({ cls := "StreamFuser$Reader", name := "append", desc := "(I)Z" } : MethodName) prog_6_method_2_code (2 : Nat) (Option.some FieldType.boolean)) ∈ sf_T := sf_T_2 158 rfl rfl
theorem wt_542 : (Cond.methodLink "StreamFuserLaw" (18 : Nat) ({ cls := "StreamFuser", name := "wipe", desc := "()I" } : MethodName)) ∈ sf_T := sf_T_2 159 rfl rfl
theorem wt_543 : (Cond.instanceMethod ({ cls := "StreamFuser", name := "wipe", desc := "()I" } : MethodName)) ∈ sf_T := sf_T_2 160 rfl rfl
theorem wt_544 : (Cond.selects "StreamFuser" ({ cls := "StreamFuser", name := "wipe", desc := "()I" } : MethodName) ({ cls := "StreamFuser", name := "wipe", desc := "()I" } : MethodName)) ∈ sf_T := sf_T_2 161 rfl rfl
theorem wt_545 : (Cond.code ({ cls := "StreamFuser", name := "wipe", desc := "()I" } : MethodName) prog_1_method_3_code (2 : Nat) (Option.some FieldType.int)) ∈ sf_T := sf_T_2 162 rfl rfl
theorem wt_546 : (Cond.methodLink "StreamFuserLaw" (23 : Nat) ({ cls := "StreamFuser", name := "fault", desc := "()I" } : MethodName)) ∈ sf_T := sf_T_2 163 rfl rfl
theorem wt_547 : (Cond.instanceMethod ({ cls := "StreamFuser", name := "fault", desc := "()I" } : MethodName)) ∈ sf_T := sf_T_2 164 rfl rfl
theorem wt_548 : (Cond.selects "StreamFuser" ({ cls := "StreamFuser", name := "fault", desc := "()I" } : MethodName) ({ cls := "StreamFuser", name := "fault", desc := "()I" } : MethodName)) ∈ sf_T := sf_T_2 165 rfl rfl
theorem wt_549 : (Cond.code ({ cls := "StreamFuser", name := "fault", desc := "()I" } : MethodName) prog_1_method_4_code (1 : Nat) (Option.some FieldType.int)) ∈ sf_T := sf_T_2 166 rfl rfl
theorem wt_550 : (Cond.methodLinkNest "StreamFuser" (100 : Nat) ({ cls := "StreamFuser$Reader", name := "read", desc := "()I" } : MethodName) "StreamFuser") ∈ sf_N := sf_N_2 167 rfl rfl
theorem wt_552 : (Cond.instanceMethod ({ cls := "StreamFuser$Reader", name := "read", desc := "()I" } : MethodName)) ∈ sf_T := sf_T_2 169 rfl rfl
theorem wt_553 : (Cond.code ({ cls := "StreamFuser$Reader", name := "read", desc := "()I" } : MethodName) prog_6_method_3_code (2 : Nat) (Option.some FieldType.int)) ∈ sf_T := sf_T_2 170 rfl rfl
theorem wt_554 : (Cond.methodLink "StreamFuser$Reader" (40 : Nat) ({ cls := "StreamFuser$Reader", name := "expect", desc := "(I)V" } : MethodName)) ∈ sf_T := sf_T_2 171 rfl rfl
theorem wt_556 : (Cond.instanceMethod ({ cls := "StreamFuser$Reader", name := "expect", desc := "(I)V" } : MethodName)) ∈ sf_T := sf_T_2 173 rfl rfl
theorem wt_557 : (Cond.code ({ cls := "StreamFuser$Reader", name := "expect", desc := "(I)V" } : MethodName) prog_6_method_4_code (2 : Nat) (Option.none : Option FieldType)) ∈ sf_T := sf_T_2 174 rfl rfl
theorem wt_558 : (Cond.methodLink "StreamFuser$Reader" (44 : Nat) ({ cls := "StreamFuser$Reader", name := "readNode", desc := "()V" } : MethodName)) ∈ sf_T := sf_T_2 175 rfl rfl
theorem wt_560 : (Cond.instanceMethod ({ cls := "StreamFuser$Reader", name := "readNode", desc := "()V" } : MethodName)) ∈ sf_T := sf_T_2 177 rfl rfl
theorem wt_561 : (Cond.code ({ cls := "StreamFuser$Reader", name := "readNode", desc := "()V" } : MethodName) prog_6_method_5_code (7 : Nat) (Option.none : Option FieldType)) ∈ sf_T := sf_T_2 178 rfl rfl
theorem wt_562 : (Cond.methodLink "StreamFuser$Reader" (47 : Nat) ({ cls := "StreamFuser$Reader", name := "peek", desc := "()I" } : MethodName)) ∈ sf_T := sf_T_2 179 rfl rfl
theorem wt_564 : (Cond.instanceMethod ({ cls := "StreamFuser$Reader", name := "peek", desc := "()I" } : MethodName)) ∈ sf_T := sf_T_2 181 rfl rfl
theorem wt_565 : (Cond.code ({ cls := "StreamFuser$Reader", name := "peek", desc := "()I" } : MethodName) prog_6_method_7_code (1 : Nat) (Option.some FieldType.int)) ∈ sf_T := sf_T_2 182 rfl rfl
theorem wt_566 : (Cond.methodLink "StreamFuser$Reader" (51 : Nat) ({ cls := "StreamFuser$Reader", name := "isLetter", desc := "(II)Z" } : MethodName)) ∈ sf_T := sf_T_2 183 rfl rfl
theorem wt_567 : (Cond.static ({ cls := "StreamFuser$Reader", name := "isLetter", desc := "(II)Z" } : MethodName)) ∈ sf_T := sf_T_2 184 rfl rfl
theorem wt_568 : (Cond.code ({ cls := "StreamFuser$Reader", name := "isLetter", desc := "(II)Z" } : MethodName) prog_6_method_9_code (2 : Nat) (Option.some FieldType.boolean)) ∈ sf_T := sf_T_2 185 rfl rfl
theorem wt_569 : (Cond.methodLinkNest "StreamFuser$Reader" (81 : Nat) ({ cls := "StreamFuser$Plan", name := "partsOf", desc := "(I)I" } : MethodName) "StreamFuser") ∈ sf_N := sf_N_2 186 rfl rfl
theorem wt_570 : (Cond.static ({ cls := "StreamFuser$Plan", name := "partsOf", desc := "(I)I" } : MethodName)) ∈ sf_T := sf_T_2 187 rfl rfl
theorem wt_571 : (Cond.code ({ cls := "StreamFuser$Plan", name := "partsOf", desc := "(I)I" } : MethodName) prog_4_method_2_code (1 : Nat) (Option.some FieldType.int)) ∈ sf_T := sf_T_2 188 rfl rfl
theorem wt_572 : (Cond.methodLinkNest "StreamFuser$Reader" (67 : Nat) ({ cls := "StreamFuser$Plan", name := "numbersOf", desc := "(I)I" } : MethodName) "StreamFuser") ∈ sf_N := sf_N_2 189 rfl rfl
theorem wt_573 : (Cond.static ({ cls := "StreamFuser$Plan", name := "numbersOf", desc := "(I)I" } : MethodName)) ∈ sf_T := sf_T_2 190 rfl rfl
theorem wt_574 : (Cond.code ({ cls := "StreamFuser$Plan", name := "numbersOf", desc := "(I)I" } : MethodName) prog_4_method_3_code (1 : Nat) (Option.some FieldType.int)) ∈ sf_T := sf_T_2 191 rfl rfl
theorem wt_575 : (Cond.methodLink "StreamFuser$Reader" (55 : Nat) ({ cls := "StreamFuser$Reader", name := "accept", desc := "(Z)V" } : MethodName)) ∈ sf_T := sf_T_2 192 rfl rfl
theorem wt_577 : (Cond.instanceMethod ({ cls := "StreamFuser$Reader", name := "accept", desc := "(Z)V" } : MethodName)) ∈ sf_T := sf_T_2 194 rfl rfl
theorem wt_578 : (Cond.code ({ cls := "StreamFuser$Reader", name := "accept", desc := "(Z)V" } : MethodName) prog_6_method_8_code (2 : Nat) (Option.none : Option FieldType)) ∈ sf_T := sf_T_2 195 rfl rfl
theorem wt_579 : (Cond.methodLink "StreamFuser$Reader" (59 : Nat) ({ cls := "StreamFuser$Reader", name := "hasMark", desc := "(I)Z" } : MethodName)) ∈ sf_T := sf_T_2 196 rfl rfl
theorem wt_580 : (Cond.static ({ cls := "StreamFuser$Reader", name := "hasMark", desc := "(I)Z" } : MethodName)) ∈ sf_T := sf_T_2 197 rfl rfl
theorem wt_581 : (Cond.code ({ cls := "StreamFuser$Reader", name := "hasMark", desc := "(I)Z" } : MethodName) prog_6_method_10_code (1 : Nat) (Option.some FieldType.boolean)) ∈ sf_T := sf_T_2 198 rfl rfl
theorem wt_582 : (Cond.methodLink "StreamFuser$Reader" (84 : Nat) ({ cls := "StreamFuser$Reader", name := "hasDigit", desc := "(I)Z" } : MethodName)) ∈ sf_T := sf_T_2 199 rfl rfl
theorem wt_583 : (Cond.static ({ cls := "StreamFuser$Reader", name := "hasDigit", desc := "(I)Z" } : MethodName)) ∈ sf_T := sf_T_2 200 rfl rfl
theorem wt_584 : (Cond.code ({ cls := "StreamFuser$Reader", name := "hasDigit", desc := "(I)Z" } : MethodName) prog_6_method_11_code (1 : Nat) (Option.some FieldType.boolean)) ∈ sf_T := sf_T_2 201 rfl rfl
theorem wt_585 : (Cond.methodLink "StreamFuser$Reader" (63 : Nat) ({ cls := "StreamFuser$Reader", name := "readMark", desc := "(I)I" } : MethodName)) ∈ sf_T := sf_T_2 202 rfl rfl
theorem wt_587 : (Cond.instanceMethod ({ cls := "StreamFuser$Reader", name := "readMark", desc := "(I)I" } : MethodName)) ∈ sf_T := sf_T_2 204 rfl rfl
theorem wt_588 : (Cond.code ({ cls := "StreamFuser$Reader", name := "readMark", desc := "(I)I" } : MethodName) prog_6_method_12_code (3 : Nat) (Option.some FieldType.int)) ∈ sf_T := sf_T_2 205 rfl rfl
theorem wt_589 : (Cond.methodLink "StreamFuser$Reader" (87 : Nat) ({ cls := "StreamFuser$Reader", name := "fitsMark", desc := "(II)Z" } : MethodName)) ∈ sf_T := sf_T_2 206 rfl rfl
theorem wt_590 : (Cond.static ({ cls := "StreamFuser$Reader", name := "fitsMark", desc := "(II)Z" } : MethodName)) ∈ sf_T := sf_T_2 207 rfl rfl
theorem wt_591 : (Cond.code ({ cls := "StreamFuser$Reader", name := "fitsMark", desc := "(II)Z" } : MethodName) prog_6_method_13_code (2 : Nat) (Option.some FieldType.boolean)) ∈ sf_T := sf_T_2 208 rfl rfl
theorem wt_592 : (Cond.methodLink "StreamFuser$Reader" (90 : Nat) ({ cls := "StreamFuser$Reader", name := "isDigit", desc := "(I)Z" } : MethodName)) ∈ sf_T := sf_T_2 209 rfl rfl
theorem wt_593 : (Cond.static ({ cls := "StreamFuser$Reader", name := "isDigit", desc := "(I)Z" } : MethodName)) ∈ sf_T := sf_T_2 210 rfl rfl
theorem wt_594 : (Cond.code ({ cls := "StreamFuser$Reader", name := "isDigit", desc := "(I)Z" } : MethodName) prog_6_method_14_code (1 : Nat) (Option.some FieldType.boolean)) ∈ sf_T := sf_T_2 211 rfl rfl
theorem wt_595 : (Cond.methodLink "StreamFuser$Reader" (70 : Nat) ({ cls := "StreamFuser$Reader", name := "readNumber", desc := "(I)I" } : MethodName)) ∈ sf_T := sf_T_2 212 rfl rfl
theorem wt_597 : (Cond.instanceMethod ({ cls := "StreamFuser$Reader", name := "readNumber", desc := "(I)I" } : MethodName)) ∈ sf_T := sf_T_2 214 rfl rfl
theorem wt_598 : (Cond.code ({ cls := "StreamFuser$Reader", name := "readNumber", desc := "(I)I" } : MethodName) prog_6_method_15_code (9 : Nat) (Option.some FieldType.int)) ∈ sf_T := sf_T_2 215 rfl rfl
theorem wt_599 : (Cond.methodLinkNest "StreamFuser$Reader" (73 : Nat) ({ cls := "StreamFuser$Plan", name := "add", desc := "(IIII)V" } : MethodName) "StreamFuser") ∈ sf_N := sf_N_2 216 rfl rfl
theorem wt_601 : (Cond.instanceMethod ({ cls := "StreamFuser$Plan", name := "add", desc := "(IIII)V" } : MethodName)) ∈ sf_T := sf_T_2 218 rfl rfl
theorem wt_602 : (Cond.code ({ cls := "StreamFuser$Plan", name := "add", desc := "(IIII)V" } : MethodName) prog_4_method_9_code (5 : Nat) (Option.none : Option FieldType)) ∈ sf_T := sf_T_2 219 rfl rfl
theorem wt_603 : (Cond.methodLink "StreamFuser$Reader" (77 : Nat) ({ cls := "StreamFuser$Reader", name := "expectParts", desc := "(II)V" } : MethodName)) ∈ sf_T := sf_T_2 220 rfl rfl
theorem wt_605 : (Cond.instanceMethod ({ cls := "StreamFuser$Reader", name := "expectParts", desc := "(II)V" } : MethodName)) ∈ sf_T := sf_T_2 222 rfl rfl
theorem wt_606 : (Cond.code ({ cls := "StreamFuser$Reader", name := "expectParts", desc := "(II)V" } : MethodName) prog_6_method_6_code (4 : Nat) (Option.none : Option FieldType)) ∈ sf_T := sf_T_2 223 rfl rfl
theorem wt_607 : (Cond.methodLink "StreamFuserLaw" (27 : Nat) ({ cls := "StreamFuser", name := "plan", desc := "()I" } : MethodName)) ∈ sf_T := sf_T_2 224 rfl rfl
theorem wt_608 : (Cond.instanceMethod ({ cls := "StreamFuser", name := "plan", desc := "()I" } : MethodName)) ∈ sf_T := sf_T_2 225 rfl rfl
theorem wt_609 : (Cond.selects "StreamFuser" ({ cls := "StreamFuser", name := "plan", desc := "()I" } : MethodName) ({ cls := "StreamFuser", name := "plan", desc := "()I" } : MethodName)) ∈ sf_T := sf_T_2 226 rfl rfl
theorem wt_610 : (Cond.code ({ cls := "StreamFuser", name := "plan", desc := "()I" } : MethodName) prog_1_method_5_code (2 : Nat) (Option.some FieldType.int)) ∈ sf_T := sf_T_2 227 rfl rfl
theorem wt_611 : (Cond.methodLinkNest "StreamFuser" (104 : Nat) ({ cls := "StreamFuser$Plan", name := "takeFrom", desc := "(LStreamFuser$Plan;)V" } : MethodName) "StreamFuser") ∈ sf_N := sf_N_2 228 rfl rfl
theorem wt_613 : (Cond.instanceMethod ({ cls := "StreamFuser$Plan", name := "takeFrom", desc := "(LStreamFuser$Plan;)V" } : MethodName)) ∈ sf_T := sf_T_2 230 rfl rfl
theorem wt_614 : (Cond.code ({ cls := "StreamFuser$Plan", name := "takeFrom", desc := "(LStreamFuser$Plan;)V" } : MethodName) prog_4_method_10_code (3 : Nat) (Option.none : Option FieldType)) ∈ sf_T := sf_T_2 231 rfl rfl
theorem wt_615 : (Cond.methodLink "StreamFuser$Plan" (58 : Nat) ({ cls := "StreamFuser$Plan", name := "add", desc := "(IIII)V" } : MethodName)) ∈ sf_T := sf_T_2 232 rfl rfl
theorem wt_616 : (Cond.methodLink "StreamFuser$Plan" (62 : Nat) ({ cls := "StreamFuser$Plan", name := "measure", desc := "()V" } : MethodName)) ∈ sf_T := sf_T_2 233 rfl rfl
theorem wt_618 : (Cond.instanceMethod ({ cls := "StreamFuser$Plan", name := "measure", desc := "()V" } : MethodName)) ∈ sf_T := sf_T_2 235 rfl rfl
theorem wt_619 : (Cond.code ({ cls := "StreamFuser$Plan", name := "measure", desc := "()V" } : MethodName) prog_4_method_15_code (2 : Nat) (Option.none : Option FieldType)) ∈ sf_T := sf_T_2 236 rfl rfl
theorem wt_620 : (Cond.methodLink "StreamFuser$Plan" (72 : Nat) ({ cls := "StreamFuser$Plan", name := "measureFromParts", desc := "(I)V" } : MethodName)) ∈ sf_T := sf_T_2 237 rfl rfl
theorem wt_622 : (Cond.instanceMethod ({ cls := "StreamFuser$Plan", name := "measureFromParts", desc := "(I)V" } : MethodName)) ∈ sf_T := sf_T_2 239 rfl rfl
theorem wt_623 : (Cond.code ({ cls := "StreamFuser$Plan", name := "measureFromParts", desc := "(I)V" } : MethodName) prog_4_method_16_code (6 : Nat) (Option.none : Option FieldType)) ∈ sf_T := sf_T_3 0 rfl rfl
theorem wt_624 : (Cond.methodLink "StreamFuser$Plan" (89 : Nat) ({ cls := "StreamFuser$Plan", name := "partsOf", desc := "(I)I" } : MethodName)) ∈ sf_T := sf_T_3 1 rfl rfl
theorem wt_625 : (Cond.methodLink "StreamFuser$Plan" (80 : Nat) ({ cls := "StreamFuser$Plan", name := "measureParts", desc := "(I)V" } : MethodName)) ∈ sf_T := sf_T_3 2 rfl rfl
theorem wt_627 : (Cond.instanceMethod ({ cls := "StreamFuser$Plan", name := "measureParts", desc := "(I)V" } : MethodName)) ∈ sf_T := sf_T_3 4 rfl rfl
theorem wt_628 : (Cond.code ({ cls := "StreamFuser$Plan", name := "measureParts", desc := "(I)V" } : MethodName) prog_4_method_17_code (6 : Nat) (Option.none : Option FieldType)) ∈ sf_T := sf_T_3 5 rfl rfl
theorem wt_629 : (Cond.methodLink "StreamFuser$Plan" (83 : Nat) ({ cls := "java/lang/Math", name := "max", desc := "(II)I" } : MethodName)) ∈ sf_T := sf_T_3 6 rfl rfl
theorem wt_630 : (Cond.static ({ cls := "java/lang/Math", name := "max", desc := "(II)I" } : MethodName)) ∈ sf_T := sf_T_3 7 rfl rfl
theorem wt_631 : (Cond.code Lib.Math.max.name Lib.Math.max.code 2 (some .int)) ∈ sf_T := sf_T_3 8 (by decide +kernel) rfl
theorem wt_632 : (Cond.methodLinkNest "StreamFuser" (107 : Nat) ({ cls := "StreamFuser$Printer", name := "print", desc := "()V" } : MethodName) "StreamFuser") ∈ sf_N := sf_N_3 9 rfl rfl
theorem wt_634 : (Cond.instanceMethod ({ cls := "StreamFuser$Printer", name := "print", desc := "()V" } : MethodName)) ∈ sf_T := sf_T_3 11 rfl rfl
theorem wt_635 : (Cond.code ({ cls := "StreamFuser$Printer", name := "print", desc := "()V" } : MethodName) prog_5_method_2_code (2 : Nat) (Option.none : Option FieldType)) ∈ sf_T := sf_T_3 12 rfl rfl
theorem wt_636 : (Cond.methodLink "StreamFuser$Printer" (26 : Nat) ({ cls := "StreamFuser$Printer", name := "printNode", desc := "(I)V" } : MethodName)) ∈ sf_T := sf_T_3 13 rfl rfl
theorem wt_638 : (Cond.instanceMethod ({ cls := "StreamFuser$Printer", name := "printNode", desc := "(I)V" } : MethodName)) ∈ sf_T := sf_T_3 15 rfl rfl
theorem wt_639 : (Cond.code ({ cls := "StreamFuser$Printer", name := "printNode", desc := "(I)V" } : MethodName) prog_5_method_3_code (4 : Nat) (Option.none : Option FieldType)) ∈ sf_T := sf_T_3 16 rfl rfl
theorem wt_640 : (Cond.methodLinkNest "StreamFuser$Printer" (34 : Nat) ({ cls := "StreamFuser$Plan", name := "numbersOf", desc := "(I)I" } : MethodName) "StreamFuser") ∈ sf_N := sf_N_3 17 rfl rfl
theorem wt_641 : (Cond.methodLink "StreamFuser$Printer" (38 : Nat) ({ cls := "StreamFuser$Printer", name := "put", desc := "(I)V" } : MethodName)) ∈ sf_T := sf_T_3 18 rfl rfl
theorem wt_643 : (Cond.instanceMethod ({ cls := "StreamFuser$Printer", name := "put", desc := "(I)V" } : MethodName)) ∈ sf_T := sf_T_3 20 rfl rfl
theorem wt_644 : (Cond.code ({ cls := "StreamFuser$Printer", name := "put", desc := "(I)V" } : MethodName) prog_5_method_4_code (2 : Nat) (Option.none : Option FieldType)) ∈ sf_T := sf_T_3 21 rfl rfl
theorem wt_645 : (Cond.methodLinkNest "StreamFuser$Printer" (41 : Nat) ({ cls := "StreamFuser$Reader", name := "hasDigit", desc := "(I)Z" } : MethodName) "StreamFuser") ∈ sf_N := sf_N_3 22 rfl rfl
theorem wt_646 : (Cond.methodLinkNest "StreamFuser$Printer" (50 : Nat) ({ cls := "StreamFuser$Reader", name := "hasMark", desc := "(I)Z" } : MethodName) "StreamFuser") ∈ sf_N := sf_N_3 23 rfl rfl
theorem wt_647 : (Cond.methodLink "StreamFuser$Printer" (56 : Nat) ({ cls := "StreamFuser$Printer", name := "putNumber", desc := "(I)V" } : MethodName)) ∈ sf_T := sf_T_3 24 rfl rfl
theorem wt_649 : (Cond.instanceMethod ({ cls := "StreamFuser$Printer", name := "putNumber", desc := "(I)V" } : MethodName)) ∈ sf_T := sf_T_3 26 rfl rfl
theorem wt_650 : (Cond.code ({ cls := "StreamFuser$Printer", name := "putNumber", desc := "(I)V" } : MethodName) prog_5_method_5_code (7 : Nat) (Option.none : Option FieldType)) ∈ sf_T := sf_T_3 27 rfl rfl
theorem wt_651 : (Cond.methodLink "StreamFuser$Printer" (62 : Nat) ({ cls := "java/lang/Math", name := "abs", desc := "(J)J" } : MethodName)) ∈ sf_T := sf_T_3 28 rfl rfl
theorem wt_652 : (Cond.static ({ cls := "java/lang/Math", name := "abs", desc := "(J)J" } : MethodName)) ∈ sf_T := sf_T_3 29 rfl rfl
theorem wt_653 : (Cond.code Lib.MathLoose.abs_long.x Lib.MathLoose.abs_long.code 2 (some .long)) ∈ sf_T := sf_T_3 30 (by decide +kernel) rfl
theorem wt_654 : (Cond.constantLong "StreamFuser$Printer" (68 : Nat) (10 : Int64)) ∈ sf_T := sf_T_3 31 rfl rfl
theorem wt_655 : (Cond.methodLink "StreamFuserLaw" (31 : Nat) ({ cls := "StreamFuser", name := "node", desc := "(II)I" } : MethodName)) ∈ sf_T := sf_T_3 32 rfl rfl
theorem wt_656 : (Cond.instanceMethod ({ cls := "StreamFuser", name := "node", desc := "(II)I" } : MethodName)) ∈ sf_T := sf_T_3 33 rfl rfl
theorem wt_657 : (Cond.selects "StreamFuser" ({ cls := "StreamFuser", name := "node", desc := "(II)I" } : MethodName) ({ cls := "StreamFuser", name := "node", desc := "(II)I" } : MethodName)) ∈ sf_T := sf_T_3 34 rfl rfl
theorem wt_658 : (Cond.code ({ cls := "StreamFuser", name := "node", desc := "(II)I" } : MethodName) prog_1_method_6_code (3 : Nat) (Option.some FieldType.int)) ∈ sf_T := sf_T_3 35 rfl rfl
theorem wt_659 : (Cond.methodLinkNest "StreamFuser" (113 : Nat) ({ cls := "StreamFuser$Plan", name := "has", desc := "(I)Z" } : MethodName) "StreamFuser") ∈ sf_N := sf_N_3 36 rfl rfl
theorem wt_661 : (Cond.instanceMethod ({ cls := "StreamFuser$Plan", name := "has", desc := "(I)Z" } : MethodName)) ∈ sf_T := sf_T_3 38 rfl rfl
theorem wt_662 : (Cond.code ({ cls := "StreamFuser$Plan", name := "has", desc := "(I)Z" } : MethodName) prog_4_method_4_code (2 : Nat) (Option.some FieldType.boolean)) ∈ sf_T := sf_T_3 39 rfl rfl
theorem wt_663 : (Cond.constant "StreamFuser" (116 : Nat) (-2147483648 : Int32)) ∈ sf_T := sf_T_3 40 rfl rfl
theorem wt_664 : (Cond.methodLink "StreamFuserLaw" (36 : Nat) ({ cls := "StreamFuser", name := "text", desc := "(I)I" } : MethodName)) ∈ sf_T := sf_T_3 41 rfl rfl
theorem wt_665 : (Cond.instanceMethod ({ cls := "StreamFuser", name := "text", desc := "(I)I" } : MethodName)) ∈ sf_T := sf_T_3 42 rfl rfl
theorem wt_666 : (Cond.selects "StreamFuser" ({ cls := "StreamFuser", name := "text", desc := "(I)I" } : MethodName) ({ cls := "StreamFuser", name := "text", desc := "(I)I" } : MethodName)) ∈ sf_T := sf_T_3 43 rfl rfl
theorem wt_667 : (Cond.code ({ cls := "StreamFuser", name := "text", desc := "(I)I" } : MethodName) prog_1_method_7_code (2 : Nat) (Option.some FieldType.int)) ∈ sf_T := sf_T_3 44 rfl rfl
theorem wt_668 : (Cond.methodLink "StreamFuserLaw" (40 : Nat) ({ cls := "StreamFuser", name := "tidy", desc := "(I)I" } : MethodName)) ∈ sf_T := sf_T_3 45 rfl rfl
theorem wt_669 : (Cond.instanceMethod ({ cls := "StreamFuser", name := "tidy", desc := "(I)I" } : MethodName)) ∈ sf_T := sf_T_3 46 rfl rfl
theorem wt_670 : (Cond.selects "StreamFuser" ({ cls := "StreamFuser", name := "tidy", desc := "(I)I" } : MethodName) ({ cls := "StreamFuser", name := "tidy", desc := "(I)I" } : MethodName)) ∈ sf_T := sf_T_3 47 rfl rfl
theorem wt_671 : (Cond.code ({ cls := "StreamFuser", name := "tidy", desc := "(I)I" } : MethodName) prog_1_method_8_code (2 : Nat) (Option.some FieldType.int)) ∈ sf_T := sf_T_3 48 rfl rfl
theorem wt_672 : (Cond.methodLinkNest "StreamFuser" (142 : Nat) ({ cls := "StreamFuser$Rewriter", name := "simplify", desc := "(Z)V" } : MethodName) "StreamFuser") ∈ sf_N := sf_N_3 49 rfl rfl
theorem wt_674 : (Cond.instanceMethod ({ cls := "StreamFuser$Rewriter", name := "simplify", desc := "(Z)V" } : MethodName)) ∈ sf_T := sf_T_3 51 rfl rfl
theorem wt_675 : (Cond.code ({ cls := "StreamFuser$Rewriter", name := "simplify", desc := "(Z)V" } : MethodName) prog_7_method_2_code (5 : Nat) (Option.none : Option FieldType)) ∈ sf_T := sf_T_3 52 rfl rfl
theorem wt_676 : (Cond.constant "StreamFuser$Rewriter" (23 : Nat) (1000000 : Int32)) ∈ sf_T := sf_T_3 53 rfl rfl
theorem wt_677 : (Cond.methodLink "StreamFuser$Rewriter" (24 : Nat) ({ cls := "StreamFuser$Rewriter", name := "place", desc := "(Z)I" } : MethodName)) ∈ sf_T := sf_T_3 54 rfl rfl
theorem wt_679 : (Cond.instanceMethod ({ cls := "StreamFuser$Rewriter", name := "place", desc := "(Z)I" } : MethodName)) ∈ sf_T := sf_T_3 56 rfl rfl
theorem wt_680 : (Cond.code ({ cls := "StreamFuser$Rewriter", name := "place", desc := "(Z)I" } : MethodName) prog_7_method_3_code (5 : Nat) (Option.some FieldType.int)) ∈ sf_T := sf_T_3 57 rfl rfl
theorem wt_681 : (Cond.methodLink "StreamFuser$Rewriter" (28 : Nat) ({ cls := "StreamFuser$Rewriter", name := "ruleFor", desc := "(I)I" } : MethodName)) ∈ sf_T := sf_T_3 58 rfl rfl
theorem wt_683 : (Cond.instanceMethod ({ cls := "StreamFuser$Rewriter", name := "ruleFor", desc := "(I)I" } : MethodName)) ∈ sf_T := sf_T_3 60 rfl rfl
theorem wt_684 : (Cond.code ({ cls := "StreamFuser$Rewriter", name := "ruleFor", desc := "(I)I" } : MethodName) prog_7_method_4_code (2 : Nat) (Option.some FieldType.int)) ∈ sf_T := sf_T_3 61 rfl rfl
theorem wt_685 : (Cond.methodLinkNest "StreamFuser$Rewriter" (44 : Nat) ({ cls := "StreamFuser$Plan", name := "has", desc := "(I)Z" } : MethodName) "StreamFuser") ∈ sf_N := sf_N_3 62 rfl rfl
theorem wt_686 : (Cond.methodLinkNest "StreamFuser$Rewriter" (57 : Nat) ({ cls := "StreamFuser$Plan", name := "isNil", desc := "(I)Z" } : MethodName) "StreamFuser") ∈ sf_N := sf_N_3 63 rfl rfl
theorem wt_688 : (Cond.instanceMethod ({ cls := "StreamFuser$Plan", name := "isNil", desc := "(I)Z" } : MethodName)) ∈ sf_T := sf_T_3 65 rfl rfl
theorem wt_689 : (Cond.code ({ cls := "StreamFuser$Plan", name := "isNil", desc := "(I)Z" } : MethodName) prog_4_method_6_code (2 : Nat) (Option.some FieldType.boolean)) ∈ sf_T := sf_T_3 66 rfl rfl
theorem wt_690 : (Cond.methodLink "StreamFuser$Plan" (47 : Nat) ({ cls := "StreamFuser$Plan", name := "has", desc := "(I)Z" } : MethodName)) ∈ sf_T := sf_T_3 67 rfl rfl
theorem wt_691 : (Cond.methodLink "StreamFuser$Rewriter" (60 : Nat) ({ cls := "StreamFuser$Rewriter", name := "ruleForTake", desc := "(I)I" } : MethodName)) ∈ sf_T := sf_T_3 68 rfl rfl
theorem wt_693 : (Cond.instanceMethod ({ cls := "StreamFuser$Rewriter", name := "ruleForTake", desc := "(I)I" } : MethodName)) ∈ sf_T := sf_T_3 70 rfl rfl
theorem wt_694 : (Cond.code ({ cls := "StreamFuser$Rewriter", name := "ruleForTake", desc := "(I)I" } : MethodName) prog_7_method_5_code (2 : Nat) (Option.some FieldType.int)) ∈ sf_T := sf_T_3 71 rfl rfl
theorem wt_695 : (Cond.methodLinkNest "StreamFuser$Rewriter" (72 : Nat) ({ cls := "StreamFuser$Plan", name := "letterAt", desc := "(I)I" } : MethodName) "StreamFuser") ∈ sf_N := sf_N_3 72 rfl rfl
theorem wt_697 : (Cond.instanceMethod ({ cls := "StreamFuser$Plan", name := "letterAt", desc := "(I)I" } : MethodName)) ∈ sf_T := sf_T_3 74 rfl rfl
theorem wt_698 : (Cond.code ({ cls := "StreamFuser$Plan", name := "letterAt", desc := "(I)I" } : MethodName) prog_4_method_5_code (2 : Nat) (Option.some FieldType.int)) ∈ sf_T := sf_T_3 75 rfl rfl
theorem wt_699 : (Cond.methodLink "StreamFuser$Rewriter" (63 : Nat) ({ cls := "StreamFuser$Rewriter", name := "ruleForDrop", desc := "(I)I" } : MethodName)) ∈ sf_T := sf_T_3 76 rfl rfl
theorem wt_701 : (Cond.instanceMethod ({ cls := "StreamFuser$Rewriter", name := "ruleForDrop", desc := "(I)I" } : MethodName)) ∈ sf_T := sf_T_3 78 rfl rfl
theorem wt_702 : (Cond.code ({ cls := "StreamFuser$Rewriter", name := "ruleForDrop", desc := "(I)I" } : MethodName) prog_7_method_6_code (3 : Nat) (Option.some FieldType.int)) ∈ sf_T := sf_T_3 79 rfl rfl
theorem wt_703 : (Cond.methodLinkNest "StreamFuser$Rewriter" (66 : Nat) ({ cls := "StreamFuser$Plan", name := "secondPart", desc := "(I)I" } : MethodName) "StreamFuser") ∈ sf_N := sf_N_3 80 rfl rfl
theorem wt_705 : (Cond.instanceMethod ({ cls := "StreamFuser$Plan", name := "secondPart", desc := "(I)I" } : MethodName)) ∈ sf_T := sf_T_3 82 rfl rfl
theorem wt_706 : (Cond.code ({ cls := "StreamFuser$Plan", name := "secondPart", desc := "(I)I" } : MethodName) prog_4_method_7_code (2 : Nat) (Option.some FieldType.int)) ∈ sf_T := sf_T_3 83 rfl rfl
theorem wt_707 : (Cond.methodLinkNest "StreamFuser$Rewriter" (69 : Nat) ({ cls := "StreamFuser$Plan", name := "input", desc := "(I)I" } : MethodName) "StreamFuser") ∈ sf_N := sf_N_3 84 rfl rfl
theorem wt_709 : (Cond.instanceMethod ({ cls := "StreamFuser$Plan", name := "input", desc := "(I)I" } : MethodName)) ∈ sf_T := sf_T_3 86 rfl rfl
theorem wt_710 : (Cond.code ({ cls := "StreamFuser$Plan", name := "input", desc := "(I)I" } : MethodName) prog_4_method_8_code (2 : Nat) (Option.some FieldType.int)) ∈ sf_T := sf_T_3 87 rfl rfl
theorem wt_711 : (Cond.methodLink "StreamFuser$Plan" (51 : Nat) ({ cls := "StreamFuser$Plan", name := "letterAt", desc := "(I)I" } : MethodName)) ∈ sf_T := sf_T_3 88 rfl rfl
theorem wt_712 : (Cond.methodLink "StreamFuser$Plan" (55 : Nat) ({ cls := "StreamFuser$Plan", name := "secondPart", desc := "(I)I" } : MethodName)) ∈ sf_T := sf_T_3 89 rfl rfl
theorem wt_713 : (Cond.methodLink "StreamFuser$Rewriter" (32 : Nat) ({ cls := "StreamFuser$Rewriter", name := "apply", desc := "(II)V" } : MethodName)) ∈ sf_T := sf_T_3 90 rfl rfl
theorem wt_715 : (Cond.instanceMethod ({ cls := "StreamFuser$Rewriter", name := "apply", desc := "(II)V" } : MethodName)) ∈ sf_T := sf_T_3 92 rfl rfl
theorem wt_716 : (Cond.code ({ cls := "StreamFuser$Rewriter", name := "apply", desc := "(II)V" } : MethodName) prog_7_method_7_code (3 : Nat) (Option.none : Option FieldType)) ∈ sf_T := sf_T_3 93 rfl rfl
theorem wt_717 : (Cond.methodLinkNest "StreamFuser$Rewriter" (79 : Nat) ({ cls := "StreamFuser$Plan", name := "makeNil", desc := "(I)V" } : MethodName) "StreamFuser") ∈ sf_N := sf_N_3 94 rfl rfl
theorem wt_719 : (Cond.instanceMethod ({ cls := "StreamFuser$Plan", name := "makeNil", desc := "(I)V" } : MethodName)) ∈ sf_T := sf_T_3 96 rfl rfl
theorem wt_720 : (Cond.code ({ cls := "StreamFuser$Plan", name := "makeNil", desc := "(I)V" } : MethodName) prog_4_method_14_code (2 : Nat) (Option.none : Option FieldType)) ∈ sf_T := sf_T_3 97 rfl rfl
theorem wt_721 : (Cond.methodLink "StreamFuser$Plan" (69 : Nat) ({ cls := "StreamFuser$Plan", name := "cut", desc := "(II)V" } : MethodName)) ∈ sf_T := sf_T_3 98 rfl rfl
theorem wt_723 : (Cond.instanceMethod ({ cls := "StreamFuser$Plan", name := "cut", desc := "(II)V" } : MethodName)) ∈ sf_T := sf_T_3 100 rfl rfl
theorem wt_724 : (Cond.code ({ cls := "StreamFuser$Plan", name := "cut", desc := "(II)V" } : MethodName) prog_4_method_12_code (4 : Nat) (Option.none : Option FieldType)) ∈ sf_T := sf_T_3 101 rfl rfl
theorem wt_725 : (Cond.methodLink "StreamFuser$Plan" (65 : Nat) ({ cls := "StreamFuser$Plan", name := "moveNode", desc := "(II)V" } : MethodName)) ∈ sf_T := sf_T_3 102 rfl rfl
theorem wt_727 : (Cond.instanceMethod ({ cls := "StreamFuser$Plan", name := "moveNode", desc := "(II)V" } : MethodName)) ∈ sf_T := sf_T_3 104 rfl rfl
theorem wt_728 : (Cond.code ({ cls := "StreamFuser$Plan", name := "moveNode", desc := "(II)V" } : MethodName) prog_4_method_13_code (3 : Nat) (Option.none : Option FieldType)) ∈ sf_T := sf_T_3 105 rfl rfl
theorem wt_729 : (Cond.methodLinkNest "StreamFuser$Rewriter" (83 : Nat) ({ cls := "StreamFuser$Plan", name := "swapWithNext", desc := "(I)V" } : MethodName) "StreamFuser") ∈ sf_N := sf_N_3 106 rfl rfl
theorem wt_731 : (Cond.instanceMethod ({ cls := "StreamFuser$Plan", name := "swapWithNext", desc := "(I)V" } : MethodName)) ∈ sf_T := sf_T_3 108 rfl rfl
theorem wt_732 : (Cond.code ({ cls := "StreamFuser$Plan", name := "swapWithNext", desc := "(I)V" } : MethodName) prog_4_method_11_code (6 : Nat) (Option.none : Option FieldType)) ∈ sf_T := sf_T_3 109 rfl rfl
theorem wt_733 : (Cond.methodLink "StreamFuser$Rewriter" (86 : Nat) ({ cls := "StreamFuser$Rewriter", name := "swapDropWithTake", desc := "(I)V" } : MethodName)) ∈ sf_T := sf_T_3 110 rfl rfl
theorem wt_735 : (Cond.instanceMethod ({ cls := "StreamFuser$Rewriter", name := "swapDropWithTake", desc := "(I)V" } : MethodName)) ∈ sf_T := sf_T_3 112 rfl rfl
theorem wt_736 : (Cond.code ({ cls := "StreamFuser$Rewriter", name := "swapDropWithTake", desc := "(I)V" } : MethodName) prog_7_method_8_code (3 : Nat) (Option.none : Option FieldType)) ∈ sf_T := sf_T_3 113 rfl rfl
theorem wt_737 : (Cond.methodLink "StreamFuser$Rewriter" (98 : Nat) ({ cls := "java/lang/Math", name := "max", desc := "(II)I" } : MethodName)) ∈ sf_T := sf_T_3 114 rfl rfl
theorem wt_738 : (Cond.methodLinkNest "StreamFuser$Rewriter" (89 : Nat) ({ cls := "StreamFuser$Plan", name := "cut", desc := "(II)V" } : MethodName) "StreamFuser") ∈ sf_N := sf_N_3 115 rfl rfl
theorem wt_739 : (Cond.methodLink "StreamFuser$Rewriter" (92 : Nat) ({ cls := "StreamFuser$Rewriter", name := "keepOnePart", desc := "(I)V" } : MethodName)) ∈ sf_T := sf_T_3 116 rfl rfl
theorem wt_741 : (Cond.instanceMethod ({ cls := "StreamFuser$Rewriter", name := "keepOnePart", desc := "(I)V" } : MethodName)) ∈ sf_T := sf_T_3 118 rfl rfl
theorem wt_742 : (Cond.code ({ cls := "StreamFuser$Rewriter", name := "keepOnePart", desc := "(I)V" } : MethodName) prog_7_method_9_code (3 : Nat) (Option.none : Option FieldType)) ∈ sf_T := sf_T_3 119 rfl rfl
theorem wt_743 : (Cond.methodLink "StreamFuser$Rewriter" (95 : Nat) ({ cls := "StreamFuser$Rewriter", name := "mergeWithNext", desc := "(II)V" } : MethodName)) ∈ sf_T := sf_T_3 120 rfl rfl
theorem wt_745 : (Cond.instanceMethod ({ cls := "StreamFuser$Rewriter", name := "mergeWithNext", desc := "(II)V" } : MethodName)) ∈ sf_T := sf_T_3 122 rfl rfl
theorem wt_746 : (Cond.code ({ cls := "StreamFuser$Rewriter", name := "mergeWithNext", desc := "(II)V" } : MethodName) prog_7_method_10_code (7 : Nat) (Option.none : Option FieldType)) ∈ sf_T := sf_T_3 123 rfl rfl
theorem wt_747 : (Cond.methodLink "StreamFuser$Rewriter" (104 : Nat) ({ cls := "java/lang/Math", name := "min", desc := "(II)I" } : MethodName)) ∈ sf_T := sf_T_3 124 rfl rfl
theorem wt_748 : (Cond.static ({ cls := "java/lang/Math", name := "min", desc := "(II)I" } : MethodName)) ∈ sf_T := sf_T_3 125 rfl rfl
theorem wt_749 : (Cond.code Lib.Math.min.name Lib.Math.min.code 2 (some .int)) ∈ sf_T := sf_T_3 126 (by decide +kernel) rfl
theorem wt_750 : (Cond.methodLinkNest "StreamFuser$Rewriter" (36 : Nat) ({ cls := "StreamFuser$Plan", name := "measure", desc := "()V" } : MethodName) "StreamFuser") ∈ sf_N := sf_N_3 127 rfl rfl
theorem wt_751 : (Cond.methodLink "StreamFuserLaw" (44 : Nat) ({ cls := "StreamFuser", name := "rules", desc := "(I)I" } : MethodName)) ∈ sf_T := sf_T_3 128 rfl rfl
theorem wt_752 : (Cond.instanceMethod ({ cls := "StreamFuser", name := "rules", desc := "(I)I" } : MethodName)) ∈ sf_T := sf_T_3 129 rfl rfl
theorem wt_753 : (Cond.selects "StreamFuser" ({ cls := "StreamFuser", name := "rules", desc := "(I)I" } : MethodName) ({ cls := "StreamFuser", name := "rules", desc := "(I)I" } : MethodName)) ∈ sf_T := sf_T_3 130 rfl rfl
theorem wt_754 : (Cond.code ({ cls := "StreamFuser", name := "rules", desc := "(I)I" } : MethodName) prog_1_method_9_code (2 : Nat) (Option.some FieldType.int)) ∈ sf_T := sf_T_3 131 rfl rfl
theorem wt_755 : (Cond.methodLink "StreamFuserLaw" (48 : Nat) ({ cls := "StreamFuser", name := "saves", desc := "(I)I" } : MethodName)) ∈ sf_T := sf_T_3 132 rfl rfl
theorem wt_756 : (Cond.instanceMethod ({ cls := "StreamFuser", name := "saves", desc := "(I)I" } : MethodName)) ∈ sf_T := sf_T_3 133 rfl rfl
theorem wt_757 : (Cond.selects "StreamFuser" ({ cls := "StreamFuser", name := "saves", desc := "(I)I" } : MethodName) ({ cls := "StreamFuser", name := "saves", desc := "(I)I" } : MethodName)) ∈ sf_T := sf_T_3 134 rfl rfl
theorem wt_758 : (Cond.code ({ cls := "StreamFuser", name := "saves", desc := "(I)I" } : MethodName) prog_1_method_10_code (3 : Nat) (Option.some FieldType.int)) ∈ sf_T := sf_T_3 135 rfl rfl
theorem wt_759 : (Cond.methodLinkNest "StreamFuser" (152 : Nat) ({ cls := "StreamFuser$Asker", name := "play", desc := "(I)V" } : MethodName) "StreamFuser") ∈ sf_N := sf_N_3 136 rfl rfl
theorem wt_761 : (Cond.instanceMethod ({ cls := "StreamFuser$Asker", name := "play", desc := "(I)V" } : MethodName)) ∈ sf_T := sf_T_3 138 rfl rfl
theorem wt_762 : (Cond.code ({ cls := "StreamFuser$Asker", name := "play", desc := "(I)V" } : MethodName) prog_2_method_2_code (3 : Nat) (Option.none : Option FieldType)) ∈ sf_T := sf_T_3 139 rfl rfl
theorem wt_763 : (Cond.methodLinkNest "StreamFuser$Asker" (15 : Nat) ({ cls := "StreamFuser$Run", name := "begin", desc := "()V" } : MethodName) "StreamFuser") ∈ sf_N := sf_N_3 140 rfl rfl
theorem wt_765 : (Cond.instanceMethod ({ cls := "StreamFuser$Run", name := "begin", desc := "()V" } : MethodName)) ∈ sf_T := sf_T_3 142 rfl rfl
theorem wt_766 : (Cond.code ({ cls := "StreamFuser$Run", name := "begin", desc := "()V" } : MethodName) prog_8_method_2_code (1 : Nat) (Option.none : Option FieldType)) ∈ sf_T := sf_T_3 143 rfl rfl
theorem wt_767 : (Cond.methodLink "StreamFuser$Asker" (31 : Nat) ({ cls := "StreamFuser$Asker", name := "restart", desc := "(II)V" } : MethodName)) ∈ sf_T := sf_T_3 144 rfl rfl
theorem wt_768 : (Cond.sameMethod "StreamFuser$Asker" "StreamFuser$Walk" "restart" "(II)V") ∈ sf_T := sf_T_3 145 rfl rfl
theorem wt_770 : (Cond.selects "StreamFuser$Asker" ({ cls := "StreamFuser$Asker", name := "restart", desc := "(II)V" } : MethodName) ({ cls := "StreamFuser$Walk", name := "restart", desc := "(II)V" } : MethodName)) ∈ sf_T := sf_T_3 147 rfl rfl
theorem wt_771 : (Cond.instanceMethod ({ cls := "StreamFuser$Walk", name := "restart", desc := "(II)V" } : MethodName)) ∈ sf_T := sf_T_3 148 rfl rfl
theorem wt_772 : (Cond.code ({ cls := "StreamFuser$Walk", name := "restart", desc := "(II)V" } : MethodName) prog_11_method_2_code (4 : Nat) (Option.none : Option FieldType)) ∈ sf_T := sf_T_3 149 rfl rfl
theorem wt_773 : (Cond.methodLink "StreamFuser$Walk" (19 : Nat) ({ cls := "java/lang/Math", name := "max", desc := "(II)I" } : MethodName)) ∈ sf_T := sf_T_3 150 rfl rfl
theorem wt_774 : (Cond.methodLink "StreamFuser$Asker" (35 : Nat) ({ cls := "StreamFuser$Asker", name := "ask", desc := "(II)Z" } : MethodName)) ∈ sf_T := sf_T_3 151 rfl rfl
theorem wt_776 : (Cond.instanceMethod ({ cls := "StreamFuser$Asker", name := "ask", desc := "(II)Z" } : MethodName)) ∈ sf_T := sf_T_3 153 rfl rfl
theorem wt_777 : (Cond.code ({ cls := "StreamFuser$Asker", name := "ask", desc := "(II)Z" } : MethodName) prog_2_method_3_code (3 : Nat) (Option.some FieldType.boolean)) ∈ sf_T := sf_T_3 154 rfl rfl
theorem wt_778 : (Cond.methodLinkNest "StreamFuser$Asker" (46 : Nat) ({ cls := "StreamFuser$Plan", name := "has", desc := "(I)Z" } : MethodName) "StreamFuser") ∈ sf_N := sf_N_3 155 rfl rfl
theorem wt_779 : (Cond.methodLink "StreamFuser$Asker" (57 : Nat) ({ cls := "StreamFuser$Asker", name := "change", desc := "(II)Z" } : MethodName)) ∈ sf_T := sf_T_3 156 rfl rfl
theorem wt_780 : (Cond.sameMethod "StreamFuser$Asker" "StreamFuser$Way" "change" "(II)Z") ∈ sf_T := sf_T_3 157 rfl rfl
theorem wt_782 : (Cond.selects "StreamFuser$Asker" ({ cls := "StreamFuser$Asker", name := "change", desc := "(II)Z" } : MethodName) ({ cls := "StreamFuser$Way", name := "change", desc := "(II)Z" } : MethodName)) ∈ sf_T := sf_T_3 159 rfl rfl
theorem wt_783 : (Cond.instanceMethod ({ cls := "StreamFuser$Way", name := "change", desc := "(II)Z" } : MethodName)) ∈ sf_T := sf_T_3 160 rfl rfl
theorem wt_784 : (Cond.code ({ cls := "StreamFuser$Way", name := "change", desc := "(II)Z" } : MethodName) prog_12_method_6_code (4 : Nat) (Option.some FieldType.boolean)) ∈ sf_T := sf_T_3 161 rfl rfl
theorem wt_785 : (Cond.methodLinkNest "StreamFuser$Way" (58 : Nat) ({ cls := "StreamFuser$Plan", name := "has", desc := "(I)Z" } : MethodName) "StreamFuser") ∈ sf_N := sf_N_3 162 rfl rfl
theorem wt_786 : (Cond.methodLink "StreamFuser$Way" (98 : Nat) ({ cls := "StreamFuser$Way", name := "divide", desc := "(III)Z" } : MethodName)) ∈ sf_T := sf_T_3 163 rfl rfl
theorem wt_788 : (Cond.instanceMethod ({ cls := "StreamFuser$Way", name := "divide", desc := "(III)Z" } : MethodName)) ∈ sf_T := sf_T_3 165 rfl rfl
theorem wt_789 : (Cond.code ({ cls := "StreamFuser$Way", name := "divide", desc := "(III)Z" } : MethodName) prog_12_method_7_code (4 : Nat) (Option.some FieldType.boolean)) ∈ sf_T := sf_T_3 166 rfl rfl
theorem wt_790 : (Cond.methodLinkNest "StreamFuser$Way" (52 : Nat) ({ cls := "StreamFuser$Run", name := "fail", desc := "(II)V" } : MethodName) "StreamFuser") ∈ sf_N := sf_N_3 167 rfl rfl
theorem wt_792 : (Cond.instanceMethod ({ cls := "StreamFuser$Run", name := "fail", desc := "(II)V" } : MethodName)) ∈ sf_T := sf_T_3 169 rfl rfl
theorem wt_793 : (Cond.code ({ cls := "StreamFuser$Run", name := "fail", desc := "(II)V" } : MethodName) prog_8_method_5_code (3 : Nat) (Option.none : Option FieldType)) ∈ sf_T := sf_T_3 170 rfl rfl
theorem wt_794 : (Cond.methodLink "StreamFuser$Way" (102 : Nat) ({ cls := "StreamFuser$Way", name := "modulo", desc := "(II)I" } : MethodName)) ∈ sf_T := sf_T_3 171 rfl rfl
theorem wt_795 : (Cond.static ({ cls := "StreamFuser$Way", name := "modulo", desc := "(II)I" } : MethodName)) ∈ sf_T := sf_T_3 172 rfl rfl
theorem wt_796 : (Cond.code ({ cls := "StreamFuser$Way", name := "modulo", desc := "(II)I" } : MethodName) prog_12_method_8_code (2 : Nat) (Option.some FieldType.int)) ∈ sf_T := sf_T_3 173 rfl rfl
theorem wt_797 : (Cond.methodLink "StreamFuser$Way" (108 : Nat) ({ cls := "java/lang/Math", name := "floorMod", desc := "(II)I" } : MethodName)) ∈ sf_T := sf_T_3 174 rfl rfl
theorem wt_798 : (Cond.static ({ cls := "java/lang/Math", name := "floorMod", desc := "(II)I" } : MethodName)) ∈ sf_T := sf_T_3 175 rfl rfl
theorem wt_799 : (Cond.code ({ cls := "java/lang/Math", name := "floorMod", desc := "(II)I" } : MethodName) prog_15_method_50_code (3 : Nat) (Option.some FieldType.int)) ∈ sf_T := sf_T_3 176 rfl rfl
theorem wt_800 : (Cond.methodLinkNest "StreamFuser$Way" (105 : Nat) ({ cls := "StreamFuser$Run", name := "note", desc := "(II)V" } : MethodName) "StreamFuser") ∈ sf_N := sf_N_3 177 rfl rfl
theorem wt_802 : (Cond.instanceMethod ({ cls := "StreamFuser$Run", name := "note", desc := "(II)V" } : MethodName)) ∈ sf_T := sf_T_3 179 rfl rfl
theorem wt_803 : (Cond.code ({ cls := "StreamFuser$Run", name := "note", desc := "(II)V" } : MethodName) prog_8_method_7_code (3 : Nat) (Option.none : Option FieldType)) ∈ sf_T := sf_T_3 180 rfl rfl
theorem wt_804 : (Cond.methodLink "StreamFuser$Asker" (60 : Nat) ({ cls := "StreamFuser$Asker", name := "askFilter", desc := "(II)Z" } : MethodName)) ∈ sf_T := sf_T_3 181 rfl rfl
theorem wt_806 : (Cond.instanceMethod ({ cls := "StreamFuser$Asker", name := "askFilter", desc := "(II)Z" } : MethodName)) ∈ sf_T := sf_T_3 183 rfl rfl
theorem wt_807 : (Cond.code ({ cls := "StreamFuser$Asker", name := "askFilter", desc := "(II)Z" } : MethodName) prog_2_method_4_code (4 : Nat) (Option.some FieldType.boolean)) ∈ sf_T := sf_T_3 184 rfl rfl
theorem wt_808 : (Cond.constant "StreamFuser$Asker" (84 : Nat) (1000000 : Int32)) ∈ sf_T := sf_T_3 185 rfl rfl
theorem wt_809 : (Cond.methodLink "StreamFuser$Asker" (85 : Nat) ({ cls := "StreamFuser$Asker", name := "passes", desc := "(II)Z" } : MethodName)) ∈ sf_T := sf_T_3 186 rfl rfl
theorem wt_810 : (Cond.sameMethod "StreamFuser$Asker" "StreamFuser$Way" "passes" "(II)Z") ∈ sf_T := sf_T_3 187 rfl rfl
theorem wt_812 : (Cond.selects "StreamFuser$Asker" ({ cls := "StreamFuser$Asker", name := "passes", desc := "(II)Z" } : MethodName) ({ cls := "StreamFuser$Way", name := "passes", desc := "(II)Z" } : MethodName)) ∈ sf_T := sf_T_3 189 rfl rfl
theorem wt_813 : (Cond.instanceMethod ({ cls := "StreamFuser$Way", name := "passes", desc := "(II)Z" } : MethodName)) ∈ sf_T := sf_T_3 190 rfl rfl
theorem wt_814 : (Cond.code ({ cls := "StreamFuser$Way", name := "passes", desc := "(II)Z" } : MethodName) prog_12_method_9_code (4 : Nat) (Option.some FieldType.boolean)) ∈ sf_T := sf_T_3 191 rfl rfl
theorem wt_815 : (Cond.methodLink "StreamFuser$Asker" (63 : Nat) ({ cls := "StreamFuser$Asker", name := "askWhile", desc := "(II)Z" } : MethodName)) ∈ sf_T := sf_T_3 192 rfl rfl
theorem wt_817 : (Cond.instanceMethod ({ cls := "StreamFuser$Asker", name := "askWhile", desc := "(II)Z" } : MethodName)) ∈ sf_T := sf_T_3 194 rfl rfl
theorem wt_818 : (Cond.code ({ cls := "StreamFuser$Asker", name := "askWhile", desc := "(II)Z" } : MethodName) prog_2_method_5_code (3 : Nat) (Option.some FieldType.boolean)) ∈ sf_T := sf_T_3 195 rfl rfl
theorem wt_819 : (Cond.methodLink "StreamFuser$Asker" (66 : Nat) ({ cls := "StreamFuser$Asker", name := "askTake", desc := "(II)Z" } : MethodName)) ∈ sf_T := sf_T_3 196 rfl rfl
theorem wt_821 : (Cond.instanceMethod ({ cls := "StreamFuser$Asker", name := "askTake", desc := "(II)Z" } : MethodName)) ∈ sf_T := sf_T_3 198 rfl rfl
theorem wt_822 : (Cond.code ({ cls := "StreamFuser$Asker", name := "askTake", desc := "(II)Z" } : MethodName) prog_2_method_6_code (3 : Nat) (Option.some FieldType.boolean)) ∈ sf_T := sf_T_3 199 rfl rfl
theorem wt_823 : (Cond.methodLink "StreamFuser$Asker" (69 : Nat) ({ cls := "StreamFuser$Asker", name := "askDrop", desc := "(II)Z" } : MethodName)) ∈ sf_T := sf_T_3 200 rfl rfl
theorem wt_825 : (Cond.instanceMethod ({ cls := "StreamFuser$Asker", name := "askDrop", desc := "(II)Z" } : MethodName)) ∈ sf_T := sf_T_3 202 rfl rfl
theorem wt_826 : (Cond.code ({ cls := "StreamFuser$Asker", name := "askDrop", desc := "(II)Z" } : MethodName) prog_2_method_7_code (5 : Nat) (Option.some FieldType.boolean)) ∈ sf_T := sf_T_3 203 rfl rfl
theorem wt_827 : (Cond.methodLink "StreamFuser$Asker" (98 : Nat) ({ cls := "java/lang/Math", name := "min", desc := "(II)I" } : MethodName)) ∈ sf_T := sf_T_3 204 rfl rfl
theorem wt_828 : (Cond.methodLink "StreamFuser$Asker" (72 : Nat) ({ cls := "StreamFuser$Asker", name := "askChain", desc := "(II)Z" } : MethodName)) ∈ sf_T := sf_T_3 205 rfl rfl
theorem wt_830 : (Cond.instanceMethod ({ cls := "StreamFuser$Asker", name := "askChain", desc := "(II)Z" } : MethodName)) ∈ sf_T := sf_T_3 207 rfl rfl
theorem wt_831 : (Cond.code ({ cls := "StreamFuser$Asker", name := "askChain", desc := "(II)Z" } : MethodName) prog_2_method_8_code (3 : Nat) (Option.some FieldType.boolean)) ∈ sf_T := sf_T_3 208 rfl rfl
theorem wt_832 : (Cond.methodLinkNest "StreamFuser$Asker" (104 : Nat) ({ cls := "StreamFuser$Run", name := "failed", desc := "()Z" } : MethodName) "StreamFuser") ∈ sf_N := sf_N_3 209 rfl rfl
theorem wt_834 : (Cond.instanceMethod ({ cls := "StreamFuser$Run", name := "failed", desc := "()Z" } : MethodName)) ∈ sf_T := sf_T_3 211 rfl rfl
theorem wt_835 : (Cond.code ({ cls := "StreamFuser$Run", name := "failed", desc := "()Z" } : MethodName) prog_8_method_6_code (1 : Nat) (Option.some FieldType.boolean)) ∈ sf_T := sf_T_3 212 rfl rfl
theorem wt_836 : (Cond.methodLinkNest "StreamFuser$Asker" (108 : Nat) ({ cls := "StreamFuser$Plan", name := "secondPart", desc := "(I)I" } : MethodName) "StreamFuser") ∈ sf_N := sf_N_3 213 rfl rfl
theorem wt_837 : (Cond.methodLink "StreamFuser$Asker" (75 : Nat) ({ cls := "StreamFuser$Asker", name := "askZip", desc := "(II)Z" } : MethodName)) ∈ sf_T := sf_T_3 214 rfl rfl
theorem wt_839 : (Cond.instanceMethod ({ cls := "StreamFuser$Asker", name := "askZip", desc := "(II)Z" } : MethodName)) ∈ sf_T := sf_T_3 216 rfl rfl
theorem wt_840 : (Cond.code ({ cls := "StreamFuser$Asker", name := "askZip", desc := "(II)Z" } : MethodName) prog_2_method_9_code (4 : Nat) (Option.some FieldType.boolean)) ∈ sf_T := sf_T_3 217 rfl rfl
theorem wt_841 : (Cond.methodLink "StreamFuser$Asker" (112 : Nat) ({ cls := "StreamFuser$Asker", name := "join", desc := "(III)I" } : MethodName)) ∈ sf_T := sf_T_3 218 rfl rfl
theorem wt_842 : (Cond.sameMethod "StreamFuser$Asker" "StreamFuser$Way" "join" "(III)I") ∈ sf_T := sf_T_3 219 rfl rfl
theorem wt_844 : (Cond.selects "StreamFuser$Asker" ({ cls := "StreamFuser$Asker", name := "join", desc := "(III)I" } : MethodName) ({ cls := "StreamFuser$Way", name := "join", desc := "(III)I" } : MethodName)) ∈ sf_T := sf_T_3 221 rfl rfl
theorem wt_845 : (Cond.instanceMethod ({ cls := "StreamFuser$Way", name := "join", desc := "(III)I" } : MethodName)) ∈ sf_T := sf_T_3 222 rfl rfl
theorem wt_846 : (Cond.code ({ cls := "StreamFuser$Way", name := "join", desc := "(III)I" } : MethodName) prog_12_method_10_code (4 : Nat) (Option.some FieldType.int)) ∈ sf_T := sf_T_3 223 rfl rfl
theorem wt_847 : (Cond.methodLink "StreamFuser$Way" (111 : Nat) ({ cls := "java/lang/Math", name := "min", desc := "(II)I" } : MethodName)) ∈ sf_T := sf_T_3 224 rfl rfl
theorem wt_848 : (Cond.methodLink "StreamFuser$Asker" (78 : Nat) ({ cls := "StreamFuser$Asker", name := "askOpener", desc := "(II)Z" } : MethodName)) ∈ sf_T := sf_T_3 225 rfl rfl
theorem wt_850 : (Cond.instanceMethod ({ cls := "StreamFuser$Asker", name := "askOpener", desc := "(II)Z" } : MethodName)) ∈ sf_T := sf_T_3 227 rfl rfl
theorem wt_851 : (Cond.code ({ cls := "StreamFuser$Asker", name := "askOpener", desc := "(II)Z" } : MethodName) prog_2_method_10_code (4 : Nat) (Option.some FieldType.boolean)) ∈ sf_T := sf_T_3 228 rfl rfl
theorem wt_852 : (Cond.methodLinkNest "StreamFuser$Asker" (116 : Nat) ({ cls := "StreamFuser$Plan", name := "input", desc := "(I)I" } : MethodName) "StreamFuser") ∈ sf_N := sf_N_3 229 rfl rfl
theorem wt_853 : (Cond.methodLink "StreamFuser$Asker" (119 : Nat) ({ cls := "StreamFuser$Asker", name := "open", desc := "(II)V" } : MethodName)) ∈ sf_T := sf_T_3 230 rfl rfl
theorem wt_854 : (Cond.sameMethod "StreamFuser$Asker" "StreamFuser$Walk" "open" "(II)V") ∈ sf_T := sf_T_3 231 rfl rfl
theorem wt_856 : (Cond.selects "StreamFuser$Asker" ({ cls := "StreamFuser$Asker", name := "open", desc := "(II)V" } : MethodName) ({ cls := "StreamFuser$Walk", name := "open", desc := "(II)V" } : MethodName)) ∈ sf_T := sf_T_3 233 rfl rfl
theorem wt_857 : (Cond.instanceMethod ({ cls := "StreamFuser$Walk", name := "open", desc := "(II)V" } : MethodName)) ∈ sf_T := sf_T_3 234 rfl rfl
theorem wt_858 : (Cond.code ({ cls := "StreamFuser$Walk", name := "open", desc := "(II)V" } : MethodName) prog_11_method_3_code (3 : Nat) (Option.none : Option FieldType)) ∈ sf_T := sf_T_3 235 rfl rfl
theorem wt_859 : (Cond.methodLinkNest "StreamFuser$Walk" (35 : Nat) ({ cls := "StreamFuser$Plan", name := "has", desc := "(I)Z" } : MethodName) "StreamFuser") ∈ sf_N := sf_N_3 236 rfl rfl
theorem wt_860 : (Cond.methodLinkNest "StreamFuser$Walk" (42 : Nat) ({ cls := "StreamFuser$Plan", name := "secondPart", desc := "(I)I" } : MethodName) "StreamFuser") ∈ sf_N := sf_N_3 237 rfl rfl
theorem wt_861 : (Cond.methodLink "StreamFuser$Walk" (46 : Nat) ({ cls := "StreamFuser$Walk", name := "restart", desc := "(II)V" } : MethodName)) ∈ sf_T := sf_T_3 238 rfl rfl
theorem wt_862 : (Cond.methodLink "StreamFuser$Asker" (81 : Nat) ({ cls := "StreamFuser$Asker", name := "produce", desc := "(I)Z" } : MethodName)) ∈ sf_T := sf_T_3 239 rfl rfl
theorem wt_863 : (Cond.sameMethod "StreamFuser$Asker" "StreamFuser$Walk" "produce" "(I)Z") ∈ sf_T := sf_T_4 0 rfl rfl
theorem wt_865 : (Cond.selects "StreamFuser$Asker" ({ cls := "StreamFuser$Asker", name := "produce", desc := "(I)Z" } : MethodName) ({ cls := "StreamFuser$Walk", name := "produce", desc := "(I)Z" } : MethodName)) ∈ sf_T := sf_T_4 2 rfl rfl
theorem wt_866 : (Cond.instanceMethod ({ cls := "StreamFuser$Walk", name := "produce", desc := "(I)Z" } : MethodName)) ∈ sf_T := sf_T_4 3 rfl rfl
theorem wt_867 : (Cond.code ({ cls := "StreamFuser$Walk", name := "produce", desc := "(I)Z" } : MethodName) prog_11_method_4_code (2 : Nat) (Option.some FieldType.boolean)) ∈ sf_T := sf_T_4 4 rfl rfl
theorem wt_868 : (Cond.methodLink "StreamFuser$Walk" (50 : Nat) ({ cls := "StreamFuser$Walk", name := "isReady", desc := "(I)Z" } : MethodName)) ∈ sf_T := sf_T_4 5 rfl rfl
theorem wt_869 : (Cond.sameMethod "StreamFuser$Walk" "StreamFuser$Way" "isReady" "(I)Z") ∈ sf_T := sf_T_4 6 rfl rfl
theorem wt_871 : (Cond.selects "StreamFuser$Asker" ({ cls := "StreamFuser$Walk", name := "isReady", desc := "(I)Z" } : MethodName) ({ cls := "StreamFuser$Way", name := "isReady", desc := "(I)Z" } : MethodName)) ∈ sf_T := sf_T_4 8 rfl rfl
theorem wt_872 : (Cond.selects "StreamFuser$Stepper" ({ cls := "StreamFuser$Walk", name := "isReady", desc := "(I)Z" } : MethodName) ({ cls := "StreamFuser$Way", name := "isReady", desc := "(I)Z" } : MethodName)) ∈ sf_T := sf_T_4 9 rfl rfl
theorem wt_873 : (Cond.instanceMethod ({ cls := "StreamFuser$Way", name := "isReady", desc := "(I)Z" } : MethodName)) ∈ sf_T := sf_T_4 10 rfl rfl
theorem wt_874 : (Cond.code ({ cls := "StreamFuser$Way", name := "isReady", desc := "(I)Z" } : MethodName) prog_12_method_3_code (2 : Nat) (Option.some FieldType.boolean)) ∈ sf_T := sf_T_4 11 rfl rfl
theorem wt_875 : (Cond.methodLinkNest "StreamFuser$Way" (36 : Nat) ({ cls := "StreamFuser$Plan", name := "letterAt", desc := "(I)I" } : MethodName) "StreamFuser") ∈ sf_N := sf_N_4 12 rfl rfl
theorem wt_876 : (Cond.methodLinkNest "StreamFuser$Way" (43 : Nat) ({ cls := "StreamFuser$Sheets", name := "isLost", desc := "(I)Z" } : MethodName) "StreamFuser") ∈ sf_N := sf_N_4 13 rfl rfl
theorem wt_878 : (Cond.instanceMethod ({ cls := "StreamFuser$Sheets", name := "isLost", desc := "(I)Z" } : MethodName)) ∈ sf_T := sf_T_4 15 rfl rfl
theorem wt_879 : (Cond.code ({ cls := "StreamFuser$Sheets", name := "isLost", desc := "(I)Z" } : MethodName) prog_9_method_2_code (2 : Nat) (Option.some FieldType.boolean)) ∈ sf_T := sf_T_4 16 rfl rfl
theorem wt_880 : (Cond.methodLink "StreamFuser$Walk" (53 : Nat) ({ cls := "StreamFuser$Walk", name := "supply", desc := "(I)J" } : MethodName)) ∈ sf_T := sf_T_4 17 rfl rfl
theorem wt_881 : (Cond.sameMethod "StreamFuser$Walk" "StreamFuser$Way" "supply" "(I)J") ∈ sf_T := sf_T_4 18 rfl rfl
theorem wt_883 : (Cond.selects "StreamFuser$Asker" ({ cls := "StreamFuser$Walk", name := "supply", desc := "(I)J" } : MethodName) ({ cls := "StreamFuser$Way", name := "supply", desc := "(I)J" } : MethodName)) ∈ sf_T := sf_T_4 20 rfl rfl
theorem wt_884 : (Cond.selects "StreamFuser$Stepper" ({ cls := "StreamFuser$Walk", name := "supply", desc := "(I)J" } : MethodName) ({ cls := "StreamFuser$Way", name := "supply", desc := "(I)J" } : MethodName)) ∈ sf_T := sf_T_4 21 rfl rfl
theorem wt_885 : (Cond.instanceMethod ({ cls := "StreamFuser$Way", name := "supply", desc := "(I)J" } : MethodName)) ∈ sf_T := sf_T_4 22 rfl rfl
theorem wt_886 : (Cond.code ({ cls := "StreamFuser$Way", name := "supply", desc := "(I)J" } : MethodName) prog_12_method_4_code (2 : Nat) (Option.some FieldType.long)) ∈ sf_T := sf_T_4 23 rfl rfl
theorem wt_887 : (Cond.methodLink "StreamFuser$Way" (70 : Nat) ({ cls := "java/lang/Math", name := "max", desc := "(JJ)J" } : MethodName)) ∈ sf_T := sf_T_4 24 rfl rfl
theorem wt_888 : (Cond.static ({ cls := "java/lang/Math", name := "max", desc := "(JJ)J" } : MethodName)) ∈ sf_T := sf_T_4 25 rfl rfl
theorem wt_889 : (Cond.code Lib.MathLoose.max_long.x Lib.MathLoose.max_long.code 4 (some .long)) ∈ sf_T := sf_T_4 26 (by decide +kernel) rfl
theorem wt_890 : (Cond.constantLong "StreamFuser$Way" (78 : Nat) (9223372036854775807 : Int64)) ∈ sf_T := sf_T_4 27 rfl rfl
theorem wt_891 : (Cond.methodLinkNest "StreamFuser$Way" (80 : Nat) ({ cls := "StreamFuser", name := "isSheet", desc := "(I)Z" } : MethodName) "StreamFuser") ∈ sf_N := sf_N_4 28 rfl rfl
theorem wt_892 : (Cond.static ({ cls := "StreamFuser", name := "isSheet", desc := "(I)Z" } : MethodName)) ∈ sf_T := sf_T_4 29 rfl rfl
theorem wt_893 : (Cond.code ({ cls := "StreamFuser", name := "isSheet", desc := "(I)Z" } : MethodName) prog_1_method_29_code (1 : Nat) (Option.some FieldType.boolean)) ∈ sf_T := sf_T_4 30 rfl rfl
theorem wt_894 : (Cond.methodLink "StreamFuser$Way" (86 : Nat) ({ cls := "StreamFuser$Way", name := "openedFor", desc := "(I)I" } : MethodName)) ∈ sf_T := sf_T_4 31 rfl rfl
theorem wt_895 : (Cond.instanceMethod ({ cls := "StreamFuser$Way", name := "openedFor", desc := "(I)I" } : MethodName)) ∈ sf_T := sf_T_4 32 rfl rfl
theorem wt_896 : (Cond.sameMethod "StreamFuser$Way" "StreamFuser$Way" "openedFor" "(I)I") ∈ sf_T := sf_T_4 33 rfl rfl
theorem wt_897 : (Cond.selects "StreamFuser$Asker" ({ cls := "StreamFuser$Way", name := "openedFor", desc := "(I)I" } : MethodName) ({ cls := "StreamFuser$Way", name := "openedFor", desc := "(I)I" } : MethodName)) ∈ sf_T := sf_T_4 34 rfl rfl
theorem wt_898 : (Cond.selects "StreamFuser$Maker" ({ cls := "StreamFuser$Way", name := "openedFor", desc := "(I)I" } : MethodName) ({ cls := "StreamFuser$Way", name := "openedFor", desc := "(I)I" } : MethodName)) ∈ sf_T := sf_T_4 35 rfl rfl
theorem wt_899 : (Cond.selects "StreamFuser$Stepper" ({ cls := "StreamFuser$Way", name := "openedFor", desc := "(I)I" } : MethodName) ({ cls := "StreamFuser$Way", name := "openedFor", desc := "(I)I" } : MethodName)) ∈ sf_T := sf_T_4 36 rfl rfl
theorem wt_900 : (Cond.code ({ cls := "StreamFuser$Way", name := "openedFor", desc := "(I)I" } : MethodName) prog_12_method_2_code (3 : Nat) (Option.some FieldType.int)) ∈ sf_T := sf_T_4 37 rfl rfl
theorem wt_901 : (Cond.methodLink "StreamFuser$Way" (89 : Nat) ({ cls := "java/lang/Math", name := "max", desc := "(II)I" } : MethodName)) ∈ sf_T := sf_T_4 38 rfl rfl
theorem wt_902 : (Cond.methodLinkNest "StreamFuser$Walk" (61 : Nat) ({ cls := "StreamFuser$Run", name := "draw", desc := "(I)Z" } : MethodName) "StreamFuser") ∈ sf_N := sf_N_4 39 rfl rfl
theorem wt_904 : (Cond.instanceMethod ({ cls := "StreamFuser$Run", name := "draw", desc := "(I)Z" } : MethodName)) ∈ sf_T := sf_T_4 41 rfl rfl
theorem wt_905 : (Cond.code ({ cls := "StreamFuser$Run", name := "draw", desc := "(I)Z" } : MethodName) prog_8_method_4_code (2 : Nat) (Option.some FieldType.boolean)) ∈ sf_T := sf_T_4 42 rfl rfl
theorem wt_906 : (Cond.methodLink "StreamFuser$Run" (43 : Nat) ({ cls := "StreamFuser$Run", name := "fail", desc := "(II)V" } : MethodName)) ∈ sf_T := sf_T_4 43 rfl rfl
theorem wt_907 : (Cond.methodLink "StreamFuser$Walk" (66 : Nat) ({ cls := "StreamFuser$Walk", name := "supplied", desc := "(II)I" } : MethodName)) ∈ sf_T := sf_T_4 44 rfl rfl
theorem wt_908 : (Cond.sameMethod "StreamFuser$Walk" "StreamFuser$Way" "supplied" "(II)I") ∈ sf_T := sf_T_4 45 rfl rfl
theorem wt_910 : (Cond.selects "StreamFuser$Asker" ({ cls := "StreamFuser$Walk", name := "supplied", desc := "(II)I" } : MethodName) ({ cls := "StreamFuser$Way", name := "supplied", desc := "(II)I" } : MethodName)) ∈ sf_T := sf_T_4 47 rfl rfl
theorem wt_911 : (Cond.selects "StreamFuser$Stepper" ({ cls := "StreamFuser$Walk", name := "supplied", desc := "(II)I" } : MethodName) ({ cls := "StreamFuser$Way", name := "supplied", desc := "(II)I" } : MethodName)) ∈ sf_T := sf_T_4 48 rfl rfl
theorem wt_912 : (Cond.instanceMethod ({ cls := "StreamFuser$Way", name := "supplied", desc := "(II)I" } : MethodName)) ∈ sf_T := sf_T_4 49 rfl rfl
theorem wt_913 : (Cond.code ({ cls := "StreamFuser$Way", name := "supplied", desc := "(II)I" } : MethodName) prog_12_method_5_code (3 : Nat) (Option.some FieldType.int)) ∈ sf_T := sf_T_4 50 rfl rfl
theorem wt_914 : (Cond.methodLinkNest "StreamFuser$Way" (92 : Nat) ({ cls := "StreamFuser$Sheets", name := "at", desc := "(II)I" } : MethodName) "StreamFuser") ∈ sf_N := sf_N_4 51 rfl rfl
theorem wt_916 : (Cond.instanceMethod ({ cls := "StreamFuser$Sheets", name := "at", desc := "(II)I" } : MethodName)) ∈ sf_T := sf_T_4 53 rfl rfl
theorem wt_917 : (Cond.code ({ cls := "StreamFuser$Sheets", name := "at", desc := "(II)I" } : MethodName) prog_9_method_8_code (3 : Nat) (Option.some FieldType.int)) ∈ sf_T := sf_T_4 54 rfl rfl
theorem wt_918 : (Cond.methodLinkNest "StreamFuser$Asker" (42 : Nat) ({ cls := "StreamFuser$Run", name := "give", desc := "(I)V" } : MethodName) "StreamFuser") ∈ sf_N := sf_N_4 55 rfl rfl
theorem wt_920 : (Cond.instanceMethod ({ cls := "StreamFuser$Run", name := "give", desc := "(I)V" } : MethodName)) ∈ sf_T := sf_T_4 57 rfl rfl
theorem wt_921 : (Cond.code ({ cls := "StreamFuser$Run", name := "give", desc := "(I)V" } : MethodName) prog_8_method_3_code (2 : Nat) (Option.none : Option FieldType)) ∈ sf_T := sf_T_4 58 rfl rfl
theorem wt_922 : (Cond.methodLink "StreamFuserLaw" (52 : Nat) ({ cls := "StreamFuser", name := "run", desc := "(II)I" } : MethodName)) ∈ sf_T := sf_T_4 59 rfl rfl
theorem wt_923 : (Cond.instanceMethod ({ cls := "StreamFuser", name := "run", desc := "(II)I" } : MethodName)) ∈ sf_T := sf_T_4 60 rfl rfl
theorem wt_924 : (Cond.selects "StreamFuser" ({ cls := "StreamFuser", name := "run", desc := "(II)I" } : MethodName) ({ cls := "StreamFuser", name := "run", desc := "(II)I" } : MethodName)) ∈ sf_T := sf_T_4 61 rfl rfl
theorem wt_925 : (Cond.code ({ cls := "StreamFuser", name := "run", desc := "(II)I" } : MethodName) prog_1_method_11_code (3 : Nat) (Option.some FieldType.int)) ∈ sf_T := sf_T_4 62 rfl rfl
theorem wt_926 : (Cond.methodLinkNest "StreamFuser" (163 : Nat) ({ cls := "StreamFuser$Stepper", name := "play", desc := "(I)V" } : MethodName) "StreamFuser") ∈ sf_N := sf_N_4 63 rfl rfl
theorem wt_928 : (Cond.instanceMethod ({ cls := "StreamFuser$Stepper", name := "play", desc := "(I)V" } : MethodName)) ∈ sf_T := sf_T_4 65 rfl rfl
theorem wt_929 : (Cond.code ({ cls := "StreamFuser$Stepper", name := "play", desc := "(I)V" } : MethodName) prog_10_method_2_code (4 : Nat) (Option.none : Option FieldType)) ∈ sf_T := sf_T_4 66 rfl rfl
theorem wt_930 : (Cond.methodLinkNest "StreamFuser$Stepper" (19 : Nat) ({ cls := "StreamFuser$Run", name := "begin", desc := "()V" } : MethodName) "StreamFuser") ∈ sf_N := sf_N_4 67 rfl rfl
theorem wt_931 : (Cond.methodLink "StreamFuser$Stepper" (35 : Nat) ({ cls := "StreamFuser$Stepper", name := "restart", desc := "(II)V" } : MethodName)) ∈ sf_T := sf_T_4 68 rfl rfl
theorem wt_932 : (Cond.sameMethod "StreamFuser$Stepper" "StreamFuser$Walk" "restart" "(II)V") ∈ sf_T := sf_T_4 69 rfl rfl
theorem wt_933 : (Cond.selects "StreamFuser$Stepper" ({ cls := "StreamFuser$Stepper", name := "restart", desc := "(II)V" } : MethodName) ({ cls := "StreamFuser$Walk", name := "restart", desc := "(II)V" } : MethodName)) ∈ sf_T := sf_T_4 70 rfl rfl
theorem wt_934 : (Cond.constant "StreamFuser$Stepper" (39 : Nat) (1000000 : Int32)) ∈ sf_T := sf_T_4 71 rfl rfl
theorem wt_935 : (Cond.methodLink "StreamFuser$Stepper" (44 : Nat) ({ cls := "StreamFuser$Stepper", name := "step", desc := "(II)I" } : MethodName)) ∈ sf_T := sf_T_4 72 rfl rfl
theorem wt_937 : (Cond.instanceMethod ({ cls := "StreamFuser$Stepper", name := "step", desc := "(II)I" } : MethodName)) ∈ sf_T := sf_T_4 74 rfl rfl
theorem wt_938 : (Cond.code ({ cls := "StreamFuser$Stepper", name := "step", desc := "(II)I" } : MethodName) prog_10_method_3_code (3 : Nat) (Option.some FieldType.int)) ∈ sf_T := sf_T_4 75 rfl rfl
theorem wt_939 : (Cond.methodLinkNest "StreamFuser$Stepper" (55 : Nat) ({ cls := "StreamFuser$Plan", name := "has", desc := "(I)Z" } : MethodName) "StreamFuser") ∈ sf_N := sf_N_4 76 rfl rfl
theorem wt_940 : (Cond.methodLink "StreamFuser$Stepper" (62 : Nat) ({ cls := "StreamFuser$Stepper", name := "stepChain", desc := "(II)I" } : MethodName)) ∈ sf_T := sf_T_4 77 rfl rfl
theorem wt_942 : (Cond.instanceMethod ({ cls := "StreamFuser$Stepper", name := "stepChain", desc := "(II)I" } : MethodName)) ∈ sf_T := sf_T_4 79 rfl rfl
theorem wt_943 : (Cond.code ({ cls := "StreamFuser$Stepper", name := "stepChain", desc := "(II)I" } : MethodName) prog_10_method_6_code (4 : Nat) (Option.some FieldType.int)) ∈ sf_T := sf_T_4 80 rfl rfl
theorem wt_944 : (Cond.methodLinkNest "StreamFuser$Stepper" (102 : Nat) ({ cls := "StreamFuser$Plan", name := "secondPart", desc := "(I)I" } : MethodName) "StreamFuser") ∈ sf_N := sf_N_4 81 rfl rfl
theorem wt_945 : (Cond.methodLink "StreamFuser$Stepper" (65 : Nat) ({ cls := "StreamFuser$Stepper", name := "stepZip", desc := "(II)I" } : MethodName)) ∈ sf_T := sf_T_4 82 rfl rfl
theorem wt_947 : (Cond.instanceMethod ({ cls := "StreamFuser$Stepper", name := "stepZip", desc := "(II)I" } : MethodName)) ∈ sf_T := sf_T_4 84 rfl rfl
theorem wt_948 : (Cond.code ({ cls := "StreamFuser$Stepper", name := "stepZip", desc := "(II)I" } : MethodName) prog_10_method_7_code (4 : Nat) (Option.some FieldType.int)) ∈ sf_T := sf_T_4 85 rfl rfl
theorem wt_949 : (Cond.methodLink "StreamFuser$Stepper" (106 : Nat) ({ cls := "StreamFuser$Stepper", name := "join", desc := "(III)I" } : MethodName)) ∈ sf_T := sf_T_4 86 rfl rfl
theorem wt_950 : (Cond.sameMethod "StreamFuser$Stepper" "StreamFuser$Way" "join" "(III)I") ∈ sf_T := sf_T_4 87 rfl rfl
theorem wt_951 : (Cond.selects "StreamFuser$Stepper" ({ cls := "StreamFuser$Stepper", name := "join", desc := "(III)I" } : MethodName) ({ cls := "StreamFuser$Way", name := "join", desc := "(III)I" } : MethodName)) ∈ sf_T := sf_T_4 88 rfl rfl
theorem wt_952 : (Cond.methodLink "StreamFuser$Stepper" (68 : Nat) ({ cls := "StreamFuser$Stepper", name := "stepOpener", desc := "(II)I" } : MethodName)) ∈ sf_T := sf_T_4 89 rfl rfl
theorem wt_954 : (Cond.instanceMethod ({ cls := "StreamFuser$Stepper", name := "stepOpener", desc := "(II)I" } : MethodName)) ∈ sf_T := sf_T_4 91 rfl rfl
theorem wt_955 : (Cond.code ({ cls := "StreamFuser$Stepper", name := "stepOpener", desc := "(II)I" } : MethodName) prog_10_method_8_code (4 : Nat) (Option.some FieldType.int)) ∈ sf_T := sf_T_4 92 rfl rfl
theorem wt_956 : (Cond.methodLinkNest "StreamFuser$Stepper" (110 : Nat) ({ cls := "StreamFuser$Plan", name := "input", desc := "(I)I" } : MethodName) "StreamFuser") ∈ sf_N := sf_N_4 93 rfl rfl
theorem wt_957 : (Cond.methodLink "StreamFuser$Stepper" (113 : Nat) ({ cls := "StreamFuser$Stepper", name := "open", desc := "(II)V" } : MethodName)) ∈ sf_T := sf_T_4 94 rfl rfl
theorem wt_958 : (Cond.sameMethod "StreamFuser$Stepper" "StreamFuser$Walk" "open" "(II)V") ∈ sf_T := sf_T_4 95 rfl rfl
theorem wt_959 : (Cond.selects "StreamFuser$Stepper" ({ cls := "StreamFuser$Stepper", name := "open", desc := "(II)V" } : MethodName) ({ cls := "StreamFuser$Walk", name := "open", desc := "(II)V" } : MethodName)) ∈ sf_T := sf_T_4 96 rfl rfl
theorem wt_960 : (Cond.methodLink "StreamFuser$Stepper" (71 : Nat) ({ cls := "StreamFuser$Stepper", name := "produce", desc := "(I)Z" } : MethodName)) ∈ sf_T := sf_T_4 97 rfl rfl
theorem wt_961 : (Cond.sameMethod "StreamFuser$Stepper" "StreamFuser$Walk" "produce" "(I)Z") ∈ sf_T := sf_T_4 98 rfl rfl
theorem wt_962 : (Cond.selects "StreamFuser$Stepper" ({ cls := "StreamFuser$Stepper", name := "produce", desc := "(I)Z" } : MethodName) ({ cls := "StreamFuser$Walk", name := "produce", desc := "(I)Z" } : MethodName)) ∈ sf_T := sf_T_4 99 rfl rfl
theorem wt_963 : (Cond.methodLink "StreamFuser$Stepper" (74 : Nat) ({ cls := "StreamFuser$Stepper", name := "given", desc := "(Z)I" } : MethodName)) ∈ sf_T := sf_T_4 100 rfl rfl
theorem wt_965 : (Cond.instanceMethod ({ cls := "StreamFuser$Stepper", name := "given", desc := "(Z)I" } : MethodName)) ∈ sf_T := sf_T_4 102 rfl rfl
theorem wt_966 : (Cond.code ({ cls := "StreamFuser$Stepper", name := "given", desc := "(Z)I" } : MethodName) prog_10_method_5_code (2 : Nat) (Option.some FieldType.int)) ∈ sf_T := sf_T_4 103 rfl rfl
theorem wt_967 : (Cond.methodLinkNest "StreamFuser$Stepper" (94 : Nat) ({ cls := "StreamFuser$Run", name := "failed", desc := "()Z" } : MethodName) "StreamFuser") ∈ sf_N := sf_N_4 104 rfl rfl
theorem wt_968 : (Cond.methodLink "StreamFuser$Stepper" (78 : Nat) ({ cls := "StreamFuser$Stepper", name := "stepOne", desc := "(II)I" } : MethodName)) ∈ sf_T := sf_T_4 105 rfl rfl
theorem wt_970 : (Cond.instanceMethod ({ cls := "StreamFuser$Stepper", name := "stepOne", desc := "(II)I" } : MethodName)) ∈ sf_T := sf_T_4 107 rfl rfl
theorem wt_971 : (Cond.code ({ cls := "StreamFuser$Stepper", name := "stepOne", desc := "(II)I" } : MethodName) prog_10_method_4_code (4 : Nat) (Option.some FieldType.int)) ∈ sf_T := sf_T_4 108 rfl rfl
theorem wt_972 : (Cond.methodLink "StreamFuser$Stepper" (87 : Nat) ({ cls := "StreamFuser$Stepper", name := "passes", desc := "(II)Z" } : MethodName)) ∈ sf_T := sf_T_4 109 rfl rfl
theorem wt_973 : (Cond.sameMethod "StreamFuser$Stepper" "StreamFuser$Way" "passes" "(II)Z") ∈ sf_T := sf_T_4 110 rfl rfl
theorem wt_974 : (Cond.selects "StreamFuser$Stepper" ({ cls := "StreamFuser$Stepper", name := "passes", desc := "(II)Z" } : MethodName) ({ cls := "StreamFuser$Way", name := "passes", desc := "(II)Z" } : MethodName)) ∈ sf_T := sf_T_4 111 rfl rfl
theorem wt_975 : (Cond.methodLink "StreamFuser$Stepper" (91 : Nat) ({ cls := "StreamFuser$Stepper", name := "change", desc := "(II)Z" } : MethodName)) ∈ sf_T := sf_T_4 112 rfl rfl
theorem wt_976 : (Cond.sameMethod "StreamFuser$Stepper" "StreamFuser$Way" "change" "(II)Z") ∈ sf_T := sf_T_4 113 rfl rfl
theorem wt_977 : (Cond.selects "StreamFuser$Stepper" ({ cls := "StreamFuser$Stepper", name := "change", desc := "(II)Z" } : MethodName) ({ cls := "StreamFuser$Way", name := "change", desc := "(II)Z" } : MethodName)) ∈ sf_T := sf_T_4 114 rfl rfl
theorem wt_978 : (Cond.methodLinkNest "StreamFuser$Stepper" (51 : Nat) ({ cls := "StreamFuser$Run", name := "give", desc := "(I)V" } : MethodName) "StreamFuser") ∈ sf_N := sf_N_4 115 rfl rfl
theorem wt_979 : (Cond.methodLinkNest "StreamFuser" (164 : Nat) ({ cls := "StreamFuser$Maker", name := "play", desc := "(I)V" } : MethodName) "StreamFuser") ∈ sf_N := sf_N_4 116 rfl rfl
theorem wt_981 : (Cond.instanceMethod ({ cls := "StreamFuser$Maker", name := "play", desc := "(I)V" } : MethodName)) ∈ sf_T := sf_T_4 118 rfl rfl
theorem wt_982 : (Cond.code ({ cls := "StreamFuser$Maker", name := "play", desc := "(I)V" } : MethodName) prog_3_method_2_code (3 : Nat) (Option.none : Option FieldType)) ∈ sf_T := sf_T_4 119 rfl rfl
theorem wt_983 : (Cond.methodLinkNest "StreamFuser$Maker" (22 : Nat) ({ cls := "StreamFuser$Run", name := "begin", desc := "()V" } : MethodName) "StreamFuser") ∈ sf_N := sf_N_4 120 rfl rfl
theorem wt_984 : (Cond.methodLink "StreamFuser$Maker" (28 : Nat) ({ cls := "StreamFuser$Maker", name := "make", desc := "(II)Z" } : MethodName)) ∈ sf_T := sf_T_4 121 rfl rfl
theorem wt_986 : (Cond.instanceMethod ({ cls := "StreamFuser$Maker", name := "make", desc := "(II)Z" } : MethodName)) ∈ sf_T := sf_T_4 123 rfl rfl
theorem wt_987 : (Cond.code ({ cls := "StreamFuser$Maker", name := "make", desc := "(II)Z" } : MethodName) prog_3_method_3_code (3 : Nat) (Option.some FieldType.boolean)) ∈ sf_T := sf_T_4 124 rfl rfl
theorem wt_988 : (Cond.methodLinkNest "StreamFuser$Maker" (40 : Nat) ({ cls := "StreamFuser$Plan", name := "has", desc := "(I)Z" } : MethodName) "StreamFuser") ∈ sf_N := sf_N_4 125 rfl rfl
theorem wt_989 : (Cond.methodLink "StreamFuser$Maker" (46 : Nat) ({ cls := "StreamFuser$Maker", name := "fill", desc := "(II)Z" } : MethodName)) ∈ sf_T := sf_T_4 126 rfl rfl
theorem wt_991 : (Cond.instanceMethod ({ cls := "StreamFuser$Maker", name := "fill", desc := "(II)Z" } : MethodName)) ∈ sf_T := sf_T_4 128 rfl rfl
theorem wt_992 : (Cond.code ({ cls := "StreamFuser$Maker", name := "fill", desc := "(II)Z" } : MethodName) prog_3_method_4_code (5 : Nat) (Option.some FieldType.boolean)) ∈ sf_T := sf_T_4 129 rfl rfl
theorem wt_993 : (Cond.methodLinkNest "StreamFuser$Maker" (59 : Nat) ({ cls := "StreamFuser$Plan", name := "partsOf", desc := "(I)I" } : MethodName) "StreamFuser") ∈ sf_N := sf_N_4 130 rfl rfl
theorem wt_994 : (Cond.methodLink "StreamFuser$Maker" (63 : Nat) ({ cls := "StreamFuser$Maker", name := "fillFromProducer", desc := "(I)Z" } : MethodName)) ∈ sf_T := sf_T_4 131 rfl rfl
theorem wt_996 : (Cond.instanceMethod ({ cls := "StreamFuser$Maker", name := "fillFromProducer", desc := "(I)Z" } : MethodName)) ∈ sf_T := sf_T_4 133 rfl rfl
theorem wt_997 : (Cond.code ({ cls := "StreamFuser$Maker", name := "fillFromProducer", desc := "(I)Z" } : MethodName) prog_3_method_5_code (5 : Nat) (Option.some FieldType.boolean)) ∈ sf_T := sf_T_4 134 rfl rfl
theorem wt_998 : (Cond.methodLink "StreamFuser$Maker" (85 : Nat) ({ cls := "StreamFuser$Maker", name := "isReady", desc := "(I)Z" } : MethodName)) ∈ sf_T := sf_T_4 135 rfl rfl
theorem wt_999 : (Cond.sameMethod "StreamFuser$Maker" "StreamFuser$Way" "isReady" "(I)Z") ∈ sf_T := sf_T_4 136 rfl rfl
theorem wt_1000 : (Cond.selects "StreamFuser$Maker" ({ cls := "StreamFuser$Maker", name := "isReady", desc := "(I)Z" } : MethodName) ({ cls := "StreamFuser$Way", name := "isReady", desc := "(I)Z" } : MethodName)) ∈ sf_T := sf_T_4 137 rfl rfl
theorem wt_1001 : (Cond.methodLink "StreamFuser$Maker" (88 : Nat) ({ cls := "StreamFuser$Maker", name := "supply", desc := "(I)J" } : MethodName)) ∈ sf_T := sf_T_4 138 rfl rfl
theorem wt_1002 : (Cond.sameMethod "StreamFuser$Maker" "StreamFuser$Way" "supply" "(I)J") ∈ sf_T := sf_T_4 139 rfl rfl
theorem wt_1003 : (Cond.selects "StreamFuser$Maker" ({ cls := "StreamFuser$Maker", name := "supply", desc := "(I)J" } : MethodName) ({ cls := "StreamFuser$Way", name := "supply", desc := "(I)J" } : MethodName)) ∈ sf_T := sf_T_4 140 rfl rfl
theorem wt_1004 : (Cond.constantLong "StreamFuser$Maker" (92 : Nat) (60 : Int64)) ∈ sf_T := sf_T_4 141 rfl rfl
theorem wt_1005 : (Cond.methodLinkNest "StreamFuser$Maker" (97 : Nat) ({ cls := "StreamFuser$Run", name := "fail", desc := "(II)V" } : MethodName) "StreamFuser") ∈ sf_N := sf_N_4 142 rfl rfl
theorem wt_1006 : (Cond.methodLinkNest "StreamFuser$Maker" (100 : Nat) ({ cls := "StreamFuser$Run", name := "draw", desc := "(I)Z" } : MethodName) "StreamFuser") ∈ sf_N := sf_N_4 143 rfl rfl
theorem wt_1007 : (Cond.methodLink "StreamFuser$Maker" (103 : Nat) ({ cls := "StreamFuser$Maker", name := "supplied", desc := "(II)I" } : MethodName)) ∈ sf_T := sf_T_4 144 rfl rfl
theorem wt_1008 : (Cond.sameMethod "StreamFuser$Maker" "StreamFuser$Way" "supplied" "(II)I") ∈ sf_T := sf_T_4 145 rfl rfl
theorem wt_1009 : (Cond.selects "StreamFuser$Maker" ({ cls := "StreamFuser$Maker", name := "supplied", desc := "(II)I" } : MethodName) ({ cls := "StreamFuser$Way", name := "supplied", desc := "(II)I" } : MethodName)) ∈ sf_T := sf_T_4 146 rfl rfl
theorem wt_1010 : (Cond.methodLink "StreamFuser$Maker" (107 : Nat) ({ cls := "StreamFuser$Maker", name := "add", desc := "(II)V" } : MethodName)) ∈ sf_T := sf_T_4 147 rfl rfl
theorem wt_1012 : (Cond.instanceMethod ({ cls := "StreamFuser$Maker", name := "add", desc := "(II)V" } : MethodName)) ∈ sf_T := sf_T_4 149 rfl rfl
theorem wt_1013 : (Cond.code ({ cls := "StreamFuser$Maker", name := "add", desc := "(II)V" } : MethodName) prog_3_method_11_code (3 : Nat) (Option.none : Option FieldType)) ∈ sf_T := sf_T_4 150 rfl rfl
theorem wt_1014 : (Cond.methodLinkNest "StreamFuser$Maker" (66 : Nat) ({ cls := "StreamFuser$Plan", name := "input", desc := "(I)I" } : MethodName) "StreamFuser") ∈ sf_N := sf_N_4 151 rfl rfl
theorem wt_1015 : (Cond.methodLink "StreamFuser$Maker" (69 : Nat) ({ cls := "StreamFuser$Maker", name := "fillByOpening", desc := "(II)Z" } : MethodName)) ∈ sf_T := sf_T_4 152 rfl rfl
theorem wt_1017 : (Cond.instanceMethod ({ cls := "StreamFuser$Maker", name := "fillByOpening", desc := "(II)Z" } : MethodName)) ∈ sf_T := sf_T_4 154 rfl rfl
theorem wt_1018 : (Cond.code ({ cls := "StreamFuser$Maker", name := "fillByOpening", desc := "(II)Z" } : MethodName) prog_3_method_7_code (5 : Nat) (Option.some FieldType.boolean)) ∈ sf_T := sf_T_4 155 rfl rfl
theorem wt_1019 : (Cond.methodLink "StreamFuser$Maker" (110 : Nat) ({ cls := "StreamFuser$Maker", name := "element", desc := "(II)I" } : MethodName)) ∈ sf_T := sf_T_4 156 rfl rfl
theorem wt_1021 : (Cond.instanceMethod ({ cls := "StreamFuser$Maker", name := "element", desc := "(II)I" } : MethodName)) ∈ sf_T := sf_T_4 158 rfl rfl
theorem wt_1022 : (Cond.code ({ cls := "StreamFuser$Maker", name := "element", desc := "(II)I" } : MethodName) prog_3_method_10_code (3 : Nat) (Option.some FieldType.int)) ∈ sf_T := sf_T_4 159 rfl rfl
theorem wt_1023 : (Cond.methodLink "StreamFuser$Maker" (78 : Nat) ({ cls := "StreamFuser$Maker", name := "addRow", desc := "(II)Z" } : MethodName)) ∈ sf_T := sf_T_4 160 rfl rfl
theorem wt_1025 : (Cond.instanceMethod ({ cls := "StreamFuser$Maker", name := "addRow", desc := "(II)Z" } : MethodName)) ∈ sf_T := sf_T_4 162 rfl rfl
theorem wt_1026 : (Cond.code ({ cls := "StreamFuser$Maker", name := "addRow", desc := "(II)Z" } : MethodName) prog_3_method_8_code (3 : Nat) (Option.some FieldType.boolean)) ∈ sf_T := sf_T_4 163 rfl rfl
theorem wt_1027 : (Cond.methodLink "StreamFuser$Maker" (128 : Nat) ({ cls := "java/lang/System", name := "arraycopy", desc := "(Ljava/lang/Object;ILjava/lang/Object;II)V" } : MethodName)) ∈ sf_T := sf_T_4 164 rfl rfl
theorem wt_1028 : (Cond.static ({ cls := "java/lang/System", name := "arraycopy", desc := "(Ljava/lang/Object;ILjava/lang/Object;II)V" } : MethodName)) ∈ sf_T := sf_T_4 165 rfl rfl
theorem wt_1029 : (Cond.native ({ cls := "java/lang/System", name := "arraycopy", desc := "(Ljava/lang/Object;ILjava/lang/Object;II)V" } : MethodName)) ∈ sf_T := sf_T_4 166 rfl rfl
theorem wt_1030 : (Cond.methodLink "StreamFuser$Maker" (72 : Nat) ({ cls := "StreamFuser$Maker", name := "fillFromInput", desc := "(I)Z" } : MethodName)) ∈ sf_T := sf_T_4 167 rfl rfl
theorem wt_1032 : (Cond.instanceMethod ({ cls := "StreamFuser$Maker", name := "fillFromInput", desc := "(I)Z" } : MethodName)) ∈ sf_T := sf_T_4 169 rfl rfl
theorem wt_1033 : (Cond.code ({ cls := "StreamFuser$Maker", name := "fillFromInput", desc := "(I)Z" } : MethodName) prog_3_method_6_code (5 : Nat) (Option.some FieldType.boolean)) ∈ sf_T := sf_T_4 170 rfl rfl
theorem wt_1034 : (Cond.methodLink "StreamFuser$Maker" (113 : Nat) ({ cls := "StreamFuser$Maker", name := "passes", desc := "(II)Z" } : MethodName)) ∈ sf_T := sf_T_4 171 rfl rfl
theorem wt_1035 : (Cond.sameMethod "StreamFuser$Maker" "StreamFuser$Way" "passes" "(II)Z") ∈ sf_T := sf_T_4 172 rfl rfl
theorem wt_1036 : (Cond.selects "StreamFuser$Maker" ({ cls := "StreamFuser$Maker", name := "passes", desc := "(II)Z" } : MethodName) ({ cls := "StreamFuser$Way", name := "passes", desc := "(II)Z" } : MethodName)) ∈ sf_T := sf_T_4 173 rfl rfl
theorem wt_1037 : (Cond.methodLink "StreamFuser$Maker" (119 : Nat) ({ cls := "StreamFuser$Maker", name := "change", desc := "(II)Z" } : MethodName)) ∈ sf_T := sf_T_4 174 rfl rfl
theorem wt_1038 : (Cond.sameMethod "StreamFuser$Maker" "StreamFuser$Way" "change" "(II)Z") ∈ sf_T := sf_T_4 175 rfl rfl
theorem wt_1039 : (Cond.selects "StreamFuser$Maker" ({ cls := "StreamFuser$Maker", name := "change", desc := "(II)Z" } : MethodName) ({ cls := "StreamFuser$Way", name := "change", desc := "(II)Z" } : MethodName)) ∈ sf_T := sf_T_4 176 rfl rfl
theorem wt_1040 : (Cond.methodLinkNest "StreamFuser$Maker" (75 : Nat) ({ cls := "StreamFuser$Plan", name := "secondPart", desc := "(I)I" } : MethodName) "StreamFuser") ∈ sf_N := sf_N_4 177 rfl rfl
theorem wt_1041 : (Cond.methodLink "StreamFuser$Maker" (81 : Nat) ({ cls := "StreamFuser$Maker", name := "zip", desc := "(II)V" } : MethodName)) ∈ sf_T := sf_T_4 178 rfl rfl
theorem wt_1043 : (Cond.instanceMethod ({ cls := "StreamFuser$Maker", name := "zip", desc := "(II)V" } : MethodName)) ∈ sf_T := sf_T_4 180 rfl rfl
theorem wt_1044 : (Cond.code ({ cls := "StreamFuser$Maker", name := "zip", desc := "(II)V" } : MethodName) prog_3_method_9_code (6 : Nat) (Option.none : Option FieldType)) ∈ sf_T := sf_T_4 181 rfl rfl
theorem wt_1045 : (Cond.methodLink "StreamFuser$Maker" (134 : Nat) ({ cls := "java/lang/Math", name := "min", desc := "(II)I" } : MethodName)) ∈ sf_T := sf_T_4 182 rfl rfl
theorem wt_1046 : (Cond.methodLink "StreamFuser$Maker" (139 : Nat) ({ cls := "StreamFuser$Maker", name := "join", desc := "(III)I" } : MethodName)) ∈ sf_T := sf_T_4 183 rfl rfl
theorem wt_1047 : (Cond.sameMethod "StreamFuser$Maker" "StreamFuser$Way" "join" "(III)I") ∈ sf_T := sf_T_4 184 rfl rfl
theorem wt_1048 : (Cond.selects "StreamFuser$Maker" ({ cls := "StreamFuser$Maker", name := "join", desc := "(III)I" } : MethodName) ({ cls := "StreamFuser$Way", name := "join", desc := "(III)I" } : MethodName)) ∈ sf_T := sf_T_4 185 rfl rfl
theorem wt_1049 : (Cond.methodLinkNest "StreamFuser$Maker" (32 : Nat) ({ cls := "StreamFuser$Run", name := "give", desc := "(I)V" } : MethodName) "StreamFuser") ∈ sf_N := sf_N_4 186 rfl rfl
theorem wt_1050 : (Cond.methodLink "StreamFuserLaw" (56 : Nat) ({ cls := "StreamFuser", name := "result", desc := "(I)J" } : MethodName)) ∈ sf_T := sf_T_4 187 rfl rfl
theorem wt_1051 : (Cond.instanceMethod ({ cls := "StreamFuser", name := "result", desc := "(I)J" } : MethodName)) ∈ sf_T := sf_T_4 188 rfl rfl
theorem wt_1052 : (Cond.selects "StreamFuser" ({ cls := "StreamFuser", name := "result", desc := "(I)J" } : MethodName) ({ cls := "StreamFuser", name := "result", desc := "(I)J" } : MethodName)) ∈ sf_T := sf_T_4 189 rfl rfl
theorem wt_1053 : (Cond.code ({ cls := "StreamFuser", name := "result", desc := "(I)J" } : MethodName) prog_1_method_12_code (2 : Nat) (Option.some FieldType.long)) ∈ sf_T := sf_T_4 190 rfl rfl
theorem wt_1054 : (Cond.constantLong "StreamFuser" (169 : Nat) (-9223372036854775806 : Int64)) ∈ sf_T := sf_T_4 191 rfl rfl
theorem wt_1055 : (Cond.methodLink "StreamFuserLaw" (61 : Nat) ({ cls := "StreamFuser", name := "fold", desc := "(I)J" } : MethodName)) ∈ sf_T := sf_T_4 192 rfl rfl
theorem wt_1056 : (Cond.instanceMethod ({ cls := "StreamFuser", name := "fold", desc := "(I)J" } : MethodName)) ∈ sf_T := sf_T_4 193 rfl rfl
theorem wt_1057 : (Cond.selects "StreamFuser" ({ cls := "StreamFuser", name := "fold", desc := "(I)J" } : MethodName) ({ cls := "StreamFuser", name := "fold", desc := "(I)J" } : MethodName)) ∈ sf_T := sf_T_4 194 rfl rfl
theorem wt_1058 : (Cond.code ({ cls := "StreamFuser", name := "fold", desc := "(I)J" } : MethodName) prog_1_method_13_code (2 : Nat) (Option.some FieldType.long)) ∈ sf_T := sf_T_4 195 rfl rfl
theorem wt_1059 : (Cond.methodLinkNest "StreamFuser" (171 : Nat) ({ cls := "StreamFuser$Run", name := "sum", desc := "()J" } : MethodName) "StreamFuser") ∈ sf_N := sf_N_4 196 rfl rfl
theorem wt_1061 : (Cond.instanceMethod ({ cls := "StreamFuser$Run", name := "sum", desc := "()J" } : MethodName)) ∈ sf_T := sf_T_4 198 rfl rfl
theorem wt_1062 : (Cond.code ({ cls := "StreamFuser$Run", name := "sum", desc := "()J" } : MethodName) prog_8_method_9_code (4 : Nat) (Option.some FieldType.long)) ∈ sf_T := sf_T_4 199 rfl rfl
theorem wt_1063 : (Cond.constantLong "StreamFuser" (175 : Nat) (-9223372036854775805 : Int64)) ∈ sf_T := sf_T_4 200 rfl rfl
theorem wt_1064 : (Cond.methodLinkNest "StreamFuser" (177 : Nat) ({ cls := "StreamFuser$Run", name := "greatest", desc := "()I" } : MethodName) "StreamFuser") ∈ sf_N := sf_N_4 201 rfl rfl
theorem wt_1066 : (Cond.instanceMethod ({ cls := "StreamFuser$Run", name := "greatest", desc := "()I" } : MethodName)) ∈ sf_T := sf_T_4 203 rfl rfl
theorem wt_1067 : (Cond.code ({ cls := "StreamFuser$Run", name := "greatest", desc := "()I" } : MethodName) prog_8_method_10_code (3 : Nat) (Option.some FieldType.int)) ∈ sf_T := sf_T_4 204 rfl rfl
theorem wt_1068 : (Cond.constant "StreamFuser$Run" (55 : Nat) (-2147483648 : Int32)) ∈ sf_T := sf_T_4 205 rfl rfl
theorem wt_1069 : (Cond.methodLink "StreamFuser$Run" (56 : Nat) ({ cls := "java/lang/Math", name := "max", desc := "(II)I" } : MethodName)) ∈ sf_T := sf_T_4 206 rfl rfl
theorem wt_1070 : (Cond.methodLinkNest "StreamFuser" (180 : Nat) ({ cls := "StreamFuser$Run", name := "smallest", desc := "()I" } : MethodName) "StreamFuser") ∈ sf_N := sf_N_4 207 rfl rfl
theorem wt_1072 : (Cond.instanceMethod ({ cls := "StreamFuser$Run", name := "smallest", desc := "()I" } : MethodName)) ∈ sf_T := sf_T_4 209 rfl rfl
theorem wt_1073 : (Cond.code ({ cls := "StreamFuser$Run", name := "smallest", desc := "()I" } : MethodName) prog_8_method_11_code (3 : Nat) (Option.some FieldType.int)) ∈ sf_T := sf_T_4 210 rfl rfl
theorem wt_1074 : (Cond.constant "StreamFuser$Run" (59 : Nat) (2147483647 : Int32)) ∈ sf_T := sf_T_4 211 rfl rfl
theorem wt_1075 : (Cond.methodLink "StreamFuser$Run" (47 : Nat) ({ cls := "java/lang/Math", name := "min", desc := "(II)I" } : MethodName)) ∈ sf_T := sf_T_4 212 rfl rfl
theorem wt_1076 : (Cond.methodLink "StreamFuserLaw" (65 : Nat) ({ cls := "StreamFuser", name := "failure", desc := "(I)I" } : MethodName)) ∈ sf_T := sf_T_4 213 rfl rfl
theorem wt_1077 : (Cond.instanceMethod ({ cls := "StreamFuser", name := "failure", desc := "(I)I" } : MethodName)) ∈ sf_T := sf_T_4 214 rfl rfl
theorem wt_1078 : (Cond.selects "StreamFuser" ({ cls := "StreamFuser", name := "failure", desc := "(I)I" } : MethodName) ({ cls := "StreamFuser", name := "failure", desc := "(I)I" } : MethodName)) ∈ sf_T := sf_T_4 215 rfl rfl
theorem wt_1079 : (Cond.code ({ cls := "StreamFuser", name := "failure", desc := "(I)I" } : MethodName) prog_1_method_14_code (2 : Nat) (Option.some FieldType.int)) ∈ sf_T := sf_T_4 216 rfl rfl
theorem wt_1080 : (Cond.methodLink "StreamFuserLaw" (69 : Nat) ({ cls := "StreamFuser", name := "told", desc := "(I)I" } : MethodName)) ∈ sf_T := sf_T_4 217 rfl rfl
theorem wt_1081 : (Cond.instanceMethod ({ cls := "StreamFuser", name := "told", desc := "(I)I" } : MethodName)) ∈ sf_T := sf_T_4 218 rfl rfl
theorem wt_1082 : (Cond.selects "StreamFuser" ({ cls := "StreamFuser", name := "told", desc := "(I)I" } : MethodName) ({ cls := "StreamFuser", name := "told", desc := "(I)I" } : MethodName)) ∈ sf_T := sf_T_4 219 rfl rfl
theorem wt_1083 : (Cond.code ({ cls := "StreamFuser", name := "told", desc := "(I)I" } : MethodName) prog_1_method_15_code (2 : Nat) (Option.some FieldType.int)) ∈ sf_T := sf_T_4 220 rfl rfl
theorem wt_1084 : (Cond.methodLink "StreamFuserLaw" (73 : Nat) ({ cls := "StreamFuser", name := "written", desc := "(II)J" } : MethodName)) ∈ sf_T := sf_T_4 221 rfl rfl
theorem wt_1085 : (Cond.instanceMethod ({ cls := "StreamFuser", name := "written", desc := "(II)J" } : MethodName)) ∈ sf_T := sf_T_4 222 rfl rfl
theorem wt_1086 : (Cond.selects "StreamFuser" ({ cls := "StreamFuser", name := "written", desc := "(II)J" } : MethodName) ({ cls := "StreamFuser", name := "written", desc := "(II)J" } : MethodName)) ∈ sf_T := sf_T_4 223 rfl rfl
theorem wt_1087 : (Cond.code ({ cls := "StreamFuser", name := "written", desc := "(II)J" } : MethodName) prog_1_method_16_code (3 : Nat) (Option.some FieldType.long)) ∈ sf_T := sf_T_4 224 rfl rfl
theorem wt_1088 : (Cond.methodLinkNest "StreamFuser" (198 : Nat) ({ cls := "StreamFuser$Run", name := "kept", desc := "()I" } : MethodName) "StreamFuser") ∈ sf_N := sf_N_4 225 rfl rfl
theorem wt_1090 : (Cond.instanceMethod ({ cls := "StreamFuser$Run", name := "kept", desc := "()I" } : MethodName)) ∈ sf_T := sf_T_4 227 rfl rfl
theorem wt_1091 : (Cond.code ({ cls := "StreamFuser$Run", name := "kept", desc := "()I" } : MethodName) prog_8_method_8_code (1 : Nat) (Option.some FieldType.int)) ∈ sf_T := sf_T_4 228 rfl rfl
theorem wt_1092 : (Cond.methodLink "StreamFuserLaw" (78 : Nat) ({ cls := "StreamFuser", name := "sheet", desc := "(III)I" } : MethodName)) ∈ sf_T := sf_T_4 229 rfl rfl
theorem wt_1093 : (Cond.instanceMethod ({ cls := "StreamFuser", name := "sheet", desc := "(III)I" } : MethodName)) ∈ sf_T := sf_T_4 230 rfl rfl
theorem wt_1094 : (Cond.selects "StreamFuser" ({ cls := "StreamFuser", name := "sheet", desc := "(III)I" } : MethodName) ({ cls := "StreamFuser", name := "sheet", desc := "(III)I" } : MethodName)) ∈ sf_T := sf_T_4 231 rfl rfl
theorem wt_1095 : (Cond.code ({ cls := "StreamFuser", name := "sheet", desc := "(III)I" } : MethodName) prog_1_method_17_code (4 : Nat) (Option.some FieldType.int)) ∈ sf_T := sf_T_4 232 rfl rfl
theorem wt_1096 : (Cond.methodLink "StreamFuser" (207 : Nat) ({ cls := "StreamFuser", name := "isSheet", desc := "(I)Z" } : MethodName)) ∈ sf_T := sf_T_4 233 rfl rfl
theorem wt_1097 : (Cond.methodLink "StreamFuser" (210 : Nat) ({ cls := "StreamFuser", name := "isForm", desc := "(I)Z" } : MethodName)) ∈ sf_T := sf_T_4 234 rfl rfl
theorem wt_1098 : (Cond.static ({ cls := "StreamFuser", name := "isForm", desc := "(I)Z" } : MethodName)) ∈ sf_T := sf_T_4 235 rfl rfl
theorem wt_1099 : (Cond.code ({ cls := "StreamFuser", name := "isForm", desc := "(I)Z" } : MethodName) prog_1_method_30_code (1 : Nat) (Option.some FieldType.boolean)) ∈ sf_T := sf_T_4 236 rfl rfl
theorem wt_1100 : (Cond.methodLink "StreamFuser" (213 : Nat) ({ cls := "StreamFuser", name := "find", desc := "(I)I" } : MethodName)) ∈ sf_T := sf_T_4 237 rfl rfl
theorem wt_1102 : (Cond.instanceMethod ({ cls := "StreamFuser", name := "find", desc := "(I)I" } : MethodName)) ∈ sf_T := sf_T_4 239 rfl rfl
theorem wt_1103 : (Cond.code ({ cls := "StreamFuser", name := "find", desc := "(I)I" } : MethodName) prog_1_method_27_code (2 : Nat) (Option.some FieldType.int)) ∈ sf_T := sf_T_5 0 rfl rfl
theorem wt_1104 : (Cond.methodLinkNest "StreamFuser" (217 : Nat) ({ cls := "StreamFuser$Sheets", name := "renew", desc := "(III)V" } : MethodName) "StreamFuser") ∈ sf_N := sf_N_5 1 rfl rfl
theorem wt_1106 : (Cond.instanceMethod ({ cls := "StreamFuser$Sheets", name := "renew", desc := "(III)V" } : MethodName)) ∈ sf_T := sf_T_5 3 rfl rfl
theorem wt_1107 : (Cond.code ({ cls := "StreamFuser$Sheets", name := "renew", desc := "(III)V" } : MethodName) prog_9_method_5_code (5 : Nat) (Option.none : Option FieldType)) ∈ sf_T := sf_T_5 4 rfl rfl
theorem wt_1108 : (Cond.methodLink "StreamFuserLaw" (83 : Nat) ({ cls := "StreamFuser", name := "lose", desc := "(I)I" } : MethodName)) ∈ sf_T := sf_T_5 5 rfl rfl
theorem wt_1109 : (Cond.instanceMethod ({ cls := "StreamFuser", name := "lose", desc := "(I)I" } : MethodName)) ∈ sf_T := sf_T_5 6 rfl rfl
theorem wt_1110 : (Cond.selects "StreamFuser" ({ cls := "StreamFuser", name := "lose", desc := "(I)I" } : MethodName) ({ cls := "StreamFuser", name := "lose", desc := "(I)I" } : MethodName)) ∈ sf_T := sf_T_5 7 rfl rfl
theorem wt_1111 : (Cond.code ({ cls := "StreamFuser", name := "lose", desc := "(I)I" } : MethodName) prog_1_method_18_code (3 : Nat) (Option.some FieldType.int)) ∈ sf_T := sf_T_5 8 rfl rfl
theorem wt_1112 : (Cond.methodLinkNest "StreamFuser" (221 : Nat) ({ cls := "StreamFuser$Sheets", name := "isLost", desc := "(I)Z" } : MethodName) "StreamFuser") ∈ sf_N := sf_N_5 9 rfl rfl
theorem wt_1113 : (Cond.methodLink "StreamFuserLaw" (87 : Nat) ({ cls := "StreamFuser", name := "lay", desc := "(IIII)I" } : MethodName)) ∈ sf_T := sf_T_5 10 rfl rfl
theorem wt_1114 : (Cond.instanceMethod ({ cls := "StreamFuser", name := "lay", desc := "(IIII)I" } : MethodName)) ∈ sf_T := sf_T_5 11 rfl rfl
theorem wt_1115 : (Cond.selects "StreamFuser" ({ cls := "StreamFuser", name := "lay", desc := "(IIII)I" } : MethodName) ({ cls := "StreamFuser", name := "lay", desc := "(IIII)I" } : MethodName)) ∈ sf_T := sf_T_5 12 rfl rfl
theorem wt_1116 : (Cond.code ({ cls := "StreamFuser", name := "lay", desc := "(IIII)I" } : MethodName) prog_1_method_19_code (6 : Nat) (Option.some FieldType.int)) ∈ sf_T := sf_T_5 13 rfl rfl
theorem wt_1117 : (Cond.methodLink "StreamFuser" (226 : Nat) ({ cls := "StreamFuser", name := "elementError", desc := "(III)I" } : MethodName)) ∈ sf_T := sf_T_5 14 rfl rfl
theorem wt_1119 : (Cond.instanceMethod ({ cls := "StreamFuser", name := "elementError", desc := "(III)I" } : MethodName)) ∈ sf_T := sf_T_5 16 rfl rfl
theorem wt_1120 : (Cond.code ({ cls := "StreamFuser", name := "elementError", desc := "(III)I" } : MethodName) prog_1_method_28_code (4 : Nat) (Option.some FieldType.int)) ∈ sf_T := sf_T_5 17 rfl rfl
theorem wt_1121 : (Cond.methodLinkNest "StreamFuser" (304 : Nat) ({ cls := "StreamFuser$Sheets", name := "hasElement", desc := "(II)Z" } : MethodName) "StreamFuser") ∈ sf_N := sf_N_5 18 rfl rfl
theorem wt_1123 : (Cond.instanceMethod ({ cls := "StreamFuser$Sheets", name := "hasElement", desc := "(II)Z" } : MethodName)) ∈ sf_T := sf_T_5 20 rfl rfl
theorem wt_1124 : (Cond.code ({ cls := "StreamFuser$Sheets", name := "hasElement", desc := "(II)Z" } : MethodName) prog_9_method_3_code (3 : Nat) (Option.some FieldType.boolean)) ∈ sf_T := sf_T_5 21 rfl rfl
theorem wt_1125 : (Cond.methodLinkNest "StreamFuser" (230 : Nat) ({ cls := "StreamFuser$Sheets", name := "store", desc := "(III)V" } : MethodName) "StreamFuser") ∈ sf_N := sf_N_5 22 rfl rfl
theorem wt_1127 : (Cond.instanceMethod ({ cls := "StreamFuser$Sheets", name := "store", desc := "(III)V" } : MethodName)) ∈ sf_T := sf_T_5 24 rfl rfl
theorem wt_1128 : (Cond.code ({ cls := "StreamFuser$Sheets", name := "store", desc := "(III)V" } : MethodName) prog_9_method_6_code (4 : Nat) (Option.none : Option FieldType)) ∈ sf_T := sf_T_5 25 rfl rfl
theorem wt_1129 : (Cond.methodLink "StreamFuser$Sheets" (21 : Nat) ({ cls := "StreamFuser$Sheets", name := "hasElement", desc := "(II)Z" } : MethodName)) ∈ sf_T := sf_T_5 26 rfl rfl
theorem wt_1130 : (Cond.methodLink "StreamFuser$Sheets" (25 : Nat) ({ cls := "StreamFuser$Sheets", name := "cast", desc := "(II)I" } : MethodName)) ∈ sf_T := sf_T_5 27 rfl rfl
theorem wt_1131 : (Cond.static ({ cls := "StreamFuser$Sheets", name := "cast", desc := "(II)I" } : MethodName)) ∈ sf_T := sf_T_5 28 rfl rfl
theorem wt_1132 : (Cond.code ({ cls := "StreamFuser$Sheets", name := "cast", desc := "(II)I" } : MethodName) prog_9_method_7_code (2 : Nat) (Option.some FieldType.int)) ∈ sf_T := sf_T_5 29 rfl rfl
theorem wt_1133 : (Cond.methodLink "StreamFuserLaw" (92 : Nat) ({ cls := "StreamFuser", name := "get", desc := "(III)I" } : MethodName)) ∈ sf_T := sf_T_5 30 rfl rfl
theorem wt_1134 : (Cond.instanceMethod ({ cls := "StreamFuser", name := "get", desc := "(III)I" } : MethodName)) ∈ sf_T := sf_T_5 31 rfl rfl
theorem wt_1135 : (Cond.selects "StreamFuser" ({ cls := "StreamFuser", name := "get", desc := "(III)I" } : MethodName) ({ cls := "StreamFuser", name := "get", desc := "(III)I" } : MethodName)) ∈ sf_T := sf_T_5 32 rfl rfl
theorem wt_1136 : (Cond.code ({ cls := "StreamFuser", name := "get", desc := "(III)I" } : MethodName) prog_1_method_20_code (5 : Nat) (Option.some FieldType.int)) ∈ sf_T := sf_T_5 33 rfl rfl
theorem wt_1137 : (Cond.methodLinkNest "StreamFuser" (233 : Nat) ({ cls := "StreamFuser$Sheets", name := "at", desc := "(II)I" } : MethodName) "StreamFuser") ∈ sf_N := sf_N_5 34 rfl rfl
theorem wt_1138 : (Cond.methodLink "StreamFuserLaw" (96 : Nat) ({ cls := "StreamFuser", name := "copy", desc := "(IIIII)I" } : MethodName)) ∈ sf_T := sf_T_5 35 rfl rfl
theorem wt_1139 : (Cond.instanceMethod ({ cls := "StreamFuser", name := "copy", desc := "(IIIII)I" } : MethodName)) ∈ sf_T := sf_T_5 36 rfl rfl
theorem wt_1140 : (Cond.selects "StreamFuser" ({ cls := "StreamFuser", name := "copy", desc := "(IIIII)I" } : MethodName) ({ cls := "StreamFuser", name := "copy", desc := "(IIIII)I" } : MethodName)) ∈ sf_T := sf_T_5 37 rfl rfl
theorem wt_1141 : (Cond.code ({ cls := "StreamFuser", name := "copy", desc := "(IIIII)I" } : MethodName) prog_1_method_21_code (6 : Nat) (Option.some FieldType.int)) ∈ sf_T := sf_T_5 38 rfl rfl
theorem wt_1142 : (Cond.methodLinkNest "StreamFuser" (240 : Nat) ({ cls := "StreamFuser$Sheets", name := "hasPart", desc := "(III)Z" } : MethodName) "StreamFuser") ∈ sf_N := sf_N_5 39 rfl rfl
theorem wt_1144 : (Cond.instanceMethod ({ cls := "StreamFuser$Sheets", name := "hasPart", desc := "(III)Z" } : MethodName)) ∈ sf_T := sf_T_5 41 rfl rfl
theorem wt_1145 : (Cond.code ({ cls := "StreamFuser$Sheets", name := "hasPart", desc := "(III)Z" } : MethodName) prog_9_method_4_code (4 : Nat) (Option.some FieldType.boolean)) ∈ sf_T := sf_T_5 42 rfl rfl
theorem wt_1146 : (Cond.methodLinkNest "StreamFuser" (244 : Nat) ({ cls := "StreamFuser$Sheets", name := "move", desc := "(IIIII)V" } : MethodName) "StreamFuser") ∈ sf_N := sf_N_5 43 rfl rfl
theorem wt_1148 : (Cond.instanceMethod ({ cls := "StreamFuser$Sheets", name := "move", desc := "(IIIII)V" } : MethodName)) ∈ sf_T := sf_T_5 45 rfl rfl
theorem wt_1149 : (Cond.code ({ cls := "StreamFuser$Sheets", name := "move", desc := "(IIIII)V" } : MethodName) prog_9_method_9_code (6 : Nat) (Option.none : Option FieldType)) ∈ sf_T := sf_T_5 46 rfl rfl
theorem wt_1150 : (Cond.methodLink "StreamFuser$Sheets" (29 : Nat) ({ cls := "StreamFuser$Sheets", name := "hasPart", desc := "(III)Z" } : MethodName)) ∈ sf_T := sf_T_5 47 rfl rfl
theorem wt_1151 : (Cond.methodLink "StreamFuser$Sheets" (33 : Nat) ({ cls := "java/lang/System", name := "arraycopy", desc := "(Ljava/lang/Object;ILjava/lang/Object;II)V" } : MethodName)) ∈ sf_T := sf_T_5 48 rfl rfl
theorem wt_1152 : (Cond.methodLink "StreamFuserLaw" (101 : Nat) ({ cls := "StreamFuser", name := "write", desc := "(I)I" } : MethodName)) ∈ sf_T := sf_T_5 49 rfl rfl
theorem wt_1153 : (Cond.instanceMethod ({ cls := "StreamFuser", name := "write", desc := "(I)I" } : MethodName)) ∈ sf_T := sf_T_5 50 rfl rfl
theorem wt_1154 : (Cond.selects "StreamFuser" ({ cls := "StreamFuser", name := "write", desc := "(I)I" } : MethodName) ({ cls := "StreamFuser", name := "write", desc := "(I)I" } : MethodName)) ∈ sf_T := sf_T_5 51 rfl rfl
theorem wt_1155 : (Cond.code ({ cls := "StreamFuser", name := "write", desc := "(I)I" } : MethodName) prog_1_method_22_code (4 : Nat) (Option.some FieldType.int)) ∈ sf_T := sf_T_5 52 rfl rfl
theorem wt_1156 : (Cond.methodLink "StreamFuser" (248 : Nat) ({ cls := "java/lang/Math", name := "min", desc := "(II)I" } : MethodName)) ∈ sf_T := sf_T_5 53 rfl rfl
theorem wt_1157 : (Cond.methodLink "StreamFuserLaw" (105 : Nat) ({ cls := "StreamFuser", name := "count", desc := "(I)I" } : MethodName)) ∈ sf_T := sf_T_5 54 rfl rfl
theorem wt_1158 : (Cond.instanceMethod ({ cls := "StreamFuser", name := "count", desc := "(I)I" } : MethodName)) ∈ sf_T := sf_T_5 55 rfl rfl
theorem wt_1159 : (Cond.selects "StreamFuser" ({ cls := "StreamFuser", name := "count", desc := "(I)I" } : MethodName) ({ cls := "StreamFuser", name := "count", desc := "(I)I" } : MethodName)) ∈ sf_T := sf_T_5 56 rfl rfl
theorem wt_1160 : (Cond.code ({ cls := "StreamFuser", name := "count", desc := "(I)I" } : MethodName) prog_1_method_23_code (2 : Nat) (Option.some FieldType.int)) ∈ sf_T := sf_T_5 57 rfl rfl
theorem wt_1161 : (Cond.methodLink "StreamFuserLaw" (109 : Nat) ({ cls := "StreamFuser", name := "digest", desc := "()J" } : MethodName)) ∈ sf_T := sf_T_5 58 rfl rfl
theorem wt_1162 : (Cond.instanceMethod ({ cls := "StreamFuser", name := "digest", desc := "()J" } : MethodName)) ∈ sf_T := sf_T_5 59 rfl rfl
theorem wt_1163 : (Cond.selects "StreamFuser" ({ cls := "StreamFuser", name := "digest", desc := "()J" } : MethodName) ({ cls := "StreamFuser", name := "digest", desc := "()J" } : MethodName)) ∈ sf_T := sf_T_5 60 rfl rfl
theorem wt_1164 : (Cond.code ({ cls := "StreamFuser", name := "digest", desc := "()J" } : MethodName) prog_1_method_24_code (4 : Nat) (Option.some FieldType.long)) ∈ sf_T := sf_T_5 61 rfl rfl
theorem wt_1165 : (Cond.constantLong "StreamFuser" (259 : Nat) (17 : Int64)) ∈ sf_T := sf_T_5 62 rfl rfl
theorem wt_1166 : (Cond.constantLong "StreamFuser" (261 : Nat) (31 : Int64)) ∈ sf_T := sf_T_5 63 rfl rfl
theorem wt_1167 : (Cond.methodLink "StreamFuser" (263 : Nat) ({ cls := "StreamFuser", name := "count", desc := "(I)I" } : MethodName)) ∈ sf_T := sf_T_5 64 rfl rfl
theorem wt_1168 : (Cond.methodLink "StreamFuser" (266 : Nat) ({ cls := "StreamFuser", name := "fault", desc := "()I" } : MethodName)) ∈ sf_T := sf_T_5 65 rfl rfl
theorem wt_1169 : (Cond.methodLink "StreamFuser" (269 : Nat) ({ cls := "StreamFuser", name := "mixPlan", desc := "(J)J" } : MethodName)) ∈ sf_T := sf_T_5 66 rfl rfl
theorem wt_1171 : (Cond.instanceMethod ({ cls := "StreamFuser", name := "mixPlan", desc := "(J)J" } : MethodName)) ∈ sf_T := sf_T_5 68 rfl rfl
theorem wt_1172 : (Cond.code ({ cls := "StreamFuser", name := "mixPlan", desc := "(J)J" } : MethodName) prog_1_method_25_code (7 : Nat) (Option.some FieldType.long)) ∈ sf_T := sf_T_5 69 rfl rfl
theorem wt_1173 : (Cond.methodLink "StreamFuser" (282 : Nat) ({ cls := "StreamFuser", name := "node", desc := "(II)I" } : MethodName)) ∈ sf_T := sf_T_5 70 rfl rfl
theorem wt_1174 : (Cond.methodLink "StreamFuser" (285 : Nat) ({ cls := "StreamFuser", name := "text", desc := "(I)I" } : MethodName)) ∈ sf_T := sf_T_5 71 rfl rfl
theorem wt_1175 : (Cond.methodLink "StreamFuser" (273 : Nat) ({ cls := "StreamFuser", name := "rules", desc := "(I)I" } : MethodName)) ∈ sf_T := sf_T_5 72 rfl rfl
theorem wt_1176 : (Cond.methodLink "StreamFuser" (276 : Nat) ({ cls := "StreamFuser", name := "mixRun", desc := "(J)J" } : MethodName)) ∈ sf_T := sf_T_5 73 rfl rfl
theorem wt_1178 : (Cond.instanceMethod ({ cls := "StreamFuser", name := "mixRun", desc := "(J)J" } : MethodName)) ∈ sf_T := sf_T_5 75 rfl rfl
theorem wt_1179 : (Cond.code ({ cls := "StreamFuser", name := "mixRun", desc := "(J)J" } : MethodName) prog_1_method_26_code (7 : Nat) (Option.some FieldType.long)) ∈ sf_T := sf_T_5 76 rfl rfl
theorem wt_1180 : (Cond.methodLink "StreamFuser" (288 : Nat) ({ cls := "StreamFuser", name := "result", desc := "(I)J" } : MethodName)) ∈ sf_T := sf_T_5 77 rfl rfl
theorem wt_1181 : (Cond.methodLink "StreamFuser" (292 : Nat) ({ cls := "StreamFuser", name := "fold", desc := "(I)J" } : MethodName)) ∈ sf_T := sf_T_5 78 rfl rfl
theorem wt_1182 : (Cond.methodLink "StreamFuser" (295 : Nat) ({ cls := "StreamFuser", name := "failure", desc := "(I)I" } : MethodName)) ∈ sf_T := sf_T_5 79 rfl rfl
theorem wt_1183 : (Cond.methodLink "StreamFuser" (297 : Nat) ({ cls := "StreamFuser", name := "told", desc := "(I)I" } : MethodName)) ∈ sf_T := sf_T_5 80 rfl rfl
theorem wt_1184 : (Cond.methodLink "StreamFuser" (300 : Nat) ({ cls := "StreamFuser", name := "written", desc := "(II)J" } : MethodName)) ∈ sf_T := sf_T_5 81 rfl rfl
theorem wt_1185 : (Cond.methodLink "StreamFuser" (279 : Nat) ({ cls := "StreamFuser", name := "saves", desc := "(I)I" } : MethodName)) ∈ sf_T := sf_T_5 82 rfl rfl
theorem wt_1188 : (Cond.methodLink "StreamFuserLaw" (12 : Nat) ({ cls := "StreamFuserModel", name := "<init>", desc := "()V" } : MethodName)) ∈ sf_T := sf_T_5 85 rfl rfl
theorem wt_1189 : (Cond.instanceMethod ({ cls := "StreamFuserModel", name := "<init>", desc := "()V" } : MethodName)) ∈ sf_T := sf_T_5 86 rfl rfl
theorem wt_1191 : (Cond.methodLink "StreamFuserModel" (1 : Nat) ({ cls := "java/lang/Object", name := "<init>", desc := "()V" } : MethodName)) ∈ sf_T := sf_T_5 88 rfl rfl
theorem wt_1192 : (Cond.fieldLink "StreamFuserModel" (7 : Nat) "StreamFuserModel" "forms" "[I") ∈ sf_T := sf_T_5 89 rfl rfl
theorem wt_1193 : (Cond.fieldLink "StreamFuserModel" (13 : Nat) "StreamFuserModel" "sizes" "[I") ∈ sf_T := sf_T_5 90 rfl rfl
theorem wt_1194 : (Cond.fieldLink "StreamFuserModel" (16 : Nat) "StreamFuserModel" "items" "[I") ∈ sf_T := sf_T_5 91 rfl rfl
theorem wt_1195 : (Cond.fieldLink "StreamFuserModel" (19 : Nat) "StreamFuserModel" "moved" "[I") ∈ sf_T := sf_T_5 92 rfl rfl
theorem wt_1196 : (Cond.fieldLink "StreamFuserModel" (126 : Nat) "StreamFuserModel" "latest" "I") ∈ sf_T := sf_T_5 93 rfl rfl
theorem wt_1197 : (Cond.fieldLink "StreamFuserModel" (22 : Nat) "StreamFuserModel" "text" "[I") ∈ sf_T := sf_T_5 94 rfl rfl
theorem wt_1198 : (Cond.fieldLink "StreamFuserModel" (157 : Nat) "StreamFuserModel" "typed" "I") ∈ sf_T := sf_T_5 95 rfl rfl
theorem wt_1199 : (Cond.fieldLink "StreamFuserModel" (25 : Nat) "StreamFuserModel" "wants" "[I") ∈ sf_T := sf_T_5 96 rfl rfl
theorem wt_1200 : (Cond.fieldLink "StreamFuserModel" (160 : Nat) "StreamFuserModel" "wanted" "I") ∈ sf_T := sf_T_5 97 rfl rfl
theorem wt_1201 : (Cond.fieldLink "StreamFuserModel" (180 : Nat) "StreamFuserModel" "figures" "I") ∈ sf_T := sf_T_5 98 rfl rfl
theorem wt_1202 : (Cond.fieldLink "StreamFuserModel" (187 : Nat) "StreamFuserModel" "number" "I") ∈ sf_T := sf_T_5 99 rfl rfl
theorem wt_1203 : (Cond.fieldLink "StreamFuserModel" (183 : Nat) "StreamFuserModel" "below" "Z") ∈ sf_T := sf_T_5 100 rfl rfl
theorem wt_1204 : (Cond.fieldLink "StreamFuserModel" (28 : Nat) "StreamFuserModel" "readLetters" "[I") ∈ sf_T := sf_T_5 101 rfl rfl
theorem wt_1205 : (Cond.fieldLink "StreamFuserModel" (31 : Nat) "StreamFuserModel" "readSigns" "[I") ∈ sf_T := sf_T_5 102 rfl rfl
theorem wt_1206 : (Cond.fieldLink "StreamFuserModel" (34 : Nat) "StreamFuserModel" "readFirsts" "[I") ∈ sf_T := sf_T_5 103 rfl rfl
theorem wt_1207 : (Cond.fieldLink "StreamFuserModel" (37 : Nat) "StreamFuserModel" "readSeconds" "[I") ∈ sf_T := sf_T_5 104 rfl rfl
theorem wt_1208 : (Cond.fieldLink "StreamFuserModel" (169 : Nat) "StreamFuserModel" "read" "I") ∈ sf_T := sf_T_5 105 rfl rfl
theorem wt_1209 : (Cond.fieldLink "StreamFuserModel" (40 : Nat) "StreamFuserModel" "letters" "[I") ∈ sf_T := sf_T_5 106 rfl rfl
theorem wt_1210 : (Cond.fieldLink "StreamFuserModel" (43 : Nat) "StreamFuserModel" "signs" "[I") ∈ sf_T := sf_T_5 107 rfl rfl
theorem wt_1211 : (Cond.fieldLink "StreamFuserModel" (46 : Nat) "StreamFuserModel" "firsts" "[I") ∈ sf_T := sf_T_5 108 rfl rfl
theorem wt_1212 : (Cond.fieldLink "StreamFuserModel" (49 : Nat) "StreamFuserModel" "seconds" "[I") ∈ sf_T := sf_T_5 109 rfl rfl
theorem wt_1213 : (Cond.fieldLink "StreamFuserModel" (206 : Nat) "StreamFuserModel" "nodes" "I") ∈ sf_T := sf_T_5 110 rfl rfl
theorem wt_1214 : (Cond.fieldLink "StreamFuserModel" (52 : Nat) "StreamFuserModel" "sizes2" "[I") ∈ sf_T := sf_T_5 111 rfl rfl
theorem wt_1215 : (Cond.fieldLink "StreamFuserModel" (55 : Nat) "StreamFuserModel" "ps" "[I") ∈ sf_T := sf_T_5 112 rfl rfl
theorem wt_1216 : (Cond.fieldLink "StreamFuserModel" (58 : Nat) "StreamFuserModel" "qs" "[I") ∈ sf_T := sf_T_5 113 rfl rfl
theorem wt_1217 : (Cond.fieldLink "StreamFuserModel" (61 : Nat) "StreamFuserModel" "deeps" "[I") ∈ sf_T := sf_T_5 114 rfl rfl
theorem wt_1218 : (Cond.fieldLink "StreamFuserModel" (64 : Nat) "StreamFuserModel" "opens" "[I") ∈ sf_T := sf_T_5 115 rfl rfl
theorem wt_1219 : (Cond.fieldLink "StreamFuserModel" (67 : Nat) "StreamFuserModel" "binders" "[I") ∈ sf_T := sf_T_5 116 rfl rfl
theorem wt_1220 : (Cond.fieldLink "StreamFuserModel" (70 : Nat) "StreamFuserModel" "told" "[I") ∈ sf_T := sf_T_5 117 rfl rfl
theorem wt_1221 : (Cond.fieldLink "StreamFuserModel" (224 : Nat) "StreamFuserModel" "bytes" "I") ∈ sf_T := sf_T_5 118 rfl rfl
theorem wt_1222 : (Cond.fieldLink "StreamFuserModel" (73 : Nat) "StreamFuserModel" "used" "[I") ∈ sf_T := sf_T_5 119 rfl rfl
theorem wt_1223 : (Cond.fieldLink "StreamFuserModel" (76 : Nat) "StreamFuserModel" "latestUsed" "[I") ∈ sf_T := sf_T_5 120 rfl rfl
theorem wt_1224 : (Cond.fieldLink "StreamFuserModel" (289 : Nat) "StreamFuserModel" "usedAll" "I") ∈ sf_T := sf_T_5 121 rfl rfl
theorem wt_1225 : (Cond.fieldLink "StreamFuserModel" (79 : Nat) "StreamFuserModel" "kept" "[I") ∈ sf_T := sf_T_5 122 rfl rfl
theorem wt_1226 : (Cond.fieldLink "StreamFuserModel" (82 : Nat) "StreamFuserModel" "held" "[I") ∈ sf_T := sf_T_5 123 rfl rfl
theorem wt_1227 : (Cond.fieldLink "StreamFuserModel" (294 : Nat) "StreamFuserModel" "failure" "I") ∈ sf_T := sf_T_5 124 rfl rfl
theorem wt_1228 : (Cond.fieldLink "StreamFuserModel" (297 : Nat) "StreamFuserModel" "depth" "I") ∈ sf_T := sf_T_5 125 rfl rfl
theorem wt_1229 : (Cond.fieldLink "StreamFuserModel" (303 : Nat) "StreamFuserModel" "drawn" "I") ∈ sf_T := sf_T_5 126 rfl rfl
theorem wt_1230 : (Cond.fieldLink "StreamFuserModel" (325 : Nat) "StreamFuserModel" "counted" "I") ∈ sf_T := sf_T_5 127 rfl rfl
theorem wt_1231 : (Cond.fieldLink "StreamFuserModel" (385 : Nat) "StreamFuserModel" "cells" "I") ∈ sf_T := sf_T_5 128 rfl rfl
theorem wt_1232 : (Cond.fieldLink "StreamFuserModel" (85 : Nat) "StreamFuserModel" "results" "[I") ∈ sf_T := sf_T_5 129 rfl rfl
theorem wt_1233 : (Cond.fieldLink "StreamFuserModel" (388 : Nat) "StreamFuserModel" "got" "I") ∈ sf_T := sf_T_5 130 rfl rfl
theorem wt_1234 : (Cond.fieldLink "StreamFuserModel" (88 : Nat) "StreamFuserModel" "figuresDown" "[I") ∈ sf_T := sf_T_5 131 rfl rfl
theorem wt_1235 : (Cond.fieldLink "StreamFuserModel" (91 : Nat) "StreamFuserModel" "numbersDown" "[I") ∈ sf_T := sf_T_5 132 rfl rfl
theorem wt_1236 : (Cond.fieldLink "StreamFuserModel" (300 : Nat) "StreamFuserModel" "down" "I") ∈ sf_T := sf_T_5 133 rfl rfl
theorem wt_1237 : (Cond.fieldLink "StreamFuserModel" (309 : Nat) "StreamFuserModel" "has" "Z") ∈ sf_T := sf_T_5 134 rfl rfl
theorem wt_1238 : (Cond.fieldLink "StreamFuserModel" (312 : Nat) "StreamFuserModel" "value" "I") ∈ sf_T := sf_T_5 135 rfl rfl
theorem wt_1239 : (Cond.fieldLink "StreamFuserModel" (94 : Nat) "StreamFuserModel" "pile" "[I") ∈ sf_T := sf_T_5 136 rfl rfl
theorem wt_1240 : (Cond.fieldLink "StreamFuserModel" (349 : Nat) "StreamFuserModel" "high" "I") ∈ sf_T := sf_T_5 137 rfl rfl
theorem wt_1241 : (Cond.fieldLink "StreamFuserModel" (97 : Nat) "StreamFuserModel" "rows" "[I") ∈ sf_T := sf_T_5 138 rfl rfl
theorem wt_1242 : (Cond.fieldLink "StreamFuserModel" (100 : Nat) "StreamFuserModel" "longs" "[I") ∈ sf_T := sf_T_5 139 rfl rfl
theorem wt_1243 : (Cond.fieldLink "StreamFuserModel" (103 : Nat) "StreamFuserModel" "phases" "[I") ∈ sf_T := sf_T_5 140 rfl rfl
theorem wt_1244 : (Cond.fieldLink "StreamFuserModel" (106 : Nat) "StreamFuserModel" "at" "[I") ∈ sf_T := sf_T_5 141 rfl rfl
theorem wt_1245 : (Cond.fieldLink "StreamFuserModel" (109 : Nat) "StreamFuserModel" "latestTold" "[I") ∈ sf_T := sf_T_5 142 rfl rfl
theorem wt_1246 : (Cond.fieldLink "StreamFuserModel" (112 : Nat) "StreamFuserModel" "latestResults" "[I") ∈ sf_T := sf_T_5 143 rfl rfl
theorem wt_1247 : (Cond.fieldLink "StreamFuserModel" (408 : Nat) "StreamFuserModel" "latestGot" "I") ∈ sf_T := sf_T_5 144 rfl rfl
theorem wt_1248 : (Cond.fieldLink "StreamFuserModel" (115 : Nat) "StreamFuserModel" "latestFigures" "[I") ∈ sf_T := sf_T_5 145 rfl rfl
theorem wt_1249 : (Cond.fieldLink "StreamFuserModel" (118 : Nat) "StreamFuserModel" "latestNumbers" "[I") ∈ sf_T := sf_T_5 146 rfl rfl
theorem wt_1250 : (Cond.fieldLink "StreamFuserModel" (121 : Nat) "StreamFuserModel" "asideNodes" "[I") ∈ sf_T := sf_T_5 147 rfl rfl
theorem wt_1251 : (Cond.laysFinal "StreamFuserModel" "StreamFuserModel" "forms" "[I") ∈ sf_T := sf_T_5 148 rfl rfl
theorem wt_1253 : (Cond.laysFinal "StreamFuserModel" "StreamFuserModel" "sizes" "[I") ∈ sf_T := sf_T_5 150 rfl rfl
theorem wt_1255 : (Cond.laysFinal "StreamFuserModel" "StreamFuserModel" "items" "[I") ∈ sf_T := sf_T_5 152 rfl rfl
theorem wt_1257 : (Cond.laysFinal "StreamFuserModel" "StreamFuserModel" "moved" "[I") ∈ sf_T := sf_T_5 154 rfl rfl
theorem wt_1259 : (Cond.lays "StreamFuserModel" "StreamFuserModel" "latest" "I") ∈ sf_T := sf_T_5 156 rfl rfl
theorem wt_1261 : (Cond.laysFinal "StreamFuserModel" "StreamFuserModel" "text" "[I") ∈ sf_T := sf_T_5 158 rfl rfl
theorem wt_1263 : (Cond.lays "StreamFuserModel" "StreamFuserModel" "typed" "I") ∈ sf_T := sf_T_5 160 rfl rfl
theorem wt_1265 : (Cond.laysFinal "StreamFuserModel" "StreamFuserModel" "wants" "[I") ∈ sf_T := sf_T_5 162 rfl rfl
theorem wt_1267 : (Cond.lays "StreamFuserModel" "StreamFuserModel" "wanted" "I") ∈ sf_T := sf_T_5 164 rfl rfl
theorem wt_1269 : (Cond.lays "StreamFuserModel" "StreamFuserModel" "figures" "I") ∈ sf_T := sf_T_5 166 rfl rfl
theorem wt_1271 : (Cond.lays "StreamFuserModel" "StreamFuserModel" "number" "I") ∈ sf_T := sf_T_5 168 rfl rfl
theorem wt_1273 : (Cond.lays "StreamFuserModel" "StreamFuserModel" "below" "Z") ∈ sf_T := sf_T_5 170 rfl rfl
theorem wt_1275 : (Cond.laysFinal "StreamFuserModel" "StreamFuserModel" "readLetters" "[I") ∈ sf_T := sf_T_5 172 rfl rfl
theorem wt_1277 : (Cond.laysFinal "StreamFuserModel" "StreamFuserModel" "readSigns" "[I") ∈ sf_T := sf_T_5 174 rfl rfl
theorem wt_1279 : (Cond.laysFinal "StreamFuserModel" "StreamFuserModel" "readFirsts" "[I") ∈ sf_T := sf_T_5 176 rfl rfl
theorem wt_1281 : (Cond.laysFinal "StreamFuserModel" "StreamFuserModel" "readSeconds" "[I") ∈ sf_T := sf_T_5 178 rfl rfl
theorem wt_1283 : (Cond.lays "StreamFuserModel" "StreamFuserModel" "read" "I") ∈ sf_T := sf_T_5 180 rfl rfl
theorem wt_1285 : (Cond.laysFinal "StreamFuserModel" "StreamFuserModel" "letters" "[I") ∈ sf_T := sf_T_5 182 rfl rfl
theorem wt_1287 : (Cond.laysFinal "StreamFuserModel" "StreamFuserModel" "signs" "[I") ∈ sf_T := sf_T_5 184 rfl rfl
theorem wt_1289 : (Cond.laysFinal "StreamFuserModel" "StreamFuserModel" "firsts" "[I") ∈ sf_T := sf_T_5 186 rfl rfl
theorem wt_1291 : (Cond.laysFinal "StreamFuserModel" "StreamFuserModel" "seconds" "[I") ∈ sf_T := sf_T_5 188 rfl rfl
theorem wt_1293 : (Cond.lays "StreamFuserModel" "StreamFuserModel" "nodes" "I") ∈ sf_T := sf_T_5 190 rfl rfl
theorem wt_1295 : (Cond.laysFinal "StreamFuserModel" "StreamFuserModel" "sizes2" "[I") ∈ sf_T := sf_T_5 192 rfl rfl
theorem wt_1297 : (Cond.laysFinal "StreamFuserModel" "StreamFuserModel" "ps" "[I") ∈ sf_T := sf_T_5 194 rfl rfl
theorem wt_1299 : (Cond.laysFinal "StreamFuserModel" "StreamFuserModel" "qs" "[I") ∈ sf_T := sf_T_5 196 rfl rfl
theorem wt_1301 : (Cond.laysFinal "StreamFuserModel" "StreamFuserModel" "deeps" "[I") ∈ sf_T := sf_T_5 198 rfl rfl
theorem wt_1303 : (Cond.laysFinal "StreamFuserModel" "StreamFuserModel" "opens" "[I") ∈ sf_T := sf_T_5 200 rfl rfl
theorem wt_1305 : (Cond.laysFinal "StreamFuserModel" "StreamFuserModel" "binders" "[I") ∈ sf_T := sf_T_5 202 rfl rfl
theorem wt_1307 : (Cond.laysFinal "StreamFuserModel" "StreamFuserModel" "told" "[I") ∈ sf_T := sf_T_5 204 rfl rfl
theorem wt_1309 : (Cond.lays "StreamFuserModel" "StreamFuserModel" "bytes" "I") ∈ sf_T := sf_T_5 206 rfl rfl
theorem wt_1311 : (Cond.laysFinal "StreamFuserModel" "StreamFuserModel" "used" "[I") ∈ sf_T := sf_T_5 208 rfl rfl
theorem wt_1313 : (Cond.laysFinal "StreamFuserModel" "StreamFuserModel" "latestUsed" "[I") ∈ sf_T := sf_T_5 210 rfl rfl
theorem wt_1315 : (Cond.lays "StreamFuserModel" "StreamFuserModel" "usedAll" "I") ∈ sf_T := sf_T_5 212 rfl rfl
theorem wt_1317 : (Cond.laysFinal "StreamFuserModel" "StreamFuserModel" "kept" "[I") ∈ sf_T := sf_T_5 214 rfl rfl
theorem wt_1319 : (Cond.laysFinal "StreamFuserModel" "StreamFuserModel" "held" "[I") ∈ sf_T := sf_T_5 216 rfl rfl
theorem wt_1321 : (Cond.lays "StreamFuserModel" "StreamFuserModel" "failure" "I") ∈ sf_T := sf_T_5 218 rfl rfl
theorem wt_1323 : (Cond.lays "StreamFuserModel" "StreamFuserModel" "depth" "I") ∈ sf_T := sf_T_5 220 rfl rfl
theorem wt_1325 : (Cond.lays "StreamFuserModel" "StreamFuserModel" "drawn" "I") ∈ sf_T := sf_T_5 222 rfl rfl
theorem wt_1327 : (Cond.lays "StreamFuserModel" "StreamFuserModel" "counted" "I") ∈ sf_T := sf_T_5 224 rfl rfl
theorem wt_1329 : (Cond.lays "StreamFuserModel" "StreamFuserModel" "cells" "I") ∈ sf_T := sf_T_5 226 rfl rfl
theorem wt_1331 : (Cond.laysFinal "StreamFuserModel" "StreamFuserModel" "results" "[I") ∈ sf_T := sf_T_5 228 rfl rfl
theorem wt_1333 : (Cond.lays "StreamFuserModel" "StreamFuserModel" "got" "I") ∈ sf_T := sf_T_5 230 rfl rfl
theorem wt_1335 : (Cond.laysFinal "StreamFuserModel" "StreamFuserModel" "figuresDown" "[I") ∈ sf_T := sf_T_5 232 rfl rfl
theorem wt_1337 : (Cond.laysFinal "StreamFuserModel" "StreamFuserModel" "numbersDown" "[I") ∈ sf_T := sf_T_5 234 rfl rfl
theorem wt_1339 : (Cond.lays "StreamFuserModel" "StreamFuserModel" "down" "I") ∈ sf_T := sf_T_5 236 rfl rfl
theorem wt_1341 : (Cond.lays "StreamFuserModel" "StreamFuserModel" "has" "Z") ∈ sf_T := sf_T_5 238 rfl rfl
theorem wt_1343 : (Cond.lays "StreamFuserModel" "StreamFuserModel" "value" "I") ∈ sf_T := sf_T_6 0 rfl rfl
theorem wt_1345 : (Cond.laysFinal "StreamFuserModel" "StreamFuserModel" "pile" "[I") ∈ sf_T := sf_T_6 2 rfl rfl
theorem wt_1347 : (Cond.lays "StreamFuserModel" "StreamFuserModel" "high" "I") ∈ sf_T := sf_T_6 4 rfl rfl
theorem wt_1349 : (Cond.laysFinal "StreamFuserModel" "StreamFuserModel" "rows" "[I") ∈ sf_T := sf_T_6 6 rfl rfl
theorem wt_1351 : (Cond.laysFinal "StreamFuserModel" "StreamFuserModel" "longs" "[I") ∈ sf_T := sf_T_6 8 rfl rfl
theorem wt_1353 : (Cond.laysFinal "StreamFuserModel" "StreamFuserModel" "phases" "[I") ∈ sf_T := sf_T_6 10 rfl rfl
theorem wt_1355 : (Cond.laysFinal "StreamFuserModel" "StreamFuserModel" "at" "[I") ∈ sf_T := sf_T_6 12 rfl rfl
theorem wt_1357 : (Cond.laysFinal "StreamFuserModel" "StreamFuserModel" "latestTold" "[I") ∈ sf_T := sf_T_6 14 rfl rfl
theorem wt_1359 : (Cond.laysFinal "StreamFuserModel" "StreamFuserModel" "latestResults" "[I") ∈ sf_T := sf_T_6 16 rfl rfl
theorem wt_1361 : (Cond.lays "StreamFuserModel" "StreamFuserModel" "latestGot" "I") ∈ sf_T := sf_T_6 18 rfl rfl
theorem wt_1363 : (Cond.laysFinal "StreamFuserModel" "StreamFuserModel" "latestFigures" "[I") ∈ sf_T := sf_T_6 20 rfl rfl
theorem wt_1365 : (Cond.laysFinal "StreamFuserModel" "StreamFuserModel" "latestNumbers" "[I") ∈ sf_T := sf_T_6 22 rfl rfl
theorem wt_1367 : (Cond.laysFinal "StreamFuserModel" "StreamFuserModel" "asideNodes" "[I") ∈ sf_T := sf_T_6 24 rfl rfl
theorem wt_1370 : (Cond.methodLink "StreamFuserLaw" (82 : Nat) ({ cls := "StreamFuserModel", name := "sheet", desc := "(III)I" } : MethodName)) ∈ sf_T := sf_T_6 27 rfl rfl
theorem wt_1371 : (Cond.instanceMethod ({ cls := "StreamFuserModel", name := "sheet", desc := "(III)I" } : MethodName)) ∈ sf_T := sf_T_6 28 rfl rfl
theorem wt_1372 : (Cond.selects "StreamFuserModel" ({ cls := "StreamFuserModel", name := "sheet", desc := "(III)I" } : MethodName) ({ cls := "StreamFuserModel", name := "sheet", desc := "(III)I" } : MethodName)) ∈ sf_T := sf_T_6 29 rfl rfl
theorem wt_1373 : (Cond.code ({ cls := "StreamFuserModel", name := "sheet", desc := "(III)I" } : MethodName) prog_14_method_9_code (5 : Nat) (Option.some FieldType.int)) ∈ sf_T := sf_T_6 30 rfl rfl
theorem wt_1374 : (Cond.methodLink "StreamFuserModel" (136 : Nat) ({ cls := "StreamFuserModel", name := "isSheet", desc := "(I)Z" } : MethodName)) ∈ sf_T := sf_T_6 31 rfl rfl
theorem wt_1375 : (Cond.static ({ cls := "StreamFuserModel", name := "isSheet", desc := "(I)Z" } : MethodName)) ∈ sf_T := sf_T_6 32 rfl rfl
theorem wt_1376 : (Cond.code ({ cls := "StreamFuserModel", name := "isSheet", desc := "(I)Z" } : MethodName) prog_14_method_8_code (1 : Nat) (Option.some FieldType.boolean)) ∈ sf_T := sf_T_6 33 rfl rfl
theorem wt_1377 : (Cond.constantLong "StreamFuserModel" (130 : Nat) (3 : Int64)) ∈ sf_T := sf_T_6 34 rfl rfl
theorem wt_1378 : (Cond.methodLink "StreamFuserModel" (132 : Nat) ({ cls := "StreamFuserModel", name := "in", desc := "(JJJ)Z" } : MethodName)) ∈ sf_T := sf_T_6 35 rfl rfl
theorem wt_1379 : (Cond.static ({ cls := "StreamFuserModel", name := "in", desc := "(JJJ)Z" } : MethodName)) ∈ sf_T := sf_T_6 36 rfl rfl
theorem wt_1380 : (Cond.code ({ cls := "StreamFuserModel", name := "in", desc := "(JJJ)Z" } : MethodName) prog_14_method_3_code (6 : Nat) (Option.some FieldType.boolean)) ∈ sf_T := sf_T_6 37 rfl rfl
theorem wt_1381 : (Cond.constantLong "StreamFuserModel" (140 : Nat) (2 : Int64)) ∈ sf_T := sf_T_6 38 rfl rfl
theorem wt_1382 : (Cond.methodLink "StreamFuserModel" (142 : Nat) ({ cls := "StreamFuserModel", name := "finds", desc := "(I)I" } : MethodName)) ∈ sf_T := sf_T_6 39 rfl rfl
theorem wt_1384 : (Cond.instanceMethod ({ cls := "StreamFuserModel", name := "finds", desc := "(I)I" } : MethodName)) ∈ sf_T := sf_T_6 41 rfl rfl
theorem wt_1385 : (Cond.code ({ cls := "StreamFuserModel", name := "finds", desc := "(I)I" } : MethodName) prog_14_method_7_code (2 : Nat) (Option.some FieldType.int)) ∈ sf_T := sf_T_6 42 rfl rfl
theorem wt_1386 : (Cond.methodLink "StreamFuserLaw" (86 : Nat) ({ cls := "StreamFuserModel", name := "lose", desc := "(I)I" } : MethodName)) ∈ sf_T := sf_T_6 43 rfl rfl
theorem wt_1387 : (Cond.instanceMethod ({ cls := "StreamFuserModel", name := "lose", desc := "(I)I" } : MethodName)) ∈ sf_T := sf_T_6 44 rfl rfl
theorem wt_1388 : (Cond.selects "StreamFuserModel" ({ cls := "StreamFuserModel", name := "lose", desc := "(I)I" } : MethodName) ({ cls := "StreamFuserModel", name := "lose", desc := "(I)I" } : MethodName)) ∈ sf_T := sf_T_6 45 rfl rfl
theorem wt_1389 : (Cond.code ({ cls := "StreamFuserModel", name := "lose", desc := "(I)I" } : MethodName) prog_14_method_10_code (2 : Nat) (Option.some FieldType.int)) ∈ sf_T := sf_T_6 46 rfl rfl
theorem wt_1390 : (Cond.methodLink "StreamFuserLaw" (91 : Nat) ({ cls := "StreamFuserModel", name := "lay", desc := "(IIII)I" } : MethodName)) ∈ sf_T := sf_T_6 47 rfl rfl
theorem wt_1391 : (Cond.instanceMethod ({ cls := "StreamFuserModel", name := "lay", desc := "(IIII)I" } : MethodName)) ∈ sf_T := sf_T_6 48 rfl rfl
theorem wt_1392 : (Cond.selects "StreamFuserModel" ({ cls := "StreamFuserModel", name := "lay", desc := "(IIII)I" } : MethodName) ({ cls := "StreamFuserModel", name := "lay", desc := "(IIII)I" } : MethodName)) ∈ sf_T := sf_T_6 49 rfl rfl
theorem wt_1393 : (Cond.code ({ cls := "StreamFuserModel", name := "lay", desc := "(IIII)I" } : MethodName) prog_14_method_13_code (6 : Nat) (Option.some FieldType.int)) ∈ sf_T := sf_T_6 50 rfl rfl
theorem wt_1394 : (Cond.methodLink "StreamFuserModel" (146 : Nat) ({ cls := "StreamFuserModel", name := "lacks", desc := "(III)I" } : MethodName)) ∈ sf_T := sf_T_6 51 rfl rfl
theorem wt_1396 : (Cond.instanceMethod ({ cls := "StreamFuserModel", name := "lacks", desc := "(III)I" } : MethodName)) ∈ sf_T := sf_T_6 53 rfl rfl
theorem wt_1397 : (Cond.code ({ cls := "StreamFuserModel", name := "lacks", desc := "(III)I" } : MethodName) prog_14_method_11_code (4 : Nat) (Option.some FieldType.int)) ∈ sf_T := sf_T_6 54 rfl rfl
theorem wt_1398 : (Cond.methodLink "StreamFuserModel" (150 : Nat) ({ cls := "StreamFuserModel", name := "cut", desc := "(II)I" } : MethodName)) ∈ sf_T := sf_T_6 55 rfl rfl
theorem wt_1399 : (Cond.static ({ cls := "StreamFuserModel", name := "cut", desc := "(II)I" } : MethodName)) ∈ sf_T := sf_T_6 56 rfl rfl
theorem wt_1400 : (Cond.code ({ cls := "StreamFuserModel", name := "cut", desc := "(II)I" } : MethodName) prog_14_method_12_code (2 : Nat) (Option.some FieldType.int)) ∈ sf_T := sf_T_6 57 rfl rfl
theorem wt_1401 : (Cond.methodLink "StreamFuserLaw" (95 : Nat) ({ cls := "StreamFuserModel", name := "get", desc := "(III)I" } : MethodName)) ∈ sf_T := sf_T_6 58 rfl rfl
theorem wt_1402 : (Cond.instanceMethod ({ cls := "StreamFuserModel", name := "get", desc := "(III)I" } : MethodName)) ∈ sf_T := sf_T_6 59 rfl rfl
theorem wt_1403 : (Cond.selects "StreamFuserModel" ({ cls := "StreamFuserModel", name := "get", desc := "(III)I" } : MethodName) ({ cls := "StreamFuserModel", name := "get", desc := "(III)I" } : MethodName)) ∈ sf_T := sf_T_6 60 rfl rfl
theorem wt_1404 : (Cond.code ({ cls := "StreamFuserModel", name := "get", desc := "(III)I" } : MethodName) prog_14_method_14_code (4 : Nat) (Option.some FieldType.int)) ∈ sf_T := sf_T_6 61 rfl rfl
theorem wt_1405 : (Cond.constant "StreamFuserModel" (154 : Nat) (-2147483648 : Int32)) ∈ sf_T := sf_T_6 62 rfl rfl
theorem wt_1406 : (Cond.methodLink "StreamFuserLaw" (100 : Nat) ({ cls := "StreamFuserModel", name := "copy", desc := "(IIIII)I" } : MethodName)) ∈ sf_T := sf_T_6 63 rfl rfl
theorem wt_1407 : (Cond.instanceMethod ({ cls := "StreamFuserModel", name := "copy", desc := "(IIIII)I" } : MethodName)) ∈ sf_T := sf_T_6 64 rfl rfl
theorem wt_1408 : (Cond.selects "StreamFuserModel" ({ cls := "StreamFuserModel", name := "copy", desc := "(IIIII)I" } : MethodName) ({ cls := "StreamFuserModel", name := "copy", desc := "(IIIII)I" } : MethodName)) ∈ sf_T := sf_T_6 65 rfl rfl
theorem wt_1409 : (Cond.code ({ cls := "StreamFuserModel", name := "copy", desc := "(IIIII)I" } : MethodName) prog_14_method_15_code (7 : Nat) (Option.some FieldType.int)) ∈ sf_T := sf_T_6 66 rfl rfl
theorem wt_1410 : (Cond.methodLink "StreamFuserLaw" (17 : Nat) ({ cls := "StreamFuserModel", name := "type", desc := "(I)I" } : MethodName)) ∈ sf_T := sf_T_6 67 rfl rfl
theorem wt_1411 : (Cond.instanceMethod ({ cls := "StreamFuserModel", name := "type", desc := "(I)I" } : MethodName)) ∈ sf_T := sf_T_6 68 rfl rfl
theorem wt_1412 : (Cond.selects "StreamFuserModel" ({ cls := "StreamFuserModel", name := "type", desc := "(I)I" } : MethodName) ({ cls := "StreamFuserModel", name := "type", desc := "(I)I" } : MethodName)) ∈ sf_T := sf_T_6 69 rfl rfl
theorem wt_1413 : (Cond.code ({ cls := "StreamFuserModel", name := "type", desc := "(I)I" } : MethodName) prog_14_method_16_code (2 : Nat) (Option.some FieldType.int)) ∈ sf_T := sf_T_6 70 rfl rfl
theorem wt_1414 : (Cond.constantLong "StreamFuserModel" (155 : Nat) (255 : Int64)) ∈ sf_T := sf_T_6 71 rfl rfl
theorem wt_1415 : (Cond.methodLink "StreamFuserLaw" (22 : Nat) ({ cls := "StreamFuserModel", name := "wipe", desc := "()I" } : MethodName)) ∈ sf_T := sf_T_6 72 rfl rfl
theorem wt_1416 : (Cond.instanceMethod ({ cls := "StreamFuserModel", name := "wipe", desc := "()I" } : MethodName)) ∈ sf_T := sf_T_6 73 rfl rfl
theorem wt_1417 : (Cond.selects "StreamFuserModel" ({ cls := "StreamFuserModel", name := "wipe", desc := "()I" } : MethodName) ({ cls := "StreamFuserModel", name := "wipe", desc := "()I" } : MethodName)) ∈ sf_T := sf_T_6 74 rfl rfl
theorem wt_1418 : (Cond.code ({ cls := "StreamFuserModel", name := "wipe", desc := "()I" } : MethodName) prog_14_method_17_code (2 : Nat) (Option.some FieldType.int)) ∈ sf_T := sf_T_6 75 rfl rfl
theorem wt_1419 : (Cond.methodLink "StreamFuserLaw" (26 : Nat) ({ cls := "StreamFuserModel", name := "fault", desc := "()I" } : MethodName)) ∈ sf_T := sf_T_6 76 rfl rfl
theorem wt_1420 : (Cond.instanceMethod ({ cls := "StreamFuserModel", name := "fault", desc := "()I" } : MethodName)) ∈ sf_T := sf_T_6 77 rfl rfl
theorem wt_1421 : (Cond.selects "StreamFuserModel" ({ cls := "StreamFuserModel", name := "fault", desc := "()I" } : MethodName) ({ cls := "StreamFuserModel", name := "fault", desc := "()I" } : MethodName)) ∈ sf_T := sf_T_6 78 rfl rfl
theorem wt_1422 : (Cond.code ({ cls := "StreamFuserModel", name := "fault", desc := "()I" } : MethodName) prog_14_method_25_code (1 : Nat) (Option.some FieldType.int)) ∈ sf_T := sf_T_6 79 rfl rfl
theorem wt_1423 : (Cond.methodLink "StreamFuserModel" (202 : Nat) ({ cls := "StreamFuserModel", name := "faultNow", desc := "()I" } : MethodName)) ∈ sf_T := sf_T_6 80 rfl rfl
theorem wt_1425 : (Cond.instanceMethod ({ cls := "StreamFuserModel", name := "faultNow", desc := "()I" } : MethodName)) ∈ sf_T := sf_T_6 82 rfl rfl
theorem wt_1426 : (Cond.code ({ cls := "StreamFuserModel", name := "faultNow", desc := "()I" } : MethodName) prog_14_method_24_code (4 : Nat) (Option.some FieldType.int)) ∈ sf_T := sf_T_6 83 rfl rfl
theorem wt_1427 : (Cond.methodLink "StreamFuserModel" (192 : Nat) ({ cls := "StreamFuserModel", name := "takesLetter", desc := "(II)Z" } : MethodName)) ∈ sf_T := sf_T_6 84 rfl rfl
theorem wt_1429 : (Cond.instanceMethod ({ cls := "StreamFuserModel", name := "takesLetter", desc := "(II)Z" } : MethodName)) ∈ sf_T := sf_T_6 86 rfl rfl
theorem wt_1430 : (Cond.code ({ cls := "StreamFuserModel", name := "takesLetter", desc := "(II)Z" } : MethodName) prog_14_method_21_code (3 : Nat) (Option.some FieldType.boolean)) ∈ sf_T := sf_T_6 87 rfl rfl
theorem wt_1431 : (Cond.methodLink "StreamFuserModel" (163 : Nat) ({ cls := "StreamFuserModel", name := "partsOf", desc := "(I)I" } : MethodName)) ∈ sf_T := sf_T_6 88 rfl rfl
theorem wt_1432 : (Cond.static ({ cls := "StreamFuserModel", name := "partsOf", desc := "(I)I" } : MethodName)) ∈ sf_T := sf_T_6 89 rfl rfl
theorem wt_1433 : (Cond.code ({ cls := "StreamFuserModel", name := "partsOf", desc := "(I)I" } : MethodName) prog_14_method_18_code (1 : Nat) (Option.some FieldType.int)) ∈ sf_T := sf_T_6 90 rfl rfl
theorem wt_1434 : (Cond.methodLink "StreamFuserModel" (172 : Nat) ({ cls := "StreamFuserModel", name := "wantsBehind", desc := "(II)V" } : MethodName)) ∈ sf_T := sf_T_6 91 rfl rfl
theorem wt_1436 : (Cond.instanceMethod ({ cls := "StreamFuserModel", name := "wantsBehind", desc := "(II)V" } : MethodName)) ∈ sf_T := sf_T_6 93 rfl rfl
theorem wt_1437 : (Cond.code ({ cls := "StreamFuserModel", name := "wantsBehind", desc := "(II)V" } : MethodName) prog_14_method_20_code (5 : Nat) (Option.none : Option FieldType)) ∈ sf_T := sf_T_6 94 rfl rfl
theorem wt_1438 : (Cond.methodLink "StreamFuserModel" (166 : Nat) ({ cls := "StreamFuserModel", name := "wants", desc := "(I)V" } : MethodName)) ∈ sf_T := sf_T_6 95 rfl rfl
theorem wt_1440 : (Cond.instanceMethod ({ cls := "StreamFuserModel", name := "wants", desc := "(I)V" } : MethodName)) ∈ sf_T := sf_T_6 97 rfl rfl
theorem wt_1441 : (Cond.code ({ cls := "StreamFuserModel", name := "wants", desc := "(I)V" } : MethodName) prog_14_method_19_code (2 : Nat) (Option.none : Option FieldType)) ∈ sf_T := sf_T_6 98 rfl rfl
theorem wt_1442 : (Cond.methodLink "StreamFuserModel" (196 : Nat) ({ cls := "StreamFuserModel", name := "takesNumber", desc := "(II)Z" } : MethodName)) ∈ sf_T := sf_T_6 99 rfl rfl
theorem wt_1444 : (Cond.instanceMethod ({ cls := "StreamFuserModel", name := "takesNumber", desc := "(II)Z" } : MethodName)) ∈ sf_T := sf_T_6 101 rfl rfl
theorem wt_1445 : (Cond.code ({ cls := "StreamFuserModel", name := "takesNumber", desc := "(II)Z" } : MethodName) prog_14_method_22_code (5 : Nat) (Option.some FieldType.boolean)) ∈ sf_T := sf_T_6 102 rfl rfl
theorem wt_1446 : (Cond.constantLong "StreamFuserModel" (176 : Nat) (48 : Int64)) ∈ sf_T := sf_T_6 103 rfl rfl
theorem wt_1447 : (Cond.constantLong "StreamFuserModel" (178 : Nat) (57 : Int64)) ∈ sf_T := sf_T_6 104 rfl rfl
theorem wt_1448 : (Cond.methodLink "StreamFuserModel" (199 : Nat) ({ cls := "StreamFuserModel", name := "takesSign", desc := "(II)Z" } : MethodName)) ∈ sf_T := sf_T_6 105 rfl rfl
theorem wt_1450 : (Cond.instanceMethod ({ cls := "StreamFuserModel", name := "takesSign", desc := "(II)Z" } : MethodName)) ∈ sf_T := sf_T_6 107 rfl rfl
theorem wt_1451 : (Cond.code ({ cls := "StreamFuserModel", name := "takesSign", desc := "(II)Z" } : MethodName) prog_14_method_23_code (4 : Nat) (Option.some FieldType.boolean)) ∈ sf_T := sf_T_6 108 rfl rfl
theorem wt_1452 : (Cond.constantLong "StreamFuserModel" (190 : Nat) (51 : Int64)) ∈ sf_T := sf_T_6 109 rfl rfl
theorem wt_1453 : (Cond.methodLink "StreamFuserLaw" (30 : Nat) ({ cls := "StreamFuserModel", name := "plan", desc := "()I" } : MethodName)) ∈ sf_T := sf_T_6 110 rfl rfl
theorem wt_1454 : (Cond.instanceMethod ({ cls := "StreamFuserModel", name := "plan", desc := "()I" } : MethodName)) ∈ sf_T := sf_T_6 111 rfl rfl
theorem wt_1455 : (Cond.selects "StreamFuserModel" ({ cls := "StreamFuserModel", name := "plan", desc := "()I" } : MethodName) ({ cls := "StreamFuserModel", name := "plan", desc := "()I" } : MethodName)) ∈ sf_T := sf_T_6 112 rfl rfl
theorem wt_1456 : (Cond.code ({ cls := "StreamFuserModel", name := "plan", desc := "()I" } : MethodName) prog_14_method_28_code (3 : Nat) (Option.some FieldType.int)) ∈ sf_T := sf_T_6 113 rfl rfl
theorem wt_1457 : (Cond.methodLink "StreamFuserModel" (213 : Nat) ({ cls := "StreamFuserModel", name := "places", desc := "()V" } : MethodName)) ∈ sf_T := sf_T_6 114 rfl rfl
theorem wt_1459 : (Cond.instanceMethod ({ cls := "StreamFuserModel", name := "places", desc := "()V" } : MethodName)) ∈ sf_T := sf_T_6 116 rfl rfl
theorem wt_1460 : (Cond.code ({ cls := "StreamFuserModel", name := "places", desc := "()V" } : MethodName) prog_14_method_26_code (6 : Nat) (Option.none : Option FieldType)) ∈ sf_T := sf_T_6 117 rfl rfl
theorem wt_1461 : (Cond.methodLink "StreamFuserModel" (209 : Nat) ({ cls := "StreamFuserModel", name := "hangs", desc := "(IIZ)V" } : MethodName)) ∈ sf_T := sf_T_6 118 rfl rfl
theorem wt_1463 : (Cond.instanceMethod ({ cls := "StreamFuserModel", name := "hangs", desc := "(IIZ)V" } : MethodName)) ∈ sf_T := sf_T_6 120 rfl rfl
theorem wt_1464 : (Cond.code ({ cls := "StreamFuserModel", name := "hangs", desc := "(IIZ)V" } : MethodName) prog_14_method_27_code (4 : Nat) (Option.none : Option FieldType)) ∈ sf_T := sf_T_6 121 rfl rfl
theorem wt_1465 : (Cond.methodLink "StreamFuserLaw" (35 : Nat) ({ cls := "StreamFuserModel", name := "node", desc := "(II)I" } : MethodName)) ∈ sf_T := sf_T_6 122 rfl rfl
theorem wt_1466 : (Cond.instanceMethod ({ cls := "StreamFuserModel", name := "node", desc := "(II)I" } : MethodName)) ∈ sf_T := sf_T_6 123 rfl rfl
theorem wt_1467 : (Cond.selects "StreamFuserModel" ({ cls := "StreamFuserModel", name := "node", desc := "(II)I" } : MethodName) ({ cls := "StreamFuserModel", name := "node", desc := "(II)I" } : MethodName)) ∈ sf_T := sf_T_6 124 rfl rfl
theorem wt_1468 : (Cond.code ({ cls := "StreamFuserModel", name := "node", desc := "(II)I" } : MethodName) prog_14_method_31_code (3 : Nat) (Option.some FieldType.int)) ∈ sf_T := sf_T_6 125 rfl rfl
theorem wt_1469 : (Cond.constantLong "StreamFuserModel" (219 : Nat) (5 : Int64)) ∈ sf_T := sf_T_6 126 rfl rfl
theorem wt_1470 : (Cond.methodLink "StreamFuserModel" (221 : Nat) ({ cls := "StreamFuserModel", name := "nodeBy", desc := "(II)I" } : MethodName)) ∈ sf_T := sf_T_6 127 rfl rfl
theorem wt_1472 : (Cond.instanceMethod ({ cls := "StreamFuserModel", name := "nodeBy", desc := "(II)I" } : MethodName)) ∈ sf_T := sf_T_6 129 rfl rfl
theorem wt_1473 : (Cond.code ({ cls := "StreamFuserModel", name := "nodeBy", desc := "(II)I" } : MethodName) prog_14_method_30_code (3 : Nat) (Option.some FieldType.int)) ∈ sf_T := sf_T_6 130 rfl rfl
theorem wt_1474 : (Cond.methodLink "StreamFuserModel" (216 : Nat) ({ cls := "StreamFuserModel", name := "isPure", desc := "(I)Z" } : MethodName)) ∈ sf_T := sf_T_6 131 rfl rfl
theorem wt_1476 : (Cond.instanceMethod ({ cls := "StreamFuserModel", name := "isPure", desc := "(I)Z" } : MethodName)) ∈ sf_T := sf_T_6 133 rfl rfl
theorem wt_1477 : (Cond.code ({ cls := "StreamFuserModel", name := "isPure", desc := "(I)Z" } : MethodName) prog_14_method_29_code (3 : Nat) (Option.some FieldType.boolean)) ∈ sf_T := sf_T_6 134 rfl rfl
theorem wt_1478 : (Cond.methodLink "StreamFuserLaw" (39 : Nat) ({ cls := "StreamFuserModel", name := "text", desc := "(I)I" } : MethodName)) ∈ sf_T := sf_T_6 135 rfl rfl
theorem wt_1479 : (Cond.instanceMethod ({ cls := "StreamFuserModel", name := "text", desc := "(I)I" } : MethodName)) ∈ sf_T := sf_T_6 136 rfl rfl
theorem wt_1480 : (Cond.selects "StreamFuserModel" ({ cls := "StreamFuserModel", name := "text", desc := "(I)I" } : MethodName) ({ cls := "StreamFuserModel", name := "text", desc := "(I)I" } : MethodName)) ∈ sf_T := sf_T_6 137 rfl rfl
theorem wt_1481 : (Cond.code ({ cls := "StreamFuserModel", name := "text", desc := "(I)I" } : MethodName) prog_14_method_37_code (2 : Nat) (Option.some FieldType.int)) ∈ sf_T := sf_T_6 138 rfl rfl
theorem wt_1482 : (Cond.methodLink "StreamFuserModel" (238 : Nat) ({ cls := "StreamFuserModel", name := "writesPlan", desc := "()V" } : MethodName)) ∈ sf_T := sf_T_6 139 rfl rfl
theorem wt_1484 : (Cond.instanceMethod ({ cls := "StreamFuserModel", name := "writesPlan", desc := "()V" } : MethodName)) ∈ sf_T := sf_T_6 141 rfl rfl
theorem wt_1485 : (Cond.code ({ cls := "StreamFuserModel", name := "writesPlan", desc := "()V" } : MethodName) prog_14_method_35_code (2 : Nat) (Option.none : Option FieldType)) ∈ sf_T := sf_T_6 142 rfl rfl
theorem wt_1486 : (Cond.methodLink "StreamFuserModel" (227 : Nat) ({ cls := "StreamFuserModel", name := "tells", desc := "(I)V" } : MethodName)) ∈ sf_T := sf_T_6 143 rfl rfl
theorem wt_1488 : (Cond.instanceMethod ({ cls := "StreamFuserModel", name := "tells", desc := "(I)V" } : MethodName)) ∈ sf_T := sf_T_6 145 rfl rfl
theorem wt_1489 : (Cond.code ({ cls := "StreamFuserModel", name := "tells", desc := "(I)V" } : MethodName) prog_14_method_32_code (2 : Nat) (Option.none : Option FieldType)) ∈ sf_T := sf_T_6 146 rfl rfl
theorem wt_1490 : (Cond.methodLink "StreamFuserModel" (232 : Nat) ({ cls := "StreamFuserModel", name := "numbersOf", desc := "(I)I" } : MethodName)) ∈ sf_T := sf_T_6 147 rfl rfl
theorem wt_1491 : (Cond.static ({ cls := "StreamFuserModel", name := "numbersOf", desc := "(I)I" } : MethodName)) ∈ sf_T := sf_T_6 148 rfl rfl
theorem wt_1492 : (Cond.code ({ cls := "StreamFuserModel", name := "numbersOf", desc := "(I)I" } : MethodName) prog_14_method_34_code (1 : Nat) (Option.some FieldType.int)) ∈ sf_T := sf_T_6 149 rfl rfl
theorem wt_1493 : (Cond.methodLink "StreamFuserModel" (235 : Nat) ({ cls := "StreamFuserModel", name := "tellsNumber", desc := "(I)V" } : MethodName)) ∈ sf_T := sf_T_6 150 rfl rfl
theorem wt_1495 : (Cond.instanceMethod ({ cls := "StreamFuserModel", name := "tellsNumber", desc := "(I)V" } : MethodName)) ∈ sf_T := sf_T_6 152 rfl rfl
theorem wt_1496 : (Cond.code ({ cls := "StreamFuserModel", name := "tellsNumber", desc := "(I)V" } : MethodName) prog_14_method_33_code (7 : Nat) (Option.none : Option FieldType)) ∈ sf_T := sf_T_6 153 rfl rfl
theorem wt_1497 : (Cond.constantLong "StreamFuserModel" (230 : Nat) (10 : Int64)) ∈ sf_T := sf_T_6 154 rfl rfl
theorem wt_1498 : (Cond.methodLink "StreamFuserModel" (241 : Nat) ({ cls := "StreamFuserModel", name := "textBy", desc := "(I)I" } : MethodName)) ∈ sf_T := sf_T_6 155 rfl rfl
theorem wt_1500 : (Cond.instanceMethod ({ cls := "StreamFuserModel", name := "textBy", desc := "(I)I" } : MethodName)) ∈ sf_T := sf_T_6 157 rfl rfl
theorem wt_1501 : (Cond.code ({ cls := "StreamFuserModel", name := "textBy", desc := "(I)I" } : MethodName) prog_14_method_36_code (2 : Nat) (Option.some FieldType.int)) ∈ sf_T := sf_T_6 158 rfl rfl
theorem wt_1502 : (Cond.methodLink "StreamFuserLaw" (43 : Nat) ({ cls := "StreamFuserModel", name := "tidy", desc := "(I)I" } : MethodName)) ∈ sf_T := sf_T_6 159 rfl rfl
theorem wt_1503 : (Cond.instanceMethod ({ cls := "StreamFuserModel", name := "tidy", desc := "(I)I" } : MethodName)) ∈ sf_T := sf_T_6 160 rfl rfl
theorem wt_1504 : (Cond.selects "StreamFuserModel" ({ cls := "StreamFuserModel", name := "tidy", desc := "(I)I" } : MethodName) ({ cls := "StreamFuserModel", name := "tidy", desc := "(I)I" } : MethodName)) ∈ sf_T := sf_T_6 161 rfl rfl
theorem wt_1505 : (Cond.code ({ cls := "StreamFuserModel", name := "tidy", desc := "(I)I" } : MethodName) prog_14_method_50_code (3 : Nat) (Option.some FieldType.int)) ∈ sf_T := sf_T_6 162 rfl rfl
theorem wt_1506 : (Cond.methodLink "StreamFuserModel" (286 : Nat) ({ cls := "StreamFuserModel", name := "tidies", desc := "(I)I" } : MethodName)) ∈ sf_T := sf_T_6 163 rfl rfl
theorem wt_1508 : (Cond.instanceMethod ({ cls := "StreamFuserModel", name := "tidies", desc := "(I)I" } : MethodName)) ∈ sf_T := sf_T_6 165 rfl rfl
theorem wt_1509 : (Cond.code ({ cls := "StreamFuserModel", name := "tidies", desc := "(I)I" } : MethodName) prog_14_method_49_code (5 : Nat) (Option.some FieldType.int)) ∈ sf_T := sf_T_6 166 rfl rfl
theorem wt_1510 : (Cond.constant "StreamFuserModel" (282 : Nat) (1000000 : Int32)) ∈ sf_T := sf_T_6 167 rfl rfl
theorem wt_1511 : (Cond.methodLink "StreamFuserModel" (283 : Nat) ({ cls := "StreamFuserModel", name := "tidiesOnce", desc := "(I)Z" } : MethodName)) ∈ sf_T := sf_T_6 168 rfl rfl
theorem wt_1513 : (Cond.instanceMethod ({ cls := "StreamFuserModel", name := "tidiesOnce", desc := "(I)Z" } : MethodName)) ∈ sf_T := sf_T_6 170 rfl rfl
theorem wt_1514 : (Cond.code ({ cls := "StreamFuserModel", name := "tidiesOnce", desc := "(I)Z" } : MethodName) prog_14_method_48_code (5 : Nat) (Option.some FieldType.boolean)) ∈ sf_T := sf_T_6 171 rfl rfl
theorem wt_1515 : (Cond.methodLink "StreamFuserModel" (276 : Nat) ({ cls := "StreamFuserModel", name := "ruleAt", desc := "(I)I" } : MethodName)) ∈ sf_T := sf_T_6 172 rfl rfl
theorem wt_1517 : (Cond.instanceMethod ({ cls := "StreamFuserModel", name := "ruleAt", desc := "(I)I" } : MethodName)) ∈ sf_T := sf_T_6 174 rfl rfl
theorem wt_1518 : (Cond.code ({ cls := "StreamFuserModel", name := "ruleAt", desc := "(I)I" } : MethodName) prog_14_method_41_code (3 : Nat) (Option.some FieldType.int)) ∈ sf_T := sf_T_6 175 rfl rfl
theorem wt_1519 : (Cond.methodLink "StreamFuserModel" (247 : Nat) ({ cls := "StreamFuserModel", name := "isNil", desc := "(I)Z" } : MethodName)) ∈ sf_T := sf_T_6 176 rfl rfl
theorem wt_1521 : (Cond.instanceMethod ({ cls := "StreamFuserModel", name := "isNil", desc := "(I)Z" } : MethodName)) ∈ sf_T := sf_T_6 178 rfl rfl
theorem wt_1522 : (Cond.code ({ cls := "StreamFuserModel", name := "isNil", desc := "(I)Z" } : MethodName) prog_14_method_38_code (2 : Nat) (Option.some FieldType.boolean)) ∈ sf_T := sf_T_6 179 rfl rfl
theorem wt_1523 : (Cond.methodLink "StreamFuserModel" (250 : Nat) ({ cls := "StreamFuserModel", name := "ruleOfCut", desc := "(I)I" } : MethodName)) ∈ sf_T := sf_T_6 180 rfl rfl
theorem wt_1525 : (Cond.instanceMethod ({ cls := "StreamFuserModel", name := "ruleOfCut", desc := "(I)I" } : MethodName)) ∈ sf_T := sf_T_6 182 rfl rfl
theorem wt_1526 : (Cond.code ({ cls := "StreamFuserModel", name := "ruleOfCut", desc := "(I)I" } : MethodName) prog_14_method_40_code (4 : Nat) (Option.some FieldType.int)) ∈ sf_T := sf_T_6 183 rfl rfl
theorem wt_1527 : (Cond.methodLink "StreamFuserModel" (244 : Nat) ({ cls := "StreamFuserModel", name := "changes", desc := "(I)Z" } : MethodName)) ∈ sf_T := sf_T_6 184 rfl rfl
theorem wt_1528 : (Cond.static ({ cls := "StreamFuserModel", name := "changes", desc := "(I)Z" } : MethodName)) ∈ sf_T := sf_T_6 185 rfl rfl
theorem wt_1529 : (Cond.code ({ cls := "StreamFuserModel", name := "changes", desc := "(I)Z" } : MethodName) prog_14_method_39_code (1 : Nat) (Option.some FieldType.boolean)) ∈ sf_T := sf_T_6 186 rfl rfl
theorem wt_1530 : (Cond.methodLink "StreamFuserModel" (279 : Nat) ({ cls := "StreamFuserModel", name := "uses", desc := "(II)V" } : MethodName)) ∈ sf_T := sf_T_6 187 rfl rfl
theorem wt_1532 : (Cond.instanceMethod ({ cls := "StreamFuserModel", name := "uses", desc := "(II)V" } : MethodName)) ∈ sf_T := sf_T_6 189 rfl rfl
theorem wt_1533 : (Cond.code ({ cls := "StreamFuserModel", name := "uses", desc := "(II)V" } : MethodName) prog_14_method_46_code (4 : Nat) (Option.none : Option FieldType)) ∈ sf_T := sf_T_6 190 rfl rfl
theorem wt_1534 : (Cond.methodLink "StreamFuserModel" (253 : Nat) ({ cls := "StreamFuserModel", name := "becomes", desc := "(IIII)V" } : MethodName)) ∈ sf_T := sf_T_6 191 rfl rfl
theorem wt_1536 : (Cond.instanceMethod ({ cls := "StreamFuserModel", name := "becomes", desc := "(IIII)V" } : MethodName)) ∈ sf_T := sf_T_6 193 rfl rfl
theorem wt_1537 : (Cond.code ({ cls := "StreamFuserModel", name := "becomes", desc := "(IIII)V" } : MethodName) prog_14_method_43_code (5 : Nat) (Option.none : Option FieldType)) ∈ sf_T := sf_T_6 194 rfl rfl
theorem wt_1538 : (Cond.methodLink "StreamFuserModel" (260 : Nat) ({ cls := "StreamFuserModel", name := "lesser", desc := "(II)I" } : MethodName)) ∈ sf_T := sf_T_6 195 rfl rfl
theorem wt_1539 : (Cond.static ({ cls := "StreamFuserModel", name := "lesser", desc := "(II)I" } : MethodName)) ∈ sf_T := sf_T_6 196 rfl rfl
theorem wt_1540 : (Cond.code ({ cls := "StreamFuserModel", name := "lesser", desc := "(II)I" } : MethodName) prog_14_method_5_code (2 : Nat) (Option.some FieldType.int)) ∈ sf_T := sf_T_6 197 rfl rfl
theorem wt_1541 : (Cond.methodLink "StreamFuserModel" (257 : Nat) ({ cls := "StreamFuserModel", name := "cuts", desc := "(II)V" } : MethodName)) ∈ sf_T := sf_T_6 198 rfl rfl
theorem wt_1543 : (Cond.instanceMethod ({ cls := "StreamFuserModel", name := "cuts", desc := "(II)V" } : MethodName)) ∈ sf_T := sf_T_6 200 rfl rfl
theorem wt_1544 : (Cond.code ({ cls := "StreamFuserModel", name := "cuts", desc := "(II)V" } : MethodName) prog_14_method_42_code (4 : Nat) (Option.none : Option FieldType)) ∈ sf_T := sf_T_6 201 rfl rfl
theorem wt_1545 : (Cond.methodLink "StreamFuserModel" (263 : Nat) ({ cls := "StreamFuserModel", name := "turns", desc := "(I)V" } : MethodName)) ∈ sf_T := sf_T_6 202 rfl rfl
theorem wt_1547 : (Cond.instanceMethod ({ cls := "StreamFuserModel", name := "turns", desc := "(I)V" } : MethodName)) ∈ sf_T := sf_T_6 204 rfl rfl
theorem wt_1548 : (Cond.code ({ cls := "StreamFuserModel", name := "turns", desc := "(I)V" } : MethodName) prog_14_method_45_code (5 : Nat) (Option.none : Option FieldType)) ∈ sf_T := sf_T_6 205 rfl rfl
theorem wt_1549 : (Cond.methodLink "StreamFuserModel" (266 : Nat) ({ cls := "StreamFuserModel", name := "greater", desc := "(II)I" } : MethodName)) ∈ sf_T := sf_T_6 206 rfl rfl
theorem wt_1550 : (Cond.static ({ cls := "StreamFuserModel", name := "greater", desc := "(II)I" } : MethodName)) ∈ sf_T := sf_T_6 207 rfl rfl
theorem wt_1551 : (Cond.code ({ cls := "StreamFuserModel", name := "greater", desc := "(II)I" } : MethodName) prog_14_method_6_code (2 : Nat) (Option.some FieldType.int)) ∈ sf_T := sf_T_6 208 rfl rfl
theorem wt_1552 : (Cond.methodLink "StreamFuserModel" (269 : Nat) ({ cls := "StreamFuserModel", name := "usesMore", desc := "(III)V" } : MethodName)) ∈ sf_T := sf_T_6 209 rfl rfl
theorem wt_1554 : (Cond.instanceMethod ({ cls := "StreamFuserModel", name := "usesMore", desc := "(III)V" } : MethodName)) ∈ sf_T := sf_T_6 211 rfl rfl
theorem wt_1555 : (Cond.code ({ cls := "StreamFuserModel", name := "usesMore", desc := "(III)V" } : MethodName) prog_14_method_47_code (4 : Nat) (Option.none : Option FieldType)) ∈ sf_T := sf_T_6 212 rfl rfl
theorem wt_1556 : (Cond.methodLink "StreamFuserModel" (273 : Nat) ({ cls := "StreamFuserModel", name := "nil", desc := "(I)V" } : MethodName)) ∈ sf_T := sf_T_6 213 rfl rfl
theorem wt_1558 : (Cond.instanceMethod ({ cls := "StreamFuserModel", name := "nil", desc := "(I)V" } : MethodName)) ∈ sf_T := sf_T_6 215 rfl rfl
theorem wt_1559 : (Cond.code ({ cls := "StreamFuserModel", name := "nil", desc := "(I)V" } : MethodName) prog_14_method_44_code (3 : Nat) (Option.none : Option FieldType)) ∈ sf_T := sf_T_6 216 rfl rfl
theorem wt_1560 : (Cond.methodLink "StreamFuserLaw" (47 : Nat) ({ cls := "StreamFuserModel", name := "rules", desc := "(I)I" } : MethodName)) ∈ sf_T := sf_T_6 217 rfl rfl
theorem wt_1561 : (Cond.instanceMethod ({ cls := "StreamFuserModel", name := "rules", desc := "(I)I" } : MethodName)) ∈ sf_T := sf_T_6 218 rfl rfl
theorem wt_1562 : (Cond.selects "StreamFuserModel" ({ cls := "StreamFuserModel", name := "rules", desc := "(I)I" } : MethodName) ({ cls := "StreamFuserModel", name := "rules", desc := "(I)I" } : MethodName)) ∈ sf_T := sf_T_6 219 rfl rfl
theorem wt_1563 : (Cond.code ({ cls := "StreamFuserModel", name := "rules", desc := "(I)I" } : MethodName) prog_14_method_51_code (2 : Nat) (Option.some FieldType.int)) ∈ sf_T := sf_T_6 220 rfl rfl
theorem wt_1564 : (Cond.constantLong "StreamFuserModel" (292 : Nat) (12 : Int64)) ∈ sf_T := sf_T_6 221 rfl rfl
theorem wt_1565 : (Cond.methodLink "StreamFuserLaw" (55 : Nat) ({ cls := "StreamFuserModel", name := "run", desc := "(II)I" } : MethodName)) ∈ sf_T := sf_T_6 222 rfl rfl
theorem wt_1566 : (Cond.instanceMethod ({ cls := "StreamFuserModel", name := "run", desc := "(II)I" } : MethodName)) ∈ sf_T := sf_T_6 223 rfl rfl
theorem wt_1567 : (Cond.selects "StreamFuserModel" ({ cls := "StreamFuserModel", name := "run", desc := "(II)I" } : MethodName) ({ cls := "StreamFuserModel", name := "run", desc := "(II)I" } : MethodName)) ∈ sf_T := sf_T_6 224 rfl rfl
theorem wt_1568 : (Cond.code ({ cls := "StreamFuserModel", name := "run", desc := "(II)I" } : MethodName) prog_14_method_78_code (4 : Nat) (Option.some FieldType.int)) ∈ sf_T := sf_T_6 225 rfl rfl
theorem wt_1569 : (Cond.constantLong "StreamFuserModel" (400 : Nat) (40 : Int64)) ∈ sf_T := sf_T_6 226 rfl rfl
theorem wt_1570 : (Cond.methodLink "StreamFuserModel" (402 : Nat) ({ cls := "StreamFuserModel", name := "hasEndless", desc := "()Z" } : MethodName)) ∈ sf_T := sf_T_6 227 rfl rfl
theorem wt_1572 : (Cond.instanceMethod ({ cls := "StreamFuserModel", name := "hasEndless", desc := "()Z" } : MethodName)) ∈ sf_T := sf_T_6 229 rfl rfl
theorem wt_1573 : (Cond.code ({ cls := "StreamFuserModel", name := "hasEndless", desc := "()Z" } : MethodName) prog_14_method_77_code (2 : Nat) (Option.some FieldType.boolean)) ∈ sf_T := sf_T_6 230 rfl rfl
theorem wt_1574 : (Cond.methodLink "StreamFuserModel" (405 : Nat) ({ cls := "StreamFuserModel", name := "runs", desc := "(II)V" } : MethodName)) ∈ sf_T := sf_T_6 231 rfl rfl
theorem wt_1576 : (Cond.instanceMethod ({ cls := "StreamFuserModel", name := "runs", desc := "(II)V" } : MethodName)) ∈ sf_T := sf_T_6 233 rfl rfl
theorem wt_1577 : (Cond.code ({ cls := "StreamFuserModel", name := "runs", desc := "(II)V" } : MethodName) prog_14_method_76_code (6 : Nat) (Option.none : Option FieldType)) ∈ sf_T := sf_T_6 234 rfl rfl
theorem wt_1578 : (Cond.methodLink "StreamFuserModel" (322 : Nat) ({ cls := "StreamFuserModel", name := "begins", desc := "(II)V" } : MethodName)) ∈ sf_T := sf_T_6 235 rfl rfl
theorem wt_1580 : (Cond.instanceMethod ({ cls := "StreamFuserModel", name := "begins", desc := "(II)V" } : MethodName)) ∈ sf_T := sf_T_6 237 rfl rfl
theorem wt_1581 : (Cond.code ({ cls := "StreamFuserModel", name := "begins", desc := "(II)V" } : MethodName) prog_14_method_54_code (5 : Nat) (Option.none : Option FieldType)) ∈ sf_T := sf_T_6 238 rfl rfl
theorem wt_1582 : (Cond.methodLink "StreamFuserModel" (391 : Nat) ({ cls := "StreamFuserModel", name := "makesRows", desc := "()V" } : MethodName)) ∈ sf_T := sf_T_6 239 rfl rfl
theorem wt_1584 : (Cond.instanceMethod ({ cls := "StreamFuserModel", name := "makesRows", desc := "()V" } : MethodName)) ∈ sf_T := sf_T_7 1 rfl rfl
theorem wt_1585 : (Cond.code ({ cls := "StreamFuserModel", name := "makesRows", desc := "()V" } : MethodName) prog_14_method_75_code (4 : Nat) (Option.none : Option FieldType)) ∈ sf_T := sf_T_7 2 rfl rfl
theorem wt_1586 : (Cond.constant "StreamFuserModel" (352 : Nat) (100000000 : Int32)) ∈ sf_T := sf_T_7 3 rfl rfl
theorem wt_1587 : (Cond.methodLink "StreamFuserModel" (382 : Nat) ({ cls := "StreamFuserModel", name := "wantsRow", desc := "(I)I" } : MethodName)) ∈ sf_T := sf_T_7 4 rfl rfl
theorem wt_1589 : (Cond.instanceMethod ({ cls := "StreamFuserModel", name := "wantsRow", desc := "(I)I" } : MethodName)) ∈ sf_T := sf_T_7 6 rfl rfl
theorem wt_1590 : (Cond.code ({ cls := "StreamFuserModel", name := "wantsRow", desc := "(I)I" } : MethodName) prog_14_method_74_code (4 : Nat) (Option.some FieldType.int)) ∈ sf_T := sf_T_7 7 rfl rfl
theorem wt_1591 : (Cond.methodLink "StreamFuserModel" (370 : Nat) ({ cls := "StreamFuserModel", name := "opensRow", desc := "(I)I" } : MethodName)) ∈ sf_T := sf_T_7 8 rfl rfl
theorem wt_1593 : (Cond.instanceMethod ({ cls := "StreamFuserModel", name := "opensRow", desc := "(I)I" } : MethodName)) ∈ sf_T := sf_T_7 10 rfl rfl
theorem wt_1594 : (Cond.code ({ cls := "StreamFuserModel", name := "opensRow", desc := "(I)I" } : MethodName) prog_14_method_73_code (4 : Nat) (Option.some FieldType.int)) ∈ sf_T := sf_T_7 11 rfl rfl
theorem wt_1595 : (Cond.methodLink "StreamFuserModel" (306 : Nat) ({ cls := "StreamFuserModel", name := "fails", desc := "(II)V" } : MethodName)) ∈ sf_T := sf_T_7 12 rfl rfl
theorem wt_1597 : (Cond.instanceMethod ({ cls := "StreamFuserModel", name := "fails", desc := "(II)V" } : MethodName)) ∈ sf_T := sf_T_7 14 rfl rfl
theorem wt_1598 : (Cond.code ({ cls := "StreamFuserModel", name := "fails", desc := "(II)V" } : MethodName) prog_14_method_52_code (3 : Nat) (Option.none : Option FieldType)) ∈ sf_T := sf_T_7 15 rfl rfl
theorem wt_1599 : (Cond.methodLink "StreamFuserModel" (367 : Nat) ({ cls := "StreamFuserModel", name := "adds", desc := "(II)V" } : MethodName)) ∈ sf_T := sf_T_7 16 rfl rfl
theorem wt_1601 : (Cond.instanceMethod ({ cls := "StreamFuserModel", name := "adds", desc := "(II)V" } : MethodName)) ∈ sf_T := sf_T_7 18 rfl rfl
theorem wt_1602 : (Cond.code ({ cls := "StreamFuserModel", name := "adds", desc := "(II)V" } : MethodName) prog_14_method_69_code (3 : Nat) (Option.none : Option FieldType)) ∈ sf_T := sf_T_7 19 rfl rfl
theorem wt_1603 : (Cond.methodLink "StreamFuserModel" (373 : Nat) ({ cls := "StreamFuserModel", name := "fills", desc := "(I)V" } : MethodName)) ∈ sf_T := sf_T_7 20 rfl rfl
theorem wt_1605 : (Cond.instanceMethod ({ cls := "StreamFuserModel", name := "fills", desc := "(I)V" } : MethodName)) ∈ sf_T := sf_T_7 22 rfl rfl
theorem wt_1606 : (Cond.code ({ cls := "StreamFuserModel", name := "fills", desc := "(I)V" } : MethodName) prog_14_method_70_code (7 : Nat) (Option.none : Option FieldType)) ∈ sf_T := sf_T_7 23 rfl rfl
theorem wt_1607 : (Cond.constantLong "StreamFuserModel" (365 : Nat) (60 : Int64)) ∈ sf_T := sf_T_7 24 rfl rfl
theorem wt_1608 : (Cond.methodLink "StreamFuserModel" (315 : Nat) ({ cls := "StreamFuserModel", name := "draws", desc := "()Z" } : MethodName)) ∈ sf_T := sf_T_7 25 rfl rfl
theorem wt_1610 : (Cond.instanceMethod ({ cls := "StreamFuserModel", name := "draws", desc := "()Z" } : MethodName)) ∈ sf_T := sf_T_7 27 rfl rfl
theorem wt_1611 : (Cond.code ({ cls := "StreamFuserModel", name := "draws", desc := "()Z" } : MethodName) prog_14_method_55_code (1 : Nat) (Option.some FieldType.boolean)) ∈ sf_T := sf_T_7 28 rfl rfl
theorem wt_1612 : (Cond.methodLink "StreamFuserModel" (376 : Nat) ({ cls := "StreamFuserModel", name := "changesRow", desc := "(I)V" } : MethodName)) ∈ sf_T := sf_T_7 29 rfl rfl
theorem wt_1614 : (Cond.instanceMethod ({ cls := "StreamFuserModel", name := "changesRow", desc := "(I)V" } : MethodName)) ∈ sf_T := sf_T_7 31 rfl rfl
theorem wt_1615 : (Cond.code ({ cls := "StreamFuserModel", name := "changesRow", desc := "(I)V" } : MethodName) prog_14_method_71_code (9 : Nat) (Option.none : Option FieldType)) ∈ sf_T := sf_T_7 32 rfl rfl
theorem wt_1616 : (Cond.methodLink "StreamFuserModel" (331 : Nat) ({ cls := "StreamFuserModel", name := "passes", desc := "(II)Z" } : MethodName)) ∈ sf_T := sf_T_7 33 rfl rfl
theorem wt_1618 : (Cond.instanceMethod ({ cls := "StreamFuserModel", name := "passes", desc := "(II)Z" } : MethodName)) ∈ sf_T := sf_T_7 35 rfl rfl
theorem wt_1619 : (Cond.code ({ cls := "StreamFuserModel", name := "passes", desc := "(II)Z" } : MethodName) prog_14_method_58_code (4 : Nat) (Option.some FieldType.boolean)) ∈ sf_T := sf_T_7 36 rfl rfl
theorem wt_1620 : (Cond.methodLink "StreamFuserModel" (340 : Nat) ({ cls := "StreamFuserModel", name := "made", desc := "(II)I" } : MethodName)) ∈ sf_T := sf_T_7 37 rfl rfl
theorem wt_1622 : (Cond.instanceMethod ({ cls := "StreamFuserModel", name := "made", desc := "(II)I" } : MethodName)) ∈ sf_T := sf_T_7 39 rfl rfl
theorem wt_1623 : (Cond.code ({ cls := "StreamFuserModel", name := "made", desc := "(II)I" } : MethodName) prog_14_method_57_code (5 : Nat) (Option.some FieldType.int)) ∈ sf_T := sf_T_7 40 rfl rfl
theorem wt_1624 : (Cond.methodLink "StreamFuserModel" (319 : Nat) ({ cls := "StreamFuserModel", name := "writesDown", desc := "(II)V" } : MethodName)) ∈ sf_T := sf_T_7 41 rfl rfl
theorem wt_1626 : (Cond.instanceMethod ({ cls := "StreamFuserModel", name := "writesDown", desc := "(II)V" } : MethodName)) ∈ sf_T := sf_T_7 43 rfl rfl
theorem wt_1627 : (Cond.code ({ cls := "StreamFuserModel", name := "writesDown", desc := "(II)V" } : MethodName) prog_14_method_53_code (3 : Nat) (Option.none : Option FieldType)) ∈ sf_T := sf_T_7 44 rfl rfl
theorem wt_1628 : (Cond.methodLink "StreamFuserModel" (379 : Nat) ({ cls := "StreamFuserModel", name := "joinsRows", desc := "(I)V" } : MethodName)) ∈ sf_T := sf_T_7 45 rfl rfl
theorem wt_1630 : (Cond.instanceMethod ({ cls := "StreamFuserModel", name := "joinsRows", desc := "(I)V" } : MethodName)) ∈ sf_T := sf_T_7 47 rfl rfl
theorem wt_1631 : (Cond.code ({ cls := "StreamFuserModel", name := "joinsRows", desc := "(I)V" } : MethodName) prog_14_method_72_code (5 : Nat) (Option.none : Option FieldType)) ∈ sf_T := sf_T_7 48 rfl rfl
theorem wt_1632 : (Cond.methodLink "StreamFuserModel" (343 : Nat) ({ cls := "StreamFuserModel", name := "joined", desc := "(III)I" } : MethodName)) ∈ sf_T := sf_T_7 49 rfl rfl
theorem wt_1634 : (Cond.instanceMethod ({ cls := "StreamFuserModel", name := "joined", desc := "(III)I" } : MethodName)) ∈ sf_T := sf_T_7 51 rfl rfl
theorem wt_1635 : (Cond.code ({ cls := "StreamFuserModel", name := "joined", desc := "(III)I" } : MethodName) prog_14_method_59_code (4 : Nat) (Option.some FieldType.int)) ∈ sf_T := sf_T_7 52 rfl rfl
theorem wt_1636 : (Cond.methodLink "StreamFuserModel" (394 : Nat) ({ cls := "StreamFuserModel", name := "steps", desc := "()I" } : MethodName)) ∈ sf_T := sf_T_7 53 rfl rfl
theorem wt_1638 : (Cond.instanceMethod ({ cls := "StreamFuserModel", name := "steps", desc := "()I" } : MethodName)) ∈ sf_T := sf_T_7 55 rfl rfl
theorem wt_1639 : (Cond.code ({ cls := "StreamFuserModel", name := "steps", desc := "()I" } : MethodName) prog_14_method_68_code (5 : Nat) (Option.some FieldType.int)) ∈ sf_T := sf_T_7 56 rfl rfl
theorem wt_1640 : (Cond.methodLink "StreamFuserModel" (328 : Nat) ({ cls := "StreamFuserModel", name := "gives", desc := "(I)V" } : MethodName)) ∈ sf_T := sf_T_7 57 rfl rfl
theorem wt_1642 : (Cond.instanceMethod ({ cls := "StreamFuserModel", name := "gives", desc := "(I)V" } : MethodName)) ∈ sf_T := sf_T_7 59 rfl rfl
theorem wt_1643 : (Cond.code ({ cls := "StreamFuserModel", name := "gives", desc := "(I)V" } : MethodName) prog_14_method_56_code (3 : Nat) (Option.none : Option FieldType)) ∈ sf_T := sf_T_7 60 rfl rfl
theorem wt_1644 : (Cond.methodLink "StreamFuserModel" (362 : Nat) ({ cls := "StreamFuserModel", name := "after", desc := "(II)I" } : MethodName)) ∈ sf_T := sf_T_7 61 rfl rfl
theorem wt_1646 : (Cond.instanceMethod ({ cls := "StreamFuserModel", name := "after", desc := "(II)I" } : MethodName)) ∈ sf_T := sf_T_7 63 rfl rfl
theorem wt_1647 : (Cond.code ({ cls := "StreamFuserModel", name := "after", desc := "(II)I" } : MethodName) prog_14_method_66_code (4 : Nat) (Option.some FieldType.int)) ∈ sf_T := sf_T_7 64 rfl rfl
theorem wt_1648 : (Cond.methodLink "StreamFuserModel" (359 : Nat) ({ cls := "StreamFuserModel", name := "afterOne", desc := "(II)I" } : MethodName)) ∈ sf_T := sf_T_7 65 rfl rfl
theorem wt_1650 : (Cond.instanceMethod ({ cls := "StreamFuserModel", name := "afterOne", desc := "(II)I" } : MethodName)) ∈ sf_T := sf_T_7 67 rfl rfl
theorem wt_1651 : (Cond.code ({ cls := "StreamFuserModel", name := "afterOne", desc := "(II)I" } : MethodName) prog_14_method_67_code (3 : Nat) (Option.some FieldType.int)) ∈ sf_T := sf_T_7 68 rfl rfl
theorem wt_1652 : (Cond.methodLink "StreamFuserModel" (346 : Nat) ({ cls := "StreamFuserModel", name := "opensFor", desc := "(II)V" } : MethodName)) ∈ sf_T := sf_T_7 69 rfl rfl
theorem wt_1654 : (Cond.instanceMethod ({ cls := "StreamFuserModel", name := "opensFor", desc := "(II)V" } : MethodName)) ∈ sf_T := sf_T_7 71 rfl rfl
theorem wt_1655 : (Cond.code ({ cls := "StreamFuserModel", name := "opensFor", desc := "(II)V" } : MethodName) prog_14_method_60_code (3 : Nat) (Option.none : Option FieldType)) ∈ sf_T := sf_T_7 72 rfl rfl
theorem wt_1656 : (Cond.methodLink "StreamFuserModel" (397 : Nat) ({ cls := "StreamFuserModel", name := "asks", desc := "()Z" } : MethodName)) ∈ sf_T := sf_T_7 73 rfl rfl
theorem wt_1658 : (Cond.instanceMethod ({ cls := "StreamFuserModel", name := "asks", desc := "()Z" } : MethodName)) ∈ sf_T := sf_T_7 75 rfl rfl
theorem wt_1659 : (Cond.code ({ cls := "StreamFuserModel", name := "asks", desc := "()Z" } : MethodName) prog_14_method_65_code (5 : Nat) (Option.some FieldType.boolean)) ∈ sf_T := sf_T_7 76 rfl rfl
theorem wt_1660 : (Cond.methodLink "StreamFuserModel" (353 : Nat) ({ cls := "StreamFuserModel", name := "asksNext", desc := "(I)I" } : MethodName)) ∈ sf_T := sf_T_7 77 rfl rfl
theorem wt_1662 : (Cond.instanceMethod ({ cls := "StreamFuserModel", name := "asksNext", desc := "(I)I" } : MethodName)) ∈ sf_T := sf_T_7 79 rfl rfl
theorem wt_1663 : (Cond.code ({ cls := "StreamFuserModel", name := "asksNext", desc := "(I)I" } : MethodName) prog_14_method_61_code (3 : Nat) (Option.some FieldType.int)) ∈ sf_T := sf_T_7 80 rfl rfl
theorem wt_1664 : (Cond.methodLink "StreamFuserModel" (356 : Nat) ({ cls := "StreamFuserModel", name := "hears", desc := "(I)I" } : MethodName)) ∈ sf_T := sf_T_7 81 rfl rfl
theorem wt_1666 : (Cond.instanceMethod ({ cls := "StreamFuserModel", name := "hears", desc := "(I)I" } : MethodName)) ∈ sf_T := sf_T_7 83 rfl rfl
theorem wt_1667 : (Cond.code ({ cls := "StreamFuserModel", name := "hears", desc := "(I)I" } : MethodName) prog_14_method_62_code (2 : Nat) (Option.some FieldType.int)) ∈ sf_T := sf_T_7 84 rfl rfl
theorem wt_1668 : (Cond.methodLink "StreamFuserModel" (334 : Nat) ({ cls := "StreamFuserModel", name := "hearsOne", desc := "(I)I" } : MethodName)) ∈ sf_T := sf_T_7 85 rfl rfl
theorem wt_1670 : (Cond.instanceMethod ({ cls := "StreamFuserModel", name := "hearsOne", desc := "(I)I" } : MethodName)) ∈ sf_T := sf_T_7 87 rfl rfl
theorem wt_1671 : (Cond.code ({ cls := "StreamFuserModel", name := "hearsOne", desc := "(I)I" } : MethodName) prog_14_method_63_code (2 : Nat) (Option.some FieldType.int)) ∈ sf_T := sf_T_7 88 rfl rfl
theorem wt_1672 : (Cond.methodLink "StreamFuserModel" (337 : Nat) ({ cls := "StreamFuserModel", name := "hearsOpen", desc := "(I)I" } : MethodName)) ∈ sf_T := sf_T_7 89 rfl rfl
theorem wt_1674 : (Cond.instanceMethod ({ cls := "StreamFuserModel", name := "hearsOpen", desc := "(I)I" } : MethodName)) ∈ sf_T := sf_T_7 91 rfl rfl
theorem wt_1675 : (Cond.code ({ cls := "StreamFuserModel", name := "hearsOpen", desc := "(I)I" } : MethodName) prog_14_method_64_code (2 : Nat) (Option.some FieldType.int)) ∈ sf_T := sf_T_7 92 rfl rfl
theorem wt_1676 : (Cond.methodLink "StreamFuserLaw" (60 : Nat) ({ cls := "StreamFuserModel", name := "result", desc := "(I)J" } : MethodName)) ∈ sf_T := sf_T_7 93 rfl rfl
theorem wt_1677 : (Cond.instanceMethod ({ cls := "StreamFuserModel", name := "result", desc := "(I)J" } : MethodName)) ∈ sf_T := sf_T_7 94 rfl rfl
theorem wt_1678 : (Cond.selects "StreamFuserModel" ({ cls := "StreamFuserModel", name := "result", desc := "(I)J" } : MethodName) ({ cls := "StreamFuserModel", name := "result", desc := "(I)J" } : MethodName)) ∈ sf_T := sf_T_7 95 rfl rfl
theorem wt_1679 : (Cond.code ({ cls := "StreamFuserModel", name := "result", desc := "(I)J" } : MethodName) prog_14_method_79_code (2 : Nat) (Option.some FieldType.long)) ∈ sf_T := sf_T_7 96 rfl rfl
theorem wt_1680 : (Cond.methodLink "StreamFuserModel" (411 : Nat) ({ cls := "StreamFuserModel", name := "no", desc := "(I)J" } : MethodName)) ∈ sf_T := sf_T_7 97 rfl rfl
theorem wt_1681 : (Cond.static ({ cls := "StreamFuserModel", name := "no", desc := "(I)J" } : MethodName)) ∈ sf_T := sf_T_7 98 rfl rfl
theorem wt_1682 : (Cond.code ({ cls := "StreamFuserModel", name := "no", desc := "(I)J" } : MethodName) prog_14_method_4_code (1 : Nat) (Option.some FieldType.long)) ∈ sf_T := sf_T_7 99 rfl rfl
theorem wt_1683 : (Cond.constantLong "StreamFuserModel" (124 : Nat) (-9223372036854775808 : Int64)) ∈ sf_T := sf_T_7 100 rfl rfl
theorem wt_1684 : (Cond.methodLink "StreamFuserLaw" (64 : Nat) ({ cls := "StreamFuserModel", name := "fold", desc := "(I)J" } : MethodName)) ∈ sf_T := sf_T_7 101 rfl rfl
theorem wt_1685 : (Cond.instanceMethod ({ cls := "StreamFuserModel", name := "fold", desc := "(I)J" } : MethodName)) ∈ sf_T := sf_T_7 102 rfl rfl
theorem wt_1686 : (Cond.selects "StreamFuserModel" ({ cls := "StreamFuserModel", name := "fold", desc := "(I)J" } : MethodName) ({ cls := "StreamFuserModel", name := "fold", desc := "(I)J" } : MethodName)) ∈ sf_T := sf_T_7 103 rfl rfl
theorem wt_1687 : (Cond.code ({ cls := "StreamFuserModel", name := "fold", desc := "(I)J" } : MethodName) prog_14_method_81_code (2 : Nat) (Option.some FieldType.long)) ∈ sf_T := sf_T_7 104 rfl rfl
theorem wt_1688 : (Cond.methodLink "StreamFuserModel" (416 : Nat) ({ cls := "StreamFuserModel", name := "foldBy", desc := "(I)J" } : MethodName)) ∈ sf_T := sf_T_7 105 rfl rfl
theorem wt_1690 : (Cond.instanceMethod ({ cls := "StreamFuserModel", name := "foldBy", desc := "(I)J" } : MethodName)) ∈ sf_T := sf_T_7 107 rfl rfl
theorem wt_1691 : (Cond.code ({ cls := "StreamFuserModel", name := "foldBy", desc := "(I)J" } : MethodName) prog_14_method_80_code (7 : Nat) (Option.some FieldType.long)) ∈ sf_T := sf_T_7 108 rfl rfl
theorem wt_1692 : (Cond.constant "StreamFuserModel" (415 : Nat) (2147483647 : Int32)) ∈ sf_T := sf_T_7 109 rfl rfl
theorem wt_1693 : (Cond.methodLink "StreamFuserLaw" (68 : Nat) ({ cls := "StreamFuserModel", name := "failure", desc := "(I)I" } : MethodName)) ∈ sf_T := sf_T_7 110 rfl rfl
theorem wt_1694 : (Cond.instanceMethod ({ cls := "StreamFuserModel", name := "failure", desc := "(I)I" } : MethodName)) ∈ sf_T := sf_T_7 111 rfl rfl
theorem wt_1695 : (Cond.selects "StreamFuserModel" ({ cls := "StreamFuserModel", name := "failure", desc := "(I)I" } : MethodName) ({ cls := "StreamFuserModel", name := "failure", desc := "(I)I" } : MethodName)) ∈ sf_T := sf_T_7 112 rfl rfl
theorem wt_1696 : (Cond.code ({ cls := "StreamFuserModel", name := "failure", desc := "(I)I" } : MethodName) prog_14_method_82_code (2 : Nat) (Option.some FieldType.int)) ∈ sf_T := sf_T_7 113 rfl rfl
theorem wt_1697 : (Cond.methodLink "StreamFuserLaw" (72 : Nat) ({ cls := "StreamFuserModel", name := "told", desc := "(I)I" } : MethodName)) ∈ sf_T := sf_T_7 114 rfl rfl
theorem wt_1698 : (Cond.instanceMethod ({ cls := "StreamFuserModel", name := "told", desc := "(I)I" } : MethodName)) ∈ sf_T := sf_T_7 115 rfl rfl
theorem wt_1699 : (Cond.selects "StreamFuserModel" ({ cls := "StreamFuserModel", name := "told", desc := "(I)I" } : MethodName) ({ cls := "StreamFuserModel", name := "told", desc := "(I)I" } : MethodName)) ∈ sf_T := sf_T_7 116 rfl rfl
theorem wt_1700 : (Cond.code ({ cls := "StreamFuserModel", name := "told", desc := "(I)I" } : MethodName) prog_14_method_83_code (2 : Nat) (Option.some FieldType.int)) ∈ sf_T := sf_T_7 117 rfl rfl
theorem wt_1701 : (Cond.methodLink "StreamFuserLaw" (77 : Nat) ({ cls := "StreamFuserModel", name := "written", desc := "(II)J" } : MethodName)) ∈ sf_T := sf_T_7 118 rfl rfl
theorem wt_1702 : (Cond.instanceMethod ({ cls := "StreamFuserModel", name := "written", desc := "(II)J" } : MethodName)) ∈ sf_T := sf_T_7 119 rfl rfl
theorem wt_1703 : (Cond.selects "StreamFuserModel" ({ cls := "StreamFuserModel", name := "written", desc := "(II)J" } : MethodName) ({ cls := "StreamFuserModel", name := "written", desc := "(II)J" } : MethodName)) ∈ sf_T := sf_T_7 120 rfl rfl
theorem wt_1704 : (Cond.code ({ cls := "StreamFuserModel", name := "written", desc := "(II)J" } : MethodName) prog_14_method_86_code (3 : Nat) (Option.some FieldType.long)) ∈ sf_T := sf_T_7 121 rfl rfl
theorem wt_1705 : (Cond.methodLink "StreamFuserModel" (419 : Nat) ({ cls := "StreamFuserModel", name := "keptDown", desc := "()I" } : MethodName)) ∈ sf_T := sf_T_7 122 rfl rfl
theorem wt_1707 : (Cond.instanceMethod ({ cls := "StreamFuserModel", name := "keptDown", desc := "()I" } : MethodName)) ∈ sf_T := sf_T_7 124 rfl rfl
theorem wt_1708 : (Cond.code ({ cls := "StreamFuserModel", name := "keptDown", desc := "()I" } : MethodName) prog_14_method_85_code (1 : Nat) (Option.some FieldType.int)) ∈ sf_T := sf_T_7 125 rfl rfl
theorem wt_1709 : (Cond.methodLink "StreamFuserModel" (422 : Nat) ({ cls := "StreamFuserModel", name := "writtenBy", desc := "(II)J" } : MethodName)) ∈ sf_T := sf_T_7 126 rfl rfl
theorem wt_1711 : (Cond.instanceMethod ({ cls := "StreamFuserModel", name := "writtenBy", desc := "(II)J" } : MethodName)) ∈ sf_T := sf_T_7 128 rfl rfl
theorem wt_1712 : (Cond.code ({ cls := "StreamFuserModel", name := "writtenBy", desc := "(II)J" } : MethodName) prog_14_method_84_code (3 : Nat) (Option.some FieldType.long)) ∈ sf_T := sf_T_7 129 rfl rfl
theorem wt_1713 : (Cond.methodLink "StreamFuserLaw" (104 : Nat) ({ cls := "StreamFuserModel", name := "write", desc := "(I)I" } : MethodName)) ∈ sf_T := sf_T_7 130 rfl rfl
theorem wt_1714 : (Cond.instanceMethod ({ cls := "StreamFuserModel", name := "write", desc := "(I)I" } : MethodName)) ∈ sf_T := sf_T_7 131 rfl rfl
theorem wt_1715 : (Cond.selects "StreamFuserModel" ({ cls := "StreamFuserModel", name := "write", desc := "(I)I" } : MethodName) ({ cls := "StreamFuserModel", name := "write", desc := "(I)I" } : MethodName)) ∈ sf_T := sf_T_7 132 rfl rfl
theorem wt_1716 : (Cond.code ({ cls := "StreamFuserModel", name := "write", desc := "(I)I" } : MethodName) prog_14_method_87_code (4 : Nat) (Option.some FieldType.int)) ∈ sf_T := sf_T_7 133 rfl rfl
theorem wt_1717 : (Cond.methodLink "StreamFuserLaw" (51 : Nat) ({ cls := "StreamFuserModel", name := "saves", desc := "(I)I" } : MethodName)) ∈ sf_T := sf_T_7 134 rfl rfl
theorem wt_1718 : (Cond.instanceMethod ({ cls := "StreamFuserModel", name := "saves", desc := "(I)I" } : MethodName)) ∈ sf_T := sf_T_7 135 rfl rfl
theorem wt_1719 : (Cond.selects "StreamFuserModel" ({ cls := "StreamFuserModel", name := "saves", desc := "(I)I" } : MethodName) ({ cls := "StreamFuserModel", name := "saves", desc := "(I)I" } : MethodName)) ∈ sf_T := sf_T_7 136 rfl rfl
theorem wt_1720 : (Cond.code ({ cls := "StreamFuserModel", name := "saves", desc := "(I)I" } : MethodName) prog_14_method_90_code (2 : Nat) (Option.some FieldType.int)) ∈ sf_T := sf_T_7 137 rfl rfl
theorem wt_1721 : (Cond.methodLink "StreamFuserModel" (430 : Nat) ({ cls := "StreamFuserModel", name := "savesBy", desc := "(I)I" } : MethodName)) ∈ sf_T := sf_T_7 138 rfl rfl
theorem wt_1723 : (Cond.instanceMethod ({ cls := "StreamFuserModel", name := "savesBy", desc := "(I)I" } : MethodName)) ∈ sf_T := sf_T_7 140 rfl rfl
theorem wt_1724 : (Cond.code ({ cls := "StreamFuserModel", name := "savesBy", desc := "(I)I" } : MethodName) prog_14_method_89_code (4 : Nat) (Option.some FieldType.int)) ∈ sf_T := sf_T_7 141 rfl rfl
theorem wt_1725 : (Cond.methodLink "StreamFuserModel" (426 : Nat) ({ cls := "StreamFuserModel", name := "lays", desc := "(ZI)V" } : MethodName)) ∈ sf_T := sf_T_7 142 rfl rfl
theorem wt_1727 : (Cond.instanceMethod ({ cls := "StreamFuserModel", name := "lays", desc := "(ZI)V" } : MethodName)) ∈ sf_T := sf_T_7 144 rfl rfl
theorem wt_1728 : (Cond.code ({ cls := "StreamFuserModel", name := "lays", desc := "(ZI)V" } : MethodName) prog_14_method_88_code (4 : Nat) (Option.none : Option FieldType)) ∈ sf_T := sf_T_7 145 rfl rfl
theorem wt_1729 : (Cond.methodLink "StreamFuserLaw" (108 : Nat) ({ cls := "StreamFuserModel", name := "count", desc := "(I)I" } : MethodName)) ∈ sf_T := sf_T_7 146 rfl rfl
theorem wt_1730 : (Cond.instanceMethod ({ cls := "StreamFuserModel", name := "count", desc := "(I)I" } : MethodName)) ∈ sf_T := sf_T_7 147 rfl rfl
theorem wt_1731 : (Cond.selects "StreamFuserModel" ({ cls := "StreamFuserModel", name := "count", desc := "(I)I" } : MethodName) ({ cls := "StreamFuserModel", name := "count", desc := "(I)I" } : MethodName)) ∈ sf_T := sf_T_7 148 rfl rfl
theorem wt_1732 : (Cond.code ({ cls := "StreamFuserModel", name := "count", desc := "(I)I" } : MethodName) prog_14_method_92_code (2 : Nat) (Option.some FieldType.int)) ∈ sf_T := sf_T_7 149 rfl rfl
theorem wt_1733 : (Cond.methodLink "StreamFuserModel" (433 : Nat) ({ cls := "StreamFuserModel", name := "deepest", desc := "()I" } : MethodName)) ∈ sf_T := sf_T_7 150 rfl rfl
theorem wt_1735 : (Cond.instanceMethod ({ cls := "StreamFuserModel", name := "deepest", desc := "()I" } : MethodName)) ∈ sf_T := sf_T_7 152 rfl rfl
theorem wt_1736 : (Cond.code ({ cls := "StreamFuserModel", name := "deepest", desc := "()I" } : MethodName) prog_14_method_91_code (3 : Nat) (Option.some FieldType.int)) ∈ sf_T := sf_T_7 153 rfl rfl
theorem wt_1737 : (Cond.methodLink "StreamFuserLaw" (113 : Nat) ({ cls := "StreamFuserModel", name := "digest", desc := "()J" } : MethodName)) ∈ sf_T := sf_T_7 154 rfl rfl
theorem wt_1738 : (Cond.instanceMethod ({ cls := "StreamFuserModel", name := "digest", desc := "()J" } : MethodName)) ∈ sf_T := sf_T_7 155 rfl rfl
theorem wt_1739 : (Cond.selects "StreamFuserModel" ({ cls := "StreamFuserModel", name := "digest", desc := "()J" } : MethodName) ({ cls := "StreamFuserModel", name := "digest", desc := "()J" } : MethodName)) ∈ sf_T := sf_T_7 156 rfl rfl
theorem wt_1740 : (Cond.code ({ cls := "StreamFuserModel", name := "digest", desc := "()J" } : MethodName) prog_14_method_94_code (4 : Nat) (Option.some FieldType.long)) ∈ sf_T := sf_T_7 157 rfl rfl
theorem wt_1741 : (Cond.constantLong "StreamFuserModel" (438 : Nat) (17 : Int64)) ∈ sf_T := sf_T_7 158 rfl rfl
theorem wt_1742 : (Cond.constantLong "StreamFuserModel" (436 : Nat) (31 : Int64)) ∈ sf_T := sf_T_7 159 rfl rfl
theorem wt_1743 : (Cond.methodLink "StreamFuserModel" (440 : Nat) ({ cls := "StreamFuserModel", name := "count", desc := "(I)I" } : MethodName)) ∈ sf_T := sf_T_7 160 rfl rfl
theorem wt_1744 : (Cond.methodLink "StreamFuserModel" (443 : Nat) ({ cls := "StreamFuserModel", name := "planTells", desc := "(J)J" } : MethodName)) ∈ sf_T := sf_T_7 161 rfl rfl
theorem wt_1746 : (Cond.instanceMethod ({ cls := "StreamFuserModel", name := "planTells", desc := "(J)J" } : MethodName)) ∈ sf_T := sf_T_7 163 rfl rfl
theorem wt_1747 : (Cond.code ({ cls := "StreamFuserModel", name := "planTells", desc := "(J)J" } : MethodName) prog_14_method_93_code (7 : Nat) (Option.some FieldType.long)) ∈ sf_T := sf_T_7 164 rfl rfl
theorem wt_1748 : (Cond.sameMethod "StreamFuser$Way" "StreamFuser$Way" "divide" "(III)Z") ∈ sf_T := sf_T_7 165 rfl rfl
theorem wt_1749 : (Cond.sameMethod "StreamFuser$Walk" "StreamFuser$Walk" "restart" "(II)V") ∈ sf_T := sf_T_7 166 rfl rfl
theorem wt_1750 : (Cond.selects "StreamFuser$Asker" ({ cls := "StreamFuser$Walk", name := "restart", desc := "(II)V" } : MethodName) ({ cls := "StreamFuser$Walk", name := "restart", desc := "(II)V" } : MethodName)) ∈ sf_T := sf_T_7 167 rfl rfl
theorem wt_1751 : (Cond.selects "StreamFuser$Stepper" ({ cls := "StreamFuser$Walk", name := "restart", desc := "(II)V" } : MethodName) ({ cls := "StreamFuser$Walk", name := "restart", desc := "(II)V" } : MethodName)) ∈ sf_T := sf_T_7 168 rfl rfl
end
section
/-! THE SMALL MACHINE: bytecode over a world of fixed cells, as a function. A state gives each cell k and place j a number; references are constant. -/
abbrev sf_S : Type := Nat → Nat → Int32
/-- the locals, the latest store first -/
abbrev sf_L : Type := List (Nat × Option Value)
abbrev sf_Q : Type := Option Value × sf_S
/-- the shape of the cells: an object (its class's place in vwCl, its fields: some k a reference to cell k, none a number), or an array (0 int, 1 boolean, 2 byte; its length) -/
abbrev sf_Lay : Type := List ((Nat × List (Option Nat)) ⊕ (Nat × Nat))
abbrev sf_K (ρ : Type) : Type := Nat → sf_L → List Value → sf_S → Option ρ
/-- a call: the stack and the state before, what goes on behind -/
abbrev sf_J (ρ : Type) : Type := List Value → sf_S → (List Value → sf_S → Option ρ) → Option ρ
/-- a place of the code where a function of one's own takes over -/
abbrev sf_M (ρ : Type) : Type := sf_L → List Value → sf_S → Option ρ
/-- an instruction: itself, the next place, where it jumps, the constant that it brings, a switch's rows, a field's places by classes -/
abbrev sf_E : Type := Instr × Nat × Nat × Value × List (Int32 × Nat) × List (Nat × Nat)
def sf_up (σ : sf_S) (k j : Nat) (v : Int32) : sf_S := fun a b => if a = k ∧ b = j then v else σ a b
def sf_in (i : Int32) (n : Nat) : Bool := !(decide (i < 0)) && decide (i.toNatClampNeg < n)
def sf_01 (x : Int32) : Bool := decide (x = 0) || decide (x = 1)
abbrev sf_nl : Option Value → Option Value
  | some (.long _) => none
  | some (.double _) => none
  | o => o
/-- a long is gone when its second place was written -/
abbrev sf_get : sf_L → Nat → Option Value
  | [], _ => none
  | (k, o) :: l, i => match Nat.beq k i with
    | true => o
    | false => match Nat.beq k (i + 1) with
      | true => sf_nl (sf_get l i)
      | false => sf_get l i
abbrev sf_st1 (L : sf_L) (i : Nat) (v : Value) : sf_L := (i, some v) :: L
abbrev sf_st2 (L : sf_L) (i : Nat) (v : Value) : sf_L := (i, some v) :: (i + 1, none) :: L
abbrev sf_as {α : Type} : List (Nat × α) → Nat → Option α
  | [], _ => none
  | (k, a) :: l, n => if Nat.beq k n then some a else sf_as l n
abbrev sf_sw {ρ : Type} (K : Nat → Option ρ) (x : Int32) (d : Nat) : List (Int32 × Nat) → Option ρ
  | [] => K d
  | (a, t) :: l => if x = a then K t else sf_sw K x d l
abbrev sf_i1 {ρ : Type} (st : List Value) (f : Int32 → List Value → Option ρ) : Option ρ := match st with
  | .int x :: r => f x r
  | _ => none
abbrev sf_i2 {ρ : Type} (st : List Value) (f : Int32 → Int32 → List Value → Option ρ) : Option ρ := match st with
  | .int y :: .int x :: r => f x y r
  | _ => none
abbrev sf_l1 {ρ : Type} (st : List Value) (f : Int64 → List Value → Option ρ) : Option ρ := match st with
  | .long x :: r => f x r
  | _ => none
abbrev sf_l2 {ρ : Type} (st : List Value) (f : Int64 → Int64 → List Value → Option ρ) : Option ρ := match st with
  | .long y :: .long x :: r => f x y r
  | _ => none
abbrev sf_ar {ρ : Type} (lay : sf_Lay) (q : Nat) (f : Nat → Nat → Option ρ) : Option ρ := match lay[q]? with
  | some (.inr (t, n)) => f t n
  | _ => none
abbrev sf_ob {ρ : Type} (lay : sf_Lay) (q : Nat) (f : Nat → List (Option Nat) → Option ρ) : Option ρ := match lay[q]? with
  | some (.inl (c, fs)) => f c fs
  | _ => none
abbrev sf_ldi {ρ : Type} (L : sf_L) (i : Nat) (f : Int32 → Option ρ) : Option ρ := match sf_get L i with
  | some (.int x) => f x
  | _ => none
abbrev sf_ldl {ρ : Type} (L : sf_L) (i : Nat) (f : Int64 → Option ρ) : Option ρ := match sf_get L i with
  | some (.long x) => f x
  | _ => none
abbrev sf_lda {ρ : Type} (L : sf_L) (i : Nat) (f : Nat → Option ρ) : Option ρ := match sf_get L i with
  | some (.ref x) => f x
  | _ => none
abbrev sf_getf {ρ : Type} (lay : sf_Lay) (fp : List (Nat × Nat)) (q : Nat) (σ : sf_S) (f : Value → Option ρ) : Option ρ := sf_ob lay q fun c fs => match sf_as fp c with
  | some k => match fs[k]? with
    | some (some q2) => f (.ref q2)
    | some none => f (.int (σ q k))
    | none => none
  | none => none
/-- a field's place, where it is a number -/
abbrev sf_putf {ρ : Type} (lay : sf_Lay) (fp : List (Nat × Nat)) (q : Nat) (f : Nat → Option ρ) : Option ρ := sf_ob lay q fun c fs => match sf_as fp c with
  | some k => match fs[k]? with
    | some none => f k
    | _ => none
  | none => none
/-- one instruction; rh: what the method answers; J: its calls, by their places -/
abbrev sf_step {ρ : Type} (lay : sf_Lay) (rh : Option Value → sf_S → Option ρ) (J : List (Nat × sf_J ρ)) (e : sf_E) (pc : Nat) (L : sf_L) (st : List Value) (σ : sf_S) (K : sf_K ρ) : Option ρ :=
  match e with
  | (ins, nx, tg, v, sw, fp) =>
    match ins with
    | .iconst _ => K nx L (v :: st) σ
    | .bipush _ => K nx L (v :: st) σ
    | .sipush _ => K nx L (v :: st) σ
    | .ldc _ => K nx L (v :: st) σ
    | .ldc_w _ => K nx L (v :: st) σ
    | .ldc2_w _ => K nx L (v :: st) σ
    | .lconst _ => K nx L (v :: st) σ
    | .iload_n i => sf_ldi L i fun x => K nx L (.int x :: st) σ
    | .iload i => sf_ldi L i fun x => K nx L (.int x :: st) σ
    | .lload_n i => sf_ldl L i fun x => K nx L (.long x :: st) σ
    | .lload i => sf_ldl L i fun x => K nx L (.long x :: st) σ
    | .aload_n i => sf_lda L i fun x => K nx L (.ref x :: st) σ
    | .aload i => sf_lda L i fun x => K nx L (.ref x :: st) σ
    | .istore_n i => sf_i1 st fun x r => K nx (sf_st1 L i (.int x)) r σ
    | .istore i => sf_i1 st fun x r => K nx (sf_st1 L i (.int x)) r σ
    | .lstore_n i => sf_l1 st fun x r => K nx (sf_st2 L i (.long x)) r σ
    | .lstore i => sf_l1 st fun x r => K nx (sf_st2 L i (.long x)) r σ
    | .iinc i _ => sf_ldi L i fun x => match v with
      | .int d => K nx (sf_st1 L i (.int (x + d))) st σ
      | _ => none
    | .iadd => sf_i2 st fun x y r => K nx L (.int (x + y) :: r) σ
    | .isub => sf_i2 st fun x y r => K nx L (.int (x - y) :: r) σ
    | .imul => sf_i2 st fun x y r => K nx L (.int (x * y) :: r) σ
    | .ixor => sf_i2 st fun x y r => K nx L (.int (x ^^^ y) :: r) σ
    | .idiv => sf_i2 st fun x y r => if y = 0 then none else K nx L (.int (x / y) :: r) σ
    | .irem => sf_i2 st fun x y r => if y = 0 then none else K nx L (.int (x - x / y * y) :: r) σ
    | .ineg => sf_i1 st fun x r => K nx L (.int (-x) :: r) σ
    | .ladd => sf_l2 st fun x y r => K nx L (.long (x + y) :: r) σ
    | .lsub => sf_l2 st fun x y r => K nx L (.long (x - y) :: r) σ
    | .lmul => sf_l2 st fun x y r => K nx L (.long (x * y) :: r) σ
    | .ldiv => sf_l2 st fun x y r => if y = 0 then none else K nx L (.long (x / y) :: r) σ
    | .lrem => sf_l2 st fun x y r => if y = 0 then none else K nx L (.long (x - x / y * y) :: r) σ
    | .lneg => sf_l1 st fun x r => K nx L (.long (-x) :: r) σ
    | .lcmp => sf_l2 st fun x y r => K nx L (.int (lg_cmp x y) :: r) σ
    | .i2l => sf_i1 st fun x r => K nx L (.long x.toInt64 :: r) σ
    | .l2i => sf_l1 st fun x r => K nx L (.int x.toInt32 :: r) σ
    | .i2b => sf_i1 st fun x r => K nx L (.int x.toInt8.toInt32 :: r) σ
    | .i2s => sf_i1 st fun x r => K nx L (.int x.toInt16.toInt32 :: r) σ
    | .dup => match st with
      | .int x :: r => K nx L (.int x :: .int x :: r) σ
      | .ref x :: r => K nx L (.ref x :: .ref x :: r) σ
      | _ => none
    | .dup2 => match st with
      | .int x :: .ref y :: r => K nx L (.int x :: .ref y :: .int x :: .ref y :: r) σ
      | _ => none
    | .pop => match st with
      | .int _ :: r => K nx L r σ
      | .ref _ :: r => K nx L r σ
      | _ => none
    | .goto _ => K tg L st σ
    | .ifCond .eq _ => sf_i1 st fun x r => if x = 0 then K tg L r σ else K nx L r σ
    | .ifCond .ne _ => sf_i1 st fun x r => if ¬ x = 0 then K tg L r σ else K nx L r σ
    | .ifCond .lt _ => sf_i1 st fun x r => if x < 0 then K tg L r σ else K nx L r σ
    | .ifCond .ge _ => sf_i1 st fun x r => if 0 ≤ x then K tg L r σ else K nx L r σ
    | .ifCond .gt _ => sf_i1 st fun x r => if 0 < x then K tg L r σ else K nx L r σ
    | .ifCond .le _ => sf_i1 st fun x r => if x ≤ 0 then K tg L r σ else K nx L r σ
    | .if_icmp .eq _ => sf_i2 st fun x y r => if x = y then K tg L r σ else K nx L r σ
    | .if_icmp .ne _ => sf_i2 st fun x y r => if ¬ x = y then K tg L r σ else K nx L r σ
    | .if_icmp .lt _ => sf_i2 st fun x y r => if x < y then K tg L r σ else K nx L r σ
    | .if_icmp .ge _ => sf_i2 st fun x y r => if y ≤ x then K tg L r σ else K nx L r σ
    | .if_icmp .gt _ => sf_i2 st fun x y r => if y < x then K tg L r σ else K nx L r σ
    | .if_icmp .le _ => sf_i2 st fun x y r => if x ≤ y then K tg L r σ else K nx L r σ
    | .tableswitch _ _ _ _ => sf_i1 st fun x r => sf_sw (fun t => K t L r σ) x tg sw
    | .lookupswitch _ _ => sf_i1 st fun x r => sf_sw (fun t => K t L r σ) x tg sw
    | .getfield _ => match st with
      | .ref q :: r => sf_getf lay fp q σ fun y => K nx L (y :: r) σ
      | _ => none
    | .putfield _ => match st with
      | .int x :: .ref q :: r => sf_putf lay fp q fun k => match v with
        | .null => K nx L r (sf_up σ q k x)
        | _ => if sf_01 x then K nx L r (sf_up σ q k x) else none
      | _ => none
    | .iaload => match st with
      | .int i :: .ref q :: r => sf_ar lay q fun t n => match t with
        | 0 => if sf_in i n then K nx L (.int (σ q i.toNatClampNeg) :: r) σ else none
        | _ => none
      | _ => none
    | .baload => match st with
      | .int i :: .ref q :: r => sf_ar lay q fun t n => match t with
        | 1 => if sf_in i n then K nx L (.int (σ q i.toNatClampNeg) :: r) σ else none
        | 2 => if sf_in i n then K nx L (.int (σ q i.toNatClampNeg) :: r) σ else none
        | _ => none
      | _ => none
    | .iastore => match st with
      | .int x :: .int i :: .ref q :: r => sf_ar lay q fun t n => match t with
        | 0 => if sf_in i n then K nx L r (sf_up σ q i.toNatClampNeg x) else none
        | _ => none
      | _ => none
    | .bastore => match st with
      | .int x :: .int i :: .ref q :: r => sf_ar lay q fun t n => match t with
        | 1 => if sf_in i n then K nx L r (sf_up σ q i.toNatClampNeg (vp_nar .boolean x)) else none
        | 2 => if sf_in i n then K nx L r (sf_up σ q i.toNatClampNeg (vp_nar .byte x)) else none
        | _ => none
      | _ => none
    | .ireturn => match st with
      | [.int x] => rh (some (.int x)) σ
      | _ => none
    | .lreturn => match st with
      | [.long x] => rh (some (.long x)) σ
      | _ => none
    | .return_ => match st with
      | [] => rh none σ
      | _ => none
    | .invokevirtual _ => match sf_as J pc with
      | some j => j st σ fun st2 σ2 => K nx L st2 σ2
      | none => none
    | .invokestatic _ => match sf_as J pc with
      | some j => j st σ fun st2 σ2 => K nx L st2 σ2
      | none => none
    | _ => none
/-- n instructions at most, from a place on; at the places of sm one's own functions take over -/
abbrev sf_run {ρ : Type} (lay : sf_Lay) (rh : Option Value → sf_S → Option ρ) (J : List (Nat × sf_J ρ)) (tab : List (Nat × sf_E)) (sm : List (Nat × sf_M ρ)) : Nat → sf_K ρ
  | 0 => fun _ _ _ _ => none
  | n + 1 => fun pc L st σ => match sf_as tab pc with
    | some e => sf_step lay rh J e pc L st σ fun pc2 L2 st2 σ2 => match sf_as sm pc2 with
      | some f => f L2 st2 σ2
      | none => sf_run lay rh J tab sm n pc2 L2 st2 σ2
    | none => none
/-- what methods answer: a number (any, or 0 and 1 alone), a long, nothing -/
abbrev sf_hI (v : Option Value) (σ : sf_S) : Option (Int32 × sf_S) := match v with
  | some (.int x) => some (x, σ)
  | _ => none
abbrev sf_hZ (v : Option Value) (σ : sf_S) : Option (Int32 × sf_S) := match v with
  | some (.int x) => if sf_01 x then some (x, σ) else none
  | _ => none
abbrev sf_hL (v : Option Value) (σ : sf_S) : Option (Int64 × sf_S) := match v with
  | some (.long x) => some (x, σ)
  | _ => none
abbrev sf_hV (v : Option Value) (σ : sf_S) : Option sf_S := match v with
  | none => some σ
  | _ => none
def sf_vI (u : Int32 × sf_S) : sf_Q := (some (.int u.1), u.2)
def sf_vL (u : Int64 × sf_S) : sf_Q := (some (.long u.1), u.2)
def sf_vV (u : sf_S) : sf_Q := (none, u)
/-- n words from the top, the lowest first; what lies below -/
abbrev sf_pop {ρ : Type} : Nat → List Value → List Value → (List Value → List Value → Option ρ) → Option ρ
  | 0, acc, st, f => f acc st
  | n + 1, acc, st, f => match st with
    | v :: r => sf_pop n (v :: acc) r f
    | [] => none
abbrev sf_cw : List Value → Nat → Bool
  | [], _ => true
  | v :: r, n => match v, n with
    | .int _, n + 1 => sf_cw r n
    | .ref _, n + 1 => sf_cw r n
    | .long _, n + 2 => sf_cw r n
    | _, _ => false
/-- eight words of the stack at most lie below a call -/
abbrev sf_l4 (r : List Value) : Bool := sf_cw r 8
/-- a call's words: the first is an object of the classes cs (where cs is empty: no receiver is asked for), eight words at most lie below -/
abbrev sf_rc (lay : sf_Lay) (cs : List Nat) (av r : List Value) : Bool := match sf_l4 r with
  | false => false
  | true => match cs with
    | [] => true
    | _ => match av with
      | .ref q :: _ => match lay[q]? with
        | some (.inl (c, _)) => cs.any (fun x => Nat.beq x c)
        | _ => false
      | _ => false
abbrev sf_jI {ρ : Type} (lay : sf_Lay) (cs : List Nat) (n : Nat) (g : List Value → sf_S → Option (Int32 × sf_S)) : sf_J ρ := fun st σ K => sf_pop n [] st fun av r => match sf_rc lay cs av r with
  | true => (g av σ).bind fun u => K (.int u.1 :: r) u.2
  | false => none
abbrev sf_jL {ρ : Type} (lay : sf_Lay) (cs : List Nat) (n : Nat) (g : List Value → sf_S → Option (Int64 × sf_S)) : sf_J ρ := fun st σ K => sf_pop n [] st fun av r => match sf_rc lay cs av r with
  | true => (g av σ).bind fun u => K (.long u.1 :: r) u.2
  | false => none
abbrev sf_jV {ρ : Type} (lay : sf_Lay) (cs : List Nat) (n : Nat) (g : List Value → sf_S → Option sf_S) : sf_J ρ := fun st σ K => sf_pop n [] st fun av r => match sf_rc lay cs av r with
  | true => (g av σ).bind fun u => K r u
  | false => none
/-- Math's own, and arraycopy over the numbers of one array -/
abbrev sf_jmax {ρ : Type} : sf_J ρ := fun st σ K => match st with
  | .int y :: .int x :: r => if sf_l4 r then K (.int (if x < y then y else x) :: r) σ else none
  | _ => none
abbrev sf_jmin {ρ : Type} : sf_J ρ := fun st σ K => match st with
  | .int y :: .int x :: r => if sf_l4 r then K (.int (if y < x then y else x) :: r) σ else none
  | _ => none
abbrev sf_jmaxL {ρ : Type} : sf_J ρ := fun st σ K => match st with
  | .long y :: .long x :: r => if sf_l4 r then K (.long (if y < x then x else y) :: r) σ else none
  | _ => none
abbrev sf_jabsL {ρ : Type} : sf_J ρ := fun st σ K => match st with
  | .long x :: r => if sf_l4 r then K (.long (if 0 < x then x else -x) :: r) σ else none
  | _ => none
def sf_cpy (σ : sf_S) (q : Nat) (i j n : Int32) : sf_S := fun a b => if a = q then va_cpy (σ q) (σ q) i.toNatClampNeg j.toNatClampNeg n.toNatClampNeg b else σ a b
abbrev sf_jcpy {ρ : Type} (lay : sf_Lay) : sf_J ρ := fun st σ K => match st with
  | .int n :: .int j :: .ref q :: .int i :: .ref q2 :: r => if sf_l4 r && Nat.beq q q2 then sf_ar lay q fun t N => match t with
      | 0 => if !(decide (i < 0)) && !(decide (j < 0)) && !(decide (n < 0)) && Nat.ble (i.toNatClampNeg + n.toNatClampNeg) N && Nat.ble (j.toNatClampNeg + n.toNatClampNeg) N then K r (sf_cpy σ q i j n) else none
      | _ => none
    else none
  | _ => none
end
section
/-! THE SMALL MACHINE IS SOUND: what it says of a method's code, the machine does -/
def sf_v (ad : Nat → Nat) : Value → Value
  | .ref q => .ref (ad q)
  | v => v
def sf_fv (ad : Nat → Nat) (x : Int32) : Option Nat → Value
  | some q => .ref (ad q)
  | none => .int x
def sf_ce (ad : Nat → Nat) (cy : Nat → ClassId) (σ : sf_S) (k : Nat) : (Nat × List (Option Nat)) ⊕ (Nat × Nat) → va_E
  | .inl (ci, fs) => .inr (ci, fs.mapIdx fun j f => sf_fv ad (σ k j) f)
  | .inr (t, n) => .inl (cy t, n, .inl (σ k))
def sf_wd (lay : sf_Lay) (ad : Nat → Nat) (cy : Nat → ClassId) (σ : sf_S) : va_W := lay.mapIdx fun k sh => (ad k, sf_ce ad cy σ k sh)
def sf_ty (cy : Nat → ClassId) : List (ClassId × FieldType) := [(cy 0, .int), (cy 1, .boolean), (cy 2, .byte)]
def sf_A (lay : sf_Lay) (ad : Nat → Nat) (sz : Nat) : Nat → Prop := fun q => (∃ k, k < lay.length ∧ q = ad k) ∨ sz ≤ q
def sf_inj (lay : sf_Lay) (ad : Nat → Nat) : Prop := ∀ i j, i < lay.length → j < lay.length → ad i = ad j → i = j
def sf_LV (ls : Array Slot) (nL : Nat) (ad : Nat → Nat) (L : sf_L) : Prop := ls.size = nL ∧ lv_wf ls ∧ ∀ i v, sf_get L i = some v → ls[i]? = some (.val (sf_v ad v))
theorem sf_v_cat (ad : Nat → Nat) (v : Value) : (sf_v ad v).category = v.category := by cases v <;> rfl
theorem sf_nl_some {o : Option Value} {w : Value} (h : sf_nl o = some w) : o = some w ∧ w.category = 1 := by
  unfold sf_nl at h
  split at h
  · cases h
  · cases h
  · rename_i h1 h2
    refine ⟨h, ?_⟩
    subst h
    cases w with
    | long x => exact absurd rfl (h1 x)
    | double x => exact absurd rfl (h2 x)
    | _ => rfl
theorem sf_get_put {L : sf_L} {i : Nat} {o : Option Value} {j : Nat} {w : Value} (h : sf_get ((i, o) :: L) j = some w) : (j = i ∧ o = some w) ∨ (j ≠ i ∧ sf_get L j = some w ∧ ¬ (j + 1 = i ∧ w.category = 2)) := by
  simp only [sf_get] at h
  split at h
  · rename_i hk
    exact Or.inl ⟨(Nat.eq_of_beq_eq_true hk).symm, h⟩
  · rename_i hk
    have hne : j ≠ i := fun e => by rw [e, Nat.beq_refl] at hk; cases hk
    split at h
    · obtain ⟨h1, h2⟩ := sf_nl_some h
      exact Or.inr ⟨hne, h1, fun q => by omega⟩
    · rename_i hk2
      exact Or.inr ⟨hne, h, fun q => by rw [q.1, Nat.beq_refl] at hk2; cases hk2⟩
def sf_prs (ad : Nat → Nat) (nL : Nat) (L : sf_L) : List (Nat × Value) := (List.range nL).filterMap fun i => (sf_get L i).map fun v => (i, sf_v ad v)
theorem sf_mem_prs {ad : Nat → Nat} {nL : Nat} {L : sf_L} {i : Nat} {v : Value} (hi : i < nL) (h : sf_get L i = some v) : (i, sf_v ad v) ∈ sf_prs ad nL L :=
  List.mem_filterMap.mpr ⟨i, List.mem_range.mpr hi, by simp [h]⟩
theorem sf_LV.has {ls : Array Slot} {nL : Nat} {ad : Nat → Nat} {L : sf_L} (h : sf_LV ls nL ad L) : lv_has ls nL (sf_prs ad nL L) := by
  refine ⟨h.1, h.2.1, fun q hq => ?_⟩
  obtain ⟨i, -, hi⟩ := List.mem_filterMap.mp hq
  cases hg : sf_get L i with
  | none => simp [hg] at hi
  | some v =>
    simp [hg] at hi
    rw [← hi]
    exact h.2.2 i v hg
theorem sf_LV.lt {ls : Array Slot} {nL : Nat} {ad : Nat → Nat} {L : sf_L} (h : sf_LV ls nL ad L) {i : Nat} {v : Value} (hg : sf_get L i = some v) : i < nL := by
  have := lv_lt (h.2.2 i v hg)
  rw [h.1] at this
  exact this
theorem sf_LV.st1 {ls ls' : Array Slot} {nL : Nat} {ad : Nat → Nat} {L : sf_L} {i : Nat} {v w : Value} (h : sf_LV ls nL ad L) (hw : sf_v ad v = w) (h' : lv_has ls' nL ((i, w) :: (sf_prs ad nL L).filter (fun q => !(q.1 == i) && !(q.1 + 1 == i && q.2.category == 2)))) : sf_LV ls' nL ad (sf_st1 L i v) := by
  refine ⟨h'.1, h'.2.1, fun j x hg => ?_⟩
  rcases sf_get_put hg with ⟨h1, h2⟩ | ⟨h1, h2⟩
  · cases h2
    subst h1
    rw [hw]
    exact h'.2.2 (j, w) List.mem_cons_self
  · obtain ⟨h3, h4⟩ := h2
    refine h'.2.2 (j, sf_v ad x) (List.mem_cons_of_mem _ (List.mem_filter.mpr ⟨sf_mem_prs (h.lt h3) h3, ?_⟩))
    simp only [Bool.and_eq_true, Bool.not_eq_true', beq_eq_false_iff_ne, ne_eq, Bool.and_eq_false_iff, sf_v_cat]
    refine ⟨h1, ?_⟩
    by_cases hc : j + 1 = i
    · exact Or.inr fun hx => h4 ⟨hc, hx⟩
    · exact Or.inl hc
theorem sf_LV.st2 {ls ls' : Array Slot} {nL : Nat} {ad : Nat → Nat} {L : sf_L} {i : Nat} {v w : Value} (h : sf_LV ls nL ad L) (hw : sf_v ad v = w) (h' : lv_has ls' nL ((i, w) :: (sf_prs ad nL L).filter (fun q => !(q.1 == i) && (!(q.1 == i + 1) && !(q.1 + 1 == i && q.2.category == 2))))) : sf_LV ls' nL ad (sf_st2 L i v) := by
  refine ⟨h'.1, h'.2.1, fun j x hg => ?_⟩
  rcases sf_get_put hg with ⟨h1, h2⟩ | ⟨h1, hg, h4⟩
  · cases h2
    subst h1
    rw [hw]
    exact h'.2.2 (j, w) List.mem_cons_self
  rcases sf_get_put hg with ⟨-, h2⟩ | ⟨h0, h3, -⟩
  · cases h2
  · refine h'.2.2 (j, sf_v ad x) (List.mem_cons_of_mem _ (List.mem_filter.mpr ⟨sf_mem_prs (h.lt h3) h3, ?_⟩))
    simp only [Bool.and_eq_true, Bool.not_eq_true', beq_eq_false_iff_ne, ne_eq, Bool.and_eq_false_iff, sf_v_cat]
    refine ⟨h1, h0, ?_⟩
    by_cases hc : j + 1 = i
    · exact Or.inr fun hx => h4 ⟨hc, hx⟩
    · exact Or.inl hc
theorem sf_LV.mono {ls : Array Slot} {nL : Nat} {ad : Nat → Nat} {L L0 : sf_L} (h : sf_LV ls nL ad L) (hm : ∀ i v, sf_get L0 i = some v → sf_get L i = some v) : sf_LV ls nL ad L0 := ⟨h.1, h.2.1, fun i v hg => h.2.2 i v (hm i v hg)⟩
/-! the world's cells -/
theorem sf_wd_at {lay : sf_Lay} {ad : Nat → Nat} {cy : Nat → ClassId} {σ : sf_S} {k : Nat} {sh : (Nat × List (Option Nat)) ⊕ (Nat × Nat)} (h : lay[k]? = some sh) : (sf_wd lay ad cy σ)[k]? = some (ad k, sf_ce ad cy σ k sh) := by
  simp [sf_wd, List.getElem?_mapIdx, h]
theorem sf_wd_inv {lay : sf_Lay} {ad : Nat → Nat} {cy : Nat → ClassId} {σ : sf_S} {k : Nat} {q : Nat × va_E} (h : (sf_wd lay ad cy σ)[k]? = some q) : k < lay.length ∧ q.1 = ad k := by
  simp only [sf_wd, List.getElem?_mapIdx, Option.map_eq_some_iff] at h
  obtain ⟨sh, h1, h2⟩ := h
  exact ⟨(List.getElem?_eq_some_iff.mp h1).1, by rw [← h2]⟩
theorem sf_wd_D {lay : sf_Lay} {ad : Nat → Nat} (cy : Nat → ClassId) (σ : sf_S) (hi : sf_inj lay ad) {A : Nat → Prop} (hA : ∀ k, k < lay.length → A (ad k)) : va_D A (sf_wd lay ad cy σ) := by
  refine ⟨fun i j x y hx hy hxy => ?_, fun k q hq => ?_⟩
  · obtain ⟨h1, h2⟩ := sf_wd_inv hx
    obtain ⟨h3, h4⟩ := sf_wd_inv hy
    exact hi i j h1 h3 (by rw [← h2, ← h4]; exact hxy)
  · obtain ⟨h1, h2⟩ := sf_wd_inv hq
    rw [h2]
    exact hA k h1
theorem sf_wd_put {lay : sf_Lay} {ad : Nat → Nat} {cy : Nat → ClassId} {σ : sf_S} {q ci k : Nat} {fs : List (Option Nat)} {x : Int32} (h : lay[q]? = some (.inl (ci, fs))) (hk : fs[k]? = some none) : (sf_wd lay ad cy σ).set q (ad q, .inr (ci, (fs.mapIdx fun j f => sf_fv ad (σ q j) f).set k (.int x))) = sf_wd lay ad cy (sf_up σ q k x) := by
  have hq : q < lay.length := (List.getElem?_eq_some_iff.mp h).1
  have hkl : k < fs.length := (List.getElem?_eq_some_iff.mp hk).1
  apply List.ext_getElem?
  intro i
  by_cases hi : i = q
  · subst hi
    rw [sf_wd_at h, List.getElem?_set_self (by simp [sf_wd, hq])]
    simp only [sf_ce, Option.some.injEq, Prod.mk.injEq, Sum.inr.injEq, true_and]
    apply List.ext_getElem?
    intro j
    by_cases hj : j = k
    · subst hj
      rw [List.getElem?_set_self (by simp [hkl])]
      simp [List.getElem?_mapIdx, hk, sf_fv, sf_up]
    · rw [List.getElem?_set_ne (Ne.symm hj)]
      simp [List.getElem?_mapIdx, sf_up, hj]
  · rw [List.getElem?_set_ne (Ne.symm hi)]
    simp only [sf_wd, List.getElem?_mapIdx]
    congr 1
    funext sh
    cases sh with
    | inl o => simp [sf_ce, sf_up, hi]
    | inr o =>
      simp only [sf_ce, Prod.mk.injEq, Sum.inl.injEq, true_and]
      funext b
      simp [sf_up, hi]
theorem sf_wd_row {lay : sf_Lay} {ad : Nat → Nat} {cy : Nat → ClassId} {σ σ2 : sf_S} {q t n : Nat} {f : Nat → Int32} (h : lay[q]? = some (.inr (t, n))) (h1 : σ2 q = f) (h2 : ∀ a, a ≠ q → σ2 a = σ a) : (sf_wd lay ad cy σ).set q (ad q, .inl (cy t, n, .inl f)) = sf_wd lay ad cy σ2 := by
  have hq : q < lay.length := (List.getElem?_eq_some_iff.mp h).1
  apply List.ext_getElem?
  intro i
  by_cases hi : i = q
  · subst hi
    rw [sf_wd_at h, List.getElem?_set_self (by simp [sf_wd, hq])]
    simp [sf_ce, h1]
  · rw [List.getElem?_set_ne (Ne.symm hi)]
    simp only [sf_wd, List.getElem?_mapIdx]
    congr 1
    funext sh
    cases sh with
    | inl o => simp [sf_ce, h2 i hi]
    | inr o => simp [sf_ce, h2 i hi]
theorem sf_up_row (σ : sf_S) (q j : Nat) (x : Int32) : sf_up σ q j x q = upd (σ q) j x := by
  funext b
  simp [sf_up, upd]
theorem sf_up_else (σ : sf_S) (q j : Nat) (x : Int32) (a : Nat) (h : a ≠ q) : sf_up σ q j x a = σ a := by
  funext b
  simp [sf_up, h]
theorem sf_in_iff {i : Int32} {n : Nat} (h : sf_in i n = true) : vp_in i n := by
  simp only [sf_in, Bool.and_eq_true, Bool.not_eq_true', decide_eq_false_iff_not, decide_eq_true_eq] at h
  rintro (q | q)
  · exact h.1 q
  · omega
end
section
/-! one instruction, and many: the machine does what the small machine says -/
def sf_len : Instr → Nat
  | .bipush _ => 2
  | .sipush _ => 3
  | .ldc _ => 2
  | .ldc_w _ => 3
  | .ldc2_w _ => 3
  | .iload _ => 2
  | .lload _ => 2
  | .aload _ => 2
  | .istore _ => 2
  | .lstore _ => 2
  | .iinc _ _ => 3
  | .goto _ => 3
  | .ifCond _ _ => 3
  | .if_icmp _ _ => 3
  | .getfield _ => 3
  | .putfield _ => 3
  | .invokevirtual _ => 3
  | .invokestatic _ => 3
  | .tableswitch _ _ _ _ => 0
  | .lookupswitch _ _ => 0
  | _ => 1
/-- fields of a class's code: entry of its pool, class in vwCl, place, kind (0 read alone, 1 int, 2 boolean) -/
abbrev sf_FL : Type := List (Nat × Nat × Nat × Nat)
def sf_hasf (fl : sf_FL) (idx : Nat) (kinds : List Nat) (fp : List (Nat × Nat)) : Bool := fp.all fun q => fl.any fun r => Nat.beq r.1 idx && Nat.beq r.2.1 q.1 && Nat.beq r.2.2.1 q.2 && kinds.any (fun k => Nat.beq k r.2.2.2)
/-- rows of a lookupswitch: keys and places as the instruction has them -/
def sf_lks (pc : Nat) : List (Int × Int) → List (Int32 × Nat) → Bool
  | [], [] => true
  | (a, o) :: r, (k, t) :: w => decide (k.toInt = a) && decide ((pc : Int) + o = (t : Int)) && sf_lks pc r w
  | _, _ => false
def sf_tbs (pc : Nat) (lo : Int) : List Int → List (Int32 × Nat) → Bool
  | [], [] => true
  | o :: r, (k, t) :: w => decide (k.toInt = lo) && decide ((pc : Int) + o = (t : Int)) && sf_tbs pc (lo + 1) r w
  | _, _ => false
def sf_ok1 (nL : Nat) (fl : sf_FL) (cl : List (Nat × Value)) (pc : Nat) (e : sf_E) : Bool :=
  match e with
  | (ins, nx, tg, v, sw, fp) =>
    match ins with
    | .iconst n => decide (v = .int (Int32.ofInt n))
    | .bipush n => decide (v = .int ((Int8.ofInt n).toInt32))
    | .sipush n => decide (v = .int ((Int16.ofInt n).toInt32))
    | .ldc i => decide ((i, v) ∈ cl) && (match v with | .int _ => true | _ => false)
    | .ldc_w i => decide ((i, v) ∈ cl) && (match v with | .int _ => true | _ => false)
    | .ldc2_w i => decide ((i, v) ∈ cl) && (match v with | .long _ => true | _ => false)
    | .lconst n => decide (v = .long (Int64.ofNat (n : Nat)))
    | .istore_n i => decide ((i : Nat) < nL)
    | .istore i => decide (i < nL)
    | .lstore_n i => decide ((i : Nat) + 1 < nL)
    | .lstore i => decide (i + 1 < nL)
    | .iinc _ n => decide (v = .int (Int32.ofInt n))
    | .goto o => decide ((pc : Int) + o = (tg : Int))
    | .ifCond _ o => decide ((pc : Int) + o = (tg : Int))
    | .if_icmp _ o => decide ((pc : Int) + o = (tg : Int))
    | .getfield i => sf_hasf fl i [0, 1, 2] fp
    | .putfield i => (match v with | .null => sf_hasf fl i [1] fp | _ => sf_hasf fl i [2] fp)
    | .tableswitch d lo hi offs => decide ((pc : Int) + d = (tg : Int)) && sf_tbs pc lo offs.toList sw && decide (hi = lo + (offs.size : Int) - 1)
    | .lookupswitch d ps => decide ((pc : Int) + d = (tg : Int)) && sf_lks pc ps.toList sw && (ps.toList.zip (ps.toList.drop 1)).all (fun (a, next) => decide (a.1 < next.1))
    | _ => true
def sf_dec (cc : ByteArray) (pc : Nat) (e : sf_E) : Bool := match decode cc pc with
  | .ok (i, n) => decide (i = e.1) && (Nat.beq (sf_len i) 0 || (Nat.beq n (sf_len i) && Nat.beq e.2.1 (pc + n)))
  | _ => false
def sf_chk (cc : ByteArray) (nL : Nat) (fl : sf_FL) (cl : List (Nat × Value)) (tab : List (Nat × sf_E)) : Bool := tab.all fun q => sf_dec cc q.1 q.2 && sf_ok1 nL fl cl q.1 q.2
theorem sf_as_mem {α : Type} : ∀ {l : List (Nat × α)} {n : Nat} {a : α}, sf_as l n = some a → (n, a) ∈ l
  | [], _, _, h => by simp [sf_as] at h
  | (k, b) :: l, n, a, h => by
    simp only [sf_as] at h
    split at h
    · rename_i hk
      cases h
      rw [Nat.eq_of_beq_eq_true hk]
      exact List.mem_cons_self
    · exact List.mem_cons_of_mem _ (sf_as_mem h)
theorem sf_dec_ok {cc : ByteArray} {pc : Nat} {e : sf_E} (h : sf_dec cc pc e = true) : ∃ n, decode cc pc = .ok (e.1, n) ∧ (sf_len e.1 = 0 ∨ (n = sf_len e.1 ∧ e.2.1 = pc + n)) := by
  unfold sf_dec at h
  split at h
  · rename_i i n hd
    simp only [Bool.and_eq_true, decide_eq_true_eq, Bool.or_eq_true] at h
    obtain ⟨rfl, h2⟩ := h
    refine ⟨n, hd, ?_⟩
    rcases h2 with h2 | ⟨h2, h3⟩
    · exact Or.inl (Nat.eq_of_beq_eq_true h2)
    · exact Or.inr ⟨Nat.eq_of_beq_eq_true h2, Nat.eq_of_beq_eq_true h3⟩
  · cases h
/-- what the tables say of a field that a class's code names -/
def sf_FF (s : State) (args : Array Value) (Ts : List Cond) (own : String) (idx ci k kd : Nat) : Prop := ∃ (C : String) (T : u_T) (N : Nat) (ref : String) (ty0 : Nat → FieldType), vwCl[ci]? = some (C, T, N) ∧ k < N ∧ (∀ w ∈ u_ws C T N, w ∈ Ts) ∧
  ((Cond.fieldLink own idx ref (T k).2.1 (T k).2.2.1).before args s = true ∨ ∃ host, (Cond.fieldLinkNest own idx ref (T k).2.1 (T k).2.2.1 host).before args s = true) ∧ (∀ x, s.fieldFound? (T k).1 (T k).2.1 (T k).2.2.1 = some x → s.fieldFound? ref (T k).2.1 (T k).2.2.1 = some x) ∧
  (∀ j, j < N → parseFieldDescriptor (T j).2.2.1 = some (ty0 j)) ∧ (∀ a, a < N → ∀ b, b < N → a ≠ b → (T a).2.1 ≠ (T b).2.1) ∧ (kd = 1 → (T k).2.2.2 = false ∧ ty0 k = .int) ∧ (kd = 2 → (T k).2.2.2 = false ∧ ty0 k = .boolean)
theorem sf_hasf_ok {fl : sf_FL} {idx : Nat} {kinds : List Nat} {fp : List (Nat × Nat)} (h : sf_hasf fl idx kinds fp = true) {c k : Nat} (hk : sf_as fp c = some k) : ∃ kd, (idx, c, k, kd) ∈ fl ∧ kd ∈ kinds := by
  have h1 := List.all_eq_true.mp h _ (sf_as_mem hk)
  obtain ⟨⟨a, b, d, kd⟩, h2, h3⟩ := List.any_eq_true.mp h1
  simp only [Bool.and_eq_true] at h3
  obtain ⟨⟨⟨e1, e2⟩, e3⟩, e4⟩ := h3
  obtain ⟨kk, e5, e6⟩ := List.any_eq_true.mp e4
  have e1 := Nat.eq_of_beq_eq_true e1
  have e2 := Nat.eq_of_beq_eq_true e2
  have e3 := Nat.eq_of_beq_eq_true e3
  have e6 := Nat.eq_of_beq_eq_true e6
  try dsimp only at e1 e2 e3 e6
  subst e1; subst e2; subst e3; subst e6
  exact ⟨kk, h2, e5⟩
def sf_fo (x : Int32) : Option Nat → Value
  | some q => .ref q
  | none => .int x
theorem sf_fo_v (ad : Nat → Nat) (x : Int32) (f : Option Nat) : sf_fv ad x f = sf_v ad (sf_fo x f) := by cases f <;> rfl
section SFW
variable {p : Program} {l : Launch} {e : Env} {R : Room} {s : State} {m : MethodId} {args : Array Value} {below : List Frame} {meth : Method} {c : Code} {Q : State → Prop} {cc : ByteArray} {nL : Nat} {lay : sf_Lay} {D : va_G} {cy : Nat → ClassId} {ad : Nat → Nat} {A : Nat → Prop} {own : String} {Ts : List Cond}
def sf_W (p : Program) (l : Launch) (e : Env) (R : Room) (s : State) (m : MethodId) (args : Array Value) (below : List Frame) (meth : Method) (c : Code) (Q : State → Prop) (nL : Nat) (lay : sf_Lay) (D : va_G) (cy : Nat → ClassId) (ad : Nat → Nat) (A : Nat → Prop) (pc : Nat) (L : sf_L) (st : List Value) (σ : sf_S) : Prop :=
  ∀ (H : Heap) (locs : List Loc) (ls : Array Slot), sf_LV ls nL ad L → va_P D vwCl (sf_wd lay ad cy σ) H → va_S A s.heap H locs → W p l e R s m args below meth c H locs 0 0 Q (F0 m pc ls (st.map (sf_v ad)))
/-- a step that touches neither locals nor heap -/
theorem sf_W.go {pc pc2 : Nat} {L : sf_L} {st st2 : List Value} {σ : sf_S} (k : sf_W p l e R s m args below meth c Q nL lay D cy ad A pc2 L st2 σ)
    (h : ∀ (H : Heap) (locs : List Loc) (ls : Array Slot), sf_LV ls nL ad L → W p l e R s m args below meth c H locs 0 0 Q (F0 m pc2 ls (st2.map (sf_v ad))) → W p l e R s m args below meth c H locs 0 0 Q (F0 m pc ls (st.map (sf_v ad)))) : sf_W p l e R s m args below meth c Q nL lay D cy ad A pc L st σ :=
  fun H locs ls hl hP hS => h H locs ls hl (k H locs ls hl hP hS)
theorem sf_W.mono {pc : Nat} {L L0 : sf_L} {st : List Value} {σ : sf_S} (k : sf_W p l e R s m args below meth c Q nL lay D cy ad A pc L0 st σ) (hm : ∀ i v, sf_get L0 i = some v → sf_get L i = some v) : sf_W p l e R s m args below meth c Q nL lay D cy ad A pc L st σ :=
  fun H locs ls hl hP hS => k H locs ls (hl.mono hm) hP hS
/-- what holds while a method's body runs -/
def sf_At (p : Program) (s : State) (m : MethodId) (args : Array Value) (c : Code) (own : String) (cc : ByteArray) (nL : Nat) (lay : sf_Lay) (D : va_G) (cy : Nat → ClassId) (ad : Nat → Nat) (A : Nat → Prop) (Ts : List Cond) : Prop :=
  p.tables.exec = Jvm.exec ∧ c.code = cc ∧ c.maxLocals = nL ∧ s.vm.findClass own = some m.cls ∧ (∀ w ∈ Ts, w.before args s = true) ∧ va_K D vwCl (sf_ty cy) s ∧ sf_inj lay ad ∧ (∀ k, k < lay.length → A (ad k)) ∧ (∀ q, s.heap.size ≤ q → A q)
theorem sf_row_ist (h0 : sf_At p s m args c own cc nL lay D cy ad A Ts) {pc q n : Nat} {i x : Int32} {L : sf_L} {r : List Value} {σ : sf_S} (hq : lay[q]? = some (.inr (0, n))) (hin : sf_in i n = true) (hd : decode cc pc = .ok (.iastore, 1)) (k : sf_W p l e R s m args below meth c Q nL lay D cy ad A (pc + 1) L r (sf_up σ q i.toNatClampNeg x)) : sf_W p l e R s m args below meth c Q nL lay D cy ad A pc L (.int x :: .int i :: .ref q :: r) σ := by
  obtain ⟨hx, hb, -, -, -, hK, hi, hA, -⟩ := h0
  intro H locs ls hl hP hS
  have hD : va_D A (sf_wd lay ad cy σ) := sf_wd_D cy σ hi hA
  refine va_iast hx hb hK hP hD hS q 0 (sf_wd_at hq) rfl (sf_in_iff hin) hd (fun H1 locs1 hP1 _ hS1 => k H1 locs1 ls hl ?_ hS1)
  rw [← sf_wd_row hq (sf_up_row σ q i.toNatClampNeg x) (sf_up_else σ q i.toNatClampNeg x)]
  exact hP1
theorem sf_row_zst (h0 : sf_At p s m args c own cc nL lay D cy ad A Ts) {pc q n : Nat} {i x : Int32} {L : sf_L} {r : List Value} {σ : sf_S} (hq : lay[q]? = some (.inr (1, n))) (hin : sf_in i n = true) (hd : decode cc pc = .ok (.bastore, 1)) (k : sf_W p l e R s m args below meth c Q nL lay D cy ad A (pc + 1) L r (sf_up σ q i.toNatClampNeg (vp_nar .boolean x))) : sf_W p l e R s m args below meth c Q nL lay D cy ad A pc L (.int x :: .int i :: .ref q :: r) σ := by
  obtain ⟨hx, hb, -, -, -, hK, hi, hA, -⟩ := h0
  intro H locs ls hl hP hS
  have hD : va_D A (sf_wd lay ad cy σ) := sf_wd_D cy σ hi hA
  refine va_zast hx hb hK hP hD hS q 1 (sf_wd_at hq) rfl (sf_in_iff hin) hd (fun H1 locs1 hP1 _ hS1 => k H1 locs1 ls hl ?_ hS1)
  rw [← sf_wd_row hq (sf_up_row σ q i.toNatClampNeg _) (sf_up_else σ q i.toNatClampNeg _)]
  exact hP1
theorem sf_row_bst (h0 : sf_At p s m args c own cc nL lay D cy ad A Ts) {pc q n : Nat} {i x : Int32} {L : sf_L} {r : List Value} {σ : sf_S} (hq : lay[q]? = some (.inr (2, n))) (hin : sf_in i n = true) (hd : decode cc pc = .ok (.bastore, 1)) (k : sf_W p l e R s m args below meth c Q nL lay D cy ad A (pc + 1) L r (sf_up σ q i.toNatClampNeg (vp_nar .byte x))) : sf_W p l e R s m args below meth c Q nL lay D cy ad A pc L (.int x :: .int i :: .ref q :: r) σ := by
  obtain ⟨hx, hb, -, -, -, hK, hi, hA, -⟩ := h0
  intro H locs ls hl hP hS
  have hD : va_D A (sf_wd lay ad cy σ) := sf_wd_D cy σ hi hA
  refine va_bast hx hb hK hP hD hS q 2 (sf_wd_at hq) rfl (sf_in_iff hin) hd (fun H1 locs1 hP1 _ hS1 => k H1 locs1 ls hl ?_ hS1)
  rw [← sf_wd_row hq (sf_up_row σ q i.toNatClampNeg _) (sf_up_else σ q i.toNatClampNeg _)]
  exact hP1
theorem sf_row_ild (h0 : sf_At p s m args c own cc nL lay D cy ad A Ts) {pc q n : Nat} {i : Int32} {L : sf_L} {r : List Value} {σ : sf_S} (hq : lay[q]? = some (.inr (0, n))) (hin : sf_in i n = true) (hd : decode cc pc = .ok (.iaload, 1)) (k : sf_W p l e R s m args below meth c Q nL lay D cy ad A (pc + 1) L (.int (σ q i.toNatClampNeg) :: r) σ) : sf_W p l e R s m args below meth c Q nL lay D cy ad A pc L (.int i :: .ref q :: r) σ := by
  obtain ⟨hx, hb, -, -, -, hK, hi, hA, -⟩ := h0
  intro H locs ls hl hP hS
  exact va_iald hx hb hK hP q 0 (sf_wd_at hq) rfl (sf_in_iff hin) hd (k H locs ls hl hP hS)
theorem sf_row_zld (h0 : sf_At p s m args c own cc nL lay D cy ad A Ts) {pc q n : Nat} {i : Int32} {L : sf_L} {r : List Value} {σ : sf_S} (hq : lay[q]? = some (.inr (1, n))) (hin : sf_in i n = true) (hd : decode cc pc = .ok (.baload, 1)) (k : sf_W p l e R s m args below meth c Q nL lay D cy ad A (pc + 1) L (.int (σ q i.toNatClampNeg) :: r) σ) : sf_W p l e R s m args below meth c Q nL lay D cy ad A pc L (.int i :: .ref q :: r) σ := by
  obtain ⟨hx, hb, -, -, -, hK, hi, hA, -⟩ := h0
  intro H locs ls hl hP hS
  exact va_zald hx hb hK hP q 1 (sf_wd_at hq) rfl (sf_in_iff hin) hd (k H locs ls hl hP hS)
theorem sf_row_bld (h0 : sf_At p s m args c own cc nL lay D cy ad A Ts) {pc q n : Nat} {i : Int32} {L : sf_L} {r : List Value} {σ : sf_S} (hq : lay[q]? = some (.inr (2, n))) (hin : sf_in i n = true) (hd : decode cc pc = .ok (.baload, 1)) (k : sf_W p l e R s m args below meth c Q nL lay D cy ad A (pc + 1) L (.int (σ q i.toNatClampNeg) :: r) σ) : sf_W p l e R s m args below meth c Q nL lay D cy ad A pc L (.int i :: .ref q :: r) σ := by
  obtain ⟨hx, hb, -, -, -, hK, hi, hA, -⟩ := h0
  intro H locs ls hl hP hS
  exact va_bald hx hb hK hP q 2 (sf_wd_at hq) rfl (sf_in_iff hin) hd (k H locs ls hl hP hS)
theorem sf_row_get (h0 : sf_At p s m args c own cc nL lay D cy ad A Ts) {pc q idx ci k kd : Nat} {fs : List (Option Nat)} {f : Option Nat} {L : sf_L} {r : List Value} {σ : sf_S} (hq : lay[q]? = some (.inl (ci, fs))) (hf : fs[k]? = some f) (hF : sf_FF s args Ts own idx ci k kd) (hd : decode cc pc = .ok (.getfield idx, 3)) (kk : sf_W p l e R s m args below meth c Q nL lay D cy ad A (pc + 3) L (sf_fo (σ q k) f :: r) σ) : sf_W p l e R s m args below meth c Q nL lay D cy ad A pc L (.ref q :: r) σ := by
  obtain ⟨hx, hb, -, hown, hts, hK, hi, hA, -⟩ := h0
  obtain ⟨C, T, N, ref, ty0, hc, hk, hin, hlink, hsame, -, -, -, -⟩ := hF
  intro H locs ls hl hP hS
  have hv : (fs.mapIdx fun j f => sf_fv ad (σ q j) f)[k]? = some (sf_v ad (sf_fo (σ q k) f)) := by
    rw [List.getElem?_mapIdx, hf, ← sf_fo_v]
    rfl
  rcases hlink with hlink | ⟨host, hlink⟩
  · exact va_get hx hb hts hin hown hK hP q (sf_wd_at hq) hc k hk hlink hsame hv hd (kk H locs ls hl hP hS)
  · exact va_getN hx hb hts hin hown hK hP q (sf_wd_at hq) hc k hk hlink hsame hv hd (kk H locs ls hl hP hS)
theorem sf_row_put (h0 : sf_At p s m args c own cc nL lay D cy ad A Ts) {pc q idx ci k kd : Nat} {fs : List (Option Nat)} {L : sf_L} {r : List Value} {σ : sf_S} {x : Int32} (hq : lay[q]? = some (.inl (ci, fs))) (hf : fs[k]? = some none) (hF : sf_FF s args Ts own idx ci k kd) (hkd : kd = 1 ∨ (kd = 2 ∧ sf_01 x = true)) (hd : decode cc pc = .ok (.putfield idx, 3)) (kk : sf_W p l e R s m args below meth c Q nL lay D cy ad A (pc + 3) L r (sf_up σ q k x)) : sf_W p l e R s m args below meth c Q nL lay D cy ad A pc L (.int x :: .ref q :: r) σ := by
  obtain ⟨hx, hb, -, hown, hts, hK, hi, hA, -⟩ := h0
  obtain ⟨C, T, N, ref, ty0, hc, hk, hin, hlink, hsame, hty, hnm, h1, h2⟩ := hF
  intro H locs ls hl hP hS
  have hD : va_D A (sf_wd lay ad cy σ) := sf_wd_D cy σ hi hA
  have hfin : (T k).2.2.2 = false := by
    rcases hkd with e | ⟨e, -⟩
    · exact (h1 e).1
    · exact (h2 e).1
  have hlen : k < (fs.mapIdx fun j f => sf_fv ad (σ q j) f).length := by
    rw [List.length_mapIdx]; exact (List.getElem?_eq_some_iff.mp hf).1
  have hn : narrow (ty0 k) (.int x) = .int x ∧ fits (ty0 k) (.int x) = true := by
    rcases hkd with e | ⟨e, h01⟩
    · rw [(h1 e).2]
      exact ⟨vp_nar_int x, rfl⟩
    · rw [(h2 e).2]
      simp only [sf_01, Bool.or_eq_true, decide_eq_true_eq] at h01
      rcases h01 with rfl | rfl <;> exact ⟨by decide +kernel, by decide +kernel⟩
  rcases hlink with hlink | ⟨host, hlink⟩
  · refine va_put hx hb hts hin ty0 hty hnm hown hK hP hD hS q (sf_wd_at hq) hc k hk hlink hsame hfin (hty k hk) hn.1 hn.2 hlen hd (fun H1 locs1 hP1 _ hS1 => kk H1 locs1 ls hl ?_ hS1)
    rw [← sf_wd_put hq hf]
    exact hP1
  · refine va_putN hx hb hts hin ty0 hty hnm hown hK hP hD hS q (sf_wd_at hq) hc k hk hlink hsame hfin (hty k hk) hn.1 hn.2 hlen hd (fun H1 locs1 hP1 _ hS1 => kk H1 locs1 ls hl ?_ hS1)
    rw [← sf_wd_put hq hf]
    exact hP1
end SFW
end
section
/-! the step is sound -/
def sf_CC (s : State) (args : Array Value) (own : String) (i : Nat) (v : Value) : Prop := match v with
  | .int x => (Cond.constant own i x).before args s = true
  | .long x => (Cond.constantLong own i x).before args s = true
  | _ => True
def sf_Snd {ρ : Type} (Wt : Nat → sf_L → List Value → sf_S → Prop) (lay : sf_Lay) (rh : Option Value → sf_S → Option ρ) (J : List (Nat × sf_J ρ)) (tab : List (Nat × sf_E)) (Post : ρ → Prop) : Prop :=
  ∀ (pc : Nat) (e : sf_E) (L : sf_L) (st : List Value) (σ : sf_S) (K : sf_K ρ) (r : ρ), sf_as tab pc = some e → sf_step lay rh J e pc L st σ K = some r → Post r → (∀ pc2 L2 st2 σ2, K pc2 L2 st2 σ2 = some r → Wt pc2 L2 st2 σ2) → Wt pc L st σ
theorem sf_i1_inv {ρ : Type} {st : List Value} {f : Int32 → List Value → Option ρ} {r : ρ} (h : sf_i1 st f = some r) : ∃ x q, st = .int x :: q ∧ f x q = some r := by
  unfold sf_i1 at h
  split at h
  · exact ⟨_, _, rfl, h⟩
  · cases h
theorem sf_i2_inv {ρ : Type} {st : List Value} {f : Int32 → Int32 → List Value → Option ρ} {r : ρ} (h : sf_i2 st f = some r) : ∃ x y q, st = .int y :: .int x :: q ∧ f x y q = some r := by
  unfold sf_i2 at h
  split at h
  · exact ⟨_, _, _, rfl, h⟩
  · cases h
theorem sf_l1_inv {ρ : Type} {st : List Value} {f : Int64 → List Value → Option ρ} {r : ρ} (h : sf_l1 st f = some r) : ∃ x q, st = .long x :: q ∧ f x q = some r := by
  unfold sf_l1 at h
  split at h
  · exact ⟨_, _, rfl, h⟩
  · cases h
theorem sf_l2_inv {ρ : Type} {st : List Value} {f : Int64 → Int64 → List Value → Option ρ} {r : ρ} (h : sf_l2 st f = some r) : ∃ x y q, st = .long y :: .long x :: q ∧ f x y q = some r := by
  unfold sf_l2 at h
  split at h
  · exact ⟨_, _, _, rfl, h⟩
  · cases h
theorem sf_ldi_inv {ρ : Type} {L : sf_L} {i : Nat} {f : Int32 → Option ρ} {r : ρ} (h : sf_ldi L i f = some r) : ∃ x, sf_get L i = some (.int x) ∧ f x = some r := by
  unfold sf_ldi at h
  split at h
  · rename_i x hx
    exact ⟨x, hx, h⟩
  · cases h
theorem sf_ldl_inv {ρ : Type} {L : sf_L} {i : Nat} {f : Int64 → Option ρ} {r : ρ} (h : sf_ldl L i f = some r) : ∃ x, sf_get L i = some (.long x) ∧ f x = some r := by
  unfold sf_ldl at h
  split at h
  · rename_i x hx
    exact ⟨x, hx, h⟩
  · cases h
theorem sf_lda_inv {ρ : Type} {L : sf_L} {i : Nat} {f : Nat → Option ρ} {r : ρ} (h : sf_lda L i f = some r) : ∃ x, sf_get L i = some (.ref x) ∧ f x = some r := by
  unfold sf_lda at h
  split at h
  · rename_i x hx
    exact ⟨x, hx, h⟩
  · cases h
theorem sf_ar_inv {ρ : Type} {lay : sf_Lay} {q : Nat} {f : Nat → Nat → Option ρ} {r : ρ} (h : sf_ar lay q f = some r) : ∃ t n, lay[q]? = some (.inr (t, n)) ∧ f t n = some r := by
  unfold sf_ar at h
  split at h
  · rename_i t n hq
    exact ⟨t, n, hq, h⟩
  · cases h
theorem sf_ob_inv {ρ : Type} {lay : sf_Lay} {q : Nat} {f : Nat → List (Option Nat) → Option ρ} {r : ρ} (h : sf_ob lay q f = some r) : ∃ t n, lay[q]? = some (.inl (t, n)) ∧ f t n = some r := by
  unfold sf_ob at h
  split at h
  · rename_i t n hq
    exact ⟨t, n, hq, h⟩
  · cases h
theorem sf_getf_inv {ρ : Type} {lay : sf_Lay} {fp : List (Nat × Nat)} {q : Nat} {σ : sf_S} {f : Value → Option ρ} {r : ρ} (h : sf_getf lay fp q σ f = some r) : ∃ ci fs k x, lay[q]? = some (.inl (ci, fs)) ∧ sf_as fp ci = some k ∧ fs[k]? = some x ∧ f (sf_fo (σ q k) x) = some r := by
  obtain ⟨ci, fs, h1, h2⟩ := sf_ob_inv h
  split at h2
  · rename_i k hk
    split at h2
    · rename_i q2 hq2
      exact ⟨ci, fs, k, _, h1, hk, hq2, h2⟩
    · rename_i hq2
      exact ⟨ci, fs, k, _, h1, hk, hq2, h2⟩
    · cases h2
  · cases h2
theorem sf_putf_inv {ρ : Type} {lay : sf_Lay} {fp : List (Nat × Nat)} {q : Nat} {f : Nat → Option ρ} {r : ρ} (h : sf_putf lay fp q f = some r) : ∃ ci fs k, lay[q]? = some (.inl (ci, fs)) ∧ sf_as fp ci = some k ∧ fs[k]? = some none ∧ f k = some r := by
  obtain ⟨ci, fs, h1, h2⟩ := sf_ob_inv h
  split at h2
  · rename_i k hk
    split at h2
    · rename_i hq2
      exact ⟨ci, fs, k, h1, hk, hq2, h2⟩
    · cases h2
  · cases h2
theorem sf_lks_ok {ρ : Type} {pc d : Nat} {x : Int32} {K : Nat → Option ρ} {r : ρ} {D : Int} (hd : (pc : Int) + D = (d : Int)) : ∀ (ps : List (Int × Int)) (sw : List (Int32 × Nat)), sf_lks pc ps sw = true → sf_sw K x d sw = some r → ∃ tg : Nat, (pc : Int) + Op.lookupswitch.offset ps D x.toInt = (tg : Int) ∧ K tg = some r
  | [], [], _, h => ⟨d, hd, h⟩
  | (a, o) :: ps, (k, t) :: sw, hc, h => by
    simp only [sf_lks, Bool.and_eq_true, decide_eq_true_eq] at hc
    obtain ⟨⟨h1, h2⟩, h3⟩ := hc
    simp only [sf_sw] at h
    rw [Op.lookupswitch.offset_cons]
    by_cases hx : x = k
    · subst hx
      rw [if_pos rfl] at h
      rw [if_pos h1.symm]
      exact ⟨t, h2, h⟩
    · rw [if_neg hx] at h
      rw [if_neg (fun q => lv_neT hx h1 q.symm)]
      exact sf_lks_ok hd ps sw h3 h
  | [], _ :: _, hc, _ => by simp [sf_lks] at hc
  | _ :: _, [], hc, _ => by simp [sf_lks] at hc
theorem sf_tbs_ok {ρ : Type} {pc d : Nat} {x : Int32} {K : Nat → Option ρ} {r : ρ} : ∀ (os : List Int) (lo : Int) (sw : List (Int32 × Nat)), sf_tbs pc lo os sw = true → sf_sw K x d sw = some r → (∃ (tg : Nat) (off : Int), ¬ x.toInt < lo ∧ x.toInt < lo + (os.length : Int) ∧ os[(x.toInt - lo).toNat]? = some off ∧ (pc : Int) + off = (tg : Int) ∧ K tg = some r) ∨ ((x.toInt < lo ∨ lo + (os.length : Int) ≤ x.toInt) ∧ K d = some r)
  | [], lo, [], _, h => Or.inr ⟨by simp; omega, h⟩
  | o :: os, lo, (k, t) :: sw, hc, h => by
    simp only [sf_tbs, Bool.and_eq_true, decide_eq_true_eq] at hc
    obtain ⟨⟨h1, h2⟩, h3⟩ := hc
    simp only [sf_sw] at h
    by_cases hx : x = k
    · subst hx
      rw [if_pos rfl] at h
      exact Or.inl ⟨t, o, by omega, by simp; omega, by rw [h1, Int.sub_self]; rfl, h2, h⟩
    · rw [if_neg hx] at h
      have hne : ¬ x.toInt = lo := lv_neT hx h1
      rcases sf_tbs_ok os (lo + 1) sw h3 h with ⟨tg, off, a1, a2, a3, a4, a5⟩ | ⟨a1, a2⟩
      · refine Or.inl ⟨tg, off, by omega, by simp; omega, ?_, a4, a5⟩
        rw [show (x.toInt - lo).toNat = (x.toInt - (lo + 1)).toNat + 1 by omega]
        exact a3
      · exact Or.inr ⟨by simp; omega, a2⟩
  | [], _, _ :: _, hc, _ => by simp [sf_tbs] at hc
  | _ :: _, _, [], hc, _ => by simp [sf_tbs] at hc
section SFS
variable {p : Program} {l : Launch} {e0 : Env} {R : Room} {s : State} {m : MethodId} {args : Array Value} {below : List Frame} {meth : Method} {c : Code} {Q : State → Prop} {cc : ByteArray} {nL : Nat} {lay : sf_Lay} {D : va_G} {cy : Nat → ClassId} {ad : Nat → Nat} {A : Nat → Prop} {own : String} {Ts : List Cond}
set_option maxHeartbeats 4000000 in
theorem sf_step_ok {ρ : Type} {rh : Option Value → sf_S → Option ρ} {J : List (Nat × sf_J ρ)} {tab : List (Nat × sf_E)} {Post : ρ → Prop} {fl : sf_FL} {cl : List (Nat × Value)} (h0 : sf_At p s m args c own cc nL lay D cy ad A Ts) (hchk : sf_chk cc nL fl cl tab = true) (hfl : ∀ q ∈ fl, sf_FF s args Ts own q.1 q.2.1 q.2.2.1 q.2.2.2) (hcl : ∀ q ∈ cl, sf_CC s args own q.1 q.2)
    (hJ : ∀ (pc : Nat) (j : sf_J ρ) (L : sf_L) (st : List Value) (σ : sf_S) (K : List Value → sf_S → Option ρ) (r : ρ), sf_as J pc = some j → j st σ K = some r → (∀ st2 σ2, K st2 σ2 = some r → sf_W p l e0 R s m args below meth c Q nL lay D cy ad A (pc + 3) L st2 σ2) → sf_W p l e0 R s m args below meth c Q nL lay D cy ad A pc L st σ)
    (hret : ∀ (v : Option Value) (σ : sf_S) (r : ρ) (pc : Nat) (L : sf_L) (ins : Instr), rh v σ = some r → Post r → decode cc pc = .ok (ins, 1) → (ins = .ireturn ∧ (∃ x, v = some (.int x)) ∨ ins = .lreturn ∧ (∃ x, v = some (.long x)) ∨ ins = .return_ ∧ v = none) → sf_W p l e0 R s m args below meth c Q nL lay D cy ad A pc L v.toList σ) :
    sf_Snd (sf_W p l e0 R s m args below meth c Q nL lay D cy ad A) lay rh J tab Post := by
  intro pc e L st σ K r he hs hp hk
  have hc := List.all_eq_true.mp hchk _ (sf_as_mem he)
  simp only [Bool.and_eq_true] at hc
  obtain ⟨hdec, hok⟩ := hc
  obtain ⟨n, hd, hn⟩ := sf_dec_ok hdec
  have h00 := h0
  obtain ⟨hx, hb, hml, hown, hts, hK, hi, hA, hAs⟩ := h00
  obtain ⟨ins, nx, tg, v, sw, fp⟩ := e
  dsimp only at hd hn
  cases ins with
  | iconst k =>
    obtain ⟨rfl, rfl⟩ := hn.resolve_left (show ¬ sf_len (.iconst k) = 0 by simp [sf_len])
    have hs : K _ L (v :: st) σ = some r := hs
    have hv := of_decide_eq_true hok
    subst hv
    exact (hk _ _ _ _ hs).go fun H locs ls hl w => lv_iconst hx hb hd rfl w
  | bipush k =>
    obtain ⟨rfl, rfl⟩ := hn.resolve_left (show ¬ sf_len (.bipush k) = 0 by simp [sf_len])
    have hs : K _ L (v :: st) σ = some r := hs
    have hv := of_decide_eq_true hok
    subst hv
    exact (hk _ _ _ _ hs).go fun H locs ls hl w => lv_bipush hx hb hd rfl w
  | sipush k =>
    obtain ⟨rfl, rfl⟩ := hn.resolve_left (show ¬ sf_len (.sipush k) = 0 by simp [sf_len])
    have hs : K _ L (v :: st) σ = some r := hs
    have hv := of_decide_eq_true hok
    subst hv
    exact (hk _ _ _ _ hs).go fun H locs ls hl w => lv_sipush hx hb hd rfl w
  | lconst k =>
    obtain ⟨rfl, rfl⟩ := hn.resolve_left (show ¬ sf_len (.lconst k) = 0 by simp [sf_len])
    have hs : K _ L (v :: st) σ = some r := hs
    have hv := of_decide_eq_true hok
    subst hv
    exact (hk _ _ _ _ hs).go fun H locs ls hl w => lv_lconst hx hb hd rfl w
  | ldc k =>
    obtain ⟨rfl, rfl⟩ := hn.resolve_left (show ¬ sf_len (.ldc k) = 0 by simp [sf_len])
    have hs : K _ L (v :: st) σ = some r := hs
    simp only [sf_ok1, Bool.and_eq_true, decide_eq_true_eq] at hok
    obtain ⟨hm, hty⟩ := hok
    have hcc := hcl _ hm
    cases v with
    | int x => exact (hk _ _ _ _ hs).go fun H locs ls hl w => lv_ldc hx hb hown hcc hd w
    | _ => cases hty
  | ldc_w k =>
    obtain ⟨rfl, rfl⟩ := hn.resolve_left (show ¬ sf_len (.ldc_w k) = 0 by simp [sf_len])
    have hs : K _ L (v :: st) σ = some r := hs
    simp only [sf_ok1, Bool.and_eq_true, decide_eq_true_eq] at hok
    obtain ⟨hm, hty⟩ := hok
    have hcc := hcl _ hm
    cases v with
    | int x => exact (hk _ _ _ _ hs).go fun H locs ls hl w => lv_ldcw hx hb hown hcc hd w
    | _ => cases hty
  | ldc2_w k =>
    obtain ⟨rfl, rfl⟩ := hn.resolve_left (show ¬ sf_len (.ldc2_w k) = 0 by simp [sf_len])
    have hs : K _ L (v :: st) σ = some r := hs
    simp only [sf_ok1, Bool.and_eq_true, decide_eq_true_eq] at hok
    obtain ⟨hm, hty⟩ := hok
    have hcc := hcl _ hm
    cases v with
    | long x => exact (hk _ _ _ _ hs).go fun H locs ls hl w => lv_ldc2 hx hb hown hcc hd w
    | _ => cases hty
  | iload_n k =>
    obtain ⟨rfl, rfl⟩ := hn.resolve_left (show ¬ sf_len (.iload_n k) = 0 by simp [sf_len])
    obtain ⟨x, hg, hz⟩ := sf_ldi_inv hs
    exact (hk _ _ _ _ hz).go fun H locs ls hl w => lv_iload_n hx hb hd rfl (hl.2.2 _ _ hg) w
  | iload k =>
    obtain ⟨rfl, rfl⟩ := hn.resolve_left (show ¬ sf_len (.iload k) = 0 by simp [sf_len])
    obtain ⟨x, hg, hz⟩ := sf_ldi_inv hs
    exact (hk _ _ _ _ hz).go fun H locs ls hl w => lv_iload hx hb hd (hl.2.2 _ _ hg) w
  | lload_n k =>
    obtain ⟨rfl, rfl⟩ := hn.resolve_left (show ¬ sf_len (.lload_n k) = 0 by simp [sf_len])
    obtain ⟨x, hg, hz⟩ := sf_ldl_inv hs
    exact (hk _ _ _ _ hz).go fun H locs ls hl w => lv_lload_n hx hb hd rfl (hl.2.2 _ _ hg) w
  | lload k =>
    obtain ⟨rfl, rfl⟩ := hn.resolve_left (show ¬ sf_len (.lload k) = 0 by simp [sf_len])
    obtain ⟨x, hg, hz⟩ := sf_ldl_inv hs
    exact (hk _ _ _ _ hz).go fun H locs ls hl w => lv_lload hx hb hd (hl.2.2 _ _ hg) w
  | aload_n k =>
    obtain ⟨rfl, rfl⟩ := hn.resolve_left (show ¬ sf_len (.aload_n k) = 0 by simp [sf_len])
    obtain ⟨x, hg, hz⟩ := sf_lda_inv hs
    exact (hk _ _ _ _ hz).go fun H locs ls hl w => lv_aload_n hx hb hd rfl (hl.2.2 _ _ hg) w
  | aload k =>
    obtain ⟨rfl, rfl⟩ := hn.resolve_left (show ¬ sf_len (.aload k) = 0 by simp [sf_len])
    obtain ⟨x, hg, hz⟩ := sf_lda_inv hs
    exact (hk _ _ _ _ hz).go fun H locs ls hl w => lv_aload hx hb hd (hl.2.2 _ _ hg) w
  | istore_n k =>
    obtain ⟨rfl, rfl⟩ := hn.resolve_left (show ¬ sf_len (.istore_n k) = 0 by simp [sf_len])
    obtain ⟨x, q, rfl, hz⟩ := sf_i1_inv hs
    exact fun H locs ls hl hP hS => lv_istore_n hx hb hd rfl hl.has (of_decide_eq_true hok) rfl fun ls2 hl2 => hk _ _ _ _ hz H locs ls2 (hl.st1 rfl hl2) hP hS
  | istore k =>
    obtain ⟨rfl, rfl⟩ := hn.resolve_left (show ¬ sf_len (.istore k) = 0 by simp [sf_len])
    obtain ⟨x, q, rfl, hz⟩ := sf_i1_inv hs
    exact fun H locs ls hl hP hS => lv_istore hx hb hd hl.has (of_decide_eq_true hok) rfl fun ls2 hl2 => hk _ _ _ _ hz H locs ls2 (hl.st1 rfl hl2) hP hS
  | lstore_n k =>
    obtain ⟨rfl, rfl⟩ := hn.resolve_left (show ¬ sf_len (.lstore_n k) = 0 by simp [sf_len])
    obtain ⟨x, q, rfl, hz⟩ := sf_l1_inv hs
    exact fun H locs ls hl hP hS => lv_lstore_n hx hb hd rfl hl.has (of_decide_eq_true hok) rfl fun ls2 hl2 => hk _ _ _ _ hz H locs ls2 (hl.st2 rfl hl2) hP hS
  | lstore k =>
    obtain ⟨rfl, rfl⟩ := hn.resolve_left (show ¬ sf_len (.lstore k) = 0 by simp [sf_len])
    obtain ⟨x, q, rfl, hz⟩ := sf_l1_inv hs
    exact fun H locs ls hl hP hS => lv_lstore hx hb hd hl.has (of_decide_eq_true hok) rfl fun ls2 hl2 => hk _ _ _ _ hz H locs ls2 (hl.st2 rfl hl2) hP hS
  | iinc k d =>
    obtain ⟨rfl, rfl⟩ := hn.resolve_left (show ¬ sf_len (.iinc k d) = 0 by simp [sf_len])
    obtain ⟨x, hg, hz⟩ := sf_ldi_inv hs
    have hv := of_decide_eq_true hok
    subst hv
    intro H locs ls hl hP hS
    obtain ⟨j, hj⟩ := List.getElem?_of_mem (sf_mem_prs (ad := ad) (hl.lt hg) hg)
    exact lv_iinc hx hb hd hl.has hj rfl (hl.lt hg) rfl fun ls2 hl2 => hk _ _ _ _ hz H locs ls2 (hl.st1 rfl hl2) hP hS
  | iadd =>
    obtain ⟨rfl, rfl⟩ := hn.resolve_left (show ¬ sf_len (.iadd) = 0 by simp [sf_len])
    obtain ⟨x, y, q, rfl, hz⟩ := sf_i2_inv hs
    exact (hk _ _ _ _ hz).go fun H locs ls hl w => lv_iadd hx hb hd w
  | isub =>
    obtain ⟨rfl, rfl⟩ := hn.resolve_left (show ¬ sf_len (.isub) = 0 by simp [sf_len])
    obtain ⟨x, y, q, rfl, hz⟩ := sf_i2_inv hs
    exact (hk _ _ _ _ hz).go fun H locs ls hl w => lv_isub hx hb hd w
  | imul =>
    obtain ⟨rfl, rfl⟩ := hn.resolve_left (show ¬ sf_len (.imul) = 0 by simp [sf_len])
    obtain ⟨x, y, q, rfl, hz⟩ := sf_i2_inv hs
    exact (hk _ _ _ _ hz).go fun H locs ls hl w => lv_imul hx hb hd w
  | ixor =>
    obtain ⟨rfl, rfl⟩ := hn.resolve_left (show ¬ sf_len (.ixor) = 0 by simp [sf_len])
    obtain ⟨x, y, q, rfl, hz⟩ := sf_i2_inv hs
    exact (hk _ _ _ _ hz).go fun H locs ls hl w => lv_ixor hx hb hd w
  | ladd =>
    obtain ⟨rfl, rfl⟩ := hn.resolve_left (show ¬ sf_len (.ladd) = 0 by simp [sf_len])
    obtain ⟨x, y, q, rfl, hz⟩ := sf_l2_inv hs
    exact (hk _ _ _ _ hz).go fun H locs ls hl w => lv_ladd hx hb hd w
  | lsub =>
    obtain ⟨rfl, rfl⟩ := hn.resolve_left (show ¬ sf_len (.lsub) = 0 by simp [sf_len])
    obtain ⟨x, y, q, rfl, hz⟩ := sf_l2_inv hs
    exact (hk _ _ _ _ hz).go fun H locs ls hl w => lv_lsub hx hb hd w
  | lmul =>
    obtain ⟨rfl, rfl⟩ := hn.resolve_left (show ¬ sf_len (.lmul) = 0 by simp [sf_len])
    obtain ⟨x, y, q, rfl, hz⟩ := sf_l2_inv hs
    exact (hk _ _ _ _ hz).go fun H locs ls hl w => lv_lmul hx hb hd w
  | lcmp =>
    obtain ⟨rfl, rfl⟩ := hn.resolve_left (show ¬ sf_len (.lcmp) = 0 by simp [sf_len])
    obtain ⟨x, y, q, rfl, hz⟩ := sf_l2_inv hs
    exact (hk _ _ _ _ hz).go fun H locs ls hl w => W.lcmp hx hb hd w
  | idiv =>
    obtain ⟨rfl, rfl⟩ := hn.resolve_left (show ¬ sf_len (.idiv) = 0 by simp [sf_len])
    obtain ⟨x, y, q, rfl, hz⟩ := sf_i2_inv hs
    by_cases hy : y = 0
    · rw [if_pos hy] at hz; cases hz
    · rw [if_neg hy] at hz
      exact (hk _ _ _ _ hz).go fun H locs ls hl w => lv_idiv hx hb hd hy w
  | irem =>
    obtain ⟨rfl, rfl⟩ := hn.resolve_left (show ¬ sf_len (.irem) = 0 by simp [sf_len])
    obtain ⟨x, y, q, rfl, hz⟩ := sf_i2_inv hs
    by_cases hy : y = 0
    · rw [if_pos hy] at hz; cases hz
    · rw [if_neg hy] at hz
      exact (hk _ _ _ _ hz).go fun H locs ls hl w => lv_irem hx hb hd hy w
  | ldiv =>
    obtain ⟨rfl, rfl⟩ := hn.resolve_left (show ¬ sf_len (.ldiv) = 0 by simp [sf_len])
    obtain ⟨x, y, q, rfl, hz⟩ := sf_l2_inv hs
    by_cases hy : y = 0
    · rw [if_pos hy] at hz; cases hz
    · rw [if_neg hy] at hz
      exact (hk _ _ _ _ hz).go fun H locs ls hl w => lv_ldiv hx hb hd hy w
  | lrem =>
    obtain ⟨rfl, rfl⟩ := hn.resolve_left (show ¬ sf_len (.lrem) = 0 by simp [sf_len])
    obtain ⟨x, y, q, rfl, hz⟩ := sf_l2_inv hs
    by_cases hy : y = 0
    · rw [if_pos hy] at hz; cases hz
    · rw [if_neg hy] at hz
      exact (hk _ _ _ _ hz).go fun H locs ls hl w => lv_lrem hx hb hd hy w
  | ineg =>
    obtain ⟨rfl, rfl⟩ := hn.resolve_left (show ¬ sf_len (.ineg) = 0 by simp [sf_len])
    obtain ⟨x, q, rfl, hz⟩ := sf_i1_inv hs
    exact (hk _ _ _ _ hz).go fun H locs ls hl w => lv_ineg hx hb hd w
  | lneg =>
    obtain ⟨rfl, rfl⟩ := hn.resolve_left (show ¬ sf_len (.lneg) = 0 by simp [sf_len])
    obtain ⟨x, q, rfl, hz⟩ := sf_l1_inv hs
    exact (hk _ _ _ _ hz).go fun H locs ls hl w => lv_lneg hx hb hd w
  | i2l =>
    obtain ⟨rfl, rfl⟩ := hn.resolve_left (show ¬ sf_len (.i2l) = 0 by simp [sf_len])
    obtain ⟨x, q, rfl, hz⟩ := sf_i1_inv hs
    exact (hk _ _ _ _ hz).go fun H locs ls hl w => lv_i2l hx hb hd rfl w
  | l2i =>
    obtain ⟨rfl, rfl⟩ := hn.resolve_left (show ¬ sf_len (.l2i) = 0 by simp [sf_len])
    obtain ⟨x, q, rfl, hz⟩ := sf_l1_inv hs
    exact (hk _ _ _ _ hz).go fun H locs ls hl w => lv_l2i hx hb hd rfl w
  | i2b =>
    obtain ⟨rfl, rfl⟩ := hn.resolve_left (show ¬ sf_len (.i2b) = 0 by simp [sf_len])
    obtain ⟨x, q, rfl, hz⟩ := sf_i1_inv hs
    exact (hk _ _ _ _ hz).go fun H locs ls hl w => lv_i2b hx hb hd rfl w
  | i2s =>
    obtain ⟨rfl, rfl⟩ := hn.resolve_left (show ¬ sf_len (.i2s) = 0 by simp [sf_len])
    obtain ⟨x, q, rfl, hz⟩ := sf_i1_inv hs
    exact (hk _ _ _ _ hz).go fun H locs ls hl w => lv_i2s hx hb hd rfl w
  | dup =>
    obtain ⟨rfl, rfl⟩ := hn.resolve_left (show ¬ sf_len (.dup) = 0 by simp [sf_len])
    simp only [sf_step] at hs
    split at hs
    · exact (hk _ _ _ _ hs).go fun H locs ls hl w => lv_dup hx hb hd rfl w
    · exact (hk _ _ _ _ hs).go fun H locs ls hl w => lv_dup hx hb hd rfl w
    · cases hs
  | dup2 =>
    obtain ⟨rfl, rfl⟩ := hn.resolve_left (show ¬ sf_len (.dup2) = 0 by simp [sf_len])
    simp only [sf_step] at hs
    split at hs
    · exact (hk _ _ _ _ hs).go fun H locs ls hl w => lv_dup2_11 hx hb hd rfl rfl w
    · cases hs
  | pop =>
    obtain ⟨rfl, rfl⟩ := hn.resolve_left (show ¬ sf_len (.pop) = 0 by simp [sf_len])
    simp only [sf_step] at hs
    split at hs
    · exact (hk _ _ _ _ hs).go fun H locs ls hl w => lv_pop hx hb hd rfl w
    · exact (hk _ _ _ _ hs).go fun H locs ls hl w => lv_pop hx hb hd rfl w
    · cases hs
  | goto o =>
    obtain ⟨rfl, rfl⟩ := hn.resolve_left (show ¬ sf_len (.goto o) = 0 by simp [sf_len])
    exact (hk _ _ _ _ hs).go fun H locs ls hl w => lv_goto hx hb hd (of_decide_eq_true hok) w
  | ifCond q o =>
    obtain ⟨rfl, rfl⟩ := hn.resolve_left (show ¬ sf_len (.ifCond q o) = 0 by simp [sf_len])
    have ht := of_decide_eq_true hok
    cases q with
    | eq =>
      obtain ⟨x, q, rfl, hz⟩ := sf_i1_inv hs
      intro H locs ls hl hP hS
      refine lv_if_eq hx hb hd ht (fun h => ?_) (fun h => ?_)
      · rw [if_pos h] at hz; exact hk _ _ _ _ hz H locs ls hl hP hS
      · rw [if_neg h] at hz; exact hk _ _ _ _ hz H locs ls hl hP hS
    | ne =>
      obtain ⟨x, q, rfl, hz⟩ := sf_i1_inv hs
      intro H locs ls hl hP hS
      refine lv_if_ne hx hb hd ht (fun h => ?_) (fun h => ?_)
      · rw [if_pos h] at hz; exact hk _ _ _ _ hz H locs ls hl hP hS
      · rw [if_neg (fun hn => hn h)] at hz; exact hk _ _ _ _ hz H locs ls hl hP hS
    | lt =>
      obtain ⟨x, q, rfl, hz⟩ := sf_i1_inv hs
      intro H locs ls hl hP hS
      refine lv_if_lt hx hb hd ht (fun h => ?_) (fun h => ?_)
      · rw [if_pos h] at hz; exact hk _ _ _ _ hz H locs ls hl hP hS
      · rw [if_neg h] at hz; exact hk _ _ _ _ hz H locs ls hl hP hS
    | ge =>
      obtain ⟨x, q, rfl, hz⟩ := sf_i1_inv hs
      intro H locs ls hl hP hS
      refine lv_if_ge hx hb hd ht (fun h => ?_) (fun h => ?_)
      · rw [if_pos h] at hz; exact hk _ _ _ _ hz H locs ls hl hP hS
      · rw [if_neg h] at hz; exact hk _ _ _ _ hz H locs ls hl hP hS
    | gt =>
      obtain ⟨x, q, rfl, hz⟩ := sf_i1_inv hs
      intro H locs ls hl hP hS
      refine lv_if_gt hx hb hd ht (fun h => ?_) (fun h => ?_)
      · rw [if_pos h] at hz; exact hk _ _ _ _ hz H locs ls hl hP hS
      · rw [if_neg h] at hz; exact hk _ _ _ _ hz H locs ls hl hP hS
    | le =>
      obtain ⟨x, q, rfl, hz⟩ := sf_i1_inv hs
      intro H locs ls hl hP hS
      refine lv_if_le hx hb hd ht (fun h => ?_) (fun h => ?_)
      · rw [if_pos h] at hz; exact hk _ _ _ _ hz H locs ls hl hP hS
      · rw [if_neg h] at hz; exact hk _ _ _ _ hz H locs ls hl hP hS
  | if_icmp q o =>
    obtain ⟨rfl, rfl⟩ := hn.resolve_left (show ¬ sf_len (.if_icmp q o) = 0 by simp [sf_len])
    have ht := of_decide_eq_true hok
    cases q with
    | eq =>
      obtain ⟨x, y, q, rfl, hz⟩ := sf_i2_inv hs
      intro H locs ls hl hP hS
      refine lv_icmp_eq hx hb hd ht (fun h => ?_) (fun h => ?_)
      · rw [if_pos h] at hz; exact hk _ _ _ _ hz H locs ls hl hP hS
      · rw [if_neg h] at hz; exact hk _ _ _ _ hz H locs ls hl hP hS
    | ne =>
      obtain ⟨x, y, q, rfl, hz⟩ := sf_i2_inv hs
      intro H locs ls hl hP hS
      refine lv_icmp_ne hx hb hd ht (fun h => ?_) (fun h => ?_)
      · rw [if_pos h] at hz; exact hk _ _ _ _ hz H locs ls hl hP hS
      · rw [if_neg (fun hn => hn h)] at hz; exact hk _ _ _ _ hz H locs ls hl hP hS
    | lt =>
      obtain ⟨x, y, q, rfl, hz⟩ := sf_i2_inv hs
      intro H locs ls hl hP hS
      refine lv_icmp_lt hx hb hd ht (fun h => ?_) (fun h => ?_)
      · rw [if_pos h] at hz; exact hk _ _ _ _ hz H locs ls hl hP hS
      · rw [if_neg h] at hz; exact hk _ _ _ _ hz H locs ls hl hP hS
    | ge =>
      obtain ⟨x, y, q, rfl, hz⟩ := sf_i2_inv hs
      intro H locs ls hl hP hS
      refine lv_icmp_ge hx hb hd ht (fun h => ?_) (fun h => ?_)
      · rw [if_pos h] at hz; exact hk _ _ _ _ hz H locs ls hl hP hS
      · rw [if_neg h] at hz; exact hk _ _ _ _ hz H locs ls hl hP hS
    | gt =>
      obtain ⟨x, y, q, rfl, hz⟩ := sf_i2_inv hs
      intro H locs ls hl hP hS
      refine lv_icmp_gt hx hb hd ht (fun h => ?_) (fun h => ?_)
      · rw [if_pos h] at hz; exact hk _ _ _ _ hz H locs ls hl hP hS
      · rw [if_neg h] at hz; exact hk _ _ _ _ hz H locs ls hl hP hS
    | le =>
      obtain ⟨x, y, q, rfl, hz⟩ := sf_i2_inv hs
      intro H locs ls hl hP hS
      refine lv_icmp_le hx hb hd ht (fun h => ?_) (fun h => ?_)
      · rw [if_pos h] at hz; exact hk _ _ _ _ hz H locs ls hl hP hS
      · rw [if_neg h] at hz; exact hk _ _ _ _ hz H locs ls hl hP hS
  | tableswitch d lo hi offs =>
    obtain ⟨x, q, rfl, hz⟩ := sf_i1_inv hs
    simp only [sf_ok1, Bool.and_eq_true, decide_eq_true_eq] at hok
    obtain ⟨⟨h1, h2⟩, h3⟩ := hok
    rcases sf_tbs_ok (K := fun t => K t L q σ) (d := tg) _ _ _ h2 hz with ⟨t2, off, a1, a2, a3, a4, a5⟩ | ⟨a1, a2⟩
    · exact (hk _ _ _ _ a5).go fun H locs ls hl w => lv_tableIn hx hb hd a1 (by rw [h3]; simp at a2; omega) (by rw [← a3]; simp) a4 w
    · exact (hk _ _ _ _ a2).go fun H locs ls hl w => lv_tableOut hx hb hd (by rw [h3]; simp at a1; omega) h1 w
  | lookupswitch d ps =>
    obtain ⟨x, q, rfl, hz⟩ := sf_i1_inv hs
    simp only [sf_ok1, Bool.and_eq_true, decide_eq_true_eq] at hok
    obtain ⟨⟨h1, h2⟩, h3⟩ := hok
    obtain ⟨t2, a1, a2⟩ := sf_lks_ok (K := fun t => K t L q σ) h1 _ _ h2 hz
    exact (hk _ _ _ _ a2).go fun H locs ls hl w => lv_lookup hx hb hd h3 rfl a1 w
  | getfield k =>
    obtain ⟨rfl, rfl⟩ := hn.resolve_left (show ¬ sf_len (.getfield k) = 0 by simp [sf_len])
    simp only [sf_step] at hs
    split at hs
    · obtain ⟨ci, fs, j, x, e1, e2, e3, hz⟩ := sf_getf_inv hs
      obtain ⟨kd, e4, -⟩ := sf_hasf_ok hok e2
      exact sf_row_get h0 e1 e3 (hfl _ e4) hd (hk _ _ _ _ hz)
    · cases hs
  | putfield k =>
    obtain ⟨rfl, rfl⟩ := hn.resolve_left (show ¬ sf_len (.putfield k) = 0 by simp [sf_len])
    simp only [sf_step] at hs
    split at hs
    · obtain ⟨ci, fs, j, e1, e2, e3, hz⟩ := sf_putf_inv hs
      split at hz
      · obtain ⟨kd, e4, e5⟩ := sf_hasf_ok hok e2
        have e6 : kd = 1 := by simpa using e5
        exact sf_row_put h0 e1 e3 (hfl _ e4) (Or.inl e6) hd (hk _ _ _ _ hz)
      · rename_i hnv
        have hok2 : sf_hasf fl k [2] fp = true := by
          cases v with
          | null => exact absurd rfl hnv
          | _ => exact hok
        obtain ⟨kd, e4, e5⟩ := sf_hasf_ok hok2 e2
        have e6 : kd = 2 := by simpa using e5
        split at hz
        · rename_i h01
          exact sf_row_put h0 e1 e3 (hfl _ e4) (Or.inr ⟨e6, h01⟩) hd (hk _ _ _ _ hz)
        · cases hz
    · cases hs
  | iaload =>
    obtain ⟨rfl, rfl⟩ := hn.resolve_left (show ¬ sf_len (.iaload) = 0 by simp [sf_len])
    simp only [sf_step] at hs
    split at hs
    · obtain ⟨t, z, e1, hz⟩ := sf_ar_inv hs
      split at hz
      · split at hz
        · rename_i hin
          exact sf_row_ild h0 e1 hin hd (hk _ _ _ _ hz)
        · cases hz
      · cases hz
    · cases hs
  | iastore =>
    obtain ⟨rfl, rfl⟩ := hn.resolve_left (show ¬ sf_len (.iastore) = 0 by simp [sf_len])
    simp only [sf_step] at hs
    split at hs
    · obtain ⟨t, z, e1, hz⟩ := sf_ar_inv hs
      split at hz
      · split at hz
        · rename_i hin
          exact sf_row_ist h0 e1 hin hd (hk _ _ _ _ hz)
        · cases hz
      · cases hz
    · cases hs
  | baload =>
    obtain ⟨rfl, rfl⟩ := hn.resolve_left (show ¬ sf_len (.baload) = 0 by simp [sf_len])
    simp only [sf_step] at hs
    split at hs
    · obtain ⟨t, z, e1, hz⟩ := sf_ar_inv hs
      split at hz
      · split at hz
        · rename_i hin
          exact sf_row_zld h0 e1 hin hd (hk _ _ _ _ hz)
        · cases hz
      · split at hz
        · rename_i hin
          exact sf_row_bld h0 e1 hin hd (hk _ _ _ _ hz)
        · cases hz
      · cases hz
    · cases hs
  | bastore =>
    obtain ⟨rfl, rfl⟩ := hn.resolve_left (show ¬ sf_len (.bastore) = 0 by simp [sf_len])
    simp only [sf_step] at hs
    split at hs
    · obtain ⟨t, z, e1, hz⟩ := sf_ar_inv hs
      split at hz
      · split at hz
        · rename_i hin
          exact sf_row_zst h0 e1 hin hd (hk _ _ _ _ hz)
        · cases hz
      · split at hz
        · rename_i hin
          exact sf_row_bst h0 e1 hin hd (hk _ _ _ _ hz)
        · cases hz
      · cases hz
    · cases hs
  | ireturn =>
    obtain ⟨rfl, rfl⟩ := hn.resolve_left (show ¬ sf_len (.ireturn) = 0 by simp [sf_len])
    simp only [sf_step] at hs
    split at hs
    · exact hret _ _ _ _ _ _ hs hp hd (Or.inl ⟨rfl, _, rfl⟩)
    · cases hs
  | lreturn =>
    obtain ⟨rfl, rfl⟩ := hn.resolve_left (show ¬ sf_len (.lreturn) = 0 by simp [sf_len])
    simp only [sf_step] at hs
    split at hs
    · exact hret _ _ _ _ _ _ hs hp hd (Or.inr (Or.inl ⟨rfl, _, rfl⟩))
    · cases hs
  | return_ =>
    obtain ⟨rfl, rfl⟩ := hn.resolve_left (show ¬ sf_len (.return_) = 0 by simp [sf_len])
    simp only [sf_step] at hs
    split at hs
    · exact hret _ _ _ _ _ _ hs hp hd (Or.inr (Or.inr ⟨rfl, rfl⟩))
    · cases hs
  | invokevirtual k =>
    obtain ⟨rfl, rfl⟩ := hn.resolve_left (show ¬ sf_len (.invokevirtual k) = 0 by simp [sf_len])
    simp only [sf_step] at hs
    split at hs
    · rename_i j hj
      exact hJ _ _ _ _ _ _ _ hj hs (fun st2 σ2 h => hk _ _ _ _ h)
    · cases hs
  | invokestatic k =>
    obtain ⟨rfl, rfl⟩ := hn.resolve_left (show ¬ sf_len (.invokestatic k) = 0 by simp [sf_len])
    simp only [sf_step] at hs
    split at hs
    · rename_i j hj
      exact hJ _ _ _ _ _ _ _ hj hs (fun st2 σ2 h => hk _ _ _ _ h)
    · cases hs
  | _ => simp [sf_step] at hs
theorem sf_run_ok {ρ : Type} {Wt : Nat → sf_L → List Value → sf_S → Prop} {rh : Option Value → sf_S → Option ρ} {J : List (Nat × sf_J ρ)} {tab : List (Nat × sf_E)} {Post : ρ → Prop} {sm : List (Nat × sf_M ρ)} (hsnd : sf_Snd Wt lay rh J tab Post) (hsm : ∀ pc f L st σ r, sf_as sm pc = some f → f L st σ = some r → Post r → Wt pc L st σ) : ∀ (n pc : Nat) (L : sf_L) (st : List Value) (σ : sf_S) (r : ρ), sf_run lay rh J tab sm n pc L st σ = some r → Post r → Wt pc L st σ
  | 0, _, _, _, _, _, h, _ => by simp [sf_run] at h
  | n + 1, pc, L, st, σ, r, h, hp => by
    simp only [sf_run] at h
    split at h
    · rename_i e he
      refine hsnd pc e L st σ _ r he h hp (fun pc2 L2 st2 σ2 h2 => ?_)
      try dsimp only at h2
      split at h2
      · rename_i f hf
        exact hsm _ _ _ _ _ _ hf h2 hp
      · exact sf_run_ok hsnd hsm n pc2 L2 st2 σ2 r h2 hp
    · cases h
end SFS
end
section
/-! a method's contract, in the small machine's words; calls -/
theorem sf_T_good : GoodIn sf_T sf_T := fun w h => ⟨h, good_of_word (List.mem_filter.mp h).2⟩
theorem sf_T_code {y : MethodName} {cc : ByteArray} {nL : Nat} {ret : Option FieldType} (h : Cond.code y cc nL ret ∈ sf_T) : GoodIn sf_T (Cond.code y cc nL ret :: sf_T) := fun w hw => by
  rcases List.mem_cons.mp hw with rfl | hw
  · exact sf_T_good _ h
  · exact sf_T_good _ hw
theorem sf_N_warm {s U : State} (hW : s.WarmedH U.vm) (h : ∀ w ∈ sf_N, va_Nw w s) : ∀ w ∈ sf_N, va_Nw w U := by
  intro w hw
  have h1 := (List.mem_filter.mp hw).2
  have h2 := h w hw
  cases w with
  | fieldLinkNest a b c d e f => exact va_Nw.warmF hW h2
  | methodLinkNest a b c d => exact va_Nw.warmM hW h2
  | _ => cases h1
theorem sf_N_same {s U : State} (hv : s.vm = U.vm) (h : ∀ w ∈ sf_N, va_Nw w s) : ∀ w ∈ sf_N, va_Nw w U := by
  intro w hw
  have h1 := (List.mem_filter.mp hw).2
  have h2 := h w hw
  cases w with
  | fieldLinkNest a b c d e f => exact va_Nw.same rfl hv h2
  | methodLinkNest a b c d => exact va_Nw.same rfl hv h2
  | _ => cases h1
/-- a method's start and end -/
def sf_Pc (lay : sf_Lay) (D : va_G) (cy : Nat → ClassId) (ad : Nat → Nat) (sz : Nat) (av : List Value) (σ : sf_S) : Array Value → State → Prop := va_Pc (av.map (sf_v ad)) fun U => U.heap.size = sz ∧ va_P D vwCl (sf_wd lay ad cy σ) U.heap ∧ va_K D vwCl (sf_ty cy) U ∧ ∀ w ∈ sf_N, va_Nw w U
def sf_Qc (lay : sf_Lay) (D : va_G) (cy : Nat → ClassId) (ad : Nat → Nat) (A : Nat → Prop) (r : sf_Q) : Array Value → State → Outcome → State → Prop := fun _ st oc t => (oc = .returned (r.1.map (sf_v ad)) ∧ va_P D vwCl (sf_wd lay ad cy r.2) t.heap) ∧ va_F A st t
def sf_C (l : Launch) (lay : sf_Lay) (y : MethodName) (cc : ByteArray) (nL : Nat) (ret : Option FieldType) (rm : Room) (F : List Value → sf_S → Option sf_Q) : Prop :=
  rm.cells = 0 ∧ rm.slots = 0 ∧ ∀ (D : va_G) (cy : Nat → ClassId) (ad : Nat → Nat) (sz : Nat) (av : List Value) (σ : sf_S) (r : sf_Q), sf_inj lay ad → F av σ = some r →
    Met l y (Cond.code y cc nL ret :: sf_T) rm (sf_Pc lay D cy ad sz av σ) (sf_Qc lay D cy ad (sf_A lay ad sz) r) 0 0 (sf_A lay ad sz)
theorem sf_pc_blind {lay : sf_Lay} {D : va_G} {cy : Nat → ClassId} {ad : Nat → Nat} {sz : Nat} {av : List Value} {σ : sf_S} : FrameBlind (sf_Pc lay D cy ad sz av σ) := by
  intro a U g mk h
  obtain ⟨h1, h2, h3, h4, h5⟩ := h
  exact ⟨h1, h2, h3, va_K.moved (u := U) (U := U.calling g mk a) (Vm.Alike.refl U.vm) h4, sf_N_same (s := U) (U := U.calling g mk a) rfl h5⟩
theorem sf_v_none {v : Value} (ad : Nat → Nat) (h : ∀ q, v ≠ .ref q) : sf_v ad v = v := by
  cases v with
  | ref q => exact absurd rfl (h q)
  | _ => rfl
theorem sf_cw_ok : ∀ (r : List Value) (n : Nat), sf_cw r n = true → (r.map fun v => v.category).sum ≤ n
  | [], n, _ => Nat.zero_le n
  | v :: r, n, h => by
    simp only [sf_cw] at h
    simp only [List.map_cons, List.sum_cons]
    split at h
    · have := sf_cw_ok r _ h
      show 1 + _ ≤ _
      omega
    · have := sf_cw_ok r _ h
      show 1 + _ ≤ _
      omega
    · have := sf_cw_ok r _ h
      show 2 + _ ≤ _
      omega
    · cases h
theorem sf_cat_v (ad : Nat → Nat) (r : List Value) : ((r.map (sf_v ad)).map fun v => v.category).sum = (r.map fun v => v.category).sum := by
  rw [List.map_map]
  congr 1
  exact List.map_congr_left fun v _ => sf_v_cat ad v
theorem sf_cat4 (ad : Nat → Nat) (r : List Value) (h : (r.map fun v => v.category).sum ≤ 8) : ((r.map (sf_v ad)).map fun v => v.category).sum ≤ 8 := by
  rw [sf_cat_v]
  exact h
section SFC
variable {p : Program} {l : Launch} {e0 : Env} {R : Room} {s : State} {m : MethodId} {args : Array Value} {below : List Frame} {meth : Method} {c : Code} {Q : State → Prop} {cc : ByteArray} {nL : Nat} {lay : sf_Lay} {D : va_G} {cy : Nat → ClassId} {ad : Nat → Nat} {A : Nat → Prop} {own : String}
/-- behind a call -/
theorem sf_behind {pc : Nat} {L : sf_L} {st rest : List Value} {σ : sf_S} {r : sf_Q} {a : Array Value} (hA : ∀ k, k < lay.length → A (ad k)) (hAs : ∀ q, s.heap.size ≤ q → A q)
    (hr : ∀ (H : Heap) (locs : List Loc) (ls : Array Slot), sf_LV ls nL ad L → va_P D vwCl (sf_wd lay ad cy σ) H → va_S A s.heap H locs → va_Run p l e0 R s m args below meth c H locs 0 0 0 0 (F0 m pc ls (st.map (sf_v ad))) (rest.map (sf_v ad)) (sf_Qc lay D cy ad (sf_A lay ad H.size) r a) (sf_A lay ad H.size))
    (kk : sf_W p l e0 R s m args below meth c Q nL lay D cy ad A (pc + 3) L (r.1.toList ++ rest) r.2) : sf_W p l e0 R s m args below meth c Q nL lay D cy ad A pc L st σ := by
  intro H locs ls hl hP hS T hT X
  obtain ⟨v, st₀, t, T', L', h0, X', hL, e1, e2, ⟨⟨hv, hw⟩, hz, hk⟩, stp⟩ := hr H locs ls hl hP hS T hT X
  have hv : v = r.1.map (sf_v ad) := by injection hv
  subst hv
  rw [h0] at hz hk
  have hfree : ∀ q, sf_A lay ad H.size q → A q := by
    intro q hq
    rcases hq with ⟨k, h1, rfl⟩ | hq
    · exact hA k h1
    · exact hAs q (Nat.le_trans hS.1 hq)
  have hS1 : va_S A s.heap T'.heap (locs ++ L') := ⟨Nat.le_trans hS.1 (by rw [e1]; exact hz), fun q h1 h2 => by rw [e1, hk q (Nat.lt_of_lt_of_le h1 hS.1) (fun z => h2 (hfree q z))]; exact hS.2.1 q h1 h2, fun q hq => by
      rcases List.mem_append.mp hq with h | h
      · exact hS.2.2 q h
      · exact hfree _ (hL q h)⟩
  obtain ⟨t2, a1, b1⟩ := kk T'.heap (locs ++ L') ls hl (by rw [e1]; exact hw) hS1 T' rfl X'
  refine ⟨t2, stp t2 ?_, b1⟩
  have he : (r.1.toList ++ rest).map (sf_v ad) = (r.1.map (sf_v ad)).toList ++ rest.map (sf_v ad) := by
    rw [List.map_append]
    cases r.1 <;> rfl
  rw [he] at a1
  exact a1
end SFC
/-- in every body of a method: its calls are sound (at the place pc) -/
def sf_JE {ρ : Type} (l : Launch) (own : String) (cc : ByteArray) (nL : Nat) (rm : Room) (lay : sf_Lay) (pc : Nat) (j : sf_J ρ) : Prop :=
  ∀ (p : Program) (e0 : Env) (s : State) (m : MethodId) (args : Array Value) (below : List Frame) (meth : Method) (c : Code) (Q : State → Prop) (D : va_G) (cy : Nat → ClassId) (ad : Nat → Nat) (A : Nat → Prop), sf_At p s m args c own cc nL lay D cy ad A sf_T → (∀ w ∈ sf_N, va_Nw w s) →
    ∀ (L : sf_L) (st : List Value) (σ : sf_S) (K : List Value → sf_S → Option ρ) (r : ρ), j st σ K = some r → (∀ st2 σ2, K st2 σ2 = some r → sf_W p l e0 rm s m args below meth c Q nL lay D cy ad A (pc + 3) L st2 σ2) → sf_W p l e0 rm s m args below meth c Q nL lay D cy ad A pc L st σ
def sf_JO {ρ : Type} (l : Launch) (own : String) (cc : ByteArray) (nL : Nat) (rm : Room) (lay : sf_Lay) (J : List (Nat × sf_J ρ)) : Prop := ∀ q ∈ J, sf_JE l own cc nL rm lay q.1 q.2
theorem sf_JO_nil {ρ : Type} {l : Launch} {own : String} {cc : ByteArray} {nL : Nat} {rm : Room} {lay : sf_Lay} : sf_JO (ρ := ρ) l own cc nL rm lay [] := fun _ h => absurd h List.not_mem_nil
theorem sf_JO_cons {ρ : Type} {l : Launch} {own : String} {cc : ByteArray} {nL : Nat} {rm : Room} {lay : sf_Lay} {pc : Nat} {j : sf_J ρ} {J : List (Nat × sf_J ρ)} (h : sf_JE l own cc nL rm lay pc j) (h2 : sf_JO l own cc nL rm lay J) : sf_JO l own cc nL rm lay ((pc, j) :: J) := List.forall_mem_cons.mpr ⟨h, h2⟩
def sf_jG {ρ τ : Type} (lay : sf_Lay) (cs : List Nat) (n : Nat) (g : List Value → sf_S → Option τ) (tv : τ → sf_Q) : sf_J ρ := fun st σ K => sf_pop n [] st fun av r => match sf_rc lay cs av r with
  | true => (g av σ).bind fun u => K ((tv u).1.toList ++ r) (tv u).2
  | false => none
/-- what a call hands over -/
theorem sf_pre {lay : sf_Lay} {D : va_G} {cy : Nat → ClassId} {ad : Nat → Nat} {s : State} {H : Heap} {av : List Value} {σ : sf_S} (hP : va_P D vwCl (sf_wd lay ad cy σ) H) (hK : va_K D vwCl (sf_ty cy) s) (hN : ∀ w ∈ sf_N, va_Nw w s) : ∀ U : State, U.heap = H → s.WarmedH U.vm → sf_Pc lay D cy ad H.size av σ (av.map (sf_v ad)).toArray U :=
  fun U hU hW => ⟨rfl, by rw [hU], by rw [hU]; exact hP, va_K.moved hW.alike hK, sf_N_warm hW hN⟩
theorem sf_pop_inv {ρ : Type} {f : List Value → List Value → Option ρ} {r : ρ} : ∀ (n : Nat) (acc st : List Value), sf_pop n acc st f = some r → n ≤ st.length ∧ f ((st.take n).reverse ++ acc) (st.drop n) = some r
  | 0, acc, st, h => ⟨Nat.zero_le _, by simpa [sf_pop] using h⟩
  | n + 1, acc, [], h => by simp [sf_pop] at h
  | n + 1, acc, v :: st, h => by
    obtain ⟨h1, h2⟩ := sf_pop_inv n (v :: acc) st (by simpa [sf_pop] using h)
    exact ⟨by simp; omega, by simpa using h2⟩
theorem sf_jG_inv {ρ τ : Type} {lay : sf_Lay} {cs : List Nat} {n : Nat} {g : List Value → sf_S → Option τ} {tv : τ → sf_Q} {st : List Value} {σ : sf_S} {K : List Value → sf_S → Option ρ} {r : ρ} (h : sf_jG lay cs n g tv st σ K = some r) : (n ≤ st.length ∧ sf_rc lay cs (st.take n).reverse (st.drop n) = true) ∧ ∃ u, (g (st.take n).reverse σ).map tv = some u ∧ K (u.1.toList ++ st.drop n) u.2 = some r := by
  unfold sf_jG at h
  obtain ⟨h1, h⟩ := sf_pop_inv n [] st h
  rw [List.append_nil] at h
  split at h
  · rename_i hr
    refine ⟨⟨h1, hr⟩, ?_⟩
    cases hg : g (st.take n).reverse σ with
    | none => rw [hg] at h; cases h
    | some u =>
      rw [hg] at h
      exact ⟨tv u, rfl, h⟩
  · cases h
theorem sf_rc_inv {lay : sf_Lay} {cs : List Nat} {n : Nat} {st : List Value} (h : n ≤ st.length ∧ sf_rc lay cs (st.take n).reverse (st.drop n) = true) : n ≤ st.length ∧ ((st.drop n).map fun v => v.category).sum ≤ 8 ∧ (cs = [] ∨ (1 ≤ n ∧ ∃ q ci fs, st[n - 1]? = some (.ref q) ∧ lay[q]? = some (.inl (ci, fs)) ∧ ci ∈ cs)) := by
  obtain ⟨h1, h⟩ := h
  unfold sf_rc at h
  split at h
  · cases h
  · rename_i h4
    refine ⟨h1, sf_cw_ok _ _ h4, ?_⟩
    split at h
    · exact Or.inl rfl
    · split at h
      · rename_i q tl hq
        split at h
        · rename_i ci fs hl
          obtain ⟨z, hz, e⟩ := List.any_eq_true.mp h
          rw [Nat.eq_of_beq_eq_true e] at hz
          have hn : 1 ≤ n := by
            cases n with
            | zero => simp at hq
            | succ n => omega
          have h6 : (st.take n).reverse[0]? = some (.ref q) := by rw [hq]; rfl
          have hlen : (st.take n).length = n := by simp; omega
          rw [List.getElem?_reverse (by omega), hlen, List.getElem?_take_of_lt (by omega)] at h6
          exact Or.inr ⟨hn, q, ci, fs, by simpa using h6, hl, hz⟩
        · cases h
      · cases h
theorem sf_stack {n : Nat} {st : List Value} {q : Nat} (hn : 1 ≤ n) (hl : n ≤ st.length) (h : st[n - 1]? = some (.ref q)) (ad : Nat → Nat) : (st.take n).reverse = .ref q :: (st.take (n - 1)).reverse ∧ st.map (sf_v ad) = ((st.take (n - 1)).reverse.map (sf_v ad)).reverse ++ .ref (ad q) :: (st.drop n).map (sf_v ad) := by
  have h1 : st.take n = st.take (n - 1) ++ [.ref q] := by
    have : n = (n - 1) + 1 := by omega
    rw [this, List.take_succ, Nat.add_sub_cancel, h]
    rfl
  refine ⟨by rw [h1, List.reverse_append]; rfl, ?_⟩
  have h2 : st = st.take n ++ st.drop n := (List.take_append_drop n st).symm
  conv => lhs; rw [h2, h1]
  simp [sf_v]
/-- the words of a call of a method y, whose code is known -/
def sf_MW (y : MethodName) (cc : ByteArray) (nL : Nat) (ret : Option FieldType) : Prop := Cond.code y cc nL ret ∈ sf_T ∧ Cond.initialized y.cls ∈ sf_T ∧ y.cls ≠ "java/lang/invoke/MethodHandle" ∧ y.cls ≠ "java/lang/invoke/VarHandle"
def sf_RM (rm rm2 : Room) (nL2 : Nat) : Prop := rm2.frames + 1 ≤ rm.frames ∧ 8 + (nL2 + 11) + rm2.locals ≤ rm.locals ∧ rm.cells = 0 ∧ rm.slots = 0
theorem sf_je_V {ρ τ : Type} {l : Launch} {own : String} {cc cc2 : ByteArray} {nL nL2 idx pc n : Nat} {rm rm2 : Room} {lay : sf_Lay} {y : MethodName} {ret : Option FieldType} {cs : List Nat} {g : List Value → sf_S → Option τ} {tv : τ → sf_Q} (hC : sf_C l lay y cc2 nL2 ret rm2 fun av σ => (g av σ).map tv) (hw : sf_MW y cc2 nL2 ret) (hd : decode cc pc = .ok (.invokevirtual idx, 3)) (hl : Cond.methodLink own idx y ∈ sf_T) (hi : Cond.instanceMethod y ∈ sf_T) (hsel : Cond.selects y.cls y y ∈ sf_T)
    (hn : (parseMethodDescriptor y.desc).map (fun d => d.parameters.length) = some (n - 1)) (hn1 : 1 ≤ n) (hcs : cs ≠ []) (hcl : ∀ ci ∈ cs, ∃ T N, vwCl[ci]? = some (y.cls, T, N)) (hrm : sf_RM rm rm2 nL2) : sf_JE (ρ := ρ) l own cc nL rm lay pc (sf_jG lay cs n g tv) := by
  intro p e0 s m args below meth c Q D cy ad A h0 hN L st σ K r hj hk
  obtain ⟨hx, hb, hml, hown, hts, hK, hinj, hA, hAs⟩ := h0
  obtain ⟨hrc, u, hu, hr⟩ := sf_jG_inv hj
  obtain ⟨hlen, hrest, hq⟩ := sf_rc_inv hrc
  obtain ⟨-, q, ci, fs, hq1, hq2, hq3⟩ := hq.resolve_left hcs
  obtain ⟨T, N, hT⟩ := hcl ci hq3
  obtain ⟨e1, e2⟩ := sf_stack hn1 hlen hq1 ad
  obtain ⟨hc0, hs0, hMet⟩ := hC
  obtain ⟨w1, w2, w3, w4⟩ := hw
  obtain ⟨r1, r2, r3, r4⟩ := hrm
  refine sf_behind (rest := st.drop n) (r := u) (a := (Value.ref (ad q) :: ((st.take (n - 1)).reverse.map (sf_v ad))).toArray) hA hAs (fun H locs ls hl0 hP hS => ?_) (hk _ _ hr)
  have hM := hMet D cy ad H.size _ σ u hinj hu
  have hsz : (((st.take (n - 1)).reverse.map (sf_v ad)).length) = n - 1 := by simp; omega
  have cw : CallW rm s args own y.cls idx y cc2 nL2 ret (Cond.code y cc2 nL2 ret :: sf_T) rm2 0 0 (n - 1) :=
    ⟨callB_of (n - 1) hts (sf_T_code w1) rfl hc0 hs0 (hts _ w2) (hts _ hl) ⟨w3, w4, hn⟩ ⟨r1, r2⟩, hts _ hi, hts _ hsel⟩
  have hpre : PreV s H y.cls (ad q) (sf_Pc lay D cy ad H.size (st.take n).reverse σ) ((st.take (n - 1)).reverse.map (sf_v ad)) := by
    refine ⟨sf_pc_blind, va_recv hK hP hT (sf_wd_at hq2), fun U hU hW => ?_⟩
    have := sf_pre (av := (st.take n).reverse) hP hK hN U hU hW
    rw [e1] at this
    rw [e1]
    exact this
  exact va_runV (As := (st.take (n - 1)).reverse.map (sf_v ad)) (rest := (st.drop n).map (sf_v ad)) ⟨hx, hb, hml, hown, hts⟩ hM cw hpre rfl hsz hl0.1 e2 (lv_room (sf_cat4 ad _ hrest)) hd ⟨by rw [r3]; exact Nat.zero_le _, by rw [r4]; exact Nat.zero_le _⟩
end
section
/-! the other kinds of calls; a method's contract out of its code -/
theorem sf_je_N {ρ τ : Type} {l : Launch} {own : String} {cc cc2 : ByteArray} {nL nL2 idx pc n : Nat} {rm rm2 : Room} {lay : sf_Lay} {y : MethodName} {ret : Option FieldType} {cs : List Nat} {g : List Value → sf_S → Option τ} {tv : τ → sf_Q} (host : String) (hC : sf_C l lay y cc2 nL2 ret rm2 fun av σ => (g av σ).map tv) (hw : sf_MW y cc2 nL2 ret) (hd : decode cc pc = .ok (.invokevirtual idx, 3)) (hl : Cond.methodLinkNest own idx y host ∈ sf_N) (hi : Cond.instanceMethod y ∈ sf_T) (hsel : Cond.selects y.cls y y ∈ sf_T)
    (hn : (parseMethodDescriptor y.desc).map (fun d => d.parameters.length) = some (n - 1)) (hn1 : 1 ≤ n) (hcs : cs ≠ []) (hcl : ∀ ci ∈ cs, ∃ T N, vwCl[ci]? = some (y.cls, T, N)) (hrm : sf_RM rm rm2 nL2) : sf_JE (ρ := ρ) l own cc nL rm lay pc (sf_jG lay cs n g tv) := by
  intro p e0 s m args below meth c Q D cy ad A h0 hN L st σ K r hj hk
  obtain ⟨hx, hb, hml, hown, hts, hK, hinj, hA, hAs⟩ := h0
  obtain ⟨hrc, u, hu, hr⟩ := sf_jG_inv hj
  obtain ⟨hlen, hrest, hq⟩ := sf_rc_inv hrc
  obtain ⟨-, q, ci, fs, hq1, hq2, hq3⟩ := hq.resolve_left hcs
  obtain ⟨T, N, hT⟩ := hcl ci hq3
  obtain ⟨e1, e2⟩ := sf_stack hn1 hlen hq1 ad
  obtain ⟨hc0, hs0, hMet⟩ := hC
  obtain ⟨w1, w2, w3, w4⟩ := hw
  obtain ⟨r1, r2, r3, r4⟩ := hrm
  refine sf_behind (rest := st.drop n) (r := u) (a := (Value.ref (ad q) :: ((st.take (n - 1)).reverse.map (sf_v ad))).toArray) hA hAs (fun H locs ls hl0 hP hS => ?_) (hk _ _ hr)
  have hM := hMet D cy ad H.size _ σ u hinj hu
  have hsz : (((st.take (n - 1)).reverse.map (sf_v ad)).length) = n - 1 := by simp; omega
  have cw : va_CN rm s args own idx y host cc2 nL2 ret (Cond.code y cc2 nL2 ret :: sf_T) rm2 0 0 (n - 1) :=
    va_cnB (n - 1) hts (sf_T_code w1) rfl hc0 hs0 (hN _ hl) (hts _ w2) ⟨w3, w4, hn⟩ ⟨r1, r2⟩
  have hpre : PreV s H y.cls (ad q) (sf_Pc lay D cy ad H.size (st.take n).reverse σ) ((st.take (n - 1)).reverse.map (sf_v ad)) := by
    refine ⟨sf_pc_blind, va_recv hK hP hT (sf_wd_at hq2), fun U hU hW => ?_⟩
    have := sf_pre (av := (st.take n).reverse) hP hK hN U hU hW
    rw [e1] at this
    rw [e1]
    exact this
  exact va_runVN (As := (st.take (n - 1)).reverse.map (sf_v ad)) (rest := (st.drop n).map (sf_v ad)) ⟨hx, hb, hml, hown, hts⟩ hM ⟨cw, hts _ hi, hts _ hsel⟩ hpre rfl hsz hl0.1 e2 (lv_room (sf_cat4 ad _ hrest)) hd ⟨by rw [r3]; exact Nat.zero_le _, by rw [r4]; exact Nat.zero_le _⟩
theorem sf_je_U {ρ τ : Type} {l : Launch} {own : String} {cc cc2 : ByteArray} {nL nL2 idx pc n : Nat} {rm rm2 : Room} {lay : sf_Lay} {x y : MethodName} {ret : Option FieldType} {cs : List Nat} {g : List Value → sf_S → Option τ} {tv : τ → sf_Q} (hC : sf_C l lay y cc2 nL2 ret rm2 fun av σ => (g av σ).map tv) (hw : sf_MW y cc2 nL2 ret) (hd : decode cc pc = .ok (.invokevirtual idx, 3)) (hl : Cond.methodLink own idx x ∈ sf_T) (hi : Cond.instanceMethod y ∈ sf_T) (hsm : Cond.sameMethod x.cls y.cls x.name x.desc ∈ sf_T) (hyx : y = ⟨y.cls, x.name, x.desc⟩)
    (hn : (parseMethodDescriptor x.desc).map (fun d => d.parameters.length) = some (n - 1)) (hn1 : 1 ≤ n) (hcs : cs ≠ []) (hcl : ∀ ci ∈ cs, ∃ C T N, vwCl[ci]? = some (C, T, N) ∧ Cond.selects C x y ∈ sf_T) (hrm : sf_RM rm rm2 nL2) : sf_JE (ρ := ρ) l own cc nL rm lay pc (sf_jG lay cs n g tv) := by
  intro p e0 s m args below meth c Q D cy ad A h0 hN L st σ K r hj hk
  obtain ⟨hx, hb, hml, hown, hts, hK, hinj, hA, hAs⟩ := h0
  obtain ⟨hrc, u, hu, hr⟩ := sf_jG_inv hj
  obtain ⟨hlen, hrest, hq⟩ := sf_rc_inv hrc
  obtain ⟨-, q, ci, fs, hq1, hq2, hq3⟩ := hq.resolve_left hcs
  obtain ⟨C, T, N, hT, hsel⟩ := hcl ci hq3
  obtain ⟨e1, e2⟩ := sf_stack hn1 hlen hq1 ad
  obtain ⟨hc0, hs0, hMet⟩ := hC
  obtain ⟨w1, w2, w3, w4⟩ := hw
  obtain ⟨r1, r2, r3, r4⟩ := hrm
  refine sf_behind (rest := st.drop n) (r := u) (a := (Value.ref (ad q) :: ((st.take (n - 1)).reverse.map (sf_v ad))).toArray) hA hAs (fun H locs ls hl0 hP hS => ?_) (hk _ _ hr)
  have hM := hMet D cy ad H.size _ σ u hinj hu
  have hsz : (((st.take (n - 1)).reverse.map (sf_v ad)).length) = n - 1 := by simp; omega
  have cw : va_CU rm s args own C y.cls idx x y cc2 nL2 ret (Cond.code y cc2 nL2 ret :: sf_T) rm2 0 0 (n - 1) := by
    refine ⟨⟨hc0, hs0, r1, r2, pay_in hts (sf_T_code w1), List.mem_cons_self⟩, hts _ w1, hts _ w2, ⟨w3, w4⟩, fun sig h => ?_, hts _ hl, hts _ hsm, ?_, hts _ hsel, hts _ hi⟩
    · rw [h] at hn
      exact (Option.some.inj hn).symm
    · rw [← hyx]
      exact va_Decl.of (hts _ hi) (hts _ w1)
  have hpre : PreV s H C (ad q) (sf_Pc lay D cy ad H.size (st.take n).reverse σ) ((st.take (n - 1)).reverse.map (sf_v ad)) := by
    refine ⟨sf_pc_blind, va_recv hK hP hT (sf_wd_at hq2), fun U hU hW => ?_⟩
    have := sf_pre (av := (st.take n).reverse) hP hK hN U hU hW
    rw [e1] at this
    rw [e1]
    exact this
  exact va_runU (As := (st.take (n - 1)).reverse.map (sf_v ad)) (rest := (st.drop n).map (sf_v ad)) ⟨hx, hb, hml, hown, hts⟩ hM cw hpre rfl hsz hl0.1 e2 (lv_room (sf_cat4 ad _ hrest)) hd ⟨by rw [r3]; exact Nat.zero_le _, by rw [r4]; exact Nat.zero_le _⟩
theorem sf_stackS (n : Nat) (st : List Value) (ad : Nat → Nat) : st.map (sf_v ad) = ((st.take n).reverse.map (sf_v ad)).reverse ++ (st.drop n).map (sf_v ad) := by
  conv => lhs; rw [← List.take_append_drop n st]
  simp
theorem sf_je_S {ρ τ : Type} {l : Launch} {own : String} {cc cc2 : ByteArray} {nL nL2 idx pc n : Nat} {rm rm2 : Room} {lay : sf_Lay} {y : MethodName} {ret : Option FieldType} {g : List Value → sf_S → Option τ} {tv : τ → sf_Q} (hC : sf_C l lay y cc2 nL2 ret rm2 fun av σ => (g av σ).map tv) (hw : sf_MW y cc2 nL2 ret) (hd : decode cc pc = .ok (.invokestatic idx, 3)) (hl : Cond.methodLink own idx y ∈ sf_T) (hi : Cond.static y ∈ sf_T)
    (hn : (parseMethodDescriptor y.desc).map (fun d => d.parameters.length) = some n) (hrm : sf_RM rm rm2 nL2) : sf_JE (ρ := ρ) l own cc nL rm lay pc (sf_jG lay [] n g tv) := by
  intro p e0 s m args below meth c Q D cy ad A h0 hN L st σ K r hj hk
  obtain ⟨hx, hb, hml, hown, hts, hK, hinj, hA, hAs⟩ := h0
  obtain ⟨hrc, u, hu, hr⟩ := sf_jG_inv hj
  obtain ⟨hlen, hrest, -⟩ := sf_rc_inv hrc
  obtain ⟨hc0, hs0, hMet⟩ := hC
  obtain ⟨w1, w2, w3, w4⟩ := hw
  obtain ⟨r1, r2, r3, r4⟩ := hrm
  refine sf_behind (rest := st.drop n) (r := u) (a := ((st.take n).reverse.map (sf_v ad)).toArray) hA hAs (fun H locs ls hl0 hP hS => ?_) (hk _ _ hr)
  have hM := hMet D cy ad H.size _ σ u hinj hu
  have hsz : (((st.take n).reverse.map (sf_v ad)).length) = n := by simp; omega
  have cw : CallB rm s args own idx y cc2 nL2 ret (Cond.code y cc2 nL2 ret :: sf_T) rm2 0 0 n := callB_of n hts (sf_T_code w1) rfl hc0 hs0 (hts _ w2) (hts _ hl) ⟨w3, w4, hn⟩ ⟨r1, r2⟩
  have hpre : PreS s H (sf_Pc lay D cy ad H.size (st.take n).reverse σ) ((st.take n).reverse.map (sf_v ad)) := ⟨sf_pc_blind, sf_pre (av := (st.take n).reverse) hP hK hN⟩
  exact va_runS (As := (st.take n).reverse.map (sf_v ad)) (rest := (st.drop n).map (sf_v ad)) ⟨hx, hb, hml, hown, hts⟩ hM ⟨cw, hts _ hi⟩ hpre rfl hsz hl0.1 (sf_stackS n st ad) (lv_room (sf_cat4 ad _ hrest)) hd ⟨by rw [r3]; exact Nat.zero_le _, by rw [r4]; exact Nat.zero_le _⟩
theorem sf_je_SN {ρ τ : Type} {l : Launch} {own : String} {cc cc2 : ByteArray} {nL nL2 idx pc n : Nat} {rm rm2 : Room} {lay : sf_Lay} {y : MethodName} {ret : Option FieldType} {g : List Value → sf_S → Option τ} {tv : τ → sf_Q} (host : String) (hC : sf_C l lay y cc2 nL2 ret rm2 fun av σ => (g av σ).map tv) (hw : sf_MW y cc2 nL2 ret) (hd : decode cc pc = .ok (.invokestatic idx, 3)) (hl : Cond.methodLinkNest own idx y host ∈ sf_N) (hi : Cond.static y ∈ sf_T)
    (hn : (parseMethodDescriptor y.desc).map (fun d => d.parameters.length) = some n) (hrm : sf_RM rm rm2 nL2) : sf_JE (ρ := ρ) l own cc nL rm lay pc (sf_jG lay [] n g tv) := by
  intro p e0 s m args below meth c Q D cy ad A h0 hN L st σ K r hj hk
  obtain ⟨hx, hb, hml, hown, hts, hK, hinj, hA, hAs⟩ := h0
  obtain ⟨hrc, u, hu, hr⟩ := sf_jG_inv hj
  obtain ⟨hlen, hrest, -⟩ := sf_rc_inv hrc
  obtain ⟨hc0, hs0, hMet⟩ := hC
  obtain ⟨w1, w2, w3, w4⟩ := hw
  obtain ⟨r1, r2, r3, r4⟩ := hrm
  refine sf_behind (rest := st.drop n) (r := u) (a := ((st.take n).reverse.map (sf_v ad)).toArray) hA hAs (fun H locs ls hl0 hP hS => ?_) (hk _ _ hr)
  have hM := hMet D cy ad H.size _ σ u hinj hu
  have hsz : (((st.take n).reverse.map (sf_v ad)).length) = n := by simp; omega
  have cw : va_CN rm s args own idx y host cc2 nL2 ret (Cond.code y cc2 nL2 ret :: sf_T) rm2 0 0 n := va_cnB n hts (sf_T_code w1) rfl hc0 hs0 (hN _ hl) (hts _ w2) ⟨w3, w4, hn⟩ ⟨r1, r2⟩
  have hpre : PreS s H (sf_Pc lay D cy ad H.size (st.take n).reverse σ) ((st.take n).reverse.map (sf_v ad)) := ⟨sf_pc_blind, sf_pre (av := (st.take n).reverse) hP hK hN⟩
  exact va_runSN (As := (st.take n).reverse.map (sf_v ad)) (rest := (st.drop n).map (sf_v ad)) ⟨hx, hb, hml, hown, hts⟩ hM ⟨cw, hts _ hi, trivial⟩ hpre rfl hsz hl0.1 (sf_stackS n st ad) (lv_room (sf_cat4 ad _ hrest)) hd ⟨by rw [r3]; exact Nat.zero_le _, by rw [r4]; exact Nat.zero_le _⟩
/-- Math's own -/
def sf_RB (rm : Room) : Prop := 1 ≤ rm.frames ∧ 63 ≤ rm.locals ∧ rm.cells = 0 ∧ rm.slots = 0
theorem sf_room4 {r : List Value} {ad : Nat → Nat} (h : sf_l4 r = true) : ((r.map (sf_v ad)).map fun v => v.category).sum ≤ 8 := sf_cat4 ad _ (sf_cw_ok _ _ h)
theorem sf_je_max {ρ : Type} {l : Launch} {own : String} {cc : ByteArray} {nL idx pc : Nat} {rm : Room} {lay : sf_Lay} (hd : decode cc pc = .ok (.invokestatic idx, 3)) (hl : Cond.methodLink own idx Lib.Math.max.name ∈ sf_T) (w1 : Cond.static Lib.Math.max.name ∈ sf_T) (w2 : Cond.initialized "java/lang/Math" ∈ sf_T) (w3 : Cond.code Lib.Math.max.name Lib.Math.max.code 2 (some .int) ∈ sf_T) (hrm : sf_RB rm) : sf_JE (ρ := ρ) l own cc nL rm lay pc sf_jmax := by
  intro p e0 s m args below meth c Q D cy ad A h0 hN L st σ K r hj hk
  obtain ⟨hx, hb, hml, hown, hts, hK, hinj, hA, hAs⟩ := h0
  obtain ⟨r1, r2, r3, r4⟩ := hrm
  simp only [sf_jmax] at hj
  split at hj
  · split at hj
    · rename_i hlen
      refine fun H locs ls hl0 hP hS => va_mmax hx hb (hml.trans hl0.1.symm) hown (hts _ hl) (hts _ w1) (hts _ w2) (hts _ w3) r1 ?_ (Nat.zero_le _) (Nat.zero_le _) hd (hk _ _ hj H locs ls hl0 hP hS)
      have := sf_room4 (ad := ad) hlen
      omega
    · cases hj
  · cases hj
theorem sf_je_min {ρ : Type} {l : Launch} {own : String} {cc : ByteArray} {nL idx pc : Nat} {rm : Room} {lay : sf_Lay} (hd : decode cc pc = .ok (.invokestatic idx, 3)) (hl : Cond.methodLink own idx Lib.Math.min.name ∈ sf_T) (w1 : Cond.static Lib.Math.min.name ∈ sf_T) (w2 : Cond.initialized "java/lang/Math" ∈ sf_T) (w3 : Cond.code Lib.Math.min.name Lib.Math.min.code 2 (some .int) ∈ sf_T) (hrm : sf_RB rm) : sf_JE (ρ := ρ) l own cc nL rm lay pc sf_jmin := by
  intro p e0 s m args below meth c Q D cy ad A h0 hN L st σ K r hj hk
  obtain ⟨hx, hb, hml, hown, hts, hK, hinj, hA, hAs⟩ := h0
  obtain ⟨r1, r2, r3, r4⟩ := hrm
  simp only [sf_jmin] at hj
  split at hj
  · split at hj
    · rename_i hlen
      refine fun H locs ls hl0 hP hS => va_mmin hx hb (hml.trans hl0.1.symm) hown (hts _ hl) (hts _ w1) (hts _ w2) (hts _ w3) r1 ?_ (Nat.zero_le _) (Nat.zero_le _) hd (hk _ _ hj H locs ls hl0 hP hS)
      have := sf_room4 (ad := ad) hlen
      omega
    · cases hj
  · cases hj
theorem sf_je_maxL {ρ : Type} {l : Launch} {own : String} {cc : ByteArray} {nL idx pc : Nat} {rm : Room} {lay : sf_Lay} (hd : decode cc pc = .ok (.invokestatic idx, 3)) (hl : Cond.methodLink own idx Lib.MathLoose.max_long.x ∈ sf_T) (w1 : Cond.static Lib.MathLoose.max_long.x ∈ sf_T) (w2 : Cond.initialized "java/lang/Math" ∈ sf_T) (w3 : Cond.code Lib.MathLoose.max_long.x Lib.MathLoose.max_long.code 4 (some .long) ∈ sf_T) (hrm : sf_RB rm) : sf_JE (ρ := ρ) l own cc nL rm lay pc sf_jmaxL := by
  intro p e0 s m args below meth c Q D cy ad A h0 hN L st σ K r hj hk
  obtain ⟨hx, hb, hml, hown, hts, hK, hinj, hA, hAs⟩ := h0
  obtain ⟨r1, r2, r3, r4⟩ := hrm
  simp only [sf_jmaxL] at hj
  split at hj
  · split at hj
    · rename_i hlen
      refine fun H locs ls hl0 hP hS => va_mmax_long hx hb (hml.trans hl0.1.symm) hown (hts _ hl) (hts _ w1) (hts _ w2) (hts _ w3) r1 ?_ (Nat.zero_le _) (Nat.zero_le _) hd (hk _ _ hj H locs ls hl0 hP hS)
      have := sf_room4 (ad := ad) hlen
      omega
    · cases hj
  · cases hj
theorem sf_je_absL {ρ : Type} {l : Launch} {own : String} {cc : ByteArray} {nL idx pc : Nat} {rm : Room} {lay : sf_Lay} (hd : decode cc pc = .ok (.invokestatic idx, 3)) (hl : Cond.methodLink own idx Lib.MathLoose.abs_long.x ∈ sf_T) (w1 : Cond.static Lib.MathLoose.abs_long.x ∈ sf_T) (w2 : Cond.initialized "java/lang/Math" ∈ sf_T) (w3 : Cond.code Lib.MathLoose.abs_long.x Lib.MathLoose.abs_long.code 2 (some .long) ∈ sf_T) (hrm : sf_RB rm) : sf_JE (ρ := ρ) l own cc nL rm lay pc sf_jabsL := by
  intro p e0 s m args below meth c Q D cy ad A h0 hN L st σ K r hj hk
  obtain ⟨hx, hb, hml, hown, hts, hK, hinj, hA, hAs⟩ := h0
  obtain ⟨r1, r2, r3, r4⟩ := hrm
  simp only [sf_jabsL] at hj
  split at hj
  · split at hj
    · rename_i hlen
      refine fun H locs ls hl0 hP hS => va_mabs_long hx hb (hml.trans hl0.1.symm) hown (hts _ hl) (hts _ w1) (hts _ w2) (hts _ w3) r1 ?_ (Nat.zero_le _) (Nat.zero_le _) hd (hk _ _ hj H locs ls hl0 hP hS)
      have := sf_room4 (ad := ad) hlen
      omega
    · cases hj
  · cases hj
theorem sf_je_cpy {ρ : Type} {l : Launch} {own : String} {cc : ByteArray} {nL idx pc : Nat} {rm : Room} {lay : sf_Lay} (hd : decode cc pc = .ok (.invokestatic idx, 3)) (hl : Cond.methodLink own idx arraycopyName ∈ sf_T) (w1 : Cond.native arraycopyName ∈ sf_T) (w2 : Cond.static arraycopyName ∈ sf_T) (w3 : Cond.initialized "java/lang/System" ∈ sf_T) (hrm : sf_RB rm) (hwords : 8 + (nativeFrameWords "java/lang/System" "arraycopy" 5 + 11) ≤ rm.locals) : sf_JE (ρ := ρ) l own cc nL rm lay pc (sf_jcpy lay) := by
  intro p e0 s m args below meth c Q D cy ad A h0 hN L st σ K r hj hk
  obtain ⟨hx, hb, hml, hown, hts, hK, hinj, hA, hAs⟩ := h0
  obtain ⟨r1, r2, r3, r4⟩ := hrm
  simp only [sf_jcpy] at hj
  split at hj
  · split at hj
    · rename_i n j q i q2 r0 hlen
      simp only [Bool.and_eq_true] at hlen
      obtain ⟨hlen, hqq⟩ := hlen
      have hqq := Nat.eq_of_beq_eq_true hqq
      subst hqq
      obtain ⟨t, N, hq, hj⟩ := sf_ar_inv hj
      split at hj
      · split at hj
        · rename_i hin
          simp only [Bool.and_eq_true, Bool.not_eq_true', decide_eq_false_iff_not] at hin
          obtain ⟨⟨⟨⟨z1, z2⟩, z3⟩, z4⟩, z5⟩ := hin
          intro H locs ls hl0 hP hS
          have hD : va_D A (sf_wd lay ad cy σ) := sf_wd_D cy σ hinj hA
          refine va_copyi hx hb (hml.trans hl0.1.symm) hown (hts _ hl) (hts _ w1) (hts _ w2) (hts _ w3) hK hP hD hS q q 0 0 (sf_wd_at hq) (sf_wd_at hq) rfl rfl rfl z1 z2 z3 (Nat.le_of_ble_eq_true z4) (Nat.le_of_ble_eq_true z5) (fun _ _ => rfl) r1 ?_ hd (fun H1 locs1 hP1 _ hS1 => hk _ _ hj H1 locs1 ls hl0 ?_ hS1)
          · have := sf_room4 (ad := ad) hlen
            omega
          · rw [← sf_wd_row (σ := σ) (f := va_cpy (σ q) (σ q) i.toNatClampNeg j.toNatClampNeg n.toNatClampNeg) hq (by funext b; simp [sf_cpy]) (fun a ha => by funext b; simp [sf_cpy, ha])]
            exact hP1
        · cases hj
      · cases hj
    · cases hj
  · cases hj
/-! a method's contract out of its code -/
abbrev sf_ent : Nat → List Value → sf_L
  | _, [] => []
  | i, .long x :: r => (i, some (.long x)) :: sf_ent (i + 2) r
  | i, .double x :: r => (i, some (.double x)) :: sf_ent (i + 2) r
  | i, v :: r => (i, some v) :: sf_ent (i + 1) r
theorem sf_ent_ok (ad : Nat → Nat) : ∀ (av : List Value) (i j : Nat) (v : Value), sf_get (sf_ent i av) j = some v → i ≤ j ∧ (lg_sl (av.map (sf_v ad)))[j - i]? = some (.val (sf_v ad v)) := by
  intro av
  induction av with
  | nil => intro i j v h; simp [sf_ent, sf_get] at h
  | cons x r ih =>
    intro i j v h
    have one : x.category = 1 → sf_ent i (x :: r) = (i, some x) :: sf_ent (i + 1) r → i ≤ j ∧ (lg_sl ((x :: r).map (sf_v ad)))[j - i]? = some (.val (sf_v ad v)) := by
      intro hc he
      have e : lg_sl ((x :: r).map (sf_v ad)) = .val (sf_v ad x) :: lg_sl (r.map (sf_v ad)) := by
        simp [lg_sl, List.flatMap_cons, sf_v_cat, hc]
      rw [e]
      rw [he] at h
      rcases sf_get_put h with ⟨h1, h2⟩ | ⟨-, h2, -⟩
      · cases h2
        subst h1
        exact ⟨Nat.le_refl _, by rw [Nat.sub_self]; rfl⟩
      · obtain ⟨h3, h4⟩ := ih (i + 1) j v h2
        refine ⟨by omega, ?_⟩
        rw [show j - i = (j - (i + 1)) + 1 by omega]
        exact h4
    have two : x.category = 2 → sf_ent i (x :: r) = (i, some x) :: sf_ent (i + 2) r → i ≤ j ∧ (lg_sl ((x :: r).map (sf_v ad)))[j - i]? = some (.val (sf_v ad v)) := by
      intro hc he
      have e : lg_sl ((x :: r).map (sf_v ad)) = .val (sf_v ad x) :: .second :: lg_sl (r.map (sf_v ad)) := by
        simp [lg_sl, List.flatMap_cons, sf_v_cat, hc]
      rw [e]
      rw [he] at h
      rcases sf_get_put h with ⟨h1, h2⟩ | ⟨-, h2, -⟩
      · cases h2
        subst h1
        exact ⟨Nat.le_refl _, by rw [Nat.sub_self]; rfl⟩
      · obtain ⟨h3, h4⟩ := ih (i + 2) j v h2
        refine ⟨by omega, ?_⟩
        rw [show j - i = (j - (i + 2)) + 1 + 1 by omega]
        exact h4
    cases x <;> first | exact one rfl rfl | exact two rfl rfl
theorem sf_ent_LV (ad : Nat → Nat) {av : List Value} {n : Nat} (h : (lg_sl (av.map (sf_v ad))).length ≤ n) : sf_LV ((lg_sl (av.map (sf_v ad)) ++ List.replicate (n - (lg_sl (av.map (sf_v ad))).length) Slot.unset).toArray) n ad (sf_ent 0 av) := by
  obtain ⟨h1, h2, -⟩ := lv_entry (av.map (sf_v ad)) h
  refine ⟨h1, h2, fun i v hg => ?_⟩
  have := (sf_ent_ok ad av 0 i v hg).2
  rw [Nat.sub_zero] at this
  have hl := (List.getElem?_eq_some_iff.mp this).1
  simp only [List.getElem?_toArray]
  rw [List.getElem?_append_left hl]
  exact this
def sf_RH {ρ : Type} (ret : Option FieldType) (rh : Option Value → sf_S → Option ρ) (tv : ρ → sf_Q) : Prop := ∀ v σ u, rh v σ = some u → tv u = (v, σ) ∧ (∀ x, v = some (.int x) → ∃ ty, ret = some ty ∧ narrow ty (.int x) = .int x) ∧ (∀ x, v = some (.long x) → ret = some .long) ∧ (v = none → ret = none)
theorem sf_RH_I : sf_RH (some .int) sf_hI sf_vI := by
  intro v σ u h
  unfold sf_hI at h
  split at h
  · cases h
    exact ⟨rfl, fun x hx => ⟨.int, rfl, vp_nar_int x⟩, fun x hx => (by cases hx), fun hx => (by cases hx)⟩
  · cases h
theorem sf_RH_Z : sf_RH (some .boolean) sf_hZ sf_vI := by
  intro v σ u h
  unfold sf_hZ at h
  split at h
  · rename_i x
    split at h
    · rename_i h01
      cases h
      refine ⟨rfl, fun y hy => ⟨.boolean, rfl, ?_⟩, fun x hx => (by cases hx), fun hx => (by cases hx)⟩
      cases hy
      simp only [sf_01, Bool.or_eq_true, decide_eq_true_eq] at h01
      rcases h01 with rfl | rfl <;> decide +kernel
    · cases h
  · cases h
theorem sf_RH_L : sf_RH (some .long) sf_hL sf_vL := by
  intro v σ u h
  unfold sf_hL at h
  split at h
  · cases h
    exact ⟨rfl, fun x hx => (by cases hx), fun x hx => rfl, fun hx => (by cases hx)⟩
  · cases h
theorem sf_RH_V : sf_RH none sf_hV sf_vV := by
  intro v σ u h
  unfold sf_hV at h
  split at h
  · cases h
    exact ⟨rfl, fun x hx => (by cases hx), fun x hx => (by cases hx), fun _ => rfl⟩
  · cases h
def sf_mono (Wt : Nat → sf_L → List Value → sf_S → Prop) : Prop := ∀ (pc : Nat) (L0 L : sf_L) (st : List Value) (σ : sf_S), (∀ i v, sf_get L0 i = some v → sf_get L i = some v) → Wt pc L0 st σ → Wt pc L st σ
theorem sf_met {ρ : Type} {l : Launch} {y : MethodName} {cc : ByteArray} {nL : Nat} {ret : Option FieldType} {rm : Room} {lay : sf_Lay} {rh : Option Value → sf_S → Option ρ} {tv : ρ → sf_Q} {tab : List (Nat × sf_E)} {J : List (Nat × sf_J ρ)} {fl : sf_FL} {cl : List (Nat × Value)} {g : List Value → sf_S → Option ρ} (hy : plainName y.cls = true) (hrm : rm.cells = 0 ∧ rm.slots = 0) (hrh : sf_RH ret rh tv) (hchk : sf_chk cc nL fl cl tab = true)
    (hfl : ∀ (s : State) (args : Array Value), (∀ w ∈ sf_T, w.before args s = true) → (∀ w ∈ sf_N, va_Nw w s) → ∀ q ∈ fl, sf_FF s args sf_T y.cls q.1 q.2.1 q.2.2.1 q.2.2.2)
    (hcl : ∀ (s : State) (args : Array Value), (∀ w ∈ sf_T, w.before args s = true) → ∀ q ∈ cl, sf_CC s args y.cls q.1 q.2) (hJ : sf_JO l y.cls cc nL rm lay J)
    (hrun : ∀ (Wt : Nat → sf_L → List Value → sf_S → Prop) (Post : ρ → Prop), sf_Snd Wt lay rh J tab Post → sf_mono Wt → ∀ av σ u, g av σ = some u → Post u → (∀ ad, (lg_sl (av.map (sf_v ad))).length ≤ nL) ∧ Wt 0 (sf_ent 0 av) [] σ) : sf_C l lay y cc nL ret rm fun av σ => (g av σ).map tv := by
  refine ⟨hrm.1, hrm.2, fun D cy ad sz av σ r hinj hr => ?_⟩
  cases hg : g av σ with
  | none => simp [hg] at hr
  | some u =>
  simp only [hg, Option.map_some, Option.some.injEq] at hr
  subst hr
  refine Met.ofW (cc := cc) (maxL := nL) (ret := ret) hy rfl ?_
  intro p e s m args below meth c s₁ B hml hv
  obtain ⟨rfl, hsz, hP, hK, hN⟩ := hv
  have hx := B.exec
  have hb := B.bytes
  have hr := B.returns
  have hts0 := atoms_spec (ws := Cond.code y cc nL ret :: sf_T) B.pre
  have hts : ∀ w ∈ sf_T, w.before (av.map (sf_v ad)).toArray s = true := fun w h => hts0 w (List.mem_cons_of_mem _ h)
  have hown : s.vm.findClass y.cls = some m.cls := findClass_of_methodNamed B.named
  have hlocks := B.notSynchronized
  subst hsz
  have h0 : sf_At p s m (av.map (sf_v ad)).toArray c y.cls cc nL lay D cy ad (sf_A lay ad s.heap.size) sf_T := ⟨hx, hb, hml, hown, hts, hK, hinj, fun k hk => Or.inl ⟨k, hk, rfl⟩, fun q hq => Or.inr hq⟩
  have hsnd := sf_step_ok (l := l) (e0 := e) (R := rm) (below := below) (meth := meth) (Q := MQ below (sf_Qc lay D cy ad (sf_A lay ad s.heap.size) (tv u)) (av.map (sf_v ad)).toArray s 0 0 (sf_A lay ad s.heap.size)) (rh := rh) (J := J) (tab := tab) (Post := fun z => z = u) h0 hchk (hfl s _ hts hN) (hcl s _ hts)
    (fun pc j L st σ2 K r hj hjj hk => hJ (pc, j) (sf_as_mem hj) p e s m _ below meth c _ D cy ad _ h0 hN L st σ2 K r hjj hk)
    (by
      intro v σ2 r pc L ins hrv hpost hd hins
      subst hpost
      obtain ⟨htv, hI, hL, hV⟩ := hrh v σ2 r hrv
      intro H locs ls hl hP2 hS
      have hq : ∀ t : State, t.heap = H → s.WarmedH t.vm → sf_Qc lay D cy ad (sf_A lay ad s.heap.size) (tv r) (av.map (sf_v ad)).toArray s (.returned (v.map (sf_v ad))) t := by
        intro t ht hW
        rw [htv]
        exact ⟨⟨rfl, by rw [ht]; exact hP2⟩, hS.F ht⟩
      rcases hins with ⟨rfl, x, rfl⟩ | ⟨rfl, x, rfl⟩ | ⟨rfl, rfl⟩
      · obtain ⟨ty, h1, h2⟩ := hI x rfl
        exact W.zret hx hb (hr.trans h1) h2 hq hS.2.2 hd
      · exact W.lret hx hb (hr.trans (hL x rfl)) hq hS.2.2 hd
      · exact W.vret hx hb (hr.trans (hV rfl)) hq hS.2.2 hd)
  obtain ⟨hlen, hgo⟩ := hrun _ _ hsnd (fun pc L0 L st σ2 hm k => k.mono hm) av σ u hg rfl
  rw [lg_entry_eq]
  exact hgo s.heap [] _ (sf_ent_LV ad (hlen ad)) hP va_S.rf
end
