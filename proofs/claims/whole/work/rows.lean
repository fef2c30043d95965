section
-- ===== PART A: goes FIRST, ahead of the names: the tables' words, and 'selects' of the private methods out of them =====
/-- a private method of a class that the tables say can be made, by its rows of tables_1 -/
def lw_okq (q : MethodName × Nat) : Prop := (q.1.cls ≠ "java/lang/invoke/MethodHandle" ∧ q.1.cls ≠ "java/lang/invoke/VarHandle") ∧ Cond.instantiable q.1.cls q.2 ∈ tables_1 ∧ Cond.privateMethod q.1 ∈ tables_1 ∧ Cond.instanceMethod q.1 ∈ tables_1
theorem lw_p0 : lw_okq (⟨"StreamFuser$Reader", "append", "(I)Z"⟩, 7) := ⟨⟨by decide +kernel, by decide +kernel⟩, List.mem_of_getElem? (i := 320) (by decide +kernel), List.mem_of_getElem? (i := 396) (by decide +kernel), List.mem_of_getElem? (i := 397) (by decide +kernel)⟩
theorem lw_p1 : lw_okq (⟨"StreamFuser$Reader", "read", "()I"⟩, 7) := ⟨⟨by decide +kernel, by decide +kernel⟩, List.mem_of_getElem? (i := 320) (by decide +kernel), List.mem_of_getElem? (i := 408) (by decide +kernel), List.mem_of_getElem? (i := 409) (by decide +kernel)⟩
theorem lw_p2 : lw_okq (⟨"StreamFuser$Reader", "expect", "(I)V"⟩, 7) := ⟨⟨by decide +kernel, by decide +kernel⟩, List.mem_of_getElem? (i := 320) (by decide +kernel), List.mem_of_getElem? (i := 412) (by decide +kernel), List.mem_of_getElem? (i := 413) (by decide +kernel)⟩
theorem lw_p3 : lw_okq (⟨"StreamFuser$Reader", "readNode", "()V"⟩, 7) := ⟨⟨by decide +kernel, by decide +kernel⟩, List.mem_of_getElem? (i := 320) (by decide +kernel), List.mem_of_getElem? (i := 416) (by decide +kernel), List.mem_of_getElem? (i := 417) (by decide +kernel)⟩
theorem lw_p4 : lw_okq (⟨"StreamFuser$Reader", "peek", "()I"⟩, 7) := ⟨⟨by decide +kernel, by decide +kernel⟩, List.mem_of_getElem? (i := 320) (by decide +kernel), List.mem_of_getElem? (i := 420) (by decide +kernel), List.mem_of_getElem? (i := 421) (by decide +kernel)⟩
theorem lw_p5 : lw_okq (⟨"StreamFuser$Reader", "accept", "(Z)V"⟩, 7) := ⟨⟨by decide +kernel, by decide +kernel⟩, List.mem_of_getElem? (i := 320) (by decide +kernel), List.mem_of_getElem? (i := 433) (by decide +kernel), List.mem_of_getElem? (i := 434) (by decide +kernel)⟩
theorem lw_p6 : lw_okq (⟨"StreamFuser$Reader", "readMark", "(I)I"⟩, 7) := ⟨⟨by decide +kernel, by decide +kernel⟩, List.mem_of_getElem? (i := 320) (by decide +kernel), List.mem_of_getElem? (i := 443) (by decide +kernel), List.mem_of_getElem? (i := 444) (by decide +kernel)⟩
theorem lw_p7 : lw_okq (⟨"StreamFuser$Reader", "readNumber", "(I)I"⟩, 7) := ⟨⟨by decide +kernel, by decide +kernel⟩, List.mem_of_getElem? (i := 320) (by decide +kernel), List.mem_of_getElem? (i := 453) (by decide +kernel), List.mem_of_getElem? (i := 454) (by decide +kernel)⟩
theorem lw_p8 : lw_okq (⟨"StreamFuser$Plan", "add", "(IIII)V"⟩, 12) := ⟨⟨by decide +kernel, by decide +kernel⟩, List.mem_of_getElem? (i := 25) (by decide +kernel), List.mem_of_getElem? (i := 457) (by decide +kernel), List.mem_of_getElem? (i := 458) (by decide +kernel)⟩
theorem lw_p9 : lw_okq (⟨"StreamFuser$Reader", "expectParts", "(II)V"⟩, 7) := ⟨⟨by decide +kernel, by decide +kernel⟩, List.mem_of_getElem? (i := 320) (by decide +kernel), List.mem_of_getElem? (i := 461) (by decide +kernel), List.mem_of_getElem? (i := 462) (by decide +kernel)⟩
theorem lw_p10 : lw_okq (⟨"StreamFuser$Plan", "takeFrom", "(LStreamFuser$Plan;)V"⟩, 12) := ⟨⟨by decide +kernel, by decide +kernel⟩, List.mem_of_getElem? (i := 25) (by decide +kernel), List.mem_of_getElem? (i := 469) (by decide +kernel), List.mem_of_getElem? (i := 470) (by decide +kernel)⟩
theorem lw_p11 : lw_okq (⟨"StreamFuser$Plan", "measure", "()V"⟩, 12) := ⟨⟨by decide +kernel, by decide +kernel⟩, List.mem_of_getElem? (i := 25) (by decide +kernel), List.mem_of_getElem? (i := 474) (by decide +kernel), List.mem_of_getElem? (i := 475) (by decide +kernel)⟩
theorem lw_p12 : lw_okq (⟨"StreamFuser$Plan", "measureFromParts", "(I)V"⟩, 12) := ⟨⟨by decide +kernel, by decide +kernel⟩, List.mem_of_getElem? (i := 25) (by decide +kernel), List.mem_of_getElem? (i := 478) (by decide +kernel), List.mem_of_getElem? (i := 479) (by decide +kernel)⟩
theorem lw_p13 : lw_okq (⟨"StreamFuser$Plan", "measureParts", "(I)V"⟩, 12) := ⟨⟨by decide +kernel, by decide +kernel⟩, List.mem_of_getElem? (i := 25) (by decide +kernel), List.mem_of_getElem? (i := 483) (by decide +kernel), List.mem_of_getElem? (i := 484) (by decide +kernel)⟩
theorem lw_p14 : lw_okq (⟨"StreamFuser$Printer", "print", "()V"⟩, 3) := ⟨⟨by decide +kernel, by decide +kernel⟩, List.mem_of_getElem? (i := 107) (by decide +kernel), List.mem_of_getElem? (i := 490) (by decide +kernel), List.mem_of_getElem? (i := 491) (by decide +kernel)⟩
theorem lw_p15 : lw_okq (⟨"StreamFuser$Printer", "printNode", "(I)V"⟩, 3) := ⟨⟨by decide +kernel, by decide +kernel⟩, List.mem_of_getElem? (i := 107) (by decide +kernel), List.mem_of_getElem? (i := 494) (by decide +kernel), List.mem_of_getElem? (i := 495) (by decide +kernel)⟩
def lw_privs_1 : List (MethodName × Nat) := [(⟨"StreamFuser$Reader", "append", "(I)Z"⟩, 7), (⟨"StreamFuser$Reader", "read", "()I"⟩, 7), (⟨"StreamFuser$Reader", "expect", "(I)V"⟩, 7), (⟨"StreamFuser$Reader", "readNode", "()V"⟩, 7), (⟨"StreamFuser$Reader", "peek", "()I"⟩, 7), (⟨"StreamFuser$Reader", "accept", "(Z)V"⟩, 7), (⟨"StreamFuser$Reader", "readMark", "(I)I"⟩, 7), (⟨"StreamFuser$Reader", "readNumber", "(I)I"⟩, 7), (⟨"StreamFuser$Plan", "add", "(IIII)V"⟩, 12), (⟨"StreamFuser$Reader", "expectParts", "(II)V"⟩, 7), (⟨"StreamFuser$Plan", "takeFrom", "(LStreamFuser$Plan;)V"⟩, 12), (⟨"StreamFuser$Plan", "measure", "()V"⟩, 12), (⟨"StreamFuser$Plan", "measureFromParts", "(I)V"⟩, 12), (⟨"StreamFuser$Plan", "measureParts", "(I)V"⟩, 12), (⟨"StreamFuser$Printer", "print", "()V"⟩, 3), (⟨"StreamFuser$Printer", "printNode", "(I)V"⟩, 3)]
theorem lw_r1 : ∀ q ∈ lw_privs_1, lw_okq q := List.forall_mem_cons.mpr ⟨lw_p0, List.forall_mem_cons.mpr ⟨lw_p1, List.forall_mem_cons.mpr ⟨lw_p2, List.forall_mem_cons.mpr ⟨lw_p3, List.forall_mem_cons.mpr ⟨lw_p4, List.forall_mem_cons.mpr ⟨lw_p5, List.forall_mem_cons.mpr ⟨lw_p6, List.forall_mem_cons.mpr ⟨lw_p7, List.forall_mem_cons.mpr ⟨lw_p8, List.forall_mem_cons.mpr ⟨lw_p9, List.forall_mem_cons.mpr ⟨lw_p10, List.forall_mem_cons.mpr ⟨lw_p11, List.forall_mem_cons.mpr ⟨lw_p12, List.forall_mem_cons.mpr ⟨lw_p13, List.forall_mem_cons.mpr ⟨lw_p14, List.forall_mem_cons.mpr ⟨lw_p15, fun _ h => absurd h List.not_mem_nil⟩⟩⟩⟩⟩⟩⟩⟩⟩⟩⟩⟩⟩⟩⟩⟩
theorem lw_p16 : lw_okq (⟨"StreamFuser$Printer", "put", "(I)V"⟩, 3) := ⟨⟨by decide +kernel, by decide +kernel⟩, List.mem_of_getElem? (i := 107) (by decide +kernel), List.mem_of_getElem? (i := 499) (by decide +kernel), List.mem_of_getElem? (i := 500) (by decide +kernel)⟩
theorem lw_p17 : lw_okq (⟨"StreamFuser$Printer", "putNumber", "(I)V"⟩, 3) := ⟨⟨by decide +kernel, by decide +kernel⟩, List.mem_of_getElem? (i := 107) (by decide +kernel), List.mem_of_getElem? (i := 505) (by decide +kernel), List.mem_of_getElem? (i := 506) (by decide +kernel)⟩
theorem lw_p18 : lw_okq (⟨"StreamFuser$Plan", "has", "(I)Z"⟩, 12) := ⟨⟨by decide +kernel, by decide +kernel⟩, List.mem_of_getElem? (i := 25) (by decide +kernel), List.mem_of_getElem? (i := 517) (by decide +kernel), List.mem_of_getElem? (i := 518) (by decide +kernel)⟩
theorem lw_p19 : lw_okq (⟨"StreamFuser$Rewriter", "simplify", "(Z)V"⟩, 3) := ⟨⟨by decide +kernel, by decide +kernel⟩, List.mem_of_getElem? (i := 126) (by decide +kernel), List.mem_of_getElem? (i := 530) (by decide +kernel), List.mem_of_getElem? (i := 531) (by decide +kernel)⟩
theorem lw_p20 : lw_okq (⟨"StreamFuser$Rewriter", "place", "(Z)I"⟩, 3) := ⟨⟨by decide +kernel, by decide +kernel⟩, List.mem_of_getElem? (i := 126) (by decide +kernel), List.mem_of_getElem? (i := 535) (by decide +kernel), List.mem_of_getElem? (i := 536) (by decide +kernel)⟩
theorem lw_p21 : lw_okq (⟨"StreamFuser$Rewriter", "ruleFor", "(I)I"⟩, 3) := ⟨⟨by decide +kernel, by decide +kernel⟩, List.mem_of_getElem? (i := 126) (by decide +kernel), List.mem_of_getElem? (i := 539) (by decide +kernel), List.mem_of_getElem? (i := 540) (by decide +kernel)⟩
theorem lw_p22 : lw_okq (⟨"StreamFuser$Plan", "isNil", "(I)Z"⟩, 12) := ⟨⟨by decide +kernel, by decide +kernel⟩, List.mem_of_getElem? (i := 25) (by decide +kernel), List.mem_of_getElem? (i := 544) (by decide +kernel), List.mem_of_getElem? (i := 545) (by decide +kernel)⟩
theorem lw_p23 : lw_okq (⟨"StreamFuser$Rewriter", "ruleForTake", "(I)I"⟩, 3) := ⟨⟨by decide +kernel, by decide +kernel⟩, List.mem_of_getElem? (i := 126) (by decide +kernel), List.mem_of_getElem? (i := 549) (by decide +kernel), List.mem_of_getElem? (i := 550) (by decide +kernel)⟩
theorem lw_p24 : lw_okq (⟨"StreamFuser$Plan", "letterAt", "(I)I"⟩, 12) := ⟨⟨by decide +kernel, by decide +kernel⟩, List.mem_of_getElem? (i := 25) (by decide +kernel), List.mem_of_getElem? (i := 553) (by decide +kernel), List.mem_of_getElem? (i := 554) (by decide +kernel)⟩
theorem lw_p25 : lw_okq (⟨"StreamFuser$Rewriter", "ruleForDrop", "(I)I"⟩, 3) := ⟨⟨by decide +kernel, by decide +kernel⟩, List.mem_of_getElem? (i := 126) (by decide +kernel), List.mem_of_getElem? (i := 557) (by decide +kernel), List.mem_of_getElem? (i := 558) (by decide +kernel)⟩
theorem lw_p26 : lw_okq (⟨"StreamFuser$Plan", "secondPart", "(I)I"⟩, 12) := ⟨⟨by decide +kernel, by decide +kernel⟩, List.mem_of_getElem? (i := 25) (by decide +kernel), List.mem_of_getElem? (i := 561) (by decide +kernel), List.mem_of_getElem? (i := 562) (by decide +kernel)⟩
theorem lw_p27 : lw_okq (⟨"StreamFuser$Plan", "input", "(I)I"⟩, 12) := ⟨⟨by decide +kernel, by decide +kernel⟩, List.mem_of_getElem? (i := 25) (by decide +kernel), List.mem_of_getElem? (i := 565) (by decide +kernel), List.mem_of_getElem? (i := 566) (by decide +kernel)⟩
theorem lw_p28 : lw_okq (⟨"StreamFuser$Rewriter", "apply", "(II)V"⟩, 3) := ⟨⟨by decide +kernel, by decide +kernel⟩, List.mem_of_getElem? (i := 126) (by decide +kernel), List.mem_of_getElem? (i := 571) (by decide +kernel), List.mem_of_getElem? (i := 572) (by decide +kernel)⟩
theorem lw_p29 : lw_okq (⟨"StreamFuser$Plan", "makeNil", "(I)V"⟩, 12) := ⟨⟨by decide +kernel, by decide +kernel⟩, List.mem_of_getElem? (i := 25) (by decide +kernel), List.mem_of_getElem? (i := 575) (by decide +kernel), List.mem_of_getElem? (i := 576) (by decide +kernel)⟩
theorem lw_p30 : lw_okq (⟨"StreamFuser$Plan", "cut", "(II)V"⟩, 12) := ⟨⟨by decide +kernel, by decide +kernel⟩, List.mem_of_getElem? (i := 25) (by decide +kernel), List.mem_of_getElem? (i := 579) (by decide +kernel), List.mem_of_getElem? (i := 580) (by decide +kernel)⟩
theorem lw_p31 : lw_okq (⟨"StreamFuser$Plan", "moveNode", "(II)V"⟩, 12) := ⟨⟨by decide +kernel, by decide +kernel⟩, List.mem_of_getElem? (i := 25) (by decide +kernel), List.mem_of_getElem? (i := 583) (by decide +kernel), List.mem_of_getElem? (i := 584) (by decide +kernel)⟩
def lw_privs_2 : List (MethodName × Nat) := [(⟨"StreamFuser$Printer", "put", "(I)V"⟩, 3), (⟨"StreamFuser$Printer", "putNumber", "(I)V"⟩, 3), (⟨"StreamFuser$Plan", "has", "(I)Z"⟩, 12), (⟨"StreamFuser$Rewriter", "simplify", "(Z)V"⟩, 3), (⟨"StreamFuser$Rewriter", "place", "(Z)I"⟩, 3), (⟨"StreamFuser$Rewriter", "ruleFor", "(I)I"⟩, 3), (⟨"StreamFuser$Plan", "isNil", "(I)Z"⟩, 12), (⟨"StreamFuser$Rewriter", "ruleForTake", "(I)I"⟩, 3), (⟨"StreamFuser$Plan", "letterAt", "(I)I"⟩, 12), (⟨"StreamFuser$Rewriter", "ruleForDrop", "(I)I"⟩, 3), (⟨"StreamFuser$Plan", "secondPart", "(I)I"⟩, 12), (⟨"StreamFuser$Plan", "input", "(I)I"⟩, 12), (⟨"StreamFuser$Rewriter", "apply", "(II)V"⟩, 3), (⟨"StreamFuser$Plan", "makeNil", "(I)V"⟩, 12), (⟨"StreamFuser$Plan", "cut", "(II)V"⟩, 12), (⟨"StreamFuser$Plan", "moveNode", "(II)V"⟩, 12)]
theorem lw_r2 : ∀ q ∈ lw_privs_2, lw_okq q := List.forall_mem_cons.mpr ⟨lw_p16, List.forall_mem_cons.mpr ⟨lw_p17, List.forall_mem_cons.mpr ⟨lw_p18, List.forall_mem_cons.mpr ⟨lw_p19, List.forall_mem_cons.mpr ⟨lw_p20, List.forall_mem_cons.mpr ⟨lw_p21, List.forall_mem_cons.mpr ⟨lw_p22, List.forall_mem_cons.mpr ⟨lw_p23, List.forall_mem_cons.mpr ⟨lw_p24, List.forall_mem_cons.mpr ⟨lw_p25, List.forall_mem_cons.mpr ⟨lw_p26, List.forall_mem_cons.mpr ⟨lw_p27, List.forall_mem_cons.mpr ⟨lw_p28, List.forall_mem_cons.mpr ⟨lw_p29, List.forall_mem_cons.mpr ⟨lw_p30, List.forall_mem_cons.mpr ⟨lw_p31, fun _ h => absurd h List.not_mem_nil⟩⟩⟩⟩⟩⟩⟩⟩⟩⟩⟩⟩⟩⟩⟩⟩
theorem lw_p32 : lw_okq (⟨"StreamFuser$Plan", "swapWithNext", "(I)V"⟩, 12) := ⟨⟨by decide +kernel, by decide +kernel⟩, List.mem_of_getElem? (i := 25) (by decide +kernel), List.mem_of_getElem? (i := 587) (by decide +kernel), List.mem_of_getElem? (i := 588) (by decide +kernel)⟩
theorem lw_p33 : lw_okq (⟨"StreamFuser$Rewriter", "swapDropWithTake", "(I)V"⟩, 3) := ⟨⟨by decide +kernel, by decide +kernel⟩, List.mem_of_getElem? (i := 126) (by decide +kernel), List.mem_of_getElem? (i := 591) (by decide +kernel), List.mem_of_getElem? (i := 592) (by decide +kernel)⟩
theorem lw_p34 : lw_okq (⟨"StreamFuser$Rewriter", "keepOnePart", "(I)V"⟩, 3) := ⟨⟨by decide +kernel, by decide +kernel⟩, List.mem_of_getElem? (i := 126) (by decide +kernel), List.mem_of_getElem? (i := 597) (by decide +kernel), List.mem_of_getElem? (i := 598) (by decide +kernel)⟩
theorem lw_p35 : lw_okq (⟨"StreamFuser$Rewriter", "mergeWithNext", "(II)V"⟩, 3) := ⟨⟨by decide +kernel, by decide +kernel⟩, List.mem_of_getElem? (i := 126) (by decide +kernel), List.mem_of_getElem? (i := 601) (by decide +kernel), List.mem_of_getElem? (i := 602) (by decide +kernel)⟩
theorem lw_p36 : lw_okq (⟨"StreamFuser$Asker", "play", "(I)V"⟩, 7) := ⟨⟨by decide +kernel, by decide +kernel⟩, List.mem_of_getElem? (i := 215) (by decide +kernel), List.mem_of_getElem? (i := 617) (by decide +kernel), List.mem_of_getElem? (i := 618) (by decide +kernel)⟩
theorem lw_p37 : lw_okq (⟨"StreamFuser$Run", "begin", "()V"⟩, 10) := ⟨⟨by decide +kernel, by decide +kernel⟩, List.mem_of_getElem? (i := 163) (by decide +kernel), List.mem_of_getElem? (i := 621) (by decide +kernel), List.mem_of_getElem? (i := 622) (by decide +kernel)⟩
theorem lw_p38 : lw_okq (⟨"StreamFuser$Asker", "ask", "(II)Z"⟩, 7) := ⟨⟨by decide +kernel, by decide +kernel⟩, List.mem_of_getElem? (i := 215) (by decide +kernel), List.mem_of_getElem? (i := 632) (by decide +kernel), List.mem_of_getElem? (i := 633) (by decide +kernel)⟩
theorem lw_p39 : lw_okq (⟨"StreamFuser$Run", "fail", "(II)V"⟩, 10) := ⟨⟨by decide +kernel, by decide +kernel⟩, List.mem_of_getElem? (i := 163) (by decide +kernel), List.mem_of_getElem? (i := 648) (by decide +kernel), List.mem_of_getElem? (i := 649) (by decide +kernel)⟩
theorem lw_p40 : lw_okq (⟨"StreamFuser$Run", "note", "(II)V"⟩, 10) := ⟨⟨by decide +kernel, by decide +kernel⟩, List.mem_of_getElem? (i := 163) (by decide +kernel), List.mem_of_getElem? (i := 658) (by decide +kernel), List.mem_of_getElem? (i := 659) (by decide +kernel)⟩
theorem lw_p41 : lw_okq (⟨"StreamFuser$Asker", "askFilter", "(II)Z"⟩, 7) := ⟨⟨by decide +kernel, by decide +kernel⟩, List.mem_of_getElem? (i := 215) (by decide +kernel), List.mem_of_getElem? (i := 662) (by decide +kernel), List.mem_of_getElem? (i := 663) (by decide +kernel)⟩
theorem lw_p42 : lw_okq (⟨"StreamFuser$Asker", "askWhile", "(II)Z"⟩, 7) := ⟨⟨by decide +kernel, by decide +kernel⟩, List.mem_of_getElem? (i := 215) (by decide +kernel), List.mem_of_getElem? (i := 673) (by decide +kernel), List.mem_of_getElem? (i := 674) (by decide +kernel)⟩
theorem lw_p43 : lw_okq (⟨"StreamFuser$Asker", "askTake", "(II)Z"⟩, 7) := ⟨⟨by decide +kernel, by decide +kernel⟩, List.mem_of_getElem? (i := 215) (by decide +kernel), List.mem_of_getElem? (i := 677) (by decide +kernel), List.mem_of_getElem? (i := 678) (by decide +kernel)⟩
theorem lw_p44 : lw_okq (⟨"StreamFuser$Asker", "askDrop", "(II)Z"⟩, 7) := ⟨⟨by decide +kernel, by decide +kernel⟩, List.mem_of_getElem? (i := 215) (by decide +kernel), List.mem_of_getElem? (i := 681) (by decide +kernel), List.mem_of_getElem? (i := 682) (by decide +kernel)⟩
theorem lw_p45 : lw_okq (⟨"StreamFuser$Asker", "askChain", "(II)Z"⟩, 7) := ⟨⟨by decide +kernel, by decide +kernel⟩, List.mem_of_getElem? (i := 215) (by decide +kernel), List.mem_of_getElem? (i := 686) (by decide +kernel), List.mem_of_getElem? (i := 687) (by decide +kernel)⟩
theorem lw_p46 : lw_okq (⟨"StreamFuser$Run", "failed", "()Z"⟩, 10) := ⟨⟨by decide +kernel, by decide +kernel⟩, List.mem_of_getElem? (i := 163) (by decide +kernel), List.mem_of_getElem? (i := 690) (by decide +kernel), List.mem_of_getElem? (i := 691) (by decide +kernel)⟩
theorem lw_p47 : lw_okq (⟨"StreamFuser$Asker", "askZip", "(II)Z"⟩, 7) := ⟨⟨by decide +kernel, by decide +kernel⟩, List.mem_of_getElem? (i := 215) (by decide +kernel), List.mem_of_getElem? (i := 695) (by decide +kernel), List.mem_of_getElem? (i := 696) (by decide +kernel)⟩
def lw_privs_3 : List (MethodName × Nat) := [(⟨"StreamFuser$Plan", "swapWithNext", "(I)V"⟩, 12), (⟨"StreamFuser$Rewriter", "swapDropWithTake", "(I)V"⟩, 3), (⟨"StreamFuser$Rewriter", "keepOnePart", "(I)V"⟩, 3), (⟨"StreamFuser$Rewriter", "mergeWithNext", "(II)V"⟩, 3), (⟨"StreamFuser$Asker", "play", "(I)V"⟩, 7), (⟨"StreamFuser$Run", "begin", "()V"⟩, 10), (⟨"StreamFuser$Asker", "ask", "(II)Z"⟩, 7), (⟨"StreamFuser$Run", "fail", "(II)V"⟩, 10), (⟨"StreamFuser$Run", "note", "(II)V"⟩, 10), (⟨"StreamFuser$Asker", "askFilter", "(II)Z"⟩, 7), (⟨"StreamFuser$Asker", "askWhile", "(II)Z"⟩, 7), (⟨"StreamFuser$Asker", "askTake", "(II)Z"⟩, 7), (⟨"StreamFuser$Asker", "askDrop", "(II)Z"⟩, 7), (⟨"StreamFuser$Asker", "askChain", "(II)Z"⟩, 7), (⟨"StreamFuser$Run", "failed", "()Z"⟩, 10), (⟨"StreamFuser$Asker", "askZip", "(II)Z"⟩, 7)]
theorem lw_r3 : ∀ q ∈ lw_privs_3, lw_okq q := List.forall_mem_cons.mpr ⟨lw_p32, List.forall_mem_cons.mpr ⟨lw_p33, List.forall_mem_cons.mpr ⟨lw_p34, List.forall_mem_cons.mpr ⟨lw_p35, List.forall_mem_cons.mpr ⟨lw_p36, List.forall_mem_cons.mpr ⟨lw_p37, List.forall_mem_cons.mpr ⟨lw_p38, List.forall_mem_cons.mpr ⟨lw_p39, List.forall_mem_cons.mpr ⟨lw_p40, List.forall_mem_cons.mpr ⟨lw_p41, List.forall_mem_cons.mpr ⟨lw_p42, List.forall_mem_cons.mpr ⟨lw_p43, List.forall_mem_cons.mpr ⟨lw_p44, List.forall_mem_cons.mpr ⟨lw_p45, List.forall_mem_cons.mpr ⟨lw_p46, List.forall_mem_cons.mpr ⟨lw_p47, fun _ h => absurd h List.not_mem_nil⟩⟩⟩⟩⟩⟩⟩⟩⟩⟩⟩⟩⟩⟩⟩⟩
theorem lw_p48 : lw_okq (⟨"StreamFuser$Asker", "askOpener", "(II)Z"⟩, 7) := ⟨⟨by decide +kernel, by decide +kernel⟩, List.mem_of_getElem? (i := 215) (by decide +kernel), List.mem_of_getElem? (i := 706) (by decide +kernel), List.mem_of_getElem? (i := 707) (by decide +kernel)⟩
theorem lw_p49 : lw_okq (⟨"StreamFuser$Sheets", "isLost", "(I)Z"⟩, 3) := ⟨⟨by decide +kernel, by decide +kernel⟩, List.mem_of_getElem? (i := 144) (by decide +kernel), List.mem_of_getElem? (i := 734) (by decide +kernel), List.mem_of_getElem? (i := 735) (by decide +kernel)⟩
theorem lw_p50 : lw_okq (⟨"StreamFuser$Run", "draw", "(I)Z"⟩, 10) := ⟨⟨by decide +kernel, by decide +kernel⟩, List.mem_of_getElem? (i := 163) (by decide +kernel), List.mem_of_getElem? (i := 760) (by decide +kernel), List.mem_of_getElem? (i := 761) (by decide +kernel)⟩
theorem lw_p51 : lw_okq (⟨"StreamFuser$Sheets", "at", "(II)I"⟩, 3) := ⟨⟨by decide +kernel, by decide +kernel⟩, List.mem_of_getElem? (i := 144) (by decide +kernel), List.mem_of_getElem? (i := 772) (by decide +kernel), List.mem_of_getElem? (i := 773) (by decide +kernel)⟩
theorem lw_p52 : lw_okq (⟨"StreamFuser$Run", "give", "(I)V"⟩, 10) := ⟨⟨by decide +kernel, by decide +kernel⟩, List.mem_of_getElem? (i := 163) (by decide +kernel), List.mem_of_getElem? (i := 776) (by decide +kernel), List.mem_of_getElem? (i := 777) (by decide +kernel)⟩
theorem lw_p53 : lw_okq (⟨"StreamFuser$Stepper", "play", "(I)V"⟩, 8) := ⟨⟨by decide +kernel, by decide +kernel⟩, List.mem_of_getElem? (i := 285) (by decide +kernel), List.mem_of_getElem? (i := 784) (by decide +kernel), List.mem_of_getElem? (i := 785) (by decide +kernel)⟩
theorem lw_p54 : lw_okq (⟨"StreamFuser$Stepper", "step", "(II)I"⟩, 8) := ⟨⟨by decide +kernel, by decide +kernel⟩, List.mem_of_getElem? (i := 285) (by decide +kernel), List.mem_of_getElem? (i := 793) (by decide +kernel), List.mem_of_getElem? (i := 794) (by decide +kernel)⟩
theorem lw_p55 : lw_okq (⟨"StreamFuser$Stepper", "stepChain", "(II)I"⟩, 8) := ⟨⟨by decide +kernel, by decide +kernel⟩, List.mem_of_getElem? (i := 285) (by decide +kernel), List.mem_of_getElem? (i := 798) (by decide +kernel), List.mem_of_getElem? (i := 799) (by decide +kernel)⟩
theorem lw_p56 : lw_okq (⟨"StreamFuser$Stepper", "stepZip", "(II)I"⟩, 8) := ⟨⟨by decide +kernel, by decide +kernel⟩, List.mem_of_getElem? (i := 285) (by decide +kernel), List.mem_of_getElem? (i := 803) (by decide +kernel), List.mem_of_getElem? (i := 804) (by decide +kernel)⟩
theorem lw_p57 : lw_okq (⟨"StreamFuser$Stepper", "stepOpener", "(II)I"⟩, 8) := ⟨⟨by decide +kernel, by decide +kernel⟩, List.mem_of_getElem? (i := 285) (by decide +kernel), List.mem_of_getElem? (i := 810) (by decide +kernel), List.mem_of_getElem? (i := 811) (by decide +kernel)⟩
theorem lw_p58 : lw_okq (⟨"StreamFuser$Stepper", "given", "(Z)I"⟩, 8) := ⟨⟨by decide +kernel, by decide +kernel⟩, List.mem_of_getElem? (i := 285) (by decide +kernel), List.mem_of_getElem? (i := 821) (by decide +kernel), List.mem_of_getElem? (i := 822) (by decide +kernel)⟩
theorem lw_p59 : lw_okq (⟨"StreamFuser$Stepper", "stepOne", "(II)I"⟩, 8) := ⟨⟨by decide +kernel, by decide +kernel⟩, List.mem_of_getElem? (i := 285) (by decide +kernel), List.mem_of_getElem? (i := 826) (by decide +kernel), List.mem_of_getElem? (i := 827) (by decide +kernel)⟩
theorem lw_p60 : lw_okq (⟨"StreamFuser$Maker", "play", "(I)V"⟩, 7) := ⟨⟨by decide +kernel, by decide +kernel⟩, List.mem_of_getElem? (i := 302) (by decide +kernel), List.mem_of_getElem? (i := 837) (by decide +kernel), List.mem_of_getElem? (i := 838) (by decide +kernel)⟩
theorem lw_p61 : lw_okq (⟨"StreamFuser$Maker", "make", "(II)Z"⟩, 7) := ⟨⟨by decide +kernel, by decide +kernel⟩, List.mem_of_getElem? (i := 302) (by decide +kernel), List.mem_of_getElem? (i := 842) (by decide +kernel), List.mem_of_getElem? (i := 843) (by decide +kernel)⟩
theorem lw_p62 : lw_okq (⟨"StreamFuser$Maker", "fill", "(II)Z"⟩, 7) := ⟨⟨by decide +kernel, by decide +kernel⟩, List.mem_of_getElem? (i := 302) (by decide +kernel), List.mem_of_getElem? (i := 847) (by decide +kernel), List.mem_of_getElem? (i := 848) (by decide +kernel)⟩
theorem lw_p63 : lw_okq (⟨"StreamFuser$Maker", "fillFromProducer", "(I)Z"⟩, 7) := ⟨⟨by decide +kernel, by decide +kernel⟩, List.mem_of_getElem? (i := 302) (by decide +kernel), List.mem_of_getElem? (i := 852) (by decide +kernel), List.mem_of_getElem? (i := 853) (by decide +kernel)⟩
def lw_privs_4 : List (MethodName × Nat) := [(⟨"StreamFuser$Asker", "askOpener", "(II)Z"⟩, 7), (⟨"StreamFuser$Sheets", "isLost", "(I)Z"⟩, 3), (⟨"StreamFuser$Run", "draw", "(I)Z"⟩, 10), (⟨"StreamFuser$Sheets", "at", "(II)I"⟩, 3), (⟨"StreamFuser$Run", "give", "(I)V"⟩, 10), (⟨"StreamFuser$Stepper", "play", "(I)V"⟩, 8), (⟨"StreamFuser$Stepper", "step", "(II)I"⟩, 8), (⟨"StreamFuser$Stepper", "stepChain", "(II)I"⟩, 8), (⟨"StreamFuser$Stepper", "stepZip", "(II)I"⟩, 8), (⟨"StreamFuser$Stepper", "stepOpener", "(II)I"⟩, 8), (⟨"StreamFuser$Stepper", "given", "(Z)I"⟩, 8), (⟨"StreamFuser$Stepper", "stepOne", "(II)I"⟩, 8), (⟨"StreamFuser$Maker", "play", "(I)V"⟩, 7), (⟨"StreamFuser$Maker", "make", "(II)Z"⟩, 7), (⟨"StreamFuser$Maker", "fill", "(II)Z"⟩, 7), (⟨"StreamFuser$Maker", "fillFromProducer", "(I)Z"⟩, 7)]
theorem lw_r4 : ∀ q ∈ lw_privs_4, lw_okq q := List.forall_mem_cons.mpr ⟨lw_p48, List.forall_mem_cons.mpr ⟨lw_p49, List.forall_mem_cons.mpr ⟨lw_p50, List.forall_mem_cons.mpr ⟨lw_p51, List.forall_mem_cons.mpr ⟨lw_p52, List.forall_mem_cons.mpr ⟨lw_p53, List.forall_mem_cons.mpr ⟨lw_p54, List.forall_mem_cons.mpr ⟨lw_p55, List.forall_mem_cons.mpr ⟨lw_p56, List.forall_mem_cons.mpr ⟨lw_p57, List.forall_mem_cons.mpr ⟨lw_p58, List.forall_mem_cons.mpr ⟨lw_p59, List.forall_mem_cons.mpr ⟨lw_p60, List.forall_mem_cons.mpr ⟨lw_p61, List.forall_mem_cons.mpr ⟨lw_p62, List.forall_mem_cons.mpr ⟨lw_p63, fun _ h => absurd h List.not_mem_nil⟩⟩⟩⟩⟩⟩⟩⟩⟩⟩⟩⟩⟩⟩⟩⟩
theorem lw_p64 : lw_okq (⟨"StreamFuser$Maker", "add", "(II)V"⟩, 7) := ⟨⟨by decide +kernel, by decide +kernel⟩, List.mem_of_getElem? (i := 302) (by decide +kernel), List.mem_of_getElem? (i := 868) (by decide +kernel), List.mem_of_getElem? (i := 869) (by decide +kernel)⟩
theorem lw_p65 : lw_okq (⟨"StreamFuser$Maker", "fillByOpening", "(II)Z"⟩, 7) := ⟨⟨by decide +kernel, by decide +kernel⟩, List.mem_of_getElem? (i := 302) (by decide +kernel), List.mem_of_getElem? (i := 873) (by decide +kernel), List.mem_of_getElem? (i := 874) (by decide +kernel)⟩
theorem lw_p66 : lw_okq (⟨"StreamFuser$Maker", "element", "(II)I"⟩, 7) := ⟨⟨by decide +kernel, by decide +kernel⟩, List.mem_of_getElem? (i := 302) (by decide +kernel), List.mem_of_getElem? (i := 877) (by decide +kernel), List.mem_of_getElem? (i := 878) (by decide +kernel)⟩
theorem lw_p67 : lw_okq (⟨"StreamFuser$Maker", "addRow", "(II)Z"⟩, 7) := ⟨⟨by decide +kernel, by decide +kernel⟩, List.mem_of_getElem? (i := 302) (by decide +kernel), List.mem_of_getElem? (i := 881) (by decide +kernel), List.mem_of_getElem? (i := 882) (by decide +kernel)⟩
theorem lw_p68 : lw_okq (⟨"StreamFuser$Maker", "fillFromInput", "(I)Z"⟩, 7) := ⟨⟨by decide +kernel, by decide +kernel⟩, List.mem_of_getElem? (i := 302) (by decide +kernel), List.mem_of_getElem? (i := 888) (by decide +kernel), List.mem_of_getElem? (i := 889) (by decide +kernel)⟩
theorem lw_p69 : lw_okq (⟨"StreamFuser$Maker", "zip", "(II)V"⟩, 7) := ⟨⟨by decide +kernel, by decide +kernel⟩, List.mem_of_getElem? (i := 302) (by decide +kernel), List.mem_of_getElem? (i := 899) (by decide +kernel), List.mem_of_getElem? (i := 900) (by decide +kernel)⟩
theorem lw_p70 : lw_okq (⟨"StreamFuser$Run", "sum", "()J"⟩, 10) := ⟨⟨by decide +kernel, by decide +kernel⟩, List.mem_of_getElem? (i := 163) (by decide +kernel), List.mem_of_getElem? (i := 917) (by decide +kernel), List.mem_of_getElem? (i := 918) (by decide +kernel)⟩
theorem lw_p71 : lw_okq (⟨"StreamFuser$Run", "greatest", "()I"⟩, 10) := ⟨⟨by decide +kernel, by decide +kernel⟩, List.mem_of_getElem? (i := 163) (by decide +kernel), List.mem_of_getElem? (i := 922) (by decide +kernel), List.mem_of_getElem? (i := 923) (by decide +kernel)⟩
theorem lw_p72 : lw_okq (⟨"StreamFuser$Run", "smallest", "()I"⟩, 10) := ⟨⟨by decide +kernel, by decide +kernel⟩, List.mem_of_getElem? (i := 163) (by decide +kernel), List.mem_of_getElem? (i := 928) (by decide +kernel), List.mem_of_getElem? (i := 929) (by decide +kernel)⟩
theorem lw_p73 : lw_okq (⟨"StreamFuser$Run", "kept", "()I"⟩, 10) := ⟨⟨by decide +kernel, by decide +kernel⟩, List.mem_of_getElem? (i := 163) (by decide +kernel), List.mem_of_getElem? (i := 946) (by decide +kernel), List.mem_of_getElem? (i := 947) (by decide +kernel)⟩
theorem lw_p74 : lw_okq (⟨"StreamFuser", "find", "(I)I"⟩, 14) := ⟨⟨by decide +kernel, by decide +kernel⟩, List.mem_of_getElem? (i := 17) (by decide +kernel), List.mem_of_getElem? (i := 958) (by decide +kernel), List.mem_of_getElem? (i := 959) (by decide +kernel)⟩
theorem lw_p75 : lw_okq (⟨"StreamFuser$Sheets", "renew", "(III)V"⟩, 3) := ⟨⟨by decide +kernel, by decide +kernel⟩, List.mem_of_getElem? (i := 144) (by decide +kernel), List.mem_of_getElem? (i := 962) (by decide +kernel), List.mem_of_getElem? (i := 963) (by decide +kernel)⟩
theorem lw_p76 : lw_okq (⟨"StreamFuser", "elementError", "(III)I"⟩, 14) := ⟨⟨by decide +kernel, by decide +kernel⟩, List.mem_of_getElem? (i := 17) (by decide +kernel), List.mem_of_getElem? (i := 975) (by decide +kernel), List.mem_of_getElem? (i := 976) (by decide +kernel)⟩
theorem lw_p77 : lw_okq (⟨"StreamFuser$Sheets", "hasElement", "(II)Z"⟩, 3) := ⟨⟨by decide +kernel, by decide +kernel⟩, List.mem_of_getElem? (i := 144) (by decide +kernel), List.mem_of_getElem? (i := 979) (by decide +kernel), List.mem_of_getElem? (i := 980) (by decide +kernel)⟩
theorem lw_p78 : lw_okq (⟨"StreamFuser$Sheets", "store", "(III)V"⟩, 3) := ⟨⟨by decide +kernel, by decide +kernel⟩, List.mem_of_getElem? (i := 144) (by decide +kernel), List.mem_of_getElem? (i := 983) (by decide +kernel), List.mem_of_getElem? (i := 984) (by decide +kernel)⟩
theorem lw_p79 : lw_okq (⟨"StreamFuser$Sheets", "hasPart", "(III)Z"⟩, 3) := ⟨⟨by decide +kernel, by decide +kernel⟩, List.mem_of_getElem? (i := 144) (by decide +kernel), List.mem_of_getElem? (i := 1000) (by decide +kernel), List.mem_of_getElem? (i := 1001) (by decide +kernel)⟩
def lw_privs_5 : List (MethodName × Nat) := [(⟨"StreamFuser$Maker", "add", "(II)V"⟩, 7), (⟨"StreamFuser$Maker", "fillByOpening", "(II)Z"⟩, 7), (⟨"StreamFuser$Maker", "element", "(II)I"⟩, 7), (⟨"StreamFuser$Maker", "addRow", "(II)Z"⟩, 7), (⟨"StreamFuser$Maker", "fillFromInput", "(I)Z"⟩, 7), (⟨"StreamFuser$Maker", "zip", "(II)V"⟩, 7), (⟨"StreamFuser$Run", "sum", "()J"⟩, 10), (⟨"StreamFuser$Run", "greatest", "()I"⟩, 10), (⟨"StreamFuser$Run", "smallest", "()I"⟩, 10), (⟨"StreamFuser$Run", "kept", "()I"⟩, 10), (⟨"StreamFuser", "find", "(I)I"⟩, 14), (⟨"StreamFuser$Sheets", "renew", "(III)V"⟩, 3), (⟨"StreamFuser", "elementError", "(III)I"⟩, 14), (⟨"StreamFuser$Sheets", "hasElement", "(II)Z"⟩, 3), (⟨"StreamFuser$Sheets", "store", "(III)V"⟩, 3), (⟨"StreamFuser$Sheets", "hasPart", "(III)Z"⟩, 3)]
theorem lw_r5 : ∀ q ∈ lw_privs_5, lw_okq q := List.forall_mem_cons.mpr ⟨lw_p64, List.forall_mem_cons.mpr ⟨lw_p65, List.forall_mem_cons.mpr ⟨lw_p66, List.forall_mem_cons.mpr ⟨lw_p67, List.forall_mem_cons.mpr ⟨lw_p68, List.forall_mem_cons.mpr ⟨lw_p69, List.forall_mem_cons.mpr ⟨lw_p70, List.forall_mem_cons.mpr ⟨lw_p71, List.forall_mem_cons.mpr ⟨lw_p72, List.forall_mem_cons.mpr ⟨lw_p73, List.forall_mem_cons.mpr ⟨lw_p74, List.forall_mem_cons.mpr ⟨lw_p75, List.forall_mem_cons.mpr ⟨lw_p76, List.forall_mem_cons.mpr ⟨lw_p77, List.forall_mem_cons.mpr ⟨lw_p78, List.forall_mem_cons.mpr ⟨lw_p79, fun _ h => absurd h List.not_mem_nil⟩⟩⟩⟩⟩⟩⟩⟩⟩⟩⟩⟩⟩⟩⟩⟩
theorem lw_p80 : lw_okq (⟨"StreamFuser$Sheets", "move", "(IIIII)V"⟩, 3) := ⟨⟨by decide +kernel, by decide +kernel⟩, List.mem_of_getElem? (i := 144) (by decide +kernel), List.mem_of_getElem? (i := 1004) (by decide +kernel), List.mem_of_getElem? (i := 1005) (by decide +kernel)⟩
theorem lw_p81 : lw_okq (⟨"StreamFuser", "mixPlan", "(J)J"⟩, 14) := ⟨⟨by decide +kernel, by decide +kernel⟩, List.mem_of_getElem? (i := 17) (by decide +kernel), List.mem_of_getElem? (i := 1027) (by decide +kernel), List.mem_of_getElem? (i := 1028) (by decide +kernel)⟩
theorem lw_p82 : lw_okq (⟨"StreamFuser", "mixRun", "(J)J"⟩, 14) := ⟨⟨by decide +kernel, by decide +kernel⟩, List.mem_of_getElem? (i := 17) (by decide +kernel), List.mem_of_getElem? (i := 1034) (by decide +kernel), List.mem_of_getElem? (i := 1035) (by decide +kernel)⟩
theorem lw_p83 : lw_okq (⟨"StreamFuserModel", "finds", "(I)I"⟩, 59) := ⟨⟨by decide +kernel, by decide +kernel⟩, List.mem_of_getElem? (i := 1044) (by decide +kernel), List.mem_of_getElem? (i := 1240) (by decide +kernel), List.mem_of_getElem? (i := 1241) (by decide +kernel)⟩
theorem lw_p84 : lw_okq (⟨"StreamFuserModel", "lacks", "(III)I"⟩, 59) := ⟨⟨by decide +kernel, by decide +kernel⟩, List.mem_of_getElem? (i := 1044) (by decide +kernel), List.mem_of_getElem? (i := 1252) (by decide +kernel), List.mem_of_getElem? (i := 1253) (by decide +kernel)⟩
theorem lw_p85 : lw_okq (⟨"StreamFuserModel", "faultNow", "()I"⟩, 59) := ⟨⟨by decide +kernel, by decide +kernel⟩, List.mem_of_getElem? (i := 1044) (by decide +kernel), List.mem_of_getElem? (i := 1281) (by decide +kernel), List.mem_of_getElem? (i := 1282) (by decide +kernel)⟩
theorem lw_p86 : lw_okq (⟨"StreamFuserModel", "takesLetter", "(II)Z"⟩, 59) := ⟨⟨by decide +kernel, by decide +kernel⟩, List.mem_of_getElem? (i := 1044) (by decide +kernel), List.mem_of_getElem? (i := 1285) (by decide +kernel), List.mem_of_getElem? (i := 1286) (by decide +kernel)⟩
theorem lw_p87 : lw_okq (⟨"StreamFuserModel", "wantsBehind", "(II)V"⟩, 59) := ⟨⟨by decide +kernel, by decide +kernel⟩, List.mem_of_getElem? (i := 1044) (by decide +kernel), List.mem_of_getElem? (i := 1292) (by decide +kernel), List.mem_of_getElem? (i := 1293) (by decide +kernel)⟩
theorem lw_p88 : lw_okq (⟨"StreamFuserModel", "wants", "(I)V"⟩, 59) := ⟨⟨by decide +kernel, by decide +kernel⟩, List.mem_of_getElem? (i := 1044) (by decide +kernel), List.mem_of_getElem? (i := 1296) (by decide +kernel), List.mem_of_getElem? (i := 1297) (by decide +kernel)⟩
theorem lw_p89 : lw_okq (⟨"StreamFuserModel", "takesNumber", "(II)Z"⟩, 59) := ⟨⟨by decide +kernel, by decide +kernel⟩, List.mem_of_getElem? (i := 1044) (by decide +kernel), List.mem_of_getElem? (i := 1300) (by decide +kernel), List.mem_of_getElem? (i := 1301) (by decide +kernel)⟩
theorem lw_p90 : lw_okq (⟨"StreamFuserModel", "takesSign", "(II)Z"⟩, 59) := ⟨⟨by decide +kernel, by decide +kernel⟩, List.mem_of_getElem? (i := 1044) (by decide +kernel), List.mem_of_getElem? (i := 1306) (by decide +kernel), List.mem_of_getElem? (i := 1307) (by decide +kernel)⟩
theorem lw_p91 : lw_okq (⟨"StreamFuserModel", "places", "()V"⟩, 59) := ⟨⟨by decide +kernel, by decide +kernel⟩, List.mem_of_getElem? (i := 1044) (by decide +kernel), List.mem_of_getElem? (i := 1315) (by decide +kernel), List.mem_of_getElem? (i := 1316) (by decide +kernel)⟩
theorem lw_p92 : lw_okq (⟨"StreamFuserModel", "hangs", "(IIZ)V"⟩, 59) := ⟨⟨by decide +kernel, by decide +kernel⟩, List.mem_of_getElem? (i := 1044) (by decide +kernel), List.mem_of_getElem? (i := 1319) (by decide +kernel), List.mem_of_getElem? (i := 1320) (by decide +kernel)⟩
theorem lw_p93 : lw_okq (⟨"StreamFuserModel", "nodeBy", "(II)I"⟩, 59) := ⟨⟨by decide +kernel, by decide +kernel⟩, List.mem_of_getElem? (i := 1044) (by decide +kernel), List.mem_of_getElem? (i := 1328) (by decide +kernel), List.mem_of_getElem? (i := 1329) (by decide +kernel)⟩
theorem lw_p94 : lw_okq (⟨"StreamFuserModel", "isPure", "(I)Z"⟩, 59) := ⟨⟨by decide +kernel, by decide +kernel⟩, List.mem_of_getElem? (i := 1044) (by decide +kernel), List.mem_of_getElem? (i := 1332) (by decide +kernel), List.mem_of_getElem? (i := 1333) (by decide +kernel)⟩
theorem lw_p95 : lw_okq (⟨"StreamFuserModel", "writesPlan", "()V"⟩, 59) := ⟨⟨by decide +kernel, by decide +kernel⟩, List.mem_of_getElem? (i := 1044) (by decide +kernel), List.mem_of_getElem? (i := 1340) (by decide +kernel), List.mem_of_getElem? (i := 1341) (by decide +kernel)⟩
def lw_privs_6 : List (MethodName × Nat) := [(⟨"StreamFuser$Sheets", "move", "(IIIII)V"⟩, 3), (⟨"StreamFuser", "mixPlan", "(J)J"⟩, 14), (⟨"StreamFuser", "mixRun", "(J)J"⟩, 14), (⟨"StreamFuserModel", "finds", "(I)I"⟩, 59), (⟨"StreamFuserModel", "lacks", "(III)I"⟩, 59), (⟨"StreamFuserModel", "faultNow", "()I"⟩, 59), (⟨"StreamFuserModel", "takesLetter", "(II)Z"⟩, 59), (⟨"StreamFuserModel", "wantsBehind", "(II)V"⟩, 59), (⟨"StreamFuserModel", "wants", "(I)V"⟩, 59), (⟨"StreamFuserModel", "takesNumber", "(II)Z"⟩, 59), (⟨"StreamFuserModel", "takesSign", "(II)Z"⟩, 59), (⟨"StreamFuserModel", "places", "()V"⟩, 59), (⟨"StreamFuserModel", "hangs", "(IIZ)V"⟩, 59), (⟨"StreamFuserModel", "nodeBy", "(II)I"⟩, 59), (⟨"StreamFuserModel", "isPure", "(I)Z"⟩, 59), (⟨"StreamFuserModel", "writesPlan", "()V"⟩, 59)]
theorem lw_r6 : ∀ q ∈ lw_privs_6, lw_okq q := List.forall_mem_cons.mpr ⟨lw_p80, List.forall_mem_cons.mpr ⟨lw_p81, List.forall_mem_cons.mpr ⟨lw_p82, List.forall_mem_cons.mpr ⟨lw_p83, List.forall_mem_cons.mpr ⟨lw_p84, List.forall_mem_cons.mpr ⟨lw_p85, List.forall_mem_cons.mpr ⟨lw_p86, List.forall_mem_cons.mpr ⟨lw_p87, List.forall_mem_cons.mpr ⟨lw_p88, List.forall_mem_cons.mpr ⟨lw_p89, List.forall_mem_cons.mpr ⟨lw_p90, List.forall_mem_cons.mpr ⟨lw_p91, List.forall_mem_cons.mpr ⟨lw_p92, List.forall_mem_cons.mpr ⟨lw_p93, List.forall_mem_cons.mpr ⟨lw_p94, List.forall_mem_cons.mpr ⟨lw_p95, fun _ h => absurd h List.not_mem_nil⟩⟩⟩⟩⟩⟩⟩⟩⟩⟩⟩⟩⟩⟩⟩⟩
theorem lw_p96 : lw_okq (⟨"StreamFuserModel", "tells", "(I)V"⟩, 59) := ⟨⟨by decide +kernel, by decide +kernel⟩, List.mem_of_getElem? (i := 1044) (by decide +kernel), List.mem_of_getElem? (i := 1344) (by decide +kernel), List.mem_of_getElem? (i := 1345) (by decide +kernel)⟩
theorem lw_p97 : lw_okq (⟨"StreamFuserModel", "tellsNumber", "(I)V"⟩, 59) := ⟨⟨by decide +kernel, by decide +kernel⟩, List.mem_of_getElem? (i := 1044) (by decide +kernel), List.mem_of_getElem? (i := 1351) (by decide +kernel), List.mem_of_getElem? (i := 1352) (by decide +kernel)⟩
theorem lw_p98 : lw_okq (⟨"StreamFuserModel", "textBy", "(I)I"⟩, 59) := ⟨⟨by decide +kernel, by decide +kernel⟩, List.mem_of_getElem? (i := 1044) (by decide +kernel), List.mem_of_getElem? (i := 1356) (by decide +kernel), List.mem_of_getElem? (i := 1357) (by decide +kernel)⟩
theorem lw_p99 : lw_okq (⟨"StreamFuserModel", "tidies", "(I)I"⟩, 59) := ⟨⟨by decide +kernel, by decide +kernel⟩, List.mem_of_getElem? (i := 1044) (by decide +kernel), List.mem_of_getElem? (i := 1364) (by decide +kernel), List.mem_of_getElem? (i := 1365) (by decide +kernel)⟩
theorem lw_p100 : lw_okq (⟨"StreamFuserModel", "tidiesOnce", "(I)Z"⟩, 59) := ⟨⟨by decide +kernel, by decide +kernel⟩, List.mem_of_getElem? (i := 1044) (by decide +kernel), List.mem_of_getElem? (i := 1369) (by decide +kernel), List.mem_of_getElem? (i := 1370) (by decide +kernel)⟩
theorem lw_p101 : lw_okq (⟨"StreamFuserModel", "ruleAt", "(I)I"⟩, 59) := ⟨⟨by decide +kernel, by decide +kernel⟩, List.mem_of_getElem? (i := 1044) (by decide +kernel), List.mem_of_getElem? (i := 1373) (by decide +kernel), List.mem_of_getElem? (i := 1374) (by decide +kernel)⟩
theorem lw_p102 : lw_okq (⟨"StreamFuserModel", "isNil", "(I)Z"⟩, 59) := ⟨⟨by decide +kernel, by decide +kernel⟩, List.mem_of_getElem? (i := 1044) (by decide +kernel), List.mem_of_getElem? (i := 1377) (by decide +kernel), List.mem_of_getElem? (i := 1378) (by decide +kernel)⟩
theorem lw_p103 : lw_okq (⟨"StreamFuserModel", "ruleOfCut", "(I)I"⟩, 59) := ⟨⟨by decide +kernel, by decide +kernel⟩, List.mem_of_getElem? (i := 1044) (by decide +kernel), List.mem_of_getElem? (i := 1381) (by decide +kernel), List.mem_of_getElem? (i := 1382) (by decide +kernel)⟩
theorem lw_p104 : lw_okq (⟨"StreamFuserModel", "uses", "(II)V"⟩, 59) := ⟨⟨by decide +kernel, by decide +kernel⟩, List.mem_of_getElem? (i := 1044) (by decide +kernel), List.mem_of_getElem? (i := 1388) (by decide +kernel), List.mem_of_getElem? (i := 1389) (by decide +kernel)⟩
theorem lw_p105 : lw_okq (⟨"StreamFuserModel", "becomes", "(IIII)V"⟩, 59) := ⟨⟨by decide +kernel, by decide +kernel⟩, List.mem_of_getElem? (i := 1044) (by decide +kernel), List.mem_of_getElem? (i := 1392) (by decide +kernel), List.mem_of_getElem? (i := 1393) (by decide +kernel)⟩
theorem lw_p106 : lw_okq (⟨"StreamFuserModel", "cuts", "(II)V"⟩, 59) := ⟨⟨by decide +kernel, by decide +kernel⟩, List.mem_of_getElem? (i := 1044) (by decide +kernel), List.mem_of_getElem? (i := 1399) (by decide +kernel), List.mem_of_getElem? (i := 1400) (by decide +kernel)⟩
theorem lw_p107 : lw_okq (⟨"StreamFuserModel", "turns", "(I)V"⟩, 59) := ⟨⟨by decide +kernel, by decide +kernel⟩, List.mem_of_getElem? (i := 1044) (by decide +kernel), List.mem_of_getElem? (i := 1403) (by decide +kernel), List.mem_of_getElem? (i := 1404) (by decide +kernel)⟩
theorem lw_p108 : lw_okq (⟨"StreamFuserModel", "usesMore", "(III)V"⟩, 59) := ⟨⟨by decide +kernel, by decide +kernel⟩, List.mem_of_getElem? (i := 1044) (by decide +kernel), List.mem_of_getElem? (i := 1410) (by decide +kernel), List.mem_of_getElem? (i := 1411) (by decide +kernel)⟩
theorem lw_p109 : lw_okq (⟨"StreamFuserModel", "nil", "(I)V"⟩, 59) := ⟨⟨by decide +kernel, by decide +kernel⟩, List.mem_of_getElem? (i := 1044) (by decide +kernel), List.mem_of_getElem? (i := 1414) (by decide +kernel), List.mem_of_getElem? (i := 1415) (by decide +kernel)⟩
theorem lw_p110 : lw_okq (⟨"StreamFuserModel", "hasEndless", "()Z"⟩, 59) := ⟨⟨by decide +kernel, by decide +kernel⟩, List.mem_of_getElem? (i := 1044) (by decide +kernel), List.mem_of_getElem? (i := 1428) (by decide +kernel), List.mem_of_getElem? (i := 1429) (by decide +kernel)⟩
theorem lw_p111 : lw_okq (⟨"StreamFuserModel", "runs", "(II)V"⟩, 59) := ⟨⟨by decide +kernel, by decide +kernel⟩, List.mem_of_getElem? (i := 1044) (by decide +kernel), List.mem_of_getElem? (i := 1432) (by decide +kernel), List.mem_of_getElem? (i := 1433) (by decide +kernel)⟩
def lw_privs_7 : List (MethodName × Nat) := [(⟨"StreamFuserModel", "tells", "(I)V"⟩, 59), (⟨"StreamFuserModel", "tellsNumber", "(I)V"⟩, 59), (⟨"StreamFuserModel", "textBy", "(I)I"⟩, 59), (⟨"StreamFuserModel", "tidies", "(I)I"⟩, 59), (⟨"StreamFuserModel", "tidiesOnce", "(I)Z"⟩, 59), (⟨"StreamFuserModel", "ruleAt", "(I)I"⟩, 59), (⟨"StreamFuserModel", "isNil", "(I)Z"⟩, 59), (⟨"StreamFuserModel", "ruleOfCut", "(I)I"⟩, 59), (⟨"StreamFuserModel", "uses", "(II)V"⟩, 59), (⟨"StreamFuserModel", "becomes", "(IIII)V"⟩, 59), (⟨"StreamFuserModel", "cuts", "(II)V"⟩, 59), (⟨"StreamFuserModel", "turns", "(I)V"⟩, 59), (⟨"StreamFuserModel", "usesMore", "(III)V"⟩, 59), (⟨"StreamFuserModel", "nil", "(I)V"⟩, 59), (⟨"StreamFuserModel", "hasEndless", "()Z"⟩, 59), (⟨"StreamFuserModel", "runs", "(II)V"⟩, 59)]
theorem lw_r7 : ∀ q ∈ lw_privs_7, lw_okq q := List.forall_mem_cons.mpr ⟨lw_p96, List.forall_mem_cons.mpr ⟨lw_p97, List.forall_mem_cons.mpr ⟨lw_p98, List.forall_mem_cons.mpr ⟨lw_p99, List.forall_mem_cons.mpr ⟨lw_p100, List.forall_mem_cons.mpr ⟨lw_p101, List.forall_mem_cons.mpr ⟨lw_p102, List.forall_mem_cons.mpr ⟨lw_p103, List.forall_mem_cons.mpr ⟨lw_p104, List.forall_mem_cons.mpr ⟨lw_p105, List.forall_mem_cons.mpr ⟨lw_p106, List.forall_mem_cons.mpr ⟨lw_p107, List.forall_mem_cons.mpr ⟨lw_p108, List.forall_mem_cons.mpr ⟨lw_p109, List.forall_mem_cons.mpr ⟨lw_p110, List.forall_mem_cons.mpr ⟨lw_p111, fun _ h => absurd h List.not_mem_nil⟩⟩⟩⟩⟩⟩⟩⟩⟩⟩⟩⟩⟩⟩⟩⟩
theorem lw_p112 : lw_okq (⟨"StreamFuserModel", "begins", "(II)V"⟩, 59) := ⟨⟨by decide +kernel, by decide +kernel⟩, List.mem_of_getElem? (i := 1044) (by decide +kernel), List.mem_of_getElem? (i := 1436) (by decide +kernel), List.mem_of_getElem? (i := 1437) (by decide +kernel)⟩
theorem lw_p113 : lw_okq (⟨"StreamFuserModel", "makesRows", "()V"⟩, 59) := ⟨⟨by decide +kernel, by decide +kernel⟩, List.mem_of_getElem? (i := 1044) (by decide +kernel), List.mem_of_getElem? (i := 1440) (by decide +kernel), List.mem_of_getElem? (i := 1441) (by decide +kernel)⟩
theorem lw_p114 : lw_okq (⟨"StreamFuserModel", "wantsRow", "(I)I"⟩, 59) := ⟨⟨by decide +kernel, by decide +kernel⟩, List.mem_of_getElem? (i := 1044) (by decide +kernel), List.mem_of_getElem? (i := 1445) (by decide +kernel), List.mem_of_getElem? (i := 1446) (by decide +kernel)⟩
theorem lw_p115 : lw_okq (⟨"StreamFuserModel", "opensRow", "(I)I"⟩, 59) := ⟨⟨by decide +kernel, by decide +kernel⟩, List.mem_of_getElem? (i := 1044) (by decide +kernel), List.mem_of_getElem? (i := 1449) (by decide +kernel), List.mem_of_getElem? (i := 1450) (by decide +kernel)⟩
theorem lw_p116 : lw_okq (⟨"StreamFuserModel", "fails", "(II)V"⟩, 59) := ⟨⟨by decide +kernel, by decide +kernel⟩, List.mem_of_getElem? (i := 1044) (by decide +kernel), List.mem_of_getElem? (i := 1453) (by decide +kernel), List.mem_of_getElem? (i := 1454) (by decide +kernel)⟩
theorem lw_p117 : lw_okq (⟨"StreamFuserModel", "adds", "(II)V"⟩, 59) := ⟨⟨by decide +kernel, by decide +kernel⟩, List.mem_of_getElem? (i := 1044) (by decide +kernel), List.mem_of_getElem? (i := 1457) (by decide +kernel), List.mem_of_getElem? (i := 1458) (by decide +kernel)⟩
theorem lw_p118 : lw_okq (⟨"StreamFuserModel", "fills", "(I)V"⟩, 59) := ⟨⟨by decide +kernel, by decide +kernel⟩, List.mem_of_getElem? (i := 1044) (by decide +kernel), List.mem_of_getElem? (i := 1461) (by decide +kernel), List.mem_of_getElem? (i := 1462) (by decide +kernel)⟩
theorem lw_p119 : lw_okq (⟨"StreamFuserModel", "draws", "()Z"⟩, 59) := ⟨⟨by decide +kernel, by decide +kernel⟩, List.mem_of_getElem? (i := 1044) (by decide +kernel), List.mem_of_getElem? (i := 1466) (by decide +kernel), List.mem_of_getElem? (i := 1467) (by decide +kernel)⟩
theorem lw_p120 : lw_okq (⟨"StreamFuserModel", "changesRow", "(I)V"⟩, 59) := ⟨⟨by decide +kernel, by decide +kernel⟩, List.mem_of_getElem? (i := 1044) (by decide +kernel), List.mem_of_getElem? (i := 1470) (by decide +kernel), List.mem_of_getElem? (i := 1471) (by decide +kernel)⟩
theorem lw_p121 : lw_okq (⟨"StreamFuserModel", "passes", "(II)Z"⟩, 59) := ⟨⟨by decide +kernel, by decide +kernel⟩, List.mem_of_getElem? (i := 1044) (by decide +kernel), List.mem_of_getElem? (i := 1474) (by decide +kernel), List.mem_of_getElem? (i := 1475) (by decide +kernel)⟩
theorem lw_p122 : lw_okq (⟨"StreamFuserModel", "made", "(II)I"⟩, 59) := ⟨⟨by decide +kernel, by decide +kernel⟩, List.mem_of_getElem? (i := 1044) (by decide +kernel), List.mem_of_getElem? (i := 1478) (by decide +kernel), List.mem_of_getElem? (i := 1479) (by decide +kernel)⟩
theorem lw_p123 : lw_okq (⟨"StreamFuserModel", "writesDown", "(II)V"⟩, 59) := ⟨⟨by decide +kernel, by decide +kernel⟩, List.mem_of_getElem? (i := 1044) (by decide +kernel), List.mem_of_getElem? (i := 1482) (by decide +kernel), List.mem_of_getElem? (i := 1483) (by decide +kernel)⟩
theorem lw_p124 : lw_okq (⟨"StreamFuserModel", "joinsRows", "(I)V"⟩, 59) := ⟨⟨by decide +kernel, by decide +kernel⟩, List.mem_of_getElem? (i := 1044) (by decide +kernel), List.mem_of_getElem? (i := 1486) (by decide +kernel), List.mem_of_getElem? (i := 1487) (by decide +kernel)⟩
theorem lw_p125 : lw_okq (⟨"StreamFuserModel", "joined", "(III)I"⟩, 59) := ⟨⟨by decide +kernel, by decide +kernel⟩, List.mem_of_getElem? (i := 1044) (by decide +kernel), List.mem_of_getElem? (i := 1490) (by decide +kernel), List.mem_of_getElem? (i := 1491) (by decide +kernel)⟩
theorem lw_p126 : lw_okq (⟨"StreamFuserModel", "steps", "()I"⟩, 59) := ⟨⟨by decide +kernel, by decide +kernel⟩, List.mem_of_getElem? (i := 1044) (by decide +kernel), List.mem_of_getElem? (i := 1494) (by decide +kernel), List.mem_of_getElem? (i := 1495) (by decide +kernel)⟩
theorem lw_p127 : lw_okq (⟨"StreamFuserModel", "gives", "(I)V"⟩, 59) := ⟨⟨by decide +kernel, by decide +kernel⟩, List.mem_of_getElem? (i := 1044) (by decide +kernel), List.mem_of_getElem? (i := 1498) (by decide +kernel), List.mem_of_getElem? (i := 1499) (by decide +kernel)⟩
def lw_privs_8 : List (MethodName × Nat) := [(⟨"StreamFuserModel", "begins", "(II)V"⟩, 59), (⟨"StreamFuserModel", "makesRows", "()V"⟩, 59), (⟨"StreamFuserModel", "wantsRow", "(I)I"⟩, 59), (⟨"StreamFuserModel", "opensRow", "(I)I"⟩, 59), (⟨"StreamFuserModel", "fails", "(II)V"⟩, 59), (⟨"StreamFuserModel", "adds", "(II)V"⟩, 59), (⟨"StreamFuserModel", "fills", "(I)V"⟩, 59), (⟨"StreamFuserModel", "draws", "()Z"⟩, 59), (⟨"StreamFuserModel", "changesRow", "(I)V"⟩, 59), (⟨"StreamFuserModel", "passes", "(II)Z"⟩, 59), (⟨"StreamFuserModel", "made", "(II)I"⟩, 59), (⟨"StreamFuserModel", "writesDown", "(II)V"⟩, 59), (⟨"StreamFuserModel", "joinsRows", "(I)V"⟩, 59), (⟨"StreamFuserModel", "joined", "(III)I"⟩, 59), (⟨"StreamFuserModel", "steps", "()I"⟩, 59), (⟨"StreamFuserModel", "gives", "(I)V"⟩, 59)]
theorem lw_r8 : ∀ q ∈ lw_privs_8, lw_okq q := List.forall_mem_cons.mpr ⟨lw_p112, List.forall_mem_cons.mpr ⟨lw_p113, List.forall_mem_cons.mpr ⟨lw_p114, List.forall_mem_cons.mpr ⟨lw_p115, List.forall_mem_cons.mpr ⟨lw_p116, List.forall_mem_cons.mpr ⟨lw_p117, List.forall_mem_cons.mpr ⟨lw_p118, List.forall_mem_cons.mpr ⟨lw_p119, List.forall_mem_cons.mpr ⟨lw_p120, List.forall_mem_cons.mpr ⟨lw_p121, List.forall_mem_cons.mpr ⟨lw_p122, List.forall_mem_cons.mpr ⟨lw_p123, List.forall_mem_cons.mpr ⟨lw_p124, List.forall_mem_cons.mpr ⟨lw_p125, List.forall_mem_cons.mpr ⟨lw_p126, List.forall_mem_cons.mpr ⟨lw_p127, fun _ h => absurd h List.not_mem_nil⟩⟩⟩⟩⟩⟩⟩⟩⟩⟩⟩⟩⟩⟩⟩⟩
theorem lw_p128 : lw_okq (⟨"StreamFuserModel", "after", "(II)I"⟩, 59) := ⟨⟨by decide +kernel, by decide +kernel⟩, List.mem_of_getElem? (i := 1044) (by decide +kernel), List.mem_of_getElem? (i := 1502) (by decide +kernel), List.mem_of_getElem? (i := 1503) (by decide +kernel)⟩
theorem lw_p129 : lw_okq (⟨"StreamFuserModel", "afterOne", "(II)I"⟩, 59) := ⟨⟨by decide +kernel, by decide +kernel⟩, List.mem_of_getElem? (i := 1044) (by decide +kernel), List.mem_of_getElem? (i := 1506) (by decide +kernel), List.mem_of_getElem? (i := 1507) (by decide +kernel)⟩
theorem lw_p130 : lw_okq (⟨"StreamFuserModel", "opensFor", "(II)V"⟩, 59) := ⟨⟨by decide +kernel, by decide +kernel⟩, List.mem_of_getElem? (i := 1044) (by decide +kernel), List.mem_of_getElem? (i := 1510) (by decide +kernel), List.mem_of_getElem? (i := 1511) (by decide +kernel)⟩
theorem lw_p131 : lw_okq (⟨"StreamFuserModel", "asks", "()Z"⟩, 59) := ⟨⟨by decide +kernel, by decide +kernel⟩, List.mem_of_getElem? (i := 1044) (by decide +kernel), List.mem_of_getElem? (i := 1514) (by decide +kernel), List.mem_of_getElem? (i := 1515) (by decide +kernel)⟩
theorem lw_p132 : lw_okq (⟨"StreamFuserModel", "asksNext", "(I)I"⟩, 59) := ⟨⟨by decide +kernel, by decide +kernel⟩, List.mem_of_getElem? (i := 1044) (by decide +kernel), List.mem_of_getElem? (i := 1518) (by decide +kernel), List.mem_of_getElem? (i := 1519) (by decide +kernel)⟩
theorem lw_p133 : lw_okq (⟨"StreamFuserModel", "hears", "(I)I"⟩, 59) := ⟨⟨by decide +kernel, by decide +kernel⟩, List.mem_of_getElem? (i := 1044) (by decide +kernel), List.mem_of_getElem? (i := 1522) (by decide +kernel), List.mem_of_getElem? (i := 1523) (by decide +kernel)⟩
theorem lw_p134 : lw_okq (⟨"StreamFuserModel", "hearsOne", "(I)I"⟩, 59) := ⟨⟨by decide +kernel, by decide +kernel⟩, List.mem_of_getElem? (i := 1044) (by decide +kernel), List.mem_of_getElem? (i := 1526) (by decide +kernel), List.mem_of_getElem? (i := 1527) (by decide +kernel)⟩
theorem lw_p135 : lw_okq (⟨"StreamFuserModel", "hearsOpen", "(I)I"⟩, 59) := ⟨⟨by decide +kernel, by decide +kernel⟩, List.mem_of_getElem? (i := 1044) (by decide +kernel), List.mem_of_getElem? (i := 1530) (by decide +kernel), List.mem_of_getElem? (i := 1531) (by decide +kernel)⟩
theorem lw_p136 : lw_okq (⟨"StreamFuserModel", "foldBy", "(I)J"⟩, 59) := ⟨⟨by decide +kernel, by decide +kernel⟩, List.mem_of_getElem? (i := 1044) (by decide +kernel), List.mem_of_getElem? (i := 1546) (by decide +kernel), List.mem_of_getElem? (i := 1547) (by decide +kernel)⟩
theorem lw_p137 : lw_okq (⟨"StreamFuserModel", "keptDown", "()I"⟩, 59) := ⟨⟨by decide +kernel, by decide +kernel⟩, List.mem_of_getElem? (i := 1044) (by decide +kernel), List.mem_of_getElem? (i := 1563) (by decide +kernel), List.mem_of_getElem? (i := 1564) (by decide +kernel)⟩
theorem lw_p138 : lw_okq (⟨"StreamFuserModel", "writtenBy", "(II)J"⟩, 59) := ⟨⟨by decide +kernel, by decide +kernel⟩, List.mem_of_getElem? (i := 1044) (by decide +kernel), List.mem_of_getElem? (i := 1567) (by decide +kernel), List.mem_of_getElem? (i := 1568) (by decide +kernel)⟩
theorem lw_p139 : lw_okq (⟨"StreamFuserModel", "savesBy", "(I)I"⟩, 59) := ⟨⟨by decide +kernel, by decide +kernel⟩, List.mem_of_getElem? (i := 1044) (by decide +kernel), List.mem_of_getElem? (i := 1579) (by decide +kernel), List.mem_of_getElem? (i := 1580) (by decide +kernel)⟩
theorem lw_p140 : lw_okq (⟨"StreamFuserModel", "lays", "(ZI)V"⟩, 59) := ⟨⟨by decide +kernel, by decide +kernel⟩, List.mem_of_getElem? (i := 1044) (by decide +kernel), List.mem_of_getElem? (i := 1583) (by decide +kernel), List.mem_of_getElem? (i := 1584) (by decide +kernel)⟩
theorem lw_p141 : lw_okq (⟨"StreamFuserModel", "deepest", "()I"⟩, 59) := ⟨⟨by decide +kernel, by decide +kernel⟩, List.mem_of_getElem? (i := 1044) (by decide +kernel), List.mem_of_getElem? (i := 1591) (by decide +kernel), List.mem_of_getElem? (i := 1592) (by decide +kernel)⟩
theorem lw_p142 : lw_okq (⟨"StreamFuserModel", "planTells", "(J)J"⟩, 59) := ⟨⟨by decide +kernel, by decide +kernel⟩, List.mem_of_getElem? (i := 1044) (by decide +kernel), List.mem_of_getElem? (i := 1602) (by decide +kernel), List.mem_of_getElem? (i := 1603) (by decide +kernel)⟩
def lw_privs_9 : List (MethodName × Nat) := [(⟨"StreamFuserModel", "after", "(II)I"⟩, 59), (⟨"StreamFuserModel", "afterOne", "(II)I"⟩, 59), (⟨"StreamFuserModel", "opensFor", "(II)V"⟩, 59), (⟨"StreamFuserModel", "asks", "()Z"⟩, 59), (⟨"StreamFuserModel", "asksNext", "(I)I"⟩, 59), (⟨"StreamFuserModel", "hears", "(I)I"⟩, 59), (⟨"StreamFuserModel", "hearsOne", "(I)I"⟩, 59), (⟨"StreamFuserModel", "hearsOpen", "(I)I"⟩, 59), (⟨"StreamFuserModel", "foldBy", "(I)J"⟩, 59), (⟨"StreamFuserModel", "keptDown", "()I"⟩, 59), (⟨"StreamFuserModel", "writtenBy", "(II)J"⟩, 59), (⟨"StreamFuserModel", "savesBy", "(I)I"⟩, 59), (⟨"StreamFuserModel", "lays", "(ZI)V"⟩, 59), (⟨"StreamFuserModel", "deepest", "()I"⟩, 59), (⟨"StreamFuserModel", "planTells", "(J)J"⟩, 59)]
theorem lw_r9 : ∀ q ∈ lw_privs_9, lw_okq q := List.forall_mem_cons.mpr ⟨lw_p128, List.forall_mem_cons.mpr ⟨lw_p129, List.forall_mem_cons.mpr ⟨lw_p130, List.forall_mem_cons.mpr ⟨lw_p131, List.forall_mem_cons.mpr ⟨lw_p132, List.forall_mem_cons.mpr ⟨lw_p133, List.forall_mem_cons.mpr ⟨lw_p134, List.forall_mem_cons.mpr ⟨lw_p135, List.forall_mem_cons.mpr ⟨lw_p136, List.forall_mem_cons.mpr ⟨lw_p137, List.forall_mem_cons.mpr ⟨lw_p138, List.forall_mem_cons.mpr ⟨lw_p139, List.forall_mem_cons.mpr ⟨lw_p140, List.forall_mem_cons.mpr ⟨lw_p141, List.forall_mem_cons.mpr ⟨lw_p142, fun _ h => absurd h List.not_mem_nil⟩⟩⟩⟩⟩⟩⟩⟩⟩⟩⟩⟩⟩⟩⟩
def lw_privs : List (MethodName × Nat) := lw_privs_1 ++ (lw_privs_2 ++ (lw_privs_3 ++ (lw_privs_4 ++ (lw_privs_5 ++ (lw_privs_6 ++ (lw_privs_7 ++ (lw_privs_8 ++ (lw_privs_9))))))))
def lw_tbl : List Cond := k2_sels lw_privs ++ tables_1
theorem lw_privs_ok : ∀ q ∈ lw_privs, lw_okq q := by
  show ∀ q ∈ lw_privs_1 ++ (lw_privs_2 ++ (lw_privs_3 ++ (lw_privs_4 ++ (lw_privs_5 ++ (lw_privs_6 ++ (lw_privs_7 ++ (lw_privs_8 ++ (lw_privs_9)))))))), lw_okq q
  exact List.forall_mem_append.mpr ⟨lw_r1, List.forall_mem_append.mpr ⟨lw_r2, List.forall_mem_append.mpr ⟨lw_r3, List.forall_mem_append.mpr ⟨lw_r4, List.forall_mem_append.mpr ⟨lw_r5, List.forall_mem_append.mpr ⟨lw_r6, List.forall_mem_append.mpr ⟨lw_r7, List.forall_mem_append.mpr ⟨lw_r8, lw_r9⟩⟩⟩⟩⟩⟩⟩⟩

-- ===== names: classes, fields, types, methods =====
def RX0 : String := "StreamFuser$Asker"
def TX0 : u_T := fun k => match k with
  | 0 => ("StreamFuser$Walk", "used", "[I", true)
  | 1 => ("StreamFuser$Walk", "turned", "[Z", true)
  | 2 => ("StreamFuser$Way", "plan", "LStreamFuser$Plan;", true)
  | 3 => ("StreamFuser$Way", "run", "LStreamFuser$Run;", true)
  | 4 => ("StreamFuser$Way", "sheets", "LStreamFuser$Sheets;", true)
  | 5 => ("StreamFuser$Way", "opened", "[I", true)
  | _ => ("StreamFuser$Way", "value", "I", false)
def tyX0 : Nat → FieldType := fun k => match k with
  | 0 => .array .int
  | 1 => .array .boolean
  | 2 => .object "StreamFuser$Plan"
  | 3 => .object "StreamFuser$Run"
  | 4 => .object "StreamFuser$Sheets"
  | 5 => .array .int
  | _ => .int
abbrev wsX00 : List Cond := u_ws RX0 TX0 7
theorem nmX0 : ∀ a, a < 7 → ∀ b, b < 7 → a ≠ b → (TX0 a).2.1 ≠ (TX0 b).2.1 := by decide +kernel
theorem tyX0_ok : ∀ k, k < 7 → parseFieldDescriptor (TX0 k).2.2.1 = some (tyX0 k) := by decide +kernel
abbrev cX0_init : ByteArray := prog_2_method_1_code
def yX0_init : MethodName := ⟨RX0, "<init>", "(LStreamFuser$Plan;LStreamFuser$Run;LStreamFuser$Sheets;)V"⟩
abbrev cX0_play : ByteArray := prog_2_method_2_code
def yX0_play : MethodName := ⟨RX0, "play", "(I)V"⟩
abbrev cX0_ask : ByteArray := prog_2_method_3_code
def yX0_ask : MethodName := ⟨RX0, "ask", "(II)Z"⟩
abbrev cX0_askFilter : ByteArray := prog_2_method_4_code
def yX0_askFilter : MethodName := ⟨RX0, "askFilter", "(II)Z"⟩
abbrev cX0_askWhile : ByteArray := prog_2_method_5_code
def yX0_askWhile : MethodName := ⟨RX0, "askWhile", "(II)Z"⟩
abbrev cX0_askTake : ByteArray := prog_2_method_6_code
def yX0_askTake : MethodName := ⟨RX0, "askTake", "(II)Z"⟩
abbrev cX0_askDrop : ByteArray := prog_2_method_7_code
def yX0_askDrop : MethodName := ⟨RX0, "askDrop", "(II)Z"⟩
abbrev cX0_askChain : ByteArray := prog_2_method_8_code
def yX0_askChain : MethodName := ⟨RX0, "askChain", "(II)Z"⟩
abbrev cX0_askZip : ByteArray := prog_2_method_9_code
def yX0_askZip : MethodName := ⟨RX0, "askZip", "(II)Z"⟩
abbrev cX0_askOpener : ByteArray := prog_2_method_10_code
def yX0_askOpener : MethodName := ⟨RX0, "askOpener", "(II)Z"⟩
def RX1 : String := "StreamFuser$Maker"
def TX1 : u_T := fun k => match k with
  | 0 => ("StreamFuser$Way", "plan", "LStreamFuser$Plan;", true)
  | 1 => ("StreamFuser$Way", "run", "LStreamFuser$Run;", true)
  | 2 => ("StreamFuser$Way", "sheets", "LStreamFuser$Sheets;", true)
  | 3 => ("StreamFuser$Way", "opened", "[I", true)
  | 4 => ("StreamFuser$Way", "value", "I", false)
  | 5 => ("StreamFuser$Maker", "rows", "[I", true)
  | _ => ("StreamFuser$Maker", "length", "[I", true)
def tyX1 : Nat → FieldType := fun k => match k with
  | 0 => .object "StreamFuser$Plan"
  | 1 => .object "StreamFuser$Run"
  | 2 => .object "StreamFuser$Sheets"
  | 3 => .array .int
  | 4 => .int
  | 5 => .array .int
  | _ => .array .int
abbrev wsX10 : List Cond := u_ws RX1 TX1 7
theorem nmX1 : ∀ a, a < 7 → ∀ b, b < 7 → a ≠ b → (TX1 a).2.1 ≠ (TX1 b).2.1 := by decide +kernel
theorem tyX1_ok : ∀ k, k < 7 → parseFieldDescriptor (TX1 k).2.2.1 = some (tyX1 k) := by decide +kernel
abbrev cX1_init : ByteArray := prog_3_method_1_code
def yX1_init : MethodName := ⟨RX1, "<init>", "(LStreamFuser$Plan;LStreamFuser$Run;LStreamFuser$Sheets;)V"⟩
abbrev cX1_play : ByteArray := prog_3_method_2_code
def yX1_play : MethodName := ⟨RX1, "play", "(I)V"⟩
abbrev cX1_make : ByteArray := prog_3_method_3_code
def yX1_make : MethodName := ⟨RX1, "make", "(II)Z"⟩
abbrev cX1_fill : ByteArray := prog_3_method_4_code
def yX1_fill : MethodName := ⟨RX1, "fill", "(II)Z"⟩
abbrev cX1_fillFromProducer : ByteArray := prog_3_method_5_code
def yX1_fillFromProducer : MethodName := ⟨RX1, "fillFromProducer", "(I)Z"⟩
abbrev cX1_fillFromInput : ByteArray := prog_3_method_6_code
def yX1_fillFromInput : MethodName := ⟨RX1, "fillFromInput", "(I)Z"⟩
abbrev cX1_fillByOpening : ByteArray := prog_3_method_7_code
def yX1_fillByOpening : MethodName := ⟨RX1, "fillByOpening", "(II)Z"⟩
abbrev cX1_addRow : ByteArray := prog_3_method_8_code
def yX1_addRow : MethodName := ⟨RX1, "addRow", "(II)Z"⟩
abbrev cX1_zip : ByteArray := prog_3_method_9_code
def yX1_zip : MethodName := ⟨RX1, "zip", "(II)V"⟩
abbrev cX1_element : ByteArray := prog_3_method_10_code
def yX1_element : MethodName := ⟨RX1, "element", "(II)I"⟩
abbrev cX1_add : ByteArray := prog_3_method_11_code
def yX1_add : MethodName := ⟨RX1, "add", "(II)V"⟩
def RX2 : String := "StreamFuser$Plan"
def TX2 : u_T := fun k => match k with
  | 0 => ("StreamFuser$Plan", "letter", "[I", true)
  | 1 => ("StreamFuser$Plan", "mark", "[I", true)
  | 2 => ("StreamFuser$Plan", "first", "[I", true)
  | 3 => ("StreamFuser$Plan", "second", "[I", true)
  | 4 => ("StreamFuser$Plan", "size", "I", false)
  | 5 => ("StreamFuser$Plan", "end", "[I", true)
  | 6 => ("StreamFuser$Plan", "within", "[I", true)
  | 7 => ("StreamFuser$Plan", "nested", "[I", true)
  | 8 => ("StreamFuser$Plan", "opener", "[I", true)
  | 9 => ("StreamFuser$Plan", "pure", "[Z", true)
  | 10 => ("StreamFuser$Plan", "deepest", "I", false)
  | _ => ("StreamFuser$Plan", "endless", "Z", false)
def tyX2 : Nat → FieldType := fun k => match k with
  | 0 => .array .int
  | 1 => .array .int
  | 2 => .array .int
  | 3 => .array .int
  | 4 => .int
  | 5 => .array .int
  | 6 => .array .int
  | 7 => .array .int
  | 8 => .array .int
  | 9 => .array .boolean
  | 10 => .int
  | _ => .boolean
abbrev wsX20 : List Cond := u_ws RX2 TX2 12
theorem nmX2 : ∀ a, a < 12 → ∀ b, b < 12 → a ≠ b → (TX2 a).2.1 ≠ (TX2 b).2.1 := by decide +kernel
theorem tyX2_ok : ∀ k, k < 12 → parseFieldDescriptor (TX2 k).2.2.1 = some (tyX2 k) := by decide +kernel
abbrev cX2_init : ByteArray := prog_4_method_1_code
def yX2_init : MethodName := ⟨RX2, "<init>", "()V"⟩
abbrev cX2_partsOf : ByteArray := prog_4_method_2_code
def yX2_partsOf : MethodName := ⟨RX2, "partsOf", "(I)I"⟩
abbrev cX2_numbersOf : ByteArray := prog_4_method_3_code
def yX2_numbersOf : MethodName := ⟨RX2, "numbersOf", "(I)I"⟩
abbrev cX2_has : ByteArray := prog_4_method_4_code
def yX2_has : MethodName := ⟨RX2, "has", "(I)Z"⟩
abbrev cX2_letterAt : ByteArray := prog_4_method_5_code
def yX2_letterAt : MethodName := ⟨RX2, "letterAt", "(I)I"⟩
abbrev cX2_isNil : ByteArray := prog_4_method_6_code
def yX2_isNil : MethodName := ⟨RX2, "isNil", "(I)Z"⟩
abbrev cX2_secondPart : ByteArray := prog_4_method_7_code
def yX2_secondPart : MethodName := ⟨RX2, "secondPart", "(I)I"⟩
abbrev cX2_input : ByteArray := prog_4_method_8_code
def yX2_input : MethodName := ⟨RX2, "input", "(I)I"⟩
abbrev cX2_add : ByteArray := prog_4_method_9_code
def yX2_add : MethodName := ⟨RX2, "add", "(IIII)V"⟩
abbrev cX2_takeFrom : ByteArray := prog_4_method_10_code
def yX2_takeFrom : MethodName := ⟨RX2, "takeFrom", "(LStreamFuser$Plan;)V"⟩
abbrev cX2_swapWithNext : ByteArray := prog_4_method_11_code
def yX2_swapWithNext : MethodName := ⟨RX2, "swapWithNext", "(I)V"⟩
abbrev cX2_cut : ByteArray := prog_4_method_12_code
def yX2_cut : MethodName := ⟨RX2, "cut", "(II)V"⟩
abbrev cX2_moveNode : ByteArray := prog_4_method_13_code
def yX2_moveNode : MethodName := ⟨RX2, "moveNode", "(II)V"⟩
abbrev cX2_makeNil : ByteArray := prog_4_method_14_code
def yX2_makeNil : MethodName := ⟨RX2, "makeNil", "(I)V"⟩
abbrev cX2_measure : ByteArray := prog_4_method_15_code
def yX2_measure : MethodName := ⟨RX2, "measure", "()V"⟩
abbrev cX2_measureFromParts : ByteArray := prog_4_method_16_code
def yX2_measureFromParts : MethodName := ⟨RX2, "measureFromParts", "(I)V"⟩
abbrev cX2_measureParts : ByteArray := prog_4_method_17_code
def yX2_measureParts : MethodName := ⟨RX2, "measureParts", "(I)V"⟩
def RX3 : String := "StreamFuser$Printer"
def TX3 : u_T := fun k => match k with
  | 0 => ("StreamFuser$Printer", "source", "LStreamFuser$Plan;", true)
  | 1 => ("StreamFuser$Printer", "bytes", "[B", true)
  | _ => ("StreamFuser$Printer", "length", "I", false)
def tyX3 : Nat → FieldType := fun k => match k with
  | 0 => .object "StreamFuser$Plan"
  | 1 => .array .byte
  | _ => .int
abbrev wsX30 : List Cond := u_ws RX3 TX3 3
theorem nmX3 : ∀ a, a < 3 → ∀ b, b < 3 → a ≠ b → (TX3 a).2.1 ≠ (TX3 b).2.1 := by decide +kernel
theorem tyX3_ok : ∀ k, k < 3 → parseFieldDescriptor (TX3 k).2.2.1 = some (tyX3 k) := by decide +kernel
abbrev cX3_init : ByteArray := prog_5_method_1_code
def yX3_init : MethodName := ⟨RX3, "<init>", "(LStreamFuser$Plan;)V"⟩
abbrev cX3_print : ByteArray := prog_5_method_2_code
def yX3_print : MethodName := ⟨RX3, "print", "()V"⟩
abbrev cX3_printNode : ByteArray := prog_5_method_3_code
def yX3_printNode : MethodName := ⟨RX3, "printNode", "(I)V"⟩
abbrev cX3_put : ByteArray := prog_5_method_4_code
def yX3_put : MethodName := ⟨RX3, "put", "(I)V"⟩
abbrev cX3_putNumber : ByteArray := prog_5_method_5_code
def yX3_putNumber : MethodName := ⟨RX3, "putNumber", "(I)V"⟩
def RX4 : String := "StreamFuser$Reader"
def TX4 : u_T := fun k => match k with
  | 0 => ("StreamFuser$Reader", "target", "LStreamFuser$Plan;", true)
  | 1 => ("StreamFuser$Reader", "bytes", "[I", true)
  | 2 => ("StreamFuser$Reader", "length", "I", false)
  | 3 => ("StreamFuser$Reader", "due", "[I", true)
  | 4 => ("StreamFuser$Reader", "dues", "I", false)
  | 5 => ("StreamFuser$Reader", "at", "I", false)
  | _ => ("StreamFuser$Reader", "fault", "I", false)
def tyX4 : Nat → FieldType := fun k => match k with
  | 0 => .object "StreamFuser$Plan"
  | 1 => .array .int
  | 2 => .int
  | 3 => .array .int
  | 4 => .int
  | 5 => .int
  | _ => .int
abbrev wsX40 : List Cond := u_ws RX4 TX4 7
theorem nmX4 : ∀ a, a < 7 → ∀ b, b < 7 → a ≠ b → (TX4 a).2.1 ≠ (TX4 b).2.1 := by decide +kernel
theorem tyX4_ok : ∀ k, k < 7 → parseFieldDescriptor (TX4 k).2.2.1 = some (tyX4 k) := by decide +kernel
abbrev cX4_init : ByteArray := prog_6_method_1_code
def yX4_init : MethodName := ⟨RX4, "<init>", "(LStreamFuser$Plan;)V"⟩
abbrev cX4_append : ByteArray := prog_6_method_2_code
def yX4_append : MethodName := ⟨RX4, "append", "(I)Z"⟩
abbrev cX4_read : ByteArray := prog_6_method_3_code
def yX4_read : MethodName := ⟨RX4, "read", "()I"⟩
abbrev cX4_expect : ByteArray := prog_6_method_4_code
def yX4_expect : MethodName := ⟨RX4, "expect", "(I)V"⟩
abbrev cX4_readNode : ByteArray := prog_6_method_5_code
def yX4_readNode : MethodName := ⟨RX4, "readNode", "()V"⟩
abbrev cX4_expectParts : ByteArray := prog_6_method_6_code
def yX4_expectParts : MethodName := ⟨RX4, "expectParts", "(II)V"⟩
abbrev cX4_peek : ByteArray := prog_6_method_7_code
def yX4_peek : MethodName := ⟨RX4, "peek", "()I"⟩
abbrev cX4_accept : ByteArray := prog_6_method_8_code
def yX4_accept : MethodName := ⟨RX4, "accept", "(Z)V"⟩
abbrev cX4_isLetter : ByteArray := prog_6_method_9_code
def yX4_isLetter : MethodName := ⟨RX4, "isLetter", "(II)Z"⟩
abbrev cX4_hasMark : ByteArray := prog_6_method_10_code
def yX4_hasMark : MethodName := ⟨RX4, "hasMark", "(I)Z"⟩
abbrev cX4_hasDigit : ByteArray := prog_6_method_11_code
def yX4_hasDigit : MethodName := ⟨RX4, "hasDigit", "(I)Z"⟩
abbrev cX4_readMark : ByteArray := prog_6_method_12_code
def yX4_readMark : MethodName := ⟨RX4, "readMark", "(I)I"⟩
abbrev cX4_fitsMark : ByteArray := prog_6_method_13_code
def yX4_fitsMark : MethodName := ⟨RX4, "fitsMark", "(II)Z"⟩
abbrev cX4_isDigit : ByteArray := prog_6_method_14_code
def yX4_isDigit : MethodName := ⟨RX4, "isDigit", "(I)Z"⟩
abbrev cX4_readNumber : ByteArray := prog_6_method_15_code
def yX4_readNumber : MethodName := ⟨RX4, "readNumber", "(I)I"⟩
def RX5 : String := "StreamFuser$Rewriter"
def TX5 : u_T := fun k => match k with
  | 0 => ("StreamFuser$Rewriter", "plan", "LStreamFuser$Plan;", true)
  | 1 => ("StreamFuser$Rewriter", "applied", "[I", true)
  | _ => ("StreamFuser$Rewriter", "total", "I", false)
def tyX5 : Nat → FieldType := fun k => match k with
  | 0 => .object "StreamFuser$Plan"
  | 1 => .array .int
  | _ => .int
abbrev wsX50 : List Cond := u_ws RX5 TX5 3
theorem nmX5 : ∀ a, a < 3 → ∀ b, b < 3 → a ≠ b → (TX5 a).2.1 ≠ (TX5 b).2.1 := by decide +kernel
theorem tyX5_ok : ∀ k, k < 3 → parseFieldDescriptor (TX5 k).2.2.1 = some (tyX5 k) := by decide +kernel
abbrev cX5_init : ByteArray := prog_7_method_1_code
def yX5_init : MethodName := ⟨RX5, "<init>", "(LStreamFuser$Plan;)V"⟩
abbrev cX5_simplify : ByteArray := prog_7_method_2_code
def yX5_simplify : MethodName := ⟨RX5, "simplify", "(Z)V"⟩
abbrev cX5_place : ByteArray := prog_7_method_3_code
def yX5_place : MethodName := ⟨RX5, "place", "(Z)I"⟩
abbrev cX5_ruleFor : ByteArray := prog_7_method_4_code
def yX5_ruleFor : MethodName := ⟨RX5, "ruleFor", "(I)I"⟩
abbrev cX5_ruleForTake : ByteArray := prog_7_method_5_code
def yX5_ruleForTake : MethodName := ⟨RX5, "ruleForTake", "(I)I"⟩
abbrev cX5_ruleForDrop : ByteArray := prog_7_method_6_code
def yX5_ruleForDrop : MethodName := ⟨RX5, "ruleForDrop", "(I)I"⟩
abbrev cX5_apply : ByteArray := prog_7_method_7_code
def yX5_apply : MethodName := ⟨RX5, "apply", "(II)V"⟩
abbrev cX5_swapDropWithTake : ByteArray := prog_7_method_8_code
def yX5_swapDropWithTake : MethodName := ⟨RX5, "swapDropWithTake", "(I)V"⟩
abbrev cX5_keepOnePart : ByteArray := prog_7_method_9_code
def yX5_keepOnePart : MethodName := ⟨RX5, "keepOnePart", "(I)V"⟩
abbrev cX5_mergeWithNext : ByteArray := prog_7_method_10_code
def yX5_mergeWithNext : MethodName := ⟨RX5, "mergeWithNext", "(II)V"⟩
def RX6 : String := "StreamFuser$Run"
def TX6 : u_T := fun k => match k with
  | 0 => ("StreamFuser$Run", "numbers", "[I", true)
  | 1 => ("StreamFuser$Run", "size", "I", false)
  | 2 => ("StreamFuser$Run", "drawn", "I", false)
  | 3 => ("StreamFuser$Run", "work", "I", false)
  | 4 => ("StreamFuser$Run", "elements", "I", false)
  | 5 => ("StreamFuser$Run", "failure", "I", false)
  | 6 => ("StreamFuser$Run", "failureDepth", "I", false)
  | 7 => ("StreamFuser$Run", "digits", "[I", true)
  | 8 => ("StreamFuser$Run", "notes", "[I", true)
  | _ => ("StreamFuser$Run", "pairs", "I", false)
def tyX6 : Nat → FieldType := fun k => match k with
  | 0 => .array .int
  | 1 => .int
  | 2 => .int
  | 3 => .int
  | 4 => .int
  | 5 => .int
  | 6 => .int
  | 7 => .array .int
  | 8 => .array .int
  | _ => .int
abbrev wsX60 : List Cond := u_ws RX6 TX6 10
theorem nmX6 : ∀ a, a < 10 → ∀ b, b < 10 → a ≠ b → (TX6 a).2.1 ≠ (TX6 b).2.1 := by decide +kernel
theorem tyX6_ok : ∀ k, k < 10 → parseFieldDescriptor (TX6 k).2.2.1 = some (tyX6 k) := by decide +kernel
abbrev cX6_init : ByteArray := prog_8_method_1_code
def yX6_init : MethodName := ⟨RX6, "<init>", "()V"⟩
abbrev cX6_begin : ByteArray := prog_8_method_2_code
def yX6_begin : MethodName := ⟨RX6, "begin", "()V"⟩
abbrev cX6_give : ByteArray := prog_8_method_3_code
def yX6_give : MethodName := ⟨RX6, "give", "(I)V"⟩
abbrev cX6_draw : ByteArray := prog_8_method_4_code
def yX6_draw : MethodName := ⟨RX6, "draw", "(I)Z"⟩
abbrev cX6_fail : ByteArray := prog_8_method_5_code
def yX6_fail : MethodName := ⟨RX6, "fail", "(II)V"⟩
abbrev cX6_failed : ByteArray := prog_8_method_6_code
def yX6_failed : MethodName := ⟨RX6, "failed", "()Z"⟩
abbrev cX6_note : ByteArray := prog_8_method_7_code
def yX6_note : MethodName := ⟨RX6, "note", "(II)V"⟩
abbrev cX6_kept : ByteArray := prog_8_method_8_code
def yX6_kept : MethodName := ⟨RX6, "kept", "()I"⟩
abbrev cX6_sum : ByteArray := prog_8_method_9_code
def yX6_sum : MethodName := ⟨RX6, "sum", "()J"⟩
abbrev cX6_greatest : ByteArray := prog_8_method_10_code
def yX6_greatest : MethodName := ⟨RX6, "greatest", "()I"⟩
abbrev cX6_smallest : ByteArray := prog_8_method_11_code
def yX6_smallest : MethodName := ⟨RX6, "smallest", "()I"⟩
def RX7 : String := "StreamFuser$Sheets"
def TX7 : u_T := fun k => match k with
  | 0 => ("StreamFuser$Sheets", "form", "[I", true)
  | 1 => ("StreamFuser$Sheets", "length", "[I", true)
  | _ => ("StreamFuser$Sheets", "elements", "[I", true)
def tyX7 : Nat → FieldType := fun k => match k with
  | 0 => .array .int
  | 1 => .array .int
  | _ => .array .int
abbrev wsX70 : List Cond := u_ws RX7 TX7 3
theorem nmX7 : ∀ a, a < 3 → ∀ b, b < 3 → a ≠ b → (TX7 a).2.1 ≠ (TX7 b).2.1 := by decide +kernel
theorem tyX7_ok : ∀ k, k < 3 → parseFieldDescriptor (TX7 k).2.2.1 = some (tyX7 k) := by decide +kernel
abbrev cX7_init : ByteArray := prog_9_method_1_code
def yX7_init : MethodName := ⟨RX7, "<init>", "()V"⟩
abbrev cX7_isLost : ByteArray := prog_9_method_2_code
def yX7_isLost : MethodName := ⟨RX7, "isLost", "(I)Z"⟩
abbrev cX7_hasElement : ByteArray := prog_9_method_3_code
def yX7_hasElement : MethodName := ⟨RX7, "hasElement", "(II)Z"⟩
abbrev cX7_hasPart : ByteArray := prog_9_method_4_code
def yX7_hasPart : MethodName := ⟨RX7, "hasPart", "(III)Z"⟩
abbrev cX7_renew : ByteArray := prog_9_method_5_code
def yX7_renew : MethodName := ⟨RX7, "renew", "(III)V"⟩
abbrev cX7_store : ByteArray := prog_9_method_6_code
def yX7_store : MethodName := ⟨RX7, "store", "(III)V"⟩
abbrev cX7_cast : ByteArray := prog_9_method_7_code
def yX7_cast : MethodName := ⟨RX7, "cast", "(II)I"⟩
abbrev cX7_at : ByteArray := prog_9_method_8_code
def yX7_at : MethodName := ⟨RX7, "at", "(II)I"⟩
abbrev cX7_move : ByteArray := prog_9_method_9_code
def yX7_move : MethodName := ⟨RX7, "move", "(IIIII)V"⟩
def RX8 : String := "StreamFuser$Stepper"
def TX8 : u_T := fun k => match k with
  | 0 => ("StreamFuser$Walk", "used", "[I", true)
  | 1 => ("StreamFuser$Walk", "turned", "[Z", true)
  | 2 => ("StreamFuser$Way", "plan", "LStreamFuser$Plan;", true)
  | 3 => ("StreamFuser$Way", "run", "LStreamFuser$Run;", true)
  | 4 => ("StreamFuser$Way", "sheets", "LStreamFuser$Sheets;", true)
  | 5 => ("StreamFuser$Way", "opened", "[I", true)
  | 6 => ("StreamFuser$Way", "value", "I", false)
  | _ => ("StreamFuser$Stepper", "held", "[I", true)
def tyX8 : Nat → FieldType := fun k => match k with
  | 0 => .array .int
  | 1 => .array .boolean
  | 2 => .object "StreamFuser$Plan"
  | 3 => .object "StreamFuser$Run"
  | 4 => .object "StreamFuser$Sheets"
  | 5 => .array .int
  | 6 => .int
  | _ => .array .int
abbrev wsX80 : List Cond := u_ws RX8 TX8 8
theorem nmX8 : ∀ a, a < 8 → ∀ b, b < 8 → a ≠ b → (TX8 a).2.1 ≠ (TX8 b).2.1 := by decide +kernel
theorem tyX8_ok : ∀ k, k < 8 → parseFieldDescriptor (TX8 k).2.2.1 = some (tyX8 k) := by decide +kernel
abbrev cX8_init : ByteArray := prog_10_method_1_code
def yX8_init : MethodName := ⟨RX8, "<init>", "(LStreamFuser$Plan;LStreamFuser$Run;LStreamFuser$Sheets;)V"⟩
abbrev cX8_play : ByteArray := prog_10_method_2_code
def yX8_play : MethodName := ⟨RX8, "play", "(I)V"⟩
abbrev cX8_step : ByteArray := prog_10_method_3_code
def yX8_step : MethodName := ⟨RX8, "step", "(II)I"⟩
abbrev cX8_stepOne : ByteArray := prog_10_method_4_code
def yX8_stepOne : MethodName := ⟨RX8, "stepOne", "(II)I"⟩
abbrev cX8_given : ByteArray := prog_10_method_5_code
def yX8_given : MethodName := ⟨RX8, "given", "(Z)I"⟩
abbrev cX8_stepChain : ByteArray := prog_10_method_6_code
def yX8_stepChain : MethodName := ⟨RX8, "stepChain", "(II)I"⟩
abbrev cX8_stepZip : ByteArray := prog_10_method_7_code
def yX8_stepZip : MethodName := ⟨RX8, "stepZip", "(II)I"⟩
abbrev cX8_stepOpener : ByteArray := prog_10_method_8_code
def yX8_stepOpener : MethodName := ⟨RX8, "stepOpener", "(II)I"⟩
def RX9 : String := "StreamFuser$Walk"
def TX9 : u_T := fun k => match k with
  | _ => ("", "", "", false)
def tyX9 : Nat → FieldType := fun k => match k with
  | _ => .int
abbrev wsX90 : List Cond := u_ws RX9 TX9 0
theorem nmX9 : ∀ a, a < 0 → ∀ b, b < 0 → a ≠ b → (TX9 a).2.1 ≠ (TX9 b).2.1 := by decide +kernel
theorem tyX9_ok : ∀ k, k < 0 → parseFieldDescriptor (TX9 k).2.2.1 = some (tyX9 k) := by decide +kernel
abbrev cX9_init : ByteArray := prog_11_method_1_code
def yX9_init : MethodName := ⟨RX9, "<init>", "(LStreamFuser$Plan;LStreamFuser$Run;LStreamFuser$Sheets;)V"⟩
abbrev cX9_restart : ByteArray := prog_11_method_2_code
def yX9_restart : MethodName := ⟨RX9, "restart", "(II)V"⟩
abbrev cX9_open : ByteArray := prog_11_method_3_code
def yX9_open : MethodName := ⟨RX9, "open", "(II)V"⟩
abbrev cX9_produce : ByteArray := prog_11_method_4_code
def yX9_produce : MethodName := ⟨RX9, "produce", "(I)Z"⟩
def RX10 : String := "StreamFuser$Way"
def TX10 : u_T := fun k => match k with
  | _ => ("", "", "", false)
def tyX10 : Nat → FieldType := fun k => match k with
  | _ => .int
abbrev wsX100 : List Cond := u_ws RX10 TX10 0
theorem nmX10 : ∀ a, a < 0 → ∀ b, b < 0 → a ≠ b → (TX10 a).2.1 ≠ (TX10 b).2.1 := by decide +kernel
theorem tyX10_ok : ∀ k, k < 0 → parseFieldDescriptor (TX10 k).2.2.1 = some (tyX10 k) := by decide +kernel
abbrev cX10_init : ByteArray := prog_12_method_1_code
def yX10_init : MethodName := ⟨RX10, "<init>", "(LStreamFuser$Plan;LStreamFuser$Run;LStreamFuser$Sheets;)V"⟩
abbrev cX10_openedFor : ByteArray := prog_12_method_2_code
def yX10_openedFor : MethodName := ⟨RX10, "openedFor", "(I)I"⟩
abbrev cX10_isReady : ByteArray := prog_12_method_3_code
def yX10_isReady : MethodName := ⟨RX10, "isReady", "(I)Z"⟩
abbrev cX10_supply : ByteArray := prog_12_method_4_code
def yX10_supply : MethodName := ⟨RX10, "supply", "(I)J"⟩
abbrev cX10_supplied : ByteArray := prog_12_method_5_code
def yX10_supplied : MethodName := ⟨RX10, "supplied", "(II)I"⟩
abbrev cX10_change : ByteArray := prog_12_method_6_code
def yX10_change : MethodName := ⟨RX10, "change", "(II)Z"⟩
abbrev cX10_divide : ByteArray := prog_12_method_7_code
def yX10_divide : MethodName := ⟨RX10, "divide", "(III)Z"⟩
abbrev cX10_modulo : ByteArray := prog_12_method_8_code
def yX10_modulo : MethodName := ⟨RX10, "modulo", "(II)I"⟩
abbrev cX10_passes : ByteArray := prog_12_method_9_code
def yX10_passes : MethodName := ⟨RX10, "passes", "(II)Z"⟩
abbrev cX10_join : ByteArray := prog_12_method_10_code
def yX10_join : MethodName := ⟨RX10, "join", "(III)I"⟩
def RX11 : String := "StreamFuser"
def TX11 : u_T := fun k => match k with
  | 0 => ("StreamFuser", "main", "LStreamFuser$Plan;", true)
  | 1 => ("StreamFuser", "printer", "LStreamFuser$Printer;", true)
  | 2 => ("StreamFuser", "rewriter", "LStreamFuser$Rewriter;", true)
  | 3 => ("StreamFuser", "sheets", "LStreamFuser$Sheets;", true)
  | 4 => ("StreamFuser", "latest", "LStreamFuser$Run;", true)
  | 5 => ("StreamFuser", "asker", "LStreamFuser$Asker;", true)
  | 6 => ("StreamFuser", "stepper", "LStreamFuser$Stepper;", true)
  | 7 => ("StreamFuser", "maker", "LStreamFuser$Maker;", true)
  | 8 => ("StreamFuser", "draft", "LStreamFuser$Plan;", true)
  | 9 => ("StreamFuser", "reader", "LStreamFuser$Reader;", true)
  | 10 => ("StreamFuser", "draftRewriter", "LStreamFuser$Rewriter;", true)
  | 11 => ("StreamFuser", "trial", "LStreamFuser$Run;", true)
  | 12 => ("StreamFuser", "trialAsker", "LStreamFuser$Asker;", true)
  | _ => ("StreamFuser", "finding", "I", false)
def tyX11 : Nat → FieldType := fun k => match k with
  | 0 => .object "StreamFuser$Plan"
  | 1 => .object "StreamFuser$Printer"
  | 2 => .object "StreamFuser$Rewriter"
  | 3 => .object "StreamFuser$Sheets"
  | 4 => .object "StreamFuser$Run"
  | 5 => .object "StreamFuser$Asker"
  | 6 => .object "StreamFuser$Stepper"
  | 7 => .object "StreamFuser$Maker"
  | 8 => .object "StreamFuser$Plan"
  | 9 => .object "StreamFuser$Reader"
  | 10 => .object "StreamFuser$Rewriter"
  | 11 => .object "StreamFuser$Run"
  | 12 => .object "StreamFuser$Asker"
  | _ => .int
abbrev wsX110 : List Cond := u_ws RX11 TX11 14
theorem nmX11 : ∀ a, a < 14 → ∀ b, b < 14 → a ≠ b → (TX11 a).2.1 ≠ (TX11 b).2.1 := by decide +kernel
theorem tyX11_ok : ∀ k, k < 14 → parseFieldDescriptor (TX11 k).2.2.1 = some (tyX11 k) := by decide +kernel
abbrev cX11_init : ByteArray := prog_1_method_1_code
def yX11_init : MethodName := ⟨RX11, "<init>", "()V"⟩
abbrev cX11_type : ByteArray := prog_1_method_2_code
def yX11_type : MethodName := ⟨RX11, "type", "(I)I"⟩
abbrev cX11_wipe : ByteArray := prog_1_method_3_code
def yX11_wipe : MethodName := ⟨RX11, "wipe", "()I"⟩
abbrev cX11_fault : ByteArray := prog_1_method_4_code
def yX11_fault : MethodName := ⟨RX11, "fault", "()I"⟩
abbrev cX11_plan : ByteArray := prog_1_method_5_code
def yX11_plan : MethodName := ⟨RX11, "plan", "()I"⟩
abbrev cX11_node : ByteArray := prog_1_method_6_code
def yX11_node : MethodName := ⟨RX11, "node", "(II)I"⟩
abbrev cX11_text : ByteArray := prog_1_method_7_code
def yX11_text : MethodName := ⟨RX11, "text", "(I)I"⟩
abbrev cX11_tidy : ByteArray := prog_1_method_8_code
def yX11_tidy : MethodName := ⟨RX11, "tidy", "(I)I"⟩
abbrev cX11_rules : ByteArray := prog_1_method_9_code
def yX11_rules : MethodName := ⟨RX11, "rules", "(I)I"⟩
abbrev cX11_saves : ByteArray := prog_1_method_10_code
def yX11_saves : MethodName := ⟨RX11, "saves", "(I)I"⟩
abbrev cX11_run : ByteArray := prog_1_method_11_code
def yX11_run : MethodName := ⟨RX11, "run", "(II)I"⟩
abbrev cX11_result : ByteArray := prog_1_method_12_code
def yX11_result : MethodName := ⟨RX11, "result", "(I)J"⟩
abbrev cX11_fold : ByteArray := prog_1_method_13_code
def yX11_fold : MethodName := ⟨RX11, "fold", "(I)J"⟩
abbrev cX11_failure : ByteArray := prog_1_method_14_code
def yX11_failure : MethodName := ⟨RX11, "failure", "(I)I"⟩
abbrev cX11_told : ByteArray := prog_1_method_15_code
def yX11_told : MethodName := ⟨RX11, "told", "(I)I"⟩
abbrev cX11_written : ByteArray := prog_1_method_16_code
def yX11_written : MethodName := ⟨RX11, "written", "(II)J"⟩
abbrev cX11_sheet : ByteArray := prog_1_method_17_code
def yX11_sheet : MethodName := ⟨RX11, "sheet", "(III)I"⟩
abbrev cX11_lose : ByteArray := prog_1_method_18_code
def yX11_lose : MethodName := ⟨RX11, "lose", "(I)I"⟩
abbrev cX11_lay : ByteArray := prog_1_method_19_code
def yX11_lay : MethodName := ⟨RX11, "lay", "(IIII)I"⟩
abbrev cX11_get : ByteArray := prog_1_method_20_code
def yX11_get : MethodName := ⟨RX11, "get", "(III)I"⟩
abbrev cX11_copy : ByteArray := prog_1_method_21_code
def yX11_copy : MethodName := ⟨RX11, "copy", "(IIIII)I"⟩
abbrev cX11_write : ByteArray := prog_1_method_22_code
def yX11_write : MethodName := ⟨RX11, "write", "(I)I"⟩
abbrev cX11_count : ByteArray := prog_1_method_23_code
def yX11_count : MethodName := ⟨RX11, "count", "(I)I"⟩
abbrev cX11_digest : ByteArray := prog_1_method_24_code
def yX11_digest : MethodName := ⟨RX11, "digest", "()J"⟩
abbrev cX11_mixPlan : ByteArray := prog_1_method_25_code
def yX11_mixPlan : MethodName := ⟨RX11, "mixPlan", "(J)J"⟩
abbrev cX11_mixRun : ByteArray := prog_1_method_26_code
def yX11_mixRun : MethodName := ⟨RX11, "mixRun", "(J)J"⟩
abbrev cX11_find : ByteArray := prog_1_method_27_code
def yX11_find : MethodName := ⟨RX11, "find", "(I)I"⟩
abbrev cX11_elementError : ByteArray := prog_1_method_28_code
def yX11_elementError : MethodName := ⟨RX11, "elementError", "(III)I"⟩
abbrev cX11_isSheet : ByteArray := prog_1_method_29_code
def yX11_isSheet : MethodName := ⟨RX11, "isSheet", "(I)Z"⟩
abbrev cX11_isForm : ByteArray := prog_1_method_30_code
def yX11_isForm : MethodName := ⟨RX11, "isForm", "(I)Z"⟩
def RX12 : String := "StreamFuserModel"
def TX12 : u_T := fun k => match k with
  | 0 => ("StreamFuserModel", "forms", "[I", true)
  | 1 => ("StreamFuserModel", "sizes", "[I", true)
  | 2 => ("StreamFuserModel", "items", "[I", true)
  | 3 => ("StreamFuserModel", "moved", "[I", true)
  | 4 => ("StreamFuserModel", "latest", "I", false)
  | 5 => ("StreamFuserModel", "text", "[I", true)
  | 6 => ("StreamFuserModel", "typed", "I", false)
  | 7 => ("StreamFuserModel", "wants", "[I", true)
  | 8 => ("StreamFuserModel", "wanted", "I", false)
  | 9 => ("StreamFuserModel", "figures", "I", false)
  | 10 => ("StreamFuserModel", "number", "I", false)
  | 11 => ("StreamFuserModel", "below", "Z", false)
  | 12 => ("StreamFuserModel", "readLetters", "[I", true)
  | 13 => ("StreamFuserModel", "readSigns", "[I", true)
  | 14 => ("StreamFuserModel", "readFirsts", "[I", true)
  | 15 => ("StreamFuserModel", "readSeconds", "[I", true)
  | 16 => ("StreamFuserModel", "read", "I", false)
  | 17 => ("StreamFuserModel", "letters", "[I", true)
  | 18 => ("StreamFuserModel", "signs", "[I", true)
  | 19 => ("StreamFuserModel", "firsts", "[I", true)
  | 20 => ("StreamFuserModel", "seconds", "[I", true)
  | 21 => ("StreamFuserModel", "nodes", "I", false)
  | 22 => ("StreamFuserModel", "sizes2", "[I", true)
  | 23 => ("StreamFuserModel", "ps", "[I", true)
  | 24 => ("StreamFuserModel", "qs", "[I", true)
  | 25 => ("StreamFuserModel", "deeps", "[I", true)
  | 26 => ("StreamFuserModel", "opens", "[I", true)
  | 27 => ("StreamFuserModel", "binders", "[I", true)
  | 28 => ("StreamFuserModel", "told", "[I", true)
  | 29 => ("StreamFuserModel", "bytes", "I", false)
  | 30 => ("StreamFuserModel", "used", "[I", true)
  | 31 => ("StreamFuserModel", "latestUsed", "[I", true)
  | 32 => ("StreamFuserModel", "usedAll", "I", false)
  | 33 => ("StreamFuserModel", "kept", "[I", true)
  | 34 => ("StreamFuserModel", "held", "[I", true)
  | 35 => ("StreamFuserModel", "failure", "I", false)
  | 36 => ("StreamFuserModel", "depth", "I", false)
  | 37 => ("StreamFuserModel", "drawn", "I", false)
  | 38 => ("StreamFuserModel", "counted", "I", false)
  | 39 => ("StreamFuserModel", "cells", "I", false)
  | 40 => ("StreamFuserModel", "results", "[I", true)
  | 41 => ("StreamFuserModel", "got", "I", false)
  | 42 => ("StreamFuserModel", "figuresDown", "[I", true)
  | 43 => ("StreamFuserModel", "numbersDown", "[I", true)
  | 44 => ("StreamFuserModel", "down", "I", false)
  | 45 => ("StreamFuserModel", "has", "Z", false)
  | 46 => ("StreamFuserModel", "value", "I", false)
  | 47 => ("StreamFuserModel", "pile", "[I", true)
  | 48 => ("StreamFuserModel", "high", "I", false)
  | 49 => ("StreamFuserModel", "rows", "[I", true)
  | 50 => ("StreamFuserModel", "longs", "[I", true)
  | 51 => ("StreamFuserModel", "phases", "[I", true)
  | 52 => ("StreamFuserModel", "at", "[I", true)
  | 53 => ("StreamFuserModel", "latestTold", "[I", true)
  | 54 => ("StreamFuserModel", "latestResults", "[I", true)
  | 55 => ("StreamFuserModel", "latestGot", "I", false)
  | 56 => ("StreamFuserModel", "latestFigures", "[I", true)
  | 57 => ("StreamFuserModel", "latestNumbers", "[I", true)
  | _ => ("StreamFuserModel", "asideNodes", "[I", true)
def tyX12 : Nat → FieldType := fun k => match k with
  | 0 => .array .int
  | 1 => .array .int
  | 2 => .array .int
  | 3 => .array .int
  | 4 => .int
  | 5 => .array .int
  | 6 => .int
  | 7 => .array .int
  | 8 => .int
  | 9 => .int
  | 10 => .int
  | 11 => .boolean
  | 12 => .array .int
  | 13 => .array .int
  | 14 => .array .int
  | 15 => .array .int
  | 16 => .int
  | 17 => .array .int
  | 18 => .array .int
  | 19 => .array .int
  | 20 => .array .int
  | 21 => .int
  | 22 => .array .int
  | 23 => .array .int
  | 24 => .array .int
  | 25 => .array .int
  | 26 => .array .int
  | 27 => .array .int
  | 28 => .array .int
  | 29 => .int
  | 30 => .array .int
  | 31 => .array .int
  | 32 => .int
  | 33 => .array .int
  | 34 => .array .int
  | 35 => .int
  | 36 => .int
  | 37 => .int
  | 38 => .int
  | 39 => .int
  | 40 => .array .int
  | 41 => .int
  | 42 => .array .int
  | 43 => .array .int
  | 44 => .int
  | 45 => .boolean
  | 46 => .int
  | 47 => .array .int
  | 48 => .int
  | 49 => .array .int
  | 50 => .array .int
  | 51 => .array .int
  | 52 => .array .int
  | 53 => .array .int
  | 54 => .array .int
  | 55 => .int
  | 56 => .array .int
  | 57 => .array .int
  | _ => .array .int
abbrev wsX120 : List Cond := u_ws RX12 TX12 59
theorem nmX12 : ∀ a, a < 59 → ∀ b, b < 59 → a ≠ b → (TX12 a).2.1 ≠ (TX12 b).2.1 := by decide +kernel
theorem tyX12_ok : ∀ k, k < 59 → parseFieldDescriptor (TX12 k).2.2.1 = some (tyX12 k) := by decide +kernel
abbrev cX12_init : ByteArray := prog_14_method_1_code
def yX12_init : MethodName := ⟨RX12, "<init>", "()V"⟩
abbrev cX12_in : ByteArray := prog_14_method_3_code
def yX12_in : MethodName := ⟨RX12, "in", "(JJJ)Z"⟩
abbrev cX12_no : ByteArray := prog_14_method_4_code
def yX12_no : MethodName := ⟨RX12, "no", "(I)J"⟩
abbrev cX12_lesser : ByteArray := prog_14_method_5_code
def yX12_lesser : MethodName := ⟨RX12, "lesser", "(II)I"⟩
abbrev cX12_greater : ByteArray := prog_14_method_6_code
def yX12_greater : MethodName := ⟨RX12, "greater", "(II)I"⟩
abbrev cX12_finds : ByteArray := prog_14_method_7_code
def yX12_finds : MethodName := ⟨RX12, "finds", "(I)I"⟩
abbrev cX12_isSheet : ByteArray := prog_14_method_8_code
def yX12_isSheet : MethodName := ⟨RX12, "isSheet", "(I)Z"⟩
abbrev cX12_sheet : ByteArray := prog_14_method_9_code
def yX12_sheet : MethodName := ⟨RX12, "sheet", "(III)I"⟩
abbrev cX12_lose : ByteArray := prog_14_method_10_code
def yX12_lose : MethodName := ⟨RX12, "lose", "(I)I"⟩
abbrev cX12_lacks : ByteArray := prog_14_method_11_code
def yX12_lacks : MethodName := ⟨RX12, "lacks", "(III)I"⟩
abbrev cX12_cut : ByteArray := prog_14_method_12_code
def yX12_cut : MethodName := ⟨RX12, "cut", "(II)I"⟩
abbrev cX12_lay : ByteArray := prog_14_method_13_code
def yX12_lay : MethodName := ⟨RX12, "lay", "(IIII)I"⟩
abbrev cX12_get : ByteArray := prog_14_method_14_code
def yX12_get : MethodName := ⟨RX12, "get", "(III)I"⟩
abbrev cX12_copy : ByteArray := prog_14_method_15_code
def yX12_copy : MethodName := ⟨RX12, "copy", "(IIIII)I"⟩
abbrev cX12_type : ByteArray := prog_14_method_16_code
def yX12_type : MethodName := ⟨RX12, "type", "(I)I"⟩
abbrev cX12_wipe : ByteArray := prog_14_method_17_code
def yX12_wipe : MethodName := ⟨RX12, "wipe", "()I"⟩
abbrev cX12_partsOf : ByteArray := prog_14_method_18_code
def yX12_partsOf : MethodName := ⟨RX12, "partsOf", "(I)I"⟩
abbrev cX12_wants : ByteArray := prog_14_method_19_code
def yX12_wants : MethodName := ⟨RX12, "wants", "(I)V"⟩
abbrev cX12_wantsBehind : ByteArray := prog_14_method_20_code
def yX12_wantsBehind : MethodName := ⟨RX12, "wantsBehind", "(II)V"⟩
abbrev cX12_takesLetter : ByteArray := prog_14_method_21_code
def yX12_takesLetter : MethodName := ⟨RX12, "takesLetter", "(II)Z"⟩
abbrev cX12_takesNumber : ByteArray := prog_14_method_22_code
def yX12_takesNumber : MethodName := ⟨RX12, "takesNumber", "(II)Z"⟩
abbrev cX12_takesSign : ByteArray := prog_14_method_23_code
def yX12_takesSign : MethodName := ⟨RX12, "takesSign", "(II)Z"⟩
abbrev cX12_faultNow : ByteArray := prog_14_method_24_code
def yX12_faultNow : MethodName := ⟨RX12, "faultNow", "()I"⟩
abbrev cX12_fault : ByteArray := prog_14_method_25_code
def yX12_fault : MethodName := ⟨RX12, "fault", "()I"⟩
abbrev cX12_places : ByteArray := prog_14_method_26_code
def yX12_places : MethodName := ⟨RX12, "places", "()V"⟩
abbrev cX12_hangs : ByteArray := prog_14_method_27_code
def yX12_hangs : MethodName := ⟨RX12, "hangs", "(IIZ)V"⟩
abbrev cX12_plan : ByteArray := prog_14_method_28_code
def yX12_plan : MethodName := ⟨RX12, "plan", "()I"⟩
abbrev cX12_isPure : ByteArray := prog_14_method_29_code
def yX12_isPure : MethodName := ⟨RX12, "isPure", "(I)Z"⟩
abbrev cX12_nodeBy : ByteArray := prog_14_method_30_code
def yX12_nodeBy : MethodName := ⟨RX12, "nodeBy", "(II)I"⟩
abbrev cX12_node : ByteArray := prog_14_method_31_code
def yX12_node : MethodName := ⟨RX12, "node", "(II)I"⟩
abbrev cX12_tells : ByteArray := prog_14_method_32_code
def yX12_tells : MethodName := ⟨RX12, "tells", "(I)V"⟩
abbrev cX12_tellsNumber : ByteArray := prog_14_method_33_code
def yX12_tellsNumber : MethodName := ⟨RX12, "tellsNumber", "(I)V"⟩
abbrev cX12_numbersOf : ByteArray := prog_14_method_34_code
def yX12_numbersOf : MethodName := ⟨RX12, "numbersOf", "(I)I"⟩
abbrev cX12_writesPlan : ByteArray := prog_14_method_35_code
def yX12_writesPlan : MethodName := ⟨RX12, "writesPlan", "()V"⟩
abbrev cX12_textBy : ByteArray := prog_14_method_36_code
def yX12_textBy : MethodName := ⟨RX12, "textBy", "(I)I"⟩
abbrev cX12_text : ByteArray := prog_14_method_37_code
def yX12_text : MethodName := ⟨RX12, "text", "(I)I"⟩
abbrev cX12_isNil : ByteArray := prog_14_method_38_code
def yX12_isNil : MethodName := ⟨RX12, "isNil", "(I)Z"⟩
abbrev cX12_changes : ByteArray := prog_14_method_39_code
def yX12_changes : MethodName := ⟨RX12, "changes", "(I)Z"⟩
abbrev cX12_ruleOfCut : ByteArray := prog_14_method_40_code
def yX12_ruleOfCut : MethodName := ⟨RX12, "ruleOfCut", "(I)I"⟩
abbrev cX12_ruleAt : ByteArray := prog_14_method_41_code
def yX12_ruleAt : MethodName := ⟨RX12, "ruleAt", "(I)I"⟩
abbrev cX12_cuts : ByteArray := prog_14_method_42_code
def yX12_cuts : MethodName := ⟨RX12, "cuts", "(II)V"⟩
abbrev cX12_becomes : ByteArray := prog_14_method_43_code
def yX12_becomes : MethodName := ⟨RX12, "becomes", "(IIII)V"⟩
abbrev cX12_nil : ByteArray := prog_14_method_44_code
def yX12_nil : MethodName := ⟨RX12, "nil", "(I)V"⟩
abbrev cX12_turns : ByteArray := prog_14_method_45_code
def yX12_turns : MethodName := ⟨RX12, "turns", "(I)V"⟩
abbrev cX12_uses : ByteArray := prog_14_method_46_code
def yX12_uses : MethodName := ⟨RX12, "uses", "(II)V"⟩
abbrev cX12_usesMore : ByteArray := prog_14_method_47_code
def yX12_usesMore : MethodName := ⟨RX12, "usesMore", "(III)V"⟩
abbrev cX12_tidiesOnce : ByteArray := prog_14_method_48_code
def yX12_tidiesOnce : MethodName := ⟨RX12, "tidiesOnce", "(I)Z"⟩
abbrev cX12_tidies : ByteArray := prog_14_method_49_code
def yX12_tidies : MethodName := ⟨RX12, "tidies", "(I)I"⟩
abbrev cX12_tidy : ByteArray := prog_14_method_50_code
def yX12_tidy : MethodName := ⟨RX12, "tidy", "(I)I"⟩
abbrev cX12_rules : ByteArray := prog_14_method_51_code
def yX12_rules : MethodName := ⟨RX12, "rules", "(I)I"⟩
abbrev cX12_fails : ByteArray := prog_14_method_52_code
def yX12_fails : MethodName := ⟨RX12, "fails", "(II)V"⟩
abbrev cX12_writesDown : ByteArray := prog_14_method_53_code
def yX12_writesDown : MethodName := ⟨RX12, "writesDown", "(II)V"⟩
abbrev cX12_begins : ByteArray := prog_14_method_54_code
def yX12_begins : MethodName := ⟨RX12, "begins", "(II)V"⟩
abbrev cX12_draws : ByteArray := prog_14_method_55_code
def yX12_draws : MethodName := ⟨RX12, "draws", "()Z"⟩
abbrev cX12_gives : ByteArray := prog_14_method_56_code
def yX12_gives : MethodName := ⟨RX12, "gives", "(I)V"⟩
abbrev cX12_made : ByteArray := prog_14_method_57_code
def yX12_made : MethodName := ⟨RX12, "made", "(II)I"⟩
abbrev cX12_passes : ByteArray := prog_14_method_58_code
def yX12_passes : MethodName := ⟨RX12, "passes", "(II)Z"⟩
abbrev cX12_joined : ByteArray := prog_14_method_59_code
def yX12_joined : MethodName := ⟨RX12, "joined", "(III)I"⟩
abbrev cX12_opensFor : ByteArray := prog_14_method_60_code
def yX12_opensFor : MethodName := ⟨RX12, "opensFor", "(II)V"⟩
abbrev cX12_asksNext : ByteArray := prog_14_method_61_code
def yX12_asksNext : MethodName := ⟨RX12, "asksNext", "(I)I"⟩
abbrev cX12_hears : ByteArray := prog_14_method_62_code
def yX12_hears : MethodName := ⟨RX12, "hears", "(I)I"⟩
abbrev cX12_hearsOne : ByteArray := prog_14_method_63_code
def yX12_hearsOne : MethodName := ⟨RX12, "hearsOne", "(I)I"⟩
abbrev cX12_hearsOpen : ByteArray := prog_14_method_64_code
def yX12_hearsOpen : MethodName := ⟨RX12, "hearsOpen", "(I)I"⟩
abbrev cX12_asks : ByteArray := prog_14_method_65_code
def yX12_asks : MethodName := ⟨RX12, "asks", "()Z"⟩
abbrev cX12_after : ByteArray := prog_14_method_66_code
def yX12_after : MethodName := ⟨RX12, "after", "(II)I"⟩
abbrev cX12_afterOne : ByteArray := prog_14_method_67_code
def yX12_afterOne : MethodName := ⟨RX12, "afterOne", "(II)I"⟩
abbrev cX12_steps : ByteArray := prog_14_method_68_code
def yX12_steps : MethodName := ⟨RX12, "steps", "()I"⟩
abbrev cX12_adds : ByteArray := prog_14_method_69_code
def yX12_adds : MethodName := ⟨RX12, "adds", "(II)V"⟩
abbrev cX12_fills : ByteArray := prog_14_method_70_code
def yX12_fills : MethodName := ⟨RX12, "fills", "(I)V"⟩
abbrev cX12_changesRow : ByteArray := prog_14_method_71_code
def yX12_changesRow : MethodName := ⟨RX12, "changesRow", "(I)V"⟩
abbrev cX12_joinsRows : ByteArray := prog_14_method_72_code
def yX12_joinsRows : MethodName := ⟨RX12, "joinsRows", "(I)V"⟩
abbrev cX12_opensRow : ByteArray := prog_14_method_73_code
def yX12_opensRow : MethodName := ⟨RX12, "opensRow", "(I)I"⟩
abbrev cX12_wantsRow : ByteArray := prog_14_method_74_code
def yX12_wantsRow : MethodName := ⟨RX12, "wantsRow", "(I)I"⟩
abbrev cX12_makesRows : ByteArray := prog_14_method_75_code
def yX12_makesRows : MethodName := ⟨RX12, "makesRows", "()V"⟩
abbrev cX12_runs : ByteArray := prog_14_method_76_code
def yX12_runs : MethodName := ⟨RX12, "runs", "(II)V"⟩
abbrev cX12_hasEndless : ByteArray := prog_14_method_77_code
def yX12_hasEndless : MethodName := ⟨RX12, "hasEndless", "()Z"⟩
abbrev cX12_run : ByteArray := prog_14_method_78_code
def yX12_run : MethodName := ⟨RX12, "run", "(II)I"⟩
abbrev cX12_result : ByteArray := prog_14_method_79_code
def yX12_result : MethodName := ⟨RX12, "result", "(I)J"⟩
abbrev cX12_foldBy : ByteArray := prog_14_method_80_code
def yX12_foldBy : MethodName := ⟨RX12, "foldBy", "(I)J"⟩
abbrev cX12_fold : ByteArray := prog_14_method_81_code
def yX12_fold : MethodName := ⟨RX12, "fold", "(I)J"⟩
abbrev cX12_failure : ByteArray := prog_14_method_82_code
def yX12_failure : MethodName := ⟨RX12, "failure", "(I)I"⟩
abbrev cX12_told : ByteArray := prog_14_method_83_code
def yX12_told : MethodName := ⟨RX12, "told", "(I)I"⟩
abbrev cX12_writtenBy : ByteArray := prog_14_method_84_code
def yX12_writtenBy : MethodName := ⟨RX12, "writtenBy", "(II)J"⟩
abbrev cX12_keptDown : ByteArray := prog_14_method_85_code
def yX12_keptDown : MethodName := ⟨RX12, "keptDown", "()I"⟩
abbrev cX12_written : ByteArray := prog_14_method_86_code
def yX12_written : MethodName := ⟨RX12, "written", "(II)J"⟩
abbrev cX12_write : ByteArray := prog_14_method_87_code
def yX12_write : MethodName := ⟨RX12, "write", "(I)I"⟩
abbrev cX12_lays : ByteArray := prog_14_method_88_code
def yX12_lays : MethodName := ⟨RX12, "lays", "(ZI)V"⟩
abbrev cX12_savesBy : ByteArray := prog_14_method_89_code
def yX12_savesBy : MethodName := ⟨RX12, "savesBy", "(I)I"⟩
abbrev cX12_saves : ByteArray := prog_14_method_90_code
def yX12_saves : MethodName := ⟨RX12, "saves", "(I)I"⟩
abbrev cX12_deepest : ByteArray := prog_14_method_91_code
def yX12_deepest : MethodName := ⟨RX12, "deepest", "()I"⟩
abbrev cX12_count : ByteArray := prog_14_method_92_code
def yX12_count : MethodName := ⟨RX12, "count", "(I)I"⟩
abbrev cX12_planTells : ByteArray := prog_14_method_93_code
def yX12_planTells : MethodName := ⟨RX12, "planTells", "(J)J"⟩
abbrev cX12_digest : ByteArray := prog_14_method_94_code
def yX12_digest : MethodName := ⟨RX12, "digest", "()J"⟩
def RJ9 : String := "java/lang/Math"
def TJ9 : u_T := fun k => match k with
  | _ => ("", "", "", false)
def tyJ9 : Nat → FieldType := fun k => match k with
  | _ => .int
abbrev wsJ90 : List Cond := u_ws RJ9 TJ9 0
theorem nmJ9 : ∀ a, a < 0 → ∀ b, b < 0 → a ≠ b → (TJ9 a).2.1 ≠ (TJ9 b).2.1 := by decide +kernel
theorem tyJ9_ok : ∀ k, k < 0 → parseFieldDescriptor (TJ9 k).2.2.1 = some (tyJ9 k) := by decide +kernel
abbrev cJ9_floorMod_7cf53 : ByteArray := prog_15_method_50_code
def yJ9_floorMod_7cf53 : MethodName := ⟨RJ9, "floorMod", "(II)I"⟩
abbrev cJ9_abs_067f4 : ByteArray := prog_15_method_61_code
def yJ9_abs_067f4 : MethodName := ⟨RJ9, "abs", "(J)J"⟩
abbrev cJ9_max_7cf53 : ByteArray := prog_15_method_65_code
def yJ9_max_7cf53 : MethodName := ⟨RJ9, "max", "(II)I"⟩
abbrev cJ9_max_f86c9 : ByteArray := prog_15_method_66_code
def yJ9_max_f86c9 : MethodName := ⟨RJ9, "max", "(JJ)J"⟩
abbrev cJ9_min_7cf53 : ByteArray := prog_15_method_69_code
def yJ9_min_7cf53 : MethodName := ⟨RJ9, "min", "(II)I"⟩
def RJ10 : String := "java/lang/System"
def TJ10 : u_T := fun k => match k with
  | _ => ("", "", "", false)
def tyJ10 : Nat → FieldType := fun k => match k with
  | _ => .int
abbrev wsJ100 : List Cond := u_ws RJ10 TJ10 0
theorem nmJ10 : ∀ a, a < 0 → ∀ b, b < 0 → a ≠ b → (TJ10 a).2.1 ≠ (TJ10 b).2.1 := by decide +kernel
theorem tyJ10_ok : ∀ k, k < 0 → parseFieldDescriptor (TJ10 k).2.2.1 = some (tyJ10 k) := by decide +kernel
def RL : String := "StreamFuserLaw"
abbrev cL_law : ByteArray := code
def yL_law : MethodName := ⟨RL, "law", "([I)Z"⟩
abbrev vwCl : List vw_C := [(RX0, TX0, 7), (RX1, TX1, 7), (RX2, TX2, 12), (RX3, TX3, 3), (RX4, TX4, 7), (RX5, TX5, 3), (RX6, TX6, 10), (RX7, TX7, 3), (RX8, TX8, 8), (RX11, TX11, 14), (RX12, TX12, 59)]
end
section
/-! the words of the tables, by their places -/
def sf_nest : Cond → Bool
  | .fieldLinkNest _ _ _ _ _ _ => true
  | .methodLinkNest _ _ _ _ => true
  | _ => false
def sf_T : List Cond := lw_tbl.filter goodWord
def sf_N : List Cond := lw_tbl.filter sf_nest
theorem sf_T_of {w : Cond} (i : Nat) (h : lw_tbl[i]? = some w) (hg : goodWord w = true) : w ∈ sf_T := List.mem_filter.mpr ⟨List.mem_of_getElem? h, hg⟩
theorem sf_N_of {w : Cond} (i : Nat) (h : lw_tbl[i]? = some w) (hg : sf_nest w = true) : w ∈ sf_N := List.mem_filter.mpr ⟨List.mem_of_getElem? h, hg⟩
theorem sf_in0 : ∀ w ∈ wsX00, w ∈ sf_T := by decide +kernel
theorem sf_in1 : ∀ w ∈ wsX10, w ∈ sf_T := by decide +kernel
theorem sf_in2 : ∀ w ∈ wsX20, w ∈ sf_T := by decide +kernel
theorem sf_in3 : ∀ w ∈ wsX30, w ∈ sf_T := by decide +kernel
theorem sf_in4 : ∀ w ∈ wsX40, w ∈ sf_T := by decide +kernel
theorem sf_in5 : ∀ w ∈ wsX50, w ∈ sf_T := by decide +kernel
theorem sf_in6 : ∀ w ∈ wsX60, w ∈ sf_T := by decide +kernel
theorem sf_in7 : ∀ w ∈ wsX70, w ∈ sf_T := by decide +kernel
theorem sf_in8 : ∀ w ∈ wsX80, w ∈ sf_T := by decide +kernel
theorem sf_in11 : ∀ w ∈ wsX110, w ∈ sf_T := by decide +kernel
theorem sf_in12 : ∀ w ∈ wsX120, w ∈ sf_T := by decide +kernel
theorem wt_0 : (Cond.selects "StreamFuser$Reader" ({ cls := "StreamFuser$Reader", name := "append", desc := "(I)Z" } : MethodName) ({ cls := "StreamFuser$Reader", name := "append", desc := "(I)Z" } : MethodName)) ∈ sf_T := sf_T_of 0 (by decide +kernel) rfl
theorem wt_1 : (Cond.selects "StreamFuser$Reader" ({ cls := "StreamFuser$Reader", name := "read", desc := "()I" } : MethodName) ({ cls := "StreamFuser$Reader", name := "read", desc := "()I" } : MethodName)) ∈ sf_T := sf_T_of 1 (by decide +kernel) rfl
theorem wt_2 : (Cond.selects "StreamFuser$Reader" ({ cls := "StreamFuser$Reader", name := "expect", desc := "(I)V" } : MethodName) ({ cls := "StreamFuser$Reader", name := "expect", desc := "(I)V" } : MethodName)) ∈ sf_T := sf_T_of 2 (by decide +kernel) rfl
theorem wt_3 : (Cond.selects "StreamFuser$Reader" ({ cls := "StreamFuser$Reader", name := "readNode", desc := "()V" } : MethodName) ({ cls := "StreamFuser$Reader", name := "readNode", desc := "()V" } : MethodName)) ∈ sf_T := sf_T_of 3 (by decide +kernel) rfl
theorem wt_4 : (Cond.selects "StreamFuser$Reader" ({ cls := "StreamFuser$Reader", name := "peek", desc := "()I" } : MethodName) ({ cls := "StreamFuser$Reader", name := "peek", desc := "()I" } : MethodName)) ∈ sf_T := sf_T_of 4 (by decide +kernel) rfl
theorem wt_5 : (Cond.selects "StreamFuser$Reader" ({ cls := "StreamFuser$Reader", name := "accept", desc := "(Z)V" } : MethodName) ({ cls := "StreamFuser$Reader", name := "accept", desc := "(Z)V" } : MethodName)) ∈ sf_T := sf_T_of 5 (by decide +kernel) rfl
theorem wt_6 : (Cond.selects "StreamFuser$Reader" ({ cls := "StreamFuser$Reader", name := "readMark", desc := "(I)I" } : MethodName) ({ cls := "StreamFuser$Reader", name := "readMark", desc := "(I)I" } : MethodName)) ∈ sf_T := sf_T_of 6 (by decide +kernel) rfl
theorem wt_7 : (Cond.selects "StreamFuser$Reader" ({ cls := "StreamFuser$Reader", name := "readNumber", desc := "(I)I" } : MethodName) ({ cls := "StreamFuser$Reader", name := "readNumber", desc := "(I)I" } : MethodName)) ∈ sf_T := sf_T_of 7 (by decide +kernel) rfl
theorem wt_8 : (Cond.selects "StreamFuser$Plan" ({ cls := "StreamFuser$Plan", name := "add", desc := "(IIII)V" } : MethodName) ({ cls := "StreamFuser$Plan", name := "add", desc := "(IIII)V" } : MethodName)) ∈ sf_T := sf_T_of 8 (by decide +kernel) rfl
theorem wt_9 : (Cond.selects "StreamFuser$Reader" ({ cls := "StreamFuser$Reader", name := "expectParts", desc := "(II)V" } : MethodName) ({ cls := "StreamFuser$Reader", name := "expectParts", desc := "(II)V" } : MethodName)) ∈ sf_T := sf_T_of 9 (by decide +kernel) rfl
theorem wt_10 : (Cond.selects "StreamFuser$Plan" ({ cls := "StreamFuser$Plan", name := "takeFrom", desc := "(LStreamFuser$Plan;)V" } : MethodName) ({ cls := "StreamFuser$Plan", name := "takeFrom", desc := "(LStreamFuser$Plan;)V" } : MethodName)) ∈ sf_T := sf_T_of 10 (by decide +kernel) rfl
theorem wt_11 : (Cond.selects "StreamFuser$Plan" ({ cls := "StreamFuser$Plan", name := "measure", desc := "()V" } : MethodName) ({ cls := "StreamFuser$Plan", name := "measure", desc := "()V" } : MethodName)) ∈ sf_T := sf_T_of 11 (by decide +kernel) rfl
theorem wt_12 : (Cond.selects "StreamFuser$Plan" ({ cls := "StreamFuser$Plan", name := "measureFromParts", desc := "(I)V" } : MethodName) ({ cls := "StreamFuser$Plan", name := "measureFromParts", desc := "(I)V" } : MethodName)) ∈ sf_T := sf_T_of 12 (by decide +kernel) rfl
theorem wt_13 : (Cond.selects "StreamFuser$Plan" ({ cls := "StreamFuser$Plan", name := "measureParts", desc := "(I)V" } : MethodName) ({ cls := "StreamFuser$Plan", name := "measureParts", desc := "(I)V" } : MethodName)) ∈ sf_T := sf_T_of 13 (by decide +kernel) rfl
theorem wt_14 : (Cond.selects "StreamFuser$Printer" ({ cls := "StreamFuser$Printer", name := "print", desc := "()V" } : MethodName) ({ cls := "StreamFuser$Printer", name := "print", desc := "()V" } : MethodName)) ∈ sf_T := sf_T_of 14 (by decide +kernel) rfl
theorem wt_15 : (Cond.selects "StreamFuser$Printer" ({ cls := "StreamFuser$Printer", name := "printNode", desc := "(I)V" } : MethodName) ({ cls := "StreamFuser$Printer", name := "printNode", desc := "(I)V" } : MethodName)) ∈ sf_T := sf_T_of 15 (by decide +kernel) rfl
theorem wt_16 : (Cond.selects "StreamFuser$Printer" ({ cls := "StreamFuser$Printer", name := "put", desc := "(I)V" } : MethodName) ({ cls := "StreamFuser$Printer", name := "put", desc := "(I)V" } : MethodName)) ∈ sf_T := sf_T_of 16 (by decide +kernel) rfl
theorem wt_17 : (Cond.selects "StreamFuser$Printer" ({ cls := "StreamFuser$Printer", name := "putNumber", desc := "(I)V" } : MethodName) ({ cls := "StreamFuser$Printer", name := "putNumber", desc := "(I)V" } : MethodName)) ∈ sf_T := sf_T_of 17 (by decide +kernel) rfl
theorem wt_18 : (Cond.selects "StreamFuser$Plan" ({ cls := "StreamFuser$Plan", name := "has", desc := "(I)Z" } : MethodName) ({ cls := "StreamFuser$Plan", name := "has", desc := "(I)Z" } : MethodName)) ∈ sf_T := sf_T_of 18 (by decide +kernel) rfl
theorem wt_19 : (Cond.selects "StreamFuser$Rewriter" ({ cls := "StreamFuser$Rewriter", name := "simplify", desc := "(Z)V" } : MethodName) ({ cls := "StreamFuser$Rewriter", name := "simplify", desc := "(Z)V" } : MethodName)) ∈ sf_T := sf_T_of 19 (by decide +kernel) rfl
theorem wt_20 : (Cond.selects "StreamFuser$Rewriter" ({ cls := "StreamFuser$Rewriter", name := "place", desc := "(Z)I" } : MethodName) ({ cls := "StreamFuser$Rewriter", name := "place", desc := "(Z)I" } : MethodName)) ∈ sf_T := sf_T_of 20 (by decide +kernel) rfl
theorem wt_21 : (Cond.selects "StreamFuser$Rewriter" ({ cls := "StreamFuser$Rewriter", name := "ruleFor", desc := "(I)I" } : MethodName) ({ cls := "StreamFuser$Rewriter", name := "ruleFor", desc := "(I)I" } : MethodName)) ∈ sf_T := sf_T_of 21 (by decide +kernel) rfl
theorem wt_22 : (Cond.selects "StreamFuser$Plan" ({ cls := "StreamFuser$Plan", name := "isNil", desc := "(I)Z" } : MethodName) ({ cls := "StreamFuser$Plan", name := "isNil", desc := "(I)Z" } : MethodName)) ∈ sf_T := sf_T_of 22 (by decide +kernel) rfl
theorem wt_23 : (Cond.selects "StreamFuser$Rewriter" ({ cls := "StreamFuser$Rewriter", name := "ruleForTake", desc := "(I)I" } : MethodName) ({ cls := "StreamFuser$Rewriter", name := "ruleForTake", desc := "(I)I" } : MethodName)) ∈ sf_T := sf_T_of 23 (by decide +kernel) rfl
theorem wt_24 : (Cond.selects "StreamFuser$Plan" ({ cls := "StreamFuser$Plan", name := "letterAt", desc := "(I)I" } : MethodName) ({ cls := "StreamFuser$Plan", name := "letterAt", desc := "(I)I" } : MethodName)) ∈ sf_T := sf_T_of 24 (by decide +kernel) rfl
theorem wt_25 : (Cond.selects "StreamFuser$Rewriter" ({ cls := "StreamFuser$Rewriter", name := "ruleForDrop", desc := "(I)I" } : MethodName) ({ cls := "StreamFuser$Rewriter", name := "ruleForDrop", desc := "(I)I" } : MethodName)) ∈ sf_T := sf_T_of 25 (by decide +kernel) rfl
theorem wt_26 : (Cond.selects "StreamFuser$Plan" ({ cls := "StreamFuser$Plan", name := "secondPart", desc := "(I)I" } : MethodName) ({ cls := "StreamFuser$Plan", name := "secondPart", desc := "(I)I" } : MethodName)) ∈ sf_T := sf_T_of 26 (by decide +kernel) rfl
theorem wt_27 : (Cond.selects "StreamFuser$Plan" ({ cls := "StreamFuser$Plan", name := "input", desc := "(I)I" } : MethodName) ({ cls := "StreamFuser$Plan", name := "input", desc := "(I)I" } : MethodName)) ∈ sf_T := sf_T_of 27 (by decide +kernel) rfl
theorem wt_28 : (Cond.selects "StreamFuser$Rewriter" ({ cls := "StreamFuser$Rewriter", name := "apply", desc := "(II)V" } : MethodName) ({ cls := "StreamFuser$Rewriter", name := "apply", desc := "(II)V" } : MethodName)) ∈ sf_T := sf_T_of 28 (by decide +kernel) rfl
theorem wt_29 : (Cond.selects "StreamFuser$Plan" ({ cls := "StreamFuser$Plan", name := "makeNil", desc := "(I)V" } : MethodName) ({ cls := "StreamFuser$Plan", name := "makeNil", desc := "(I)V" } : MethodName)) ∈ sf_T := sf_T_of 29 (by decide +kernel) rfl
theorem wt_30 : (Cond.selects "StreamFuser$Plan" ({ cls := "StreamFuser$Plan", name := "cut", desc := "(II)V" } : MethodName) ({ cls := "StreamFuser$Plan", name := "cut", desc := "(II)V" } : MethodName)) ∈ sf_T := sf_T_of 30 (by decide +kernel) rfl
theorem wt_31 : (Cond.selects "StreamFuser$Plan" ({ cls := "StreamFuser$Plan", name := "moveNode", desc := "(II)V" } : MethodName) ({ cls := "StreamFuser$Plan", name := "moveNode", desc := "(II)V" } : MethodName)) ∈ sf_T := sf_T_of 31 (by decide +kernel) rfl
theorem wt_32 : (Cond.selects "StreamFuser$Plan" ({ cls := "StreamFuser$Plan", name := "swapWithNext", desc := "(I)V" } : MethodName) ({ cls := "StreamFuser$Plan", name := "swapWithNext", desc := "(I)V" } : MethodName)) ∈ sf_T := sf_T_of 32 (by decide +kernel) rfl
theorem wt_33 : (Cond.selects "StreamFuser$Rewriter" ({ cls := "StreamFuser$Rewriter", name := "swapDropWithTake", desc := "(I)V" } : MethodName) ({ cls := "StreamFuser$Rewriter", name := "swapDropWithTake", desc := "(I)V" } : MethodName)) ∈ sf_T := sf_T_of 33 (by decide +kernel) rfl
theorem wt_34 : (Cond.selects "StreamFuser$Rewriter" ({ cls := "StreamFuser$Rewriter", name := "keepOnePart", desc := "(I)V" } : MethodName) ({ cls := "StreamFuser$Rewriter", name := "keepOnePart", desc := "(I)V" } : MethodName)) ∈ sf_T := sf_T_of 34 (by decide +kernel) rfl
theorem wt_35 : (Cond.selects "StreamFuser$Rewriter" ({ cls := "StreamFuser$Rewriter", name := "mergeWithNext", desc := "(II)V" } : MethodName) ({ cls := "StreamFuser$Rewriter", name := "mergeWithNext", desc := "(II)V" } : MethodName)) ∈ sf_T := sf_T_of 35 (by decide +kernel) rfl
theorem wt_36 : (Cond.selects "StreamFuser$Asker" ({ cls := "StreamFuser$Asker", name := "play", desc := "(I)V" } : MethodName) ({ cls := "StreamFuser$Asker", name := "play", desc := "(I)V" } : MethodName)) ∈ sf_T := sf_T_of 36 (by decide +kernel) rfl
theorem wt_37 : (Cond.selects "StreamFuser$Run" ({ cls := "StreamFuser$Run", name := "begin", desc := "()V" } : MethodName) ({ cls := "StreamFuser$Run", name := "begin", desc := "()V" } : MethodName)) ∈ sf_T := sf_T_of 37 (by decide +kernel) rfl
theorem wt_38 : (Cond.selects "StreamFuser$Asker" ({ cls := "StreamFuser$Asker", name := "ask", desc := "(II)Z" } : MethodName) ({ cls := "StreamFuser$Asker", name := "ask", desc := "(II)Z" } : MethodName)) ∈ sf_T := sf_T_of 38 (by decide +kernel) rfl
theorem wt_39 : (Cond.selects "StreamFuser$Run" ({ cls := "StreamFuser$Run", name := "fail", desc := "(II)V" } : MethodName) ({ cls := "StreamFuser$Run", name := "fail", desc := "(II)V" } : MethodName)) ∈ sf_T := sf_T_of 39 (by decide +kernel) rfl
theorem wt_40 : (Cond.selects "StreamFuser$Run" ({ cls := "StreamFuser$Run", name := "note", desc := "(II)V" } : MethodName) ({ cls := "StreamFuser$Run", name := "note", desc := "(II)V" } : MethodName)) ∈ sf_T := sf_T_of 40 (by decide +kernel) rfl
theorem wt_41 : (Cond.selects "StreamFuser$Asker" ({ cls := "StreamFuser$Asker", name := "askFilter", desc := "(II)Z" } : MethodName) ({ cls := "StreamFuser$Asker", name := "askFilter", desc := "(II)Z" } : MethodName)) ∈ sf_T := sf_T_of 41 (by decide +kernel) rfl
theorem wt_42 : (Cond.selects "StreamFuser$Asker" ({ cls := "StreamFuser$Asker", name := "askWhile", desc := "(II)Z" } : MethodName) ({ cls := "StreamFuser$Asker", name := "askWhile", desc := "(II)Z" } : MethodName)) ∈ sf_T := sf_T_of 42 (by decide +kernel) rfl
theorem wt_43 : (Cond.selects "StreamFuser$Asker" ({ cls := "StreamFuser$Asker", name := "askTake", desc := "(II)Z" } : MethodName) ({ cls := "StreamFuser$Asker", name := "askTake", desc := "(II)Z" } : MethodName)) ∈ sf_T := sf_T_of 43 (by decide +kernel) rfl
theorem wt_44 : (Cond.selects "StreamFuser$Asker" ({ cls := "StreamFuser$Asker", name := "askDrop", desc := "(II)Z" } : MethodName) ({ cls := "StreamFuser$Asker", name := "askDrop", desc := "(II)Z" } : MethodName)) ∈ sf_T := sf_T_of 44 (by decide +kernel) rfl
theorem wt_45 : (Cond.selects "StreamFuser$Asker" ({ cls := "StreamFuser$Asker", name := "askChain", desc := "(II)Z" } : MethodName) ({ cls := "StreamFuser$Asker", name := "askChain", desc := "(II)Z" } : MethodName)) ∈ sf_T := sf_T_of 45 (by decide +kernel) rfl
theorem wt_46 : (Cond.selects "StreamFuser$Run" ({ cls := "StreamFuser$Run", name := "failed", desc := "()Z" } : MethodName) ({ cls := "StreamFuser$Run", name := "failed", desc := "()Z" } : MethodName)) ∈ sf_T := sf_T_of 46 (by decide +kernel) rfl
theorem wt_47 : (Cond.selects "StreamFuser$Asker" ({ cls := "StreamFuser$Asker", name := "askZip", desc := "(II)Z" } : MethodName) ({ cls := "StreamFuser$Asker", name := "askZip", desc := "(II)Z" } : MethodName)) ∈ sf_T := sf_T_of 47 (by decide +kernel) rfl
theorem wt_48 : (Cond.selects "StreamFuser$Asker" ({ cls := "StreamFuser$Asker", name := "askOpener", desc := "(II)Z" } : MethodName) ({ cls := "StreamFuser$Asker", name := "askOpener", desc := "(II)Z" } : MethodName)) ∈ sf_T := sf_T_of 48 (by decide +kernel) rfl
theorem wt_49 : (Cond.selects "StreamFuser$Sheets" ({ cls := "StreamFuser$Sheets", name := "isLost", desc := "(I)Z" } : MethodName) ({ cls := "StreamFuser$Sheets", name := "isLost", desc := "(I)Z" } : MethodName)) ∈ sf_T := sf_T_of 49 (by decide +kernel) rfl
theorem wt_50 : (Cond.selects "StreamFuser$Run" ({ cls := "StreamFuser$Run", name := "draw", desc := "(I)Z" } : MethodName) ({ cls := "StreamFuser$Run", name := "draw", desc := "(I)Z" } : MethodName)) ∈ sf_T := sf_T_of 50 (by decide +kernel) rfl
theorem wt_51 : (Cond.selects "StreamFuser$Sheets" ({ cls := "StreamFuser$Sheets", name := "at", desc := "(II)I" } : MethodName) ({ cls := "StreamFuser$Sheets", name := "at", desc := "(II)I" } : MethodName)) ∈ sf_T := sf_T_of 51 (by decide +kernel) rfl
theorem wt_52 : (Cond.selects "StreamFuser$Run" ({ cls := "StreamFuser$Run", name := "give", desc := "(I)V" } : MethodName) ({ cls := "StreamFuser$Run", name := "give", desc := "(I)V" } : MethodName)) ∈ sf_T := sf_T_of 52 (by decide +kernel) rfl
theorem wt_53 : (Cond.selects "StreamFuser$Stepper" ({ cls := "StreamFuser$Stepper", name := "play", desc := "(I)V" } : MethodName) ({ cls := "StreamFuser$Stepper", name := "play", desc := "(I)V" } : MethodName)) ∈ sf_T := sf_T_of 53 (by decide +kernel) rfl
theorem wt_54 : (Cond.selects "StreamFuser$Stepper" ({ cls := "StreamFuser$Stepper", name := "step", desc := "(II)I" } : MethodName) ({ cls := "StreamFuser$Stepper", name := "step", desc := "(II)I" } : MethodName)) ∈ sf_T := sf_T_of 54 (by decide +kernel) rfl
theorem wt_55 : (Cond.selects "StreamFuser$Stepper" ({ cls := "StreamFuser$Stepper", name := "stepChain", desc := "(II)I" } : MethodName) ({ cls := "StreamFuser$Stepper", name := "stepChain", desc := "(II)I" } : MethodName)) ∈ sf_T := sf_T_of 55 (by decide +kernel) rfl
theorem wt_56 : (Cond.selects "StreamFuser$Stepper" ({ cls := "StreamFuser$Stepper", name := "stepZip", desc := "(II)I" } : MethodName) ({ cls := "StreamFuser$Stepper", name := "stepZip", desc := "(II)I" } : MethodName)) ∈ sf_T := sf_T_of 56 (by decide +kernel) rfl
theorem wt_57 : (Cond.selects "StreamFuser$Stepper" ({ cls := "StreamFuser$Stepper", name := "stepOpener", desc := "(II)I" } : MethodName) ({ cls := "StreamFuser$Stepper", name := "stepOpener", desc := "(II)I" } : MethodName)) ∈ sf_T := sf_T_of 57 (by decide +kernel) rfl
theorem wt_58 : (Cond.selects "StreamFuser$Stepper" ({ cls := "StreamFuser$Stepper", name := "given", desc := "(Z)I" } : MethodName) ({ cls := "StreamFuser$Stepper", name := "given", desc := "(Z)I" } : MethodName)) ∈ sf_T := sf_T_of 58 (by decide +kernel) rfl
theorem wt_59 : (Cond.selects "StreamFuser$Stepper" ({ cls := "StreamFuser$Stepper", name := "stepOne", desc := "(II)I" } : MethodName) ({ cls := "StreamFuser$Stepper", name := "stepOne", desc := "(II)I" } : MethodName)) ∈ sf_T := sf_T_of 59 (by decide +kernel) rfl
theorem wt_60 : (Cond.selects "StreamFuser$Maker" ({ cls := "StreamFuser$Maker", name := "play", desc := "(I)V" } : MethodName) ({ cls := "StreamFuser$Maker", name := "play", desc := "(I)V" } : MethodName)) ∈ sf_T := sf_T_of 60 (by decide +kernel) rfl
theorem wt_61 : (Cond.selects "StreamFuser$Maker" ({ cls := "StreamFuser$Maker", name := "make", desc := "(II)Z" } : MethodName) ({ cls := "StreamFuser$Maker", name := "make", desc := "(II)Z" } : MethodName)) ∈ sf_T := sf_T_of 61 (by decide +kernel) rfl
theorem wt_62 : (Cond.selects "StreamFuser$Maker" ({ cls := "StreamFuser$Maker", name := "fill", desc := "(II)Z" } : MethodName) ({ cls := "StreamFuser$Maker", name := "fill", desc := "(II)Z" } : MethodName)) ∈ sf_T := sf_T_of 62 (by decide +kernel) rfl
theorem wt_63 : (Cond.selects "StreamFuser$Maker" ({ cls := "StreamFuser$Maker", name := "fillFromProducer", desc := "(I)Z" } : MethodName) ({ cls := "StreamFuser$Maker", name := "fillFromProducer", desc := "(I)Z" } : MethodName)) ∈ sf_T := sf_T_of 63 (by decide +kernel) rfl
theorem wt_64 : (Cond.selects "StreamFuser$Maker" ({ cls := "StreamFuser$Maker", name := "add", desc := "(II)V" } : MethodName) ({ cls := "StreamFuser$Maker", name := "add", desc := "(II)V" } : MethodName)) ∈ sf_T := sf_T_of 64 (by decide +kernel) rfl
theorem wt_65 : (Cond.selects "StreamFuser$Maker" ({ cls := "StreamFuser$Maker", name := "fillByOpening", desc := "(II)Z" } : MethodName) ({ cls := "StreamFuser$Maker", name := "fillByOpening", desc := "(II)Z" } : MethodName)) ∈ sf_T := sf_T_of 65 (by decide +kernel) rfl
theorem wt_66 : (Cond.selects "StreamFuser$Maker" ({ cls := "StreamFuser$Maker", name := "element", desc := "(II)I" } : MethodName) ({ cls := "StreamFuser$Maker", name := "element", desc := "(II)I" } : MethodName)) ∈ sf_T := sf_T_of 66 (by decide +kernel) rfl
theorem wt_67 : (Cond.selects "StreamFuser$Maker" ({ cls := "StreamFuser$Maker", name := "addRow", desc := "(II)Z" } : MethodName) ({ cls := "StreamFuser$Maker", name := "addRow", desc := "(II)Z" } : MethodName)) ∈ sf_T := sf_T_of 67 (by decide +kernel) rfl
theorem wt_68 : (Cond.selects "StreamFuser$Maker" ({ cls := "StreamFuser$Maker", name := "fillFromInput", desc := "(I)Z" } : MethodName) ({ cls := "StreamFuser$Maker", name := "fillFromInput", desc := "(I)Z" } : MethodName)) ∈ sf_T := sf_T_of 68 (by decide +kernel) rfl
theorem wt_69 : (Cond.selects "StreamFuser$Maker" ({ cls := "StreamFuser$Maker", name := "zip", desc := "(II)V" } : MethodName) ({ cls := "StreamFuser$Maker", name := "zip", desc := "(II)V" } : MethodName)) ∈ sf_T := sf_T_of 69 (by decide +kernel) rfl
theorem wt_70 : (Cond.selects "StreamFuser$Run" ({ cls := "StreamFuser$Run", name := "sum", desc := "()J" } : MethodName) ({ cls := "StreamFuser$Run", name := "sum", desc := "()J" } : MethodName)) ∈ sf_T := sf_T_of 70 (by decide +kernel) rfl
theorem wt_71 : (Cond.selects "StreamFuser$Run" ({ cls := "StreamFuser$Run", name := "greatest", desc := "()I" } : MethodName) ({ cls := "StreamFuser$Run", name := "greatest", desc := "()I" } : MethodName)) ∈ sf_T := sf_T_of 71 (by decide +kernel) rfl
theorem wt_72 : (Cond.selects "StreamFuser$Run" ({ cls := "StreamFuser$Run", name := "smallest", desc := "()I" } : MethodName) ({ cls := "StreamFuser$Run", name := "smallest", desc := "()I" } : MethodName)) ∈ sf_T := sf_T_of 72 (by decide +kernel) rfl
theorem wt_73 : (Cond.selects "StreamFuser$Run" ({ cls := "StreamFuser$Run", name := "kept", desc := "()I" } : MethodName) ({ cls := "StreamFuser$Run", name := "kept", desc := "()I" } : MethodName)) ∈ sf_T := sf_T_of 73 (by decide +kernel) rfl
theorem wt_74 : (Cond.selects "StreamFuser" ({ cls := "StreamFuser", name := "find", desc := "(I)I" } : MethodName) ({ cls := "StreamFuser", name := "find", desc := "(I)I" } : MethodName)) ∈ sf_T := sf_T_of 74 (by decide +kernel) rfl
theorem wt_75 : (Cond.selects "StreamFuser$Sheets" ({ cls := "StreamFuser$Sheets", name := "renew", desc := "(III)V" } : MethodName) ({ cls := "StreamFuser$Sheets", name := "renew", desc := "(III)V" } : MethodName)) ∈ sf_T := sf_T_of 75 (by decide +kernel) rfl
theorem wt_76 : (Cond.selects "StreamFuser" ({ cls := "StreamFuser", name := "elementError", desc := "(III)I" } : MethodName) ({ cls := "StreamFuser", name := "elementError", desc := "(III)I" } : MethodName)) ∈ sf_T := sf_T_of 76 (by decide +kernel) rfl
theorem wt_77 : (Cond.selects "StreamFuser$Sheets" ({ cls := "StreamFuser$Sheets", name := "hasElement", desc := "(II)Z" } : MethodName) ({ cls := "StreamFuser$Sheets", name := "hasElement", desc := "(II)Z" } : MethodName)) ∈ sf_T := sf_T_of 77 (by decide +kernel) rfl
theorem wt_78 : (Cond.selects "StreamFuser$Sheets" ({ cls := "StreamFuser$Sheets", name := "store", desc := "(III)V" } : MethodName) ({ cls := "StreamFuser$Sheets", name := "store", desc := "(III)V" } : MethodName)) ∈ sf_T := sf_T_of 78 (by decide +kernel) rfl
theorem wt_79 : (Cond.selects "StreamFuser$Sheets" ({ cls := "StreamFuser$Sheets", name := "hasPart", desc := "(III)Z" } : MethodName) ({ cls := "StreamFuser$Sheets", name := "hasPart", desc := "(III)Z" } : MethodName)) ∈ sf_T := sf_T_of 79 (by decide +kernel) rfl
theorem wt_80 : (Cond.selects "StreamFuser$Sheets" ({ cls := "StreamFuser$Sheets", name := "move", desc := "(IIIII)V" } : MethodName) ({ cls := "StreamFuser$Sheets", name := "move", desc := "(IIIII)V" } : MethodName)) ∈ sf_T := sf_T_of 80 (by decide +kernel) rfl
theorem wt_81 : (Cond.selects "StreamFuser" ({ cls := "StreamFuser", name := "mixPlan", desc := "(J)J" } : MethodName) ({ cls := "StreamFuser", name := "mixPlan", desc := "(J)J" } : MethodName)) ∈ sf_T := sf_T_of 81 (by decide +kernel) rfl
theorem wt_82 : (Cond.selects "StreamFuser" ({ cls := "StreamFuser", name := "mixRun", desc := "(J)J" } : MethodName) ({ cls := "StreamFuser", name := "mixRun", desc := "(J)J" } : MethodName)) ∈ sf_T := sf_T_of 82 (by decide +kernel) rfl
theorem wt_83 : (Cond.selects "StreamFuserModel" ({ cls := "StreamFuserModel", name := "finds", desc := "(I)I" } : MethodName) ({ cls := "StreamFuserModel", name := "finds", desc := "(I)I" } : MethodName)) ∈ sf_T := sf_T_of 83 (by decide +kernel) rfl
theorem wt_84 : (Cond.selects "StreamFuserModel" ({ cls := "StreamFuserModel", name := "lacks", desc := "(III)I" } : MethodName) ({ cls := "StreamFuserModel", name := "lacks", desc := "(III)I" } : MethodName)) ∈ sf_T := sf_T_of 84 (by decide +kernel) rfl
theorem wt_85 : (Cond.selects "StreamFuserModel" ({ cls := "StreamFuserModel", name := "faultNow", desc := "()I" } : MethodName) ({ cls := "StreamFuserModel", name := "faultNow", desc := "()I" } : MethodName)) ∈ sf_T := sf_T_of 85 (by decide +kernel) rfl
theorem wt_86 : (Cond.selects "StreamFuserModel" ({ cls := "StreamFuserModel", name := "takesLetter", desc := "(II)Z" } : MethodName) ({ cls := "StreamFuserModel", name := "takesLetter", desc := "(II)Z" } : MethodName)) ∈ sf_T := sf_T_of 86 (by decide +kernel) rfl
theorem wt_87 : (Cond.selects "StreamFuserModel" ({ cls := "StreamFuserModel", name := "wantsBehind", desc := "(II)V" } : MethodName) ({ cls := "StreamFuserModel", name := "wantsBehind", desc := "(II)V" } : MethodName)) ∈ sf_T := sf_T_of 87 (by decide +kernel) rfl
theorem wt_88 : (Cond.selects "StreamFuserModel" ({ cls := "StreamFuserModel", name := "wants", desc := "(I)V" } : MethodName) ({ cls := "StreamFuserModel", name := "wants", desc := "(I)V" } : MethodName)) ∈ sf_T := sf_T_of 88 (by decide +kernel) rfl
theorem wt_89 : (Cond.selects "StreamFuserModel" ({ cls := "StreamFuserModel", name := "takesNumber", desc := "(II)Z" } : MethodName) ({ cls := "StreamFuserModel", name := "takesNumber", desc := "(II)Z" } : MethodName)) ∈ sf_T := sf_T_of 89 (by decide +kernel) rfl
theorem wt_90 : (Cond.selects "StreamFuserModel" ({ cls := "StreamFuserModel", name := "takesSign", desc := "(II)Z" } : MethodName) ({ cls := "StreamFuserModel", name := "takesSign", desc := "(II)Z" } : MethodName)) ∈ sf_T := sf_T_of 90 (by decide +kernel) rfl
theorem wt_91 : (Cond.selects "StreamFuserModel" ({ cls := "StreamFuserModel", name := "places", desc := "()V" } : MethodName) ({ cls := "StreamFuserModel", name := "places", desc := "()V" } : MethodName)) ∈ sf_T := sf_T_of 91 (by decide +kernel) rfl
theorem wt_92 : (Cond.selects "StreamFuserModel" ({ cls := "StreamFuserModel", name := "hangs", desc := "(IIZ)V" } : MethodName) ({ cls := "StreamFuserModel", name := "hangs", desc := "(IIZ)V" } : MethodName)) ∈ sf_T := sf_T_of 92 (by decide +kernel) rfl
theorem wt_93 : (Cond.selects "StreamFuserModel" ({ cls := "StreamFuserModel", name := "nodeBy", desc := "(II)I" } : MethodName) ({ cls := "StreamFuserModel", name := "nodeBy", desc := "(II)I" } : MethodName)) ∈ sf_T := sf_T_of 93 (by decide +kernel) rfl
theorem wt_94 : (Cond.selects "StreamFuserModel" ({ cls := "StreamFuserModel", name := "isPure", desc := "(I)Z" } : MethodName) ({ cls := "StreamFuserModel", name := "isPure", desc := "(I)Z" } : MethodName)) ∈ sf_T := sf_T_of 94 (by decide +kernel) rfl
theorem wt_95 : (Cond.selects "StreamFuserModel" ({ cls := "StreamFuserModel", name := "writesPlan", desc := "()V" } : MethodName) ({ cls := "StreamFuserModel", name := "writesPlan", desc := "()V" } : MethodName)) ∈ sf_T := sf_T_of 95 (by decide +kernel) rfl
theorem wt_96 : (Cond.selects "StreamFuserModel" ({ cls := "StreamFuserModel", name := "tells", desc := "(I)V" } : MethodName) ({ cls := "StreamFuserModel", name := "tells", desc := "(I)V" } : MethodName)) ∈ sf_T := sf_T_of 96 (by decide +kernel) rfl
theorem wt_97 : (Cond.selects "StreamFuserModel" ({ cls := "StreamFuserModel", name := "tellsNumber", desc := "(I)V" } : MethodName) ({ cls := "StreamFuserModel", name := "tellsNumber", desc := "(I)V" } : MethodName)) ∈ sf_T := sf_T_of 97 (by decide +kernel) rfl
theorem wt_98 : (Cond.selects "StreamFuserModel" ({ cls := "StreamFuserModel", name := "textBy", desc := "(I)I" } : MethodName) ({ cls := "StreamFuserModel", name := "textBy", desc := "(I)I" } : MethodName)) ∈ sf_T := sf_T_of 98 (by decide +kernel) rfl
theorem wt_99 : (Cond.selects "StreamFuserModel" ({ cls := "StreamFuserModel", name := "tidies", desc := "(I)I" } : MethodName) ({ cls := "StreamFuserModel", name := "tidies", desc := "(I)I" } : MethodName)) ∈ sf_T := sf_T_of 99 (by decide +kernel) rfl
theorem wt_100 : (Cond.selects "StreamFuserModel" ({ cls := "StreamFuserModel", name := "tidiesOnce", desc := "(I)Z" } : MethodName) ({ cls := "StreamFuserModel", name := "tidiesOnce", desc := "(I)Z" } : MethodName)) ∈ sf_T := sf_T_of 100 (by decide +kernel) rfl
theorem wt_101 : (Cond.selects "StreamFuserModel" ({ cls := "StreamFuserModel", name := "ruleAt", desc := "(I)I" } : MethodName) ({ cls := "StreamFuserModel", name := "ruleAt", desc := "(I)I" } : MethodName)) ∈ sf_T := sf_T_of 101 (by decide +kernel) rfl
theorem wt_102 : (Cond.selects "StreamFuserModel" ({ cls := "StreamFuserModel", name := "isNil", desc := "(I)Z" } : MethodName) ({ cls := "StreamFuserModel", name := "isNil", desc := "(I)Z" } : MethodName)) ∈ sf_T := sf_T_of 102 (by decide +kernel) rfl
theorem wt_103 : (Cond.selects "StreamFuserModel" ({ cls := "StreamFuserModel", name := "ruleOfCut", desc := "(I)I" } : MethodName) ({ cls := "StreamFuserModel", name := "ruleOfCut", desc := "(I)I" } : MethodName)) ∈ sf_T := sf_T_of 103 (by decide +kernel) rfl
theorem wt_104 : (Cond.selects "StreamFuserModel" ({ cls := "StreamFuserModel", name := "uses", desc := "(II)V" } : MethodName) ({ cls := "StreamFuserModel", name := "uses", desc := "(II)V" } : MethodName)) ∈ sf_T := sf_T_of 104 (by decide +kernel) rfl
theorem wt_105 : (Cond.selects "StreamFuserModel" ({ cls := "StreamFuserModel", name := "becomes", desc := "(IIII)V" } : MethodName) ({ cls := "StreamFuserModel", name := "becomes", desc := "(IIII)V" } : MethodName)) ∈ sf_T := sf_T_of 105 (by decide +kernel) rfl
theorem wt_106 : (Cond.selects "StreamFuserModel" ({ cls := "StreamFuserModel", name := "cuts", desc := "(II)V" } : MethodName) ({ cls := "StreamFuserModel", name := "cuts", desc := "(II)V" } : MethodName)) ∈ sf_T := sf_T_of 106 (by decide +kernel) rfl
theorem wt_107 : (Cond.selects "StreamFuserModel" ({ cls := "StreamFuserModel", name := "turns", desc := "(I)V" } : MethodName) ({ cls := "StreamFuserModel", name := "turns", desc := "(I)V" } : MethodName)) ∈ sf_T := sf_T_of 107 (by decide +kernel) rfl
theorem wt_108 : (Cond.selects "StreamFuserModel" ({ cls := "StreamFuserModel", name := "usesMore", desc := "(III)V" } : MethodName) ({ cls := "StreamFuserModel", name := "usesMore", desc := "(III)V" } : MethodName)) ∈ sf_T := sf_T_of 108 (by decide +kernel) rfl
theorem wt_109 : (Cond.selects "StreamFuserModel" ({ cls := "StreamFuserModel", name := "nil", desc := "(I)V" } : MethodName) ({ cls := "StreamFuserModel", name := "nil", desc := "(I)V" } : MethodName)) ∈ sf_T := sf_T_of 109 (by decide +kernel) rfl
theorem wt_110 : (Cond.selects "StreamFuserModel" ({ cls := "StreamFuserModel", name := "hasEndless", desc := "()Z" } : MethodName) ({ cls := "StreamFuserModel", name := "hasEndless", desc := "()Z" } : MethodName)) ∈ sf_T := sf_T_of 110 (by decide +kernel) rfl
theorem wt_111 : (Cond.selects "StreamFuserModel" ({ cls := "StreamFuserModel", name := "runs", desc := "(II)V" } : MethodName) ({ cls := "StreamFuserModel", name := "runs", desc := "(II)V" } : MethodName)) ∈ sf_T := sf_T_of 111 (by decide +kernel) rfl
theorem wt_112 : (Cond.selects "StreamFuserModel" ({ cls := "StreamFuserModel", name := "begins", desc := "(II)V" } : MethodName) ({ cls := "StreamFuserModel", name := "begins", desc := "(II)V" } : MethodName)) ∈ sf_T := sf_T_of 112 (by decide +kernel) rfl
theorem wt_113 : (Cond.selects "StreamFuserModel" ({ cls := "StreamFuserModel", name := "makesRows", desc := "()V" } : MethodName) ({ cls := "StreamFuserModel", name := "makesRows", desc := "()V" } : MethodName)) ∈ sf_T := sf_T_of 113 (by decide +kernel) rfl
theorem wt_114 : (Cond.selects "StreamFuserModel" ({ cls := "StreamFuserModel", name := "wantsRow", desc := "(I)I" } : MethodName) ({ cls := "StreamFuserModel", name := "wantsRow", desc := "(I)I" } : MethodName)) ∈ sf_T := sf_T_of 114 (by decide +kernel) rfl
theorem wt_115 : (Cond.selects "StreamFuserModel" ({ cls := "StreamFuserModel", name := "opensRow", desc := "(I)I" } : MethodName) ({ cls := "StreamFuserModel", name := "opensRow", desc := "(I)I" } : MethodName)) ∈ sf_T := sf_T_of 115 (by decide +kernel) rfl
theorem wt_116 : (Cond.selects "StreamFuserModel" ({ cls := "StreamFuserModel", name := "fails", desc := "(II)V" } : MethodName) ({ cls := "StreamFuserModel", name := "fails", desc := "(II)V" } : MethodName)) ∈ sf_T := sf_T_of 116 (by decide +kernel) rfl
theorem wt_117 : (Cond.selects "StreamFuserModel" ({ cls := "StreamFuserModel", name := "adds", desc := "(II)V" } : MethodName) ({ cls := "StreamFuserModel", name := "adds", desc := "(II)V" } : MethodName)) ∈ sf_T := sf_T_of 117 (by decide +kernel) rfl
theorem wt_118 : (Cond.selects "StreamFuserModel" ({ cls := "StreamFuserModel", name := "fills", desc := "(I)V" } : MethodName) ({ cls := "StreamFuserModel", name := "fills", desc := "(I)V" } : MethodName)) ∈ sf_T := sf_T_of 118 (by decide +kernel) rfl
theorem wt_119 : (Cond.selects "StreamFuserModel" ({ cls := "StreamFuserModel", name := "draws", desc := "()Z" } : MethodName) ({ cls := "StreamFuserModel", name := "draws", desc := "()Z" } : MethodName)) ∈ sf_T := sf_T_of 119 (by decide +kernel) rfl
theorem wt_120 : (Cond.selects "StreamFuserModel" ({ cls := "StreamFuserModel", name := "changesRow", desc := "(I)V" } : MethodName) ({ cls := "StreamFuserModel", name := "changesRow", desc := "(I)V" } : MethodName)) ∈ sf_T := sf_T_of 120 (by decide +kernel) rfl
theorem wt_121 : (Cond.selects "StreamFuserModel" ({ cls := "StreamFuserModel", name := "passes", desc := "(II)Z" } : MethodName) ({ cls := "StreamFuserModel", name := "passes", desc := "(II)Z" } : MethodName)) ∈ sf_T := sf_T_of 121 (by decide +kernel) rfl
theorem wt_122 : (Cond.selects "StreamFuserModel" ({ cls := "StreamFuserModel", name := "made", desc := "(II)I" } : MethodName) ({ cls := "StreamFuserModel", name := "made", desc := "(II)I" } : MethodName)) ∈ sf_T := sf_T_of 122 (by decide +kernel) rfl
theorem wt_123 : (Cond.selects "StreamFuserModel" ({ cls := "StreamFuserModel", name := "writesDown", desc := "(II)V" } : MethodName) ({ cls := "StreamFuserModel", name := "writesDown", desc := "(II)V" } : MethodName)) ∈ sf_T := sf_T_of 123 (by decide +kernel) rfl
theorem wt_124 : (Cond.selects "StreamFuserModel" ({ cls := "StreamFuserModel", name := "joinsRows", desc := "(I)V" } : MethodName) ({ cls := "StreamFuserModel", name := "joinsRows", desc := "(I)V" } : MethodName)) ∈ sf_T := sf_T_of 124 (by decide +kernel) rfl
theorem wt_125 : (Cond.selects "StreamFuserModel" ({ cls := "StreamFuserModel", name := "joined", desc := "(III)I" } : MethodName) ({ cls := "StreamFuserModel", name := "joined", desc := "(III)I" } : MethodName)) ∈ sf_T := sf_T_of 125 (by decide +kernel) rfl
theorem wt_126 : (Cond.selects "StreamFuserModel" ({ cls := "StreamFuserModel", name := "steps", desc := "()I" } : MethodName) ({ cls := "StreamFuserModel", name := "steps", desc := "()I" } : MethodName)) ∈ sf_T := sf_T_of 126 (by decide +kernel) rfl
theorem wt_127 : (Cond.selects "StreamFuserModel" ({ cls := "StreamFuserModel", name := "gives", desc := "(I)V" } : MethodName) ({ cls := "StreamFuserModel", name := "gives", desc := "(I)V" } : MethodName)) ∈ sf_T := sf_T_of 127 (by decide +kernel) rfl
theorem wt_128 : (Cond.selects "StreamFuserModel" ({ cls := "StreamFuserModel", name := "after", desc := "(II)I" } : MethodName) ({ cls := "StreamFuserModel", name := "after", desc := "(II)I" } : MethodName)) ∈ sf_T := sf_T_of 128 (by decide +kernel) rfl
theorem wt_129 : (Cond.selects "StreamFuserModel" ({ cls := "StreamFuserModel", name := "afterOne", desc := "(II)I" } : MethodName) ({ cls := "StreamFuserModel", name := "afterOne", desc := "(II)I" } : MethodName)) ∈ sf_T := sf_T_of 129 (by decide +kernel) rfl
theorem wt_130 : (Cond.selects "StreamFuserModel" ({ cls := "StreamFuserModel", name := "opensFor", desc := "(II)V" } : MethodName) ({ cls := "StreamFuserModel", name := "opensFor", desc := "(II)V" } : MethodName)) ∈ sf_T := sf_T_of 130 (by decide +kernel) rfl
theorem wt_131 : (Cond.selects "StreamFuserModel" ({ cls := "StreamFuserModel", name := "asks", desc := "()Z" } : MethodName) ({ cls := "StreamFuserModel", name := "asks", desc := "()Z" } : MethodName)) ∈ sf_T := sf_T_of 131 (by decide +kernel) rfl
theorem wt_132 : (Cond.selects "StreamFuserModel" ({ cls := "StreamFuserModel", name := "asksNext", desc := "(I)I" } : MethodName) ({ cls := "StreamFuserModel", name := "asksNext", desc := "(I)I" } : MethodName)) ∈ sf_T := sf_T_of 132 (by decide +kernel) rfl
theorem wt_133 : (Cond.selects "StreamFuserModel" ({ cls := "StreamFuserModel", name := "hears", desc := "(I)I" } : MethodName) ({ cls := "StreamFuserModel", name := "hears", desc := "(I)I" } : MethodName)) ∈ sf_T := sf_T_of 133 (by decide +kernel) rfl
theorem wt_134 : (Cond.selects "StreamFuserModel" ({ cls := "StreamFuserModel", name := "hearsOne", desc := "(I)I" } : MethodName) ({ cls := "StreamFuserModel", name := "hearsOne", desc := "(I)I" } : MethodName)) ∈ sf_T := sf_T_of 134 (by decide +kernel) rfl
theorem wt_135 : (Cond.selects "StreamFuserModel" ({ cls := "StreamFuserModel", name := "hearsOpen", desc := "(I)I" } : MethodName) ({ cls := "StreamFuserModel", name := "hearsOpen", desc := "(I)I" } : MethodName)) ∈ sf_T := sf_T_of 135 (by decide +kernel) rfl
theorem wt_136 : (Cond.selects "StreamFuserModel" ({ cls := "StreamFuserModel", name := "foldBy", desc := "(I)J" } : MethodName) ({ cls := "StreamFuserModel", name := "foldBy", desc := "(I)J" } : MethodName)) ∈ sf_T := sf_T_of 136 (by decide +kernel) rfl
theorem wt_137 : (Cond.selects "StreamFuserModel" ({ cls := "StreamFuserModel", name := "keptDown", desc := "()I" } : MethodName) ({ cls := "StreamFuserModel", name := "keptDown", desc := "()I" } : MethodName)) ∈ sf_T := sf_T_of 137 (by decide +kernel) rfl
theorem wt_138 : (Cond.selects "StreamFuserModel" ({ cls := "StreamFuserModel", name := "writtenBy", desc := "(II)J" } : MethodName) ({ cls := "StreamFuserModel", name := "writtenBy", desc := "(II)J" } : MethodName)) ∈ sf_T := sf_T_of 138 (by decide +kernel) rfl
theorem wt_139 : (Cond.selects "StreamFuserModel" ({ cls := "StreamFuserModel", name := "savesBy", desc := "(I)I" } : MethodName) ({ cls := "StreamFuserModel", name := "savesBy", desc := "(I)I" } : MethodName)) ∈ sf_T := sf_T_of 139 (by decide +kernel) rfl
theorem wt_140 : (Cond.selects "StreamFuserModel" ({ cls := "StreamFuserModel", name := "lays", desc := "(ZI)V" } : MethodName) ({ cls := "StreamFuserModel", name := "lays", desc := "(ZI)V" } : MethodName)) ∈ sf_T := sf_T_of 140 (by decide +kernel) rfl
theorem wt_141 : (Cond.selects "StreamFuserModel" ({ cls := "StreamFuserModel", name := "deepest", desc := "()I" } : MethodName) ({ cls := "StreamFuserModel", name := "deepest", desc := "()I" } : MethodName)) ∈ sf_T := sf_T_of 141 (by decide +kernel) rfl
theorem wt_142 : (Cond.selects "StreamFuserModel" ({ cls := "StreamFuserModel", name := "planTells", desc := "(J)J" } : MethodName) ({ cls := "StreamFuserModel", name := "planTells", desc := "(J)J" } : MethodName)) ∈ sf_T := sf_T_of 142 (by decide +kernel) rfl
theorem wt_144 : (Cond.initialized "StreamFuser") ∈ sf_T := sf_T_of 144 (by decide +kernel) rfl
theorem wt_145 : (Cond.initialized "StreamFuser$Plan") ∈ sf_T := sf_T_of 145 (by decide +kernel) rfl
theorem wt_146 : (Cond.initialized "StreamFuser$Printer") ∈ sf_T := sf_T_of 146 (by decide +kernel) rfl
theorem wt_147 : (Cond.initialized "StreamFuser$Rewriter") ∈ sf_T := sf_T_of 147 (by decide +kernel) rfl
theorem wt_148 : (Cond.initialized "StreamFuser$Sheets") ∈ sf_T := sf_T_of 148 (by decide +kernel) rfl
theorem wt_149 : (Cond.initialized "StreamFuser$Run") ∈ sf_T := sf_T_of 149 (by decide +kernel) rfl
theorem wt_150 : (Cond.initialized "StreamFuser$Way") ∈ sf_T := sf_T_of 150 (by decide +kernel) rfl
theorem wt_151 : (Cond.initialized "StreamFuser$Walk") ∈ sf_T := sf_T_of 151 (by decide +kernel) rfl
theorem wt_152 : (Cond.initialized "StreamFuser$Asker") ∈ sf_T := sf_T_of 152 (by decide +kernel) rfl
theorem wt_153 : (Cond.initialized "StreamFuser$Stepper") ∈ sf_T := sf_T_of 153 (by decide +kernel) rfl
theorem wt_154 : (Cond.initialized "StreamFuser$Maker") ∈ sf_T := sf_T_of 154 (by decide +kernel) rfl
theorem wt_155 : (Cond.initialized "StreamFuser$Reader") ∈ sf_T := sf_T_of 155 (by decide +kernel) rfl
theorem wt_156 : (Cond.initialized "StreamFuserModel") ∈ sf_T := sf_T_of 156 (by decide +kernel) rfl
theorem wt_157 : (Cond.initialized "java/lang/Math") ∈ sf_T := sf_T_of 157 (by decide +kernel) rfl
theorem wt_158 : (Cond.initialized "java/lang/System") ∈ sf_T := sf_T_of 158 (by decide +kernel) rfl
theorem wt_161 : (Cond.methodLink "StreamFuserLaw" (9 : Nat) ({ cls := "StreamFuser", name := "<init>", desc := "()V" } : MethodName)) ∈ sf_T := sf_T_of 161 (by decide +kernel) rfl
theorem wt_162 : (Cond.instanceMethod ({ cls := "StreamFuser", name := "<init>", desc := "()V" } : MethodName)) ∈ sf_T := sf_T_of 162 (by decide +kernel) rfl
theorem wt_164 : (Cond.methodLink "StreamFuser" (7 : Nat) ({ cls := "java/lang/Object", name := "<init>", desc := "()V" } : MethodName)) ∈ sf_T := sf_T_of 164 (by decide +kernel) rfl
theorem wt_165 : (Cond.instanceMethod ({ cls := "java/lang/Object", name := "<init>", desc := "()V" } : MethodName)) ∈ sf_T := sf_T_of 165 (by decide +kernel) rfl
theorem wt_169 : (Cond.methodLinkNest "StreamFuser" (15 : Nat) ({ cls := "StreamFuser$Plan", name := "<init>", desc := "()V" } : MethodName) "StreamFuser") ∈ sf_N := sf_N_of 169 (by decide +kernel) rfl
theorem wt_170 : (Cond.instanceMethod ({ cls := "StreamFuser$Plan", name := "<init>", desc := "()V" } : MethodName)) ∈ sf_T := sf_T_of 170 (by decide +kernel) rfl
theorem wt_172 : (Cond.methodLink "StreamFuser$Plan" (3 : Nat) ({ cls := "java/lang/Object", name := "<init>", desc := "()V" } : MethodName)) ∈ sf_T := sf_T_of 172 (by decide +kernel) rfl
theorem wt_173 : (Cond.fieldLink "StreamFuser$Plan" (9 : Nat) "StreamFuser$Plan" "letter" "[I") ∈ sf_T := sf_T_of 173 (by decide +kernel) rfl
theorem wt_174 : (Cond.fieldLinkNest "StreamFuser$Printer" (30 : Nat) "StreamFuser$Plan" "letter" "[I" "StreamFuser") ∈ sf_N := sf_N_of 174 (by decide +kernel) rfl
theorem wt_175 : (Cond.fieldLinkNest "StreamFuser$Stepper" (59 : Nat) "StreamFuser$Plan" "letter" "[I" "StreamFuser") ∈ sf_N := sf_N_of 175 (by decide +kernel) rfl
theorem wt_176 : (Cond.fieldLinkNest "StreamFuser$Asker" (53 : Nat) "StreamFuser$Plan" "letter" "[I" "StreamFuser") ∈ sf_N := sf_N_of 176 (by decide +kernel) rfl
theorem wt_177 : (Cond.fieldLinkNest "StreamFuser$Maker" (56 : Nat) "StreamFuser$Plan" "letter" "[I" "StreamFuser") ∈ sf_N := sf_N_of 177 (by decide +kernel) rfl
theorem wt_178 : (Cond.fieldLinkNest "StreamFuser$Rewriter" (48 : Nat) "StreamFuser$Plan" "letter" "[I" "StreamFuser") ∈ sf_N := sf_N_of 178 (by decide +kernel) rfl
theorem wt_179 : (Cond.fieldLinkNest "StreamFuser$Way" (61 : Nat) "StreamFuser$Plan" "letter" "[I" "StreamFuser") ∈ sf_N := sf_N_of 179 (by decide +kernel) rfl
theorem wt_180 : (Cond.fieldLinkNest "StreamFuser" (117 : Nat) "StreamFuser$Plan" "letter" "[I" "StreamFuser") ∈ sf_N := sf_N_of 180 (by decide +kernel) rfl
theorem wt_181 : (Cond.fieldLink "StreamFuser$Plan" (15 : Nat) "StreamFuser$Plan" "mark" "[I") ∈ sf_T := sf_T_of 181 (by decide +kernel) rfl
theorem wt_182 : (Cond.fieldLinkNest "StreamFuser$Way" (40 : Nat) "StreamFuser$Plan" "mark" "[I" "StreamFuser") ∈ sf_N := sf_N_of 182 (by decide +kernel) rfl
theorem wt_183 : (Cond.fieldLinkNest "StreamFuser$Printer" (47 : Nat) "StreamFuser$Plan" "mark" "[I" "StreamFuser") ∈ sf_N := sf_N_of 183 (by decide +kernel) rfl
theorem wt_184 : (Cond.fieldLinkNest "StreamFuser" (121 : Nat) "StreamFuser$Plan" "mark" "[I" "StreamFuser") ∈ sf_N := sf_N_of 184 (by decide +kernel) rfl
theorem wt_185 : (Cond.fieldLink "StreamFuser$Plan" (18 : Nat) "StreamFuser$Plan" "first" "[I") ∈ sf_T := sf_T_of 185 (by decide +kernel) rfl
theorem wt_186 : (Cond.fieldLinkNest "StreamFuser$Printer" (53 : Nat) "StreamFuser$Plan" "first" "[I" "StreamFuser") ∈ sf_N := sf_N_of 186 (by decide +kernel) rfl
theorem wt_187 : (Cond.fieldLinkNest "StreamFuser$Stepper" (84 : Nat) "StreamFuser$Plan" "first" "[I" "StreamFuser") ∈ sf_N := sf_N_of 187 (by decide +kernel) rfl
theorem wt_188 : (Cond.fieldLinkNest "StreamFuser$Way" (67 : Nat) "StreamFuser$Plan" "first" "[I" "StreamFuser") ∈ sf_N := sf_N_of 188 (by decide +kernel) rfl
theorem wt_189 : (Cond.fieldLinkNest "StreamFuser$Rewriter" (54 : Nat) "StreamFuser$Plan" "first" "[I" "StreamFuser") ∈ sf_N := sf_N_of 189 (by decide +kernel) rfl
theorem wt_190 : (Cond.fieldLinkNest "StreamFuser$Asker" (95 : Nat) "StreamFuser$Plan" "first" "[I" "StreamFuser") ∈ sf_N := sf_N_of 190 (by decide +kernel) rfl
theorem wt_191 : (Cond.fieldLinkNest "StreamFuser" (124 : Nat) "StreamFuser$Plan" "first" "[I" "StreamFuser") ∈ sf_N := sf_N_of 191 (by decide +kernel) rfl
theorem wt_192 : (Cond.fieldLinkNest "StreamFuser$Maker" (116 : Nat) "StreamFuser$Plan" "first" "[I" "StreamFuser") ∈ sf_N := sf_N_of 192 (by decide +kernel) rfl
theorem wt_193 : (Cond.fieldLink "StreamFuser$Plan" (21 : Nat) "StreamFuser$Plan" "second" "[I") ∈ sf_T := sf_T_of 193 (by decide +kernel) rfl
theorem wt_194 : (Cond.fieldLinkNest "StreamFuser$Printer" (59 : Nat) "StreamFuser$Plan" "second" "[I" "StreamFuser") ∈ sf_N := sf_N_of 194 (by decide +kernel) rfl
theorem wt_195 : (Cond.fieldLinkNest "StreamFuser$Way" (64 : Nat) "StreamFuser$Plan" "second" "[I" "StreamFuser") ∈ sf_N := sf_N_of 195 (by decide +kernel) rfl
theorem wt_196 : (Cond.fieldLinkNest "StreamFuser$Rewriter" (51 : Nat) "StreamFuser$Plan" "second" "[I" "StreamFuser") ∈ sf_N := sf_N_of 196 (by decide +kernel) rfl
theorem wt_197 : (Cond.fieldLinkNest "StreamFuser" (127 : Nat) "StreamFuser$Plan" "second" "[I" "StreamFuser") ∈ sf_N := sf_N_of 197 (by decide +kernel) rfl
theorem wt_198 : (Cond.fieldLinkNest "StreamFuser$Way" (27 : Nat) "StreamFuser$Plan" "size" "I" "StreamFuser") ∈ sf_N := sf_N_of 198 (by decide +kernel) rfl
theorem wt_199 : (Cond.fieldLinkNest "StreamFuser$Printer" (21 : Nat) "StreamFuser$Plan" "size" "I" "StreamFuser") ∈ sf_N := sf_N_of 199 (by decide +kernel) rfl
theorem wt_200 : (Cond.fieldLinkNest "StreamFuser$Asker" (25 : Nat) "StreamFuser$Plan" "size" "I" "StreamFuser") ∈ sf_N := sf_N_of 200 (by decide +kernel) rfl
theorem wt_201 : (Cond.fieldLinkNest "StreamFuser$Stepper" (29 : Nat) "StreamFuser$Plan" "size" "I" "StreamFuser") ∈ sf_N := sf_N_of 201 (by decide +kernel) rfl
theorem wt_202 : (Cond.fieldLinkNest "StreamFuser$Walk" (29 : Nat) "StreamFuser$Plan" "size" "I" "StreamFuser") ∈ sf_N := sf_N_of 202 (by decide +kernel) rfl
theorem wt_203 : (Cond.fieldLinkNest "StreamFuser$Rewriter" (41 : Nat) "StreamFuser$Plan" "size" "I" "StreamFuser") ∈ sf_N := sf_N_of 203 (by decide +kernel) rfl
theorem wt_204 : (Cond.fieldLinkNest "StreamFuser$Reader" (26 : Nat) "StreamFuser$Plan" "size" "I" "StreamFuser") ∈ sf_N := sf_N_of 204 (by decide +kernel) rfl
theorem wt_205 : (Cond.fieldLink "StreamFuser$Plan" (44 : Nat) "StreamFuser$Plan" "size" "I") ∈ sf_T := sf_T_of 205 (by decide +kernel) rfl
theorem wt_206 : (Cond.fieldLinkNest "StreamFuser" (110 : Nat) "StreamFuser$Plan" "size" "I" "StreamFuser") ∈ sf_N := sf_N_of 206 (by decide +kernel) rfl
theorem wt_207 : (Cond.fieldLink "StreamFuser$Plan" (24 : Nat) "StreamFuser$Plan" "end" "[I") ∈ sf_T := sf_T_of 207 (by decide +kernel) rfl
theorem wt_208 : (Cond.fieldLink "StreamFuser$Plan" (27 : Nat) "StreamFuser$Plan" "within" "[I") ∈ sf_T := sf_T_of 208 (by decide +kernel) rfl
theorem wt_209 : (Cond.fieldLinkNest "StreamFuser" (130 : Nat) "StreamFuser$Plan" "within" "[I" "StreamFuser") ∈ sf_N := sf_N_of 209 (by decide +kernel) rfl
theorem wt_210 : (Cond.fieldLink "StreamFuser$Plan" (30 : Nat) "StreamFuser$Plan" "nested" "[I") ∈ sf_T := sf_T_of 210 (by decide +kernel) rfl
theorem wt_211 : (Cond.fieldLinkNest "StreamFuser$Way" (49 : Nat) "StreamFuser$Plan" "nested" "[I" "StreamFuser") ∈ sf_N := sf_N_of 211 (by decide +kernel) rfl
theorem wt_212 : (Cond.fieldLinkNest "StreamFuser$Maker" (94 : Nat) "StreamFuser$Plan" "nested" "[I" "StreamFuser") ∈ sf_N := sf_N_of 212 (by decide +kernel) rfl
theorem wt_213 : (Cond.fieldLink "StreamFuser$Plan" (33 : Nat) "StreamFuser$Plan" "opener" "[I") ∈ sf_T := sf_T_of 213 (by decide +kernel) rfl
theorem wt_214 : (Cond.fieldLinkNest "StreamFuser$Way" (33 : Nat) "StreamFuser$Plan" "opener" "[I" "StreamFuser") ∈ sf_N := sf_N_of 214 (by decide +kernel) rfl
theorem wt_215 : (Cond.fieldLink "StreamFuser$Plan" (36 : Nat) "StreamFuser$Plan" "pure" "[Z") ∈ sf_T := sf_T_of 215 (by decide +kernel) rfl
theorem wt_216 : (Cond.fieldLinkNest "StreamFuser$Rewriter" (75 : Nat) "StreamFuser$Plan" "pure" "[Z" "StreamFuser") ∈ sf_N := sf_N_of 216 (by decide +kernel) rfl
theorem wt_217 : (Cond.fieldLinkNest "StreamFuser" (133 : Nat) "StreamFuser$Plan" "pure" "[Z" "StreamFuser") ∈ sf_N := sf_N_of 217 (by decide +kernel) rfl
theorem wt_218 : (Cond.fieldLink "StreamFuser$Plan" (40 : Nat) "StreamFuser$Plan" "deepest" "I") ∈ sf_T := sf_T_of 218 (by decide +kernel) rfl
theorem wt_219 : (Cond.fieldLinkNest "StreamFuser" (253 : Nat) "StreamFuser$Plan" "deepest" "I" "StreamFuser") ∈ sf_N := sf_N_of 219 (by decide +kernel) rfl
theorem wt_220 : (Cond.fieldLinkNest "StreamFuser" (159 : Nat) "StreamFuser$Plan" "endless" "Z" "StreamFuser") ∈ sf_N := sf_N_of 220 (by decide +kernel) rfl
theorem wt_221 : (Cond.fieldLink "StreamFuser$Plan" (76 : Nat) "StreamFuser$Plan" "endless" "Z") ∈ sf_T := sf_T_of 221 (by decide +kernel) rfl
theorem wt_251 : (Cond.methodLinkNest "StreamFuser" (22 : Nat) ({ cls := "StreamFuser$Printer", name := "<init>", desc := "(LStreamFuser$Plan;)V" } : MethodName) "StreamFuser") ∈ sf_N := sf_N_of 251 (by decide +kernel) rfl
theorem wt_252 : (Cond.instanceMethod ({ cls := "StreamFuser$Printer", name := "<init>", desc := "(LStreamFuser$Plan;)V" } : MethodName)) ∈ sf_T := sf_T_of 252 (by decide +kernel) rfl
theorem wt_254 : (Cond.methodLink "StreamFuser$Printer" (1 : Nat) ({ cls := "java/lang/Object", name := "<init>", desc := "()V" } : MethodName)) ∈ sf_T := sf_T_of 254 (by decide +kernel) rfl
theorem wt_255 : (Cond.fieldLink "StreamFuser$Printer" (13 : Nat) "StreamFuser$Printer" "source" "LStreamFuser$Plan;") ∈ sf_T := sf_T_of 255 (by decide +kernel) rfl
theorem wt_256 : (Cond.fieldLink "StreamFuser$Printer" (9 : Nat) "StreamFuser$Printer" "bytes" "[B") ∈ sf_T := sf_T_of 256 (by decide +kernel) rfl
theorem wt_257 : (Cond.fieldLinkNest "StreamFuser" (138 : Nat) "StreamFuser$Printer" "bytes" "[B" "StreamFuser") ∈ sf_N := sf_N_of 257 (by decide +kernel) rfl
theorem wt_258 : (Cond.fieldLink "StreamFuser$Printer" (17 : Nat) "StreamFuser$Printer" "length" "I") ∈ sf_T := sf_T_of 258 (by decide +kernel) rfl
theorem wt_259 : (Cond.fieldLinkNest "StreamFuser" (137 : Nat) "StreamFuser$Printer" "length" "I" "StreamFuser") ∈ sf_N := sf_N_of 259 (by decide +kernel) rfl
theorem wt_270 : (Cond.methodLinkNest "StreamFuser" (31 : Nat) ({ cls := "StreamFuser$Rewriter", name := "<init>", desc := "(LStreamFuser$Plan;)V" } : MethodName) "StreamFuser") ∈ sf_N := sf_N_of 270 (by decide +kernel) rfl
theorem wt_271 : (Cond.instanceMethod ({ cls := "StreamFuser$Rewriter", name := "<init>", desc := "(LStreamFuser$Plan;)V" } : MethodName)) ∈ sf_T := sf_T_of 271 (by decide +kernel) rfl
theorem wt_273 : (Cond.methodLink "StreamFuser$Rewriter" (3 : Nat) ({ cls := "java/lang/Object", name := "<init>", desc := "()V" } : MethodName)) ∈ sf_T := sf_T_of 273 (by decide +kernel) rfl
theorem wt_274 : (Cond.fieldLink "StreamFuser$Rewriter" (15 : Nat) "StreamFuser$Rewriter" "plan" "LStreamFuser$Plan;") ∈ sf_T := sf_T_of 274 (by decide +kernel) rfl
theorem wt_275 : (Cond.fieldLink "StreamFuser$Rewriter" (9 : Nat) "StreamFuser$Rewriter" "applied" "[I") ∈ sf_T := sf_T_of 275 (by decide +kernel) rfl
theorem wt_276 : (Cond.fieldLinkNest "StreamFuser" (149 : Nat) "StreamFuser$Rewriter" "applied" "[I" "StreamFuser") ∈ sf_N := sf_N_of 276 (by decide +kernel) rfl
theorem wt_277 : (Cond.fieldLink "StreamFuser$Rewriter" (19 : Nat) "StreamFuser$Rewriter" "total" "I") ∈ sf_T := sf_T_of 277 (by decide +kernel) rfl
theorem wt_278 : (Cond.fieldLinkNest "StreamFuser" (146 : Nat) "StreamFuser$Rewriter" "total" "I" "StreamFuser") ∈ sf_N := sf_N_of 278 (by decide +kernel) rfl
theorem wt_288 : (Cond.methodLinkNest "StreamFuser" (38 : Nat) ({ cls := "StreamFuser$Sheets", name := "<init>", desc := "()V" } : MethodName) "StreamFuser") ∈ sf_N := sf_N_of 288 (by decide +kernel) rfl
theorem wt_289 : (Cond.instanceMethod ({ cls := "StreamFuser$Sheets", name := "<init>", desc := "()V" } : MethodName)) ∈ sf_T := sf_T_of 289 (by decide +kernel) rfl
theorem wt_291 : (Cond.methodLink "StreamFuser$Sheets" (3 : Nat) ({ cls := "java/lang/Object", name := "<init>", desc := "()V" } : MethodName)) ∈ sf_T := sf_T_of 291 (by decide +kernel) rfl
theorem wt_292 : (Cond.fieldLink "StreamFuser$Sheets" (9 : Nat) "StreamFuser$Sheets" "form" "[I") ∈ sf_T := sf_T_of 292 (by decide +kernel) rfl
theorem wt_293 : (Cond.fieldLinkNest "StreamFuser" (237 : Nat) "StreamFuser$Sheets" "form" "[I" "StreamFuser") ∈ sf_N := sf_N_of 293 (by decide +kernel) rfl
theorem wt_294 : (Cond.fieldLink "StreamFuser$Sheets" (15 : Nat) "StreamFuser$Sheets" "length" "[I") ∈ sf_T := sf_T_of 294 (by decide +kernel) rfl
theorem wt_295 : (Cond.fieldLinkNest "StreamFuser$Way" (83 : Nat) "StreamFuser$Sheets" "length" "[I" "StreamFuser") ∈ sf_N := sf_N_of 295 (by decide +kernel) rfl
theorem wt_296 : (Cond.fieldLinkNest "StreamFuser" (224 : Nat) "StreamFuser$Sheets" "length" "[I" "StreamFuser") ∈ sf_N := sf_N_of 296 (by decide +kernel) rfl
theorem wt_297 : (Cond.fieldLink "StreamFuser$Sheets" (18 : Nat) "StreamFuser$Sheets" "elements" "[I") ∈ sf_T := sf_T_of 297 (by decide +kernel) rfl
theorem wt_307 : (Cond.methodLinkNest "StreamFuser" (45 : Nat) ({ cls := "StreamFuser$Run", name := "<init>", desc := "()V" } : MethodName) "StreamFuser") ∈ sf_N := sf_N_of 307 (by decide +kernel) rfl
theorem wt_308 : (Cond.instanceMethod ({ cls := "StreamFuser$Run", name := "<init>", desc := "()V" } : MethodName)) ∈ sf_T := sf_T_of 308 (by decide +kernel) rfl
theorem wt_310 : (Cond.methodLink "StreamFuser$Run" (3 : Nat) ({ cls := "java/lang/Object", name := "<init>", desc := "()V" } : MethodName)) ∈ sf_T := sf_T_of 310 (by decide +kernel) rfl
theorem wt_311 : (Cond.fieldLink "StreamFuser$Run" (9 : Nat) "StreamFuser$Run" "numbers" "[I") ∈ sf_T := sf_T_of 311 (by decide +kernel) rfl
theorem wt_312 : (Cond.fieldLinkNest "StreamFuser" (166 : Nat) "StreamFuser$Run" "numbers" "[I" "StreamFuser") ∈ sf_N := sf_N_of 312 (by decide +kernel) rfl
theorem wt_313 : (Cond.fieldLink "StreamFuser$Run" (21 : Nat) "StreamFuser$Run" "size" "I") ∈ sf_T := sf_T_of 313 (by decide +kernel) rfl
theorem wt_314 : (Cond.fieldLinkNest "StreamFuser$Stepper" (40 : Nat) "StreamFuser$Run" "size" "I" "StreamFuser") ∈ sf_N := sf_N_of 314 (by decide +kernel) rfl
theorem wt_315 : (Cond.fieldLinkNest "StreamFuser" (165 : Nat) "StreamFuser$Run" "size" "I" "StreamFuser") ∈ sf_N := sf_N_of 315 (by decide +kernel) rfl
theorem wt_316 : (Cond.fieldLink "StreamFuser$Run" (25 : Nat) "StreamFuser$Run" "drawn" "I") ∈ sf_T := sf_T_of 316 (by decide +kernel) rfl
theorem wt_317 : (Cond.fieldLinkNest "StreamFuser" (156 : Nat) "StreamFuser$Run" "drawn" "I" "StreamFuser") ∈ sf_N := sf_N_of 317 (by decide +kernel) rfl
theorem wt_318 : (Cond.fieldLink "StreamFuser$Run" (28 : Nat) "StreamFuser$Run" "work" "I") ∈ sf_T := sf_T_of 318 (by decide +kernel) rfl
theorem wt_319 : (Cond.fieldLinkNest "StreamFuser$Stepper" (41 : Nat) "StreamFuser$Run" "work" "I" "StreamFuser") ∈ sf_N := sf_N_of 319 (by decide +kernel) rfl
theorem wt_320 : (Cond.fieldLinkNest "StreamFuser$Asker" (50 : Nat) "StreamFuser$Run" "work" "I" "StreamFuser") ∈ sf_N := sf_N_of 320 (by decide +kernel) rfl
theorem wt_321 : (Cond.fieldLinkNest "StreamFuser$Maker" (49 : Nat) "StreamFuser$Run" "work" "I" "StreamFuser") ∈ sf_N := sf_N_of 321 (by decide +kernel) rfl
theorem wt_322 : (Cond.fieldLinkNest "StreamFuser" (189 : Nat) "StreamFuser$Run" "work" "I" "StreamFuser") ∈ sf_N := sf_N_of 322 (by decide +kernel) rfl
theorem wt_323 : (Cond.fieldLink "StreamFuser$Run" (31 : Nat) "StreamFuser$Run" "elements" "I") ∈ sf_T := sf_T_of 323 (by decide +kernel) rfl
theorem wt_324 : (Cond.fieldLinkNest "StreamFuser$Maker" (53 : Nat) "StreamFuser$Run" "elements" "I" "StreamFuser") ∈ sf_N := sf_N_of 324 (by decide +kernel) rfl
theorem wt_325 : (Cond.fieldLinkNest "StreamFuser" (192 : Nat) "StreamFuser$Run" "elements" "I" "StreamFuser") ∈ sf_N := sf_N_of 325 (by decide +kernel) rfl
theorem wt_326 : (Cond.fieldLink "StreamFuser$Run" (34 : Nat) "StreamFuser$Run" "failure" "I") ∈ sf_T := sf_T_of 326 (by decide +kernel) rfl
theorem wt_327 : (Cond.fieldLinkNest "StreamFuser" (183 : Nat) "StreamFuser$Run" "failure" "I" "StreamFuser") ∈ sf_N := sf_N_of 327 (by decide +kernel) rfl
theorem wt_328 : (Cond.fieldLink "StreamFuser$Run" (37 : Nat) "StreamFuser$Run" "failureDepth" "I") ∈ sf_T := sf_T_of 328 (by decide +kernel) rfl
theorem wt_329 : (Cond.fieldLinkNest "StreamFuser" (186 : Nat) "StreamFuser$Run" "failureDepth" "I" "StreamFuser") ∈ sf_N := sf_N_of 329 (by decide +kernel) rfl
theorem wt_330 : (Cond.fieldLink "StreamFuser$Run" (15 : Nat) "StreamFuser$Run" "digits" "[I") ∈ sf_T := sf_T_of 330 (by decide +kernel) rfl
theorem wt_331 : (Cond.fieldLinkNest "StreamFuser" (201 : Nat) "StreamFuser$Run" "digits" "[I" "StreamFuser") ∈ sf_N := sf_N_of 331 (by decide +kernel) rfl
theorem wt_332 : (Cond.fieldLink "StreamFuser$Run" (18 : Nat) "StreamFuser$Run" "notes" "[I") ∈ sf_T := sf_T_of 332 (by decide +kernel) rfl
theorem wt_333 : (Cond.fieldLinkNest "StreamFuser" (204 : Nat) "StreamFuser$Run" "notes" "[I" "StreamFuser") ∈ sf_N := sf_N_of 333 (by decide +kernel) rfl
theorem wt_334 : (Cond.fieldLink "StreamFuser$Run" (40 : Nat) "StreamFuser$Run" "pairs" "I") ∈ sf_T := sf_T_of 334 (by decide +kernel) rfl
theorem wt_335 : (Cond.fieldLinkNest "StreamFuser" (195 : Nat) "StreamFuser$Run" "pairs" "I" "StreamFuser") ∈ sf_N := sf_N_of 335 (by decide +kernel) rfl
theorem wt_359 : (Cond.methodLinkNest "StreamFuser" (52 : Nat) ({ cls := "StreamFuser$Asker", name := "<init>", desc := "(LStreamFuser$Plan;LStreamFuser$Run;LStreamFuser$Sheets;)V" } : MethodName) "StreamFuser") ∈ sf_N := sf_N_of 359 (by decide +kernel) rfl
theorem wt_360 : (Cond.instanceMethod ({ cls := "StreamFuser$Asker", name := "<init>", desc := "(LStreamFuser$Plan;LStreamFuser$Run;LStreamFuser$Sheets;)V" } : MethodName)) ∈ sf_T := sf_T_of 360 (by decide +kernel) rfl
theorem wt_362 : (Cond.methodLink "StreamFuser$Asker" (3 : Nat) ({ cls := "StreamFuser$Walk", name := "<init>", desc := "(LStreamFuser$Plan;LStreamFuser$Run;LStreamFuser$Sheets;)V" } : MethodName)) ∈ sf_T := sf_T_of 362 (by decide +kernel) rfl
theorem wt_363 : (Cond.instanceMethod ({ cls := "StreamFuser$Walk", name := "<init>", desc := "(LStreamFuser$Plan;LStreamFuser$Run;LStreamFuser$Sheets;)V" } : MethodName)) ∈ sf_T := sf_T_of 363 (by decide +kernel) rfl
theorem wt_365 : (Cond.methodLink "StreamFuser$Walk" (3 : Nat) ({ cls := "StreamFuser$Way", name := "<init>", desc := "(LStreamFuser$Plan;LStreamFuser$Run;LStreamFuser$Sheets;)V" } : MethodName)) ∈ sf_T := sf_T_of 365 (by decide +kernel) rfl
theorem wt_366 : (Cond.instanceMethod ({ cls := "StreamFuser$Way", name := "<init>", desc := "(LStreamFuser$Plan;LStreamFuser$Run;LStreamFuser$Sheets;)V" } : MethodName)) ∈ sf_T := sf_T_of 366 (by decide +kernel) rfl
theorem wt_368 : (Cond.methodLink "StreamFuser$Way" (3 : Nat) ({ cls := "java/lang/Object", name := "<init>", desc := "()V" } : MethodName)) ∈ sf_T := sf_T_of 368 (by decide +kernel) rfl
theorem wt_369 : (Cond.fieldLink "StreamFuser$Walk" (9 : Nat) "StreamFuser$Walk" "used" "[I") ∈ sf_T := sf_T_of 369 (by decide +kernel) rfl
theorem wt_370 : (Cond.fieldLink "StreamFuser$Stepper" (81 : Nat) "StreamFuser$Stepper" "used" "[I") ∈ sf_T := sf_T_of 370 (by decide +kernel) rfl
theorem wt_371 : (Cond.sameField "StreamFuser$Stepper" "StreamFuser$Walk" "used" "[I") ∈ sf_T := sf_T_of 371 (by decide +kernel) rfl
theorem wt_372 : (Cond.fieldLink "StreamFuser$Asker" (92 : Nat) "StreamFuser$Asker" "used" "[I") ∈ sf_T := sf_T_of 372 (by decide +kernel) rfl
theorem wt_373 : (Cond.sameField "StreamFuser$Asker" "StreamFuser$Walk" "used" "[I") ∈ sf_T := sf_T_of 373 (by decide +kernel) rfl
theorem wt_374 : (Cond.fieldLink "StreamFuser$Walk" (15 : Nat) "StreamFuser$Walk" "turned" "[Z") ∈ sf_T := sf_T_of 374 (by decide +kernel) rfl
theorem wt_375 : (Cond.fieldLink "StreamFuser$Asker" (88 : Nat) "StreamFuser$Asker" "turned" "[Z") ∈ sf_T := sf_T_of 375 (by decide +kernel) rfl
theorem wt_376 : (Cond.sameField "StreamFuser$Asker" "StreamFuser$Walk" "turned" "[Z") ∈ sf_T := sf_T_of 376 (by decide +kernel) rfl
theorem wt_377 : (Cond.fieldLink "StreamFuser$Stepper" (98 : Nat) "StreamFuser$Stepper" "turned" "[Z") ∈ sf_T := sf_T_of 377 (by decide +kernel) rfl
theorem wt_378 : (Cond.sameField "StreamFuser$Stepper" "StreamFuser$Walk" "turned" "[Z") ∈ sf_T := sf_T_of 378 (by decide +kernel) rfl
theorem wt_379 : (Cond.fieldLink "StreamFuser$Way" (15 : Nat) "StreamFuser$Way" "plan" "LStreamFuser$Plan;") ∈ sf_T := sf_T_of 379 (by decide +kernel) rfl
theorem wt_380 : (Cond.fieldLink "StreamFuser$Asker" (21 : Nat) "StreamFuser$Asker" "plan" "LStreamFuser$Plan;") ∈ sf_T := sf_T_of 380 (by decide +kernel) rfl
theorem wt_381 : (Cond.sameField "StreamFuser$Asker" "StreamFuser$Way" "plan" "LStreamFuser$Plan;") ∈ sf_T := sf_T_of 381 (by decide +kernel) rfl
theorem wt_382 : (Cond.fieldLink "StreamFuser$Stepper" (25 : Nat) "StreamFuser$Stepper" "plan" "LStreamFuser$Plan;") ∈ sf_T := sf_T_of 382 (by decide +kernel) rfl
theorem wt_383 : (Cond.sameField "StreamFuser$Stepper" "StreamFuser$Way" "plan" "LStreamFuser$Plan;") ∈ sf_T := sf_T_of 383 (by decide +kernel) rfl
theorem wt_384 : (Cond.fieldLink "StreamFuser$Walk" (25 : Nat) "StreamFuser$Walk" "plan" "LStreamFuser$Plan;") ∈ sf_T := sf_T_of 384 (by decide +kernel) rfl
theorem wt_385 : (Cond.sameField "StreamFuser$Walk" "StreamFuser$Way" "plan" "LStreamFuser$Plan;") ∈ sf_T := sf_T_of 385 (by decide +kernel) rfl
theorem wt_386 : (Cond.fieldLink "StreamFuser$Maker" (36 : Nat) "StreamFuser$Maker" "plan" "LStreamFuser$Plan;") ∈ sf_T := sf_T_of 386 (by decide +kernel) rfl
theorem wt_387 : (Cond.sameField "StreamFuser$Maker" "StreamFuser$Way" "plan" "LStreamFuser$Plan;") ∈ sf_T := sf_T_of 387 (by decide +kernel) rfl
theorem wt_388 : (Cond.fieldLink "StreamFuser$Way" (19 : Nat) "StreamFuser$Way" "run" "LStreamFuser$Run;") ∈ sf_T := sf_T_of 388 (by decide +kernel) rfl
theorem wt_389 : (Cond.fieldLink "StreamFuser$Asker" (9 : Nat) "StreamFuser$Asker" "run" "LStreamFuser$Run;") ∈ sf_T := sf_T_of 389 (by decide +kernel) rfl
theorem wt_390 : (Cond.sameField "StreamFuser$Asker" "StreamFuser$Way" "run" "LStreamFuser$Run;") ∈ sf_T := sf_T_of 390 (by decide +kernel) rfl
theorem wt_391 : (Cond.fieldLink "StreamFuser$Stepper" (15 : Nat) "StreamFuser$Stepper" "run" "LStreamFuser$Run;") ∈ sf_T := sf_T_of 391 (by decide +kernel) rfl
theorem wt_392 : (Cond.sameField "StreamFuser$Stepper" "StreamFuser$Way" "run" "LStreamFuser$Run;") ∈ sf_T := sf_T_of 392 (by decide +kernel) rfl
theorem wt_393 : (Cond.fieldLink "StreamFuser$Maker" (18 : Nat) "StreamFuser$Maker" "run" "LStreamFuser$Run;") ∈ sf_T := sf_T_of 393 (by decide +kernel) rfl
theorem wt_394 : (Cond.sameField "StreamFuser$Maker" "StreamFuser$Way" "run" "LStreamFuser$Run;") ∈ sf_T := sf_T_of 394 (by decide +kernel) rfl
theorem wt_395 : (Cond.fieldLink "StreamFuser$Walk" (57 : Nat) "StreamFuser$Walk" "run" "LStreamFuser$Run;") ∈ sf_T := sf_T_of 395 (by decide +kernel) rfl
theorem wt_396 : (Cond.sameField "StreamFuser$Walk" "StreamFuser$Way" "run" "LStreamFuser$Run;") ∈ sf_T := sf_T_of 396 (by decide +kernel) rfl
theorem wt_397 : (Cond.fieldLink "StreamFuser$Way" (23 : Nat) "StreamFuser$Way" "sheets" "LStreamFuser$Sheets;") ∈ sf_T := sf_T_of 397 (by decide +kernel) rfl
theorem wt_398 : (Cond.fieldLink "StreamFuser$Way" (9 : Nat) "StreamFuser$Way" "opened" "[I") ∈ sf_T := sf_T_of 398 (by decide +kernel) rfl
theorem wt_399 : (Cond.fieldLink "StreamFuser$Walk" (39 : Nat) "StreamFuser$Walk" "opened" "[I") ∈ sf_T := sf_T_of 399 (by decide +kernel) rfl
theorem wt_400 : (Cond.sameField "StreamFuser$Walk" "StreamFuser$Way" "opened" "[I") ∈ sf_T := sf_T_of 400 (by decide +kernel) rfl
theorem wt_401 : (Cond.fieldLink "StreamFuser$Maker" (125 : Nat) "StreamFuser$Maker" "opened" "[I") ∈ sf_T := sf_T_of 401 (by decide +kernel) rfl
theorem wt_402 : (Cond.sameField "StreamFuser$Maker" "StreamFuser$Way" "opened" "[I") ∈ sf_T := sf_T_of 402 (by decide +kernel) rfl
theorem wt_403 : (Cond.fieldLink "StreamFuser$Asker" (39 : Nat) "StreamFuser$Asker" "value" "I") ∈ sf_T := sf_T_of 403 (by decide +kernel) rfl
theorem wt_404 : (Cond.sameField "StreamFuser$Asker" "StreamFuser$Way" "value" "I") ∈ sf_T := sf_T_of 404 (by decide +kernel) rfl
theorem wt_405 : (Cond.fieldLink "StreamFuser$Stepper" (48 : Nat) "StreamFuser$Stepper" "value" "I") ∈ sf_T := sf_T_of 405 (by decide +kernel) rfl
theorem wt_406 : (Cond.sameField "StreamFuser$Stepper" "StreamFuser$Way" "value" "I") ∈ sf_T := sf_T_of 406 (by decide +kernel) rfl
theorem wt_407 : (Cond.fieldLink "StreamFuser$Walk" (69 : Nat) "StreamFuser$Walk" "value" "I") ∈ sf_T := sf_T_of 407 (by decide +kernel) rfl
theorem wt_408 : (Cond.sameField "StreamFuser$Walk" "StreamFuser$Way" "value" "I") ∈ sf_T := sf_T_of 408 (by decide +kernel) rfl
theorem wt_409 : (Cond.fieldLink "StreamFuser$Way" (95 : Nat) "StreamFuser$Way" "value" "I") ∈ sf_T := sf_T_of 409 (by decide +kernel) rfl
theorem wt_410 : (Cond.fieldLink "StreamFuser$Maker" (122 : Nat) "StreamFuser$Maker" "value" "I") ∈ sf_T := sf_T_of 410 (by decide +kernel) rfl
theorem wt_411 : (Cond.sameField "StreamFuser$Maker" "StreamFuser$Way" "value" "I") ∈ sf_T := sf_T_of 411 (by decide +kernel) rfl
theorem wt_429 : (Cond.methodLinkNest "StreamFuser" (61 : Nat) ({ cls := "StreamFuser$Stepper", name := "<init>", desc := "(LStreamFuser$Plan;LStreamFuser$Run;LStreamFuser$Sheets;)V" } : MethodName) "StreamFuser") ∈ sf_N := sf_N_of 429 (by decide +kernel) rfl
theorem wt_430 : (Cond.instanceMethod ({ cls := "StreamFuser$Stepper", name := "<init>", desc := "(LStreamFuser$Plan;LStreamFuser$Run;LStreamFuser$Sheets;)V" } : MethodName)) ∈ sf_T := sf_T_of 430 (by decide +kernel) rfl
theorem wt_432 : (Cond.methodLink "StreamFuser$Stepper" (3 : Nat) ({ cls := "StreamFuser$Walk", name := "<init>", desc := "(LStreamFuser$Plan;LStreamFuser$Run;LStreamFuser$Sheets;)V" } : MethodName)) ∈ sf_T := sf_T_of 432 (by decide +kernel) rfl
theorem wt_433 : (Cond.fieldLink "StreamFuser$Stepper" (9 : Nat) "StreamFuser$Stepper" "held" "[I") ∈ sf_T := sf_T_of 433 (by decide +kernel) rfl
theorem wt_446 : (Cond.methodLinkNest "StreamFuser" (68 : Nat) ({ cls := "StreamFuser$Maker", name := "<init>", desc := "(LStreamFuser$Plan;LStreamFuser$Run;LStreamFuser$Sheets;)V" } : MethodName) "StreamFuser") ∈ sf_N := sf_N_of 446 (by decide +kernel) rfl
theorem wt_447 : (Cond.instanceMethod ({ cls := "StreamFuser$Maker", name := "<init>", desc := "(LStreamFuser$Plan;LStreamFuser$Run;LStreamFuser$Sheets;)V" } : MethodName)) ∈ sf_T := sf_T_of 447 (by decide +kernel) rfl
theorem wt_449 : (Cond.methodLink "StreamFuser$Maker" (3 : Nat) ({ cls := "StreamFuser$Way", name := "<init>", desc := "(LStreamFuser$Plan;LStreamFuser$Run;LStreamFuser$Sheets;)V" } : MethodName)) ∈ sf_T := sf_T_of 449 (by decide +kernel) rfl
theorem wt_450 : (Cond.fieldLink "StreamFuser$Maker" (9 : Nat) "StreamFuser$Maker" "rows" "[I") ∈ sf_T := sf_T_of 450 (by decide +kernel) rfl
theorem wt_451 : (Cond.fieldLink "StreamFuser$Maker" (15 : Nat) "StreamFuser$Maker" "length" "[I") ∈ sf_T := sf_T_of 451 (by decide +kernel) rfl
theorem wt_464 : (Cond.methodLinkNest "StreamFuser" (78 : Nat) ({ cls := "StreamFuser$Reader", name := "<init>", desc := "(LStreamFuser$Plan;)V" } : MethodName) "StreamFuser") ∈ sf_N := sf_N_of 464 (by decide +kernel) rfl
theorem wt_465 : (Cond.instanceMethod ({ cls := "StreamFuser$Reader", name := "<init>", desc := "(LStreamFuser$Plan;)V" } : MethodName)) ∈ sf_T := sf_T_of 465 (by decide +kernel) rfl
theorem wt_467 : (Cond.methodLink "StreamFuser$Reader" (3 : Nat) ({ cls := "java/lang/Object", name := "<init>", desc := "()V" } : MethodName)) ∈ sf_T := sf_T_of 467 (by decide +kernel) rfl
theorem wt_468 : (Cond.fieldLink "StreamFuser$Reader" (18 : Nat) "StreamFuser$Reader" "target" "LStreamFuser$Plan;") ∈ sf_T := sf_T_of 468 (by decide +kernel) rfl
theorem wt_469 : (Cond.fieldLink "StreamFuser$Reader" (9 : Nat) "StreamFuser$Reader" "bytes" "[I") ∈ sf_T := sf_T_of 469 (by decide +kernel) rfl
theorem wt_470 : (Cond.fieldLink "StreamFuser$Reader" (22 : Nat) "StreamFuser$Reader" "length" "I") ∈ sf_T := sf_T_of 470 (by decide +kernel) rfl
theorem wt_471 : (Cond.fieldLinkNest "StreamFuser" (96 : Nat) "StreamFuser$Reader" "length" "I" "StreamFuser") ∈ sf_N := sf_N_of 471 (by decide +kernel) rfl
theorem wt_472 : (Cond.fieldLink "StreamFuser$Reader" (15 : Nat) "StreamFuser$Reader" "due" "[I") ∈ sf_T := sf_T_of 472 (by decide +kernel) rfl
theorem wt_473 : (Cond.fieldLink "StreamFuser$Reader" (37 : Nat) "StreamFuser$Reader" "dues" "I") ∈ sf_T := sf_T_of 473 (by decide +kernel) rfl
theorem wt_474 : (Cond.fieldLink "StreamFuser$Reader" (31 : Nat) "StreamFuser$Reader" "at" "I") ∈ sf_T := sf_T_of 474 (by decide +kernel) rfl
theorem wt_475 : (Cond.fieldLink "StreamFuser$Reader" (34 : Nat) "StreamFuser$Reader" "fault" "I") ∈ sf_T := sf_T_of 475 (by decide +kernel) rfl
theorem wt_491 : (Cond.fieldLink "StreamFuser" (16 : Nat) "StreamFuser" "main" "LStreamFuser$Plan;") ∈ sf_T := sf_T_of 491 (by decide +kernel) rfl
theorem wt_492 : (Cond.fieldLink "StreamFuser" (25 : Nat) "StreamFuser" "printer" "LStreamFuser$Printer;") ∈ sf_T := sf_T_of 492 (by decide +kernel) rfl
theorem wt_493 : (Cond.fieldLink "StreamFuser" (32 : Nat) "StreamFuser" "rewriter" "LStreamFuser$Rewriter;") ∈ sf_T := sf_T_of 493 (by decide +kernel) rfl
theorem wt_494 : (Cond.fieldLink "StreamFuser" (39 : Nat) "StreamFuser" "sheets" "LStreamFuser$Sheets;") ∈ sf_T := sf_T_of 494 (by decide +kernel) rfl
theorem wt_495 : (Cond.fieldLink "StreamFuser" (46 : Nat) "StreamFuser" "latest" "LStreamFuser$Run;") ∈ sf_T := sf_T_of 495 (by decide +kernel) rfl
theorem wt_496 : (Cond.fieldLink "StreamFuser" (55 : Nat) "StreamFuser" "asker" "LStreamFuser$Asker;") ∈ sf_T := sf_T_of 496 (by decide +kernel) rfl
theorem wt_497 : (Cond.fieldLink "StreamFuser" (62 : Nat) "StreamFuser" "stepper" "LStreamFuser$Stepper;") ∈ sf_T := sf_T_of 497 (by decide +kernel) rfl
theorem wt_498 : (Cond.fieldLink "StreamFuser" (69 : Nat) "StreamFuser" "maker" "LStreamFuser$Maker;") ∈ sf_T := sf_T_of 498 (by decide +kernel) rfl
theorem wt_499 : (Cond.fieldLink "StreamFuser" (73 : Nat) "StreamFuser" "draft" "LStreamFuser$Plan;") ∈ sf_T := sf_T_of 499 (by decide +kernel) rfl
theorem wt_500 : (Cond.fieldLink "StreamFuser" (79 : Nat) "StreamFuser" "reader" "LStreamFuser$Reader;") ∈ sf_T := sf_T_of 500 (by decide +kernel) rfl
theorem wt_501 : (Cond.fieldLink "StreamFuser" (83 : Nat) "StreamFuser" "draftRewriter" "LStreamFuser$Rewriter;") ∈ sf_T := sf_T_of 501 (by decide +kernel) rfl
theorem wt_502 : (Cond.fieldLink "StreamFuser" (86 : Nat) "StreamFuser" "trial" "LStreamFuser$Run;") ∈ sf_T := sf_T_of 502 (by decide +kernel) rfl
theorem wt_503 : (Cond.fieldLink "StreamFuser" (89 : Nat) "StreamFuser" "trialAsker" "LStreamFuser$Asker;") ∈ sf_T := sf_T_of 503 (by decide +kernel) rfl
theorem wt_504 : (Cond.fieldLink "StreamFuser" (256 : Nat) "StreamFuser" "finding" "I") ∈ sf_T := sf_T_of 504 (by decide +kernel) rfl
theorem wt_534 : (Cond.methodLink "StreamFuserLaw" (13 : Nat) ({ cls := "StreamFuser", name := "type", desc := "(I)I" } : MethodName)) ∈ sf_T := sf_T_of 534 (by decide +kernel) rfl
theorem wt_535 : (Cond.instanceMethod ({ cls := "StreamFuser", name := "type", desc := "(I)I" } : MethodName)) ∈ sf_T := sf_T_of 535 (by decide +kernel) rfl
theorem wt_536 : (Cond.selects "StreamFuser" ({ cls := "StreamFuser", name := "type", desc := "(I)I" } : MethodName) ({ cls := "StreamFuser", name := "type", desc := "(I)I" } : MethodName)) ∈ sf_T := sf_T_of 536 (by decide +kernel) rfl
theorem wt_537 : (Cond.code ({ cls := "StreamFuser", name := "type", desc := "(I)I" } : MethodName) prog_1_method_2_code (2 : Nat) (Option.some FieldType.int)) ∈ sf_T := sf_T_of 537 (by decide +kernel) rfl
theorem wt_538 : (Cond.methodLinkNest "StreamFuser" (92 : Nat) ({ cls := "StreamFuser$Reader", name := "append", desc := "(I)Z" } : MethodName) "StreamFuser") ∈ sf_N := sf_N_of 538 (by decide +kernel) rfl
theorem wt_540 : (Cond.instanceMethod ({ cls := "StreamFuser$Reader", name := "append", desc := "(I)Z" } : MethodName)) ∈ sf_T := sf_T_of 540 (by decide +kernel) rfl
theorem wt_541 : (Cond.code ({ cls := "StreamFuser$Reader", name := "append", desc := "(I)Z" } : MethodName) prog_6_method_2_code (2 : Nat) (Option.some FieldType.boolean)) ∈ sf_T := sf_T_of 541 (by decide +kernel) rfl
theorem wt_542 : (Cond.methodLink "StreamFuserLaw" (18 : Nat) ({ cls := "StreamFuser", name := "wipe", desc := "()I" } : MethodName)) ∈ sf_T := sf_T_of 542 (by decide +kernel) rfl
theorem wt_543 : (Cond.instanceMethod ({ cls := "StreamFuser", name := "wipe", desc := "()I" } : MethodName)) ∈ sf_T := sf_T_of 543 (by decide +kernel) rfl
theorem wt_544 : (Cond.selects "StreamFuser" ({ cls := "StreamFuser", name := "wipe", desc := "()I" } : MethodName) ({ cls := "StreamFuser", name := "wipe", desc := "()I" } : MethodName)) ∈ sf_T := sf_T_of 544 (by decide +kernel) rfl
theorem wt_545 : (Cond.code ({ cls := "StreamFuser", name := "wipe", desc := "()I" } : MethodName) prog_1_method_3_code (2 : Nat) (Option.some FieldType.int)) ∈ sf_T := sf_T_of 545 (by decide +kernel) rfl
theorem wt_546 : (Cond.methodLink "StreamFuserLaw" (23 : Nat) ({ cls := "StreamFuser", name := "fault", desc := "()I" } : MethodName)) ∈ sf_T := sf_T_of 546 (by decide +kernel) rfl
theorem wt_547 : (Cond.instanceMethod ({ cls := "StreamFuser", name := "fault", desc := "()I" } : MethodName)) ∈ sf_T := sf_T_of 547 (by decide +kernel) rfl
theorem wt_548 : (Cond.selects "StreamFuser" ({ cls := "StreamFuser", name := "fault", desc := "()I" } : MethodName) ({ cls := "StreamFuser", name := "fault", desc := "()I" } : MethodName)) ∈ sf_T := sf_T_of 548 (by decide +kernel) rfl
theorem wt_549 : (Cond.code ({ cls := "StreamFuser", name := "fault", desc := "()I" } : MethodName) prog_1_method_4_code (1 : Nat) (Option.some FieldType.int)) ∈ sf_T := sf_T_of 549 (by decide +kernel) rfl
theorem wt_550 : (Cond.methodLinkNest "StreamFuser" (100 : Nat) ({ cls := "StreamFuser$Reader", name := "read", desc := "()I" } : MethodName) "StreamFuser") ∈ sf_N := sf_N_of 550 (by decide +kernel) rfl
theorem wt_552 : (Cond.instanceMethod ({ cls := "StreamFuser$Reader", name := "read", desc := "()I" } : MethodName)) ∈ sf_T := sf_T_of 552 (by decide +kernel) rfl
theorem wt_553 : (Cond.code ({ cls := "StreamFuser$Reader", name := "read", desc := "()I" } : MethodName) prog_6_method_3_code (2 : Nat) (Option.some FieldType.int)) ∈ sf_T := sf_T_of 553 (by decide +kernel) rfl
theorem wt_554 : (Cond.methodLink "StreamFuser$Reader" (40 : Nat) ({ cls := "StreamFuser$Reader", name := "expect", desc := "(I)V" } : MethodName)) ∈ sf_T := sf_T_of 554 (by decide +kernel) rfl
theorem wt_556 : (Cond.instanceMethod ({ cls := "StreamFuser$Reader", name := "expect", desc := "(I)V" } : MethodName)) ∈ sf_T := sf_T_of 556 (by decide +kernel) rfl
theorem wt_557 : (Cond.code ({ cls := "StreamFuser$Reader", name := "expect", desc := "(I)V" } : MethodName) prog_6_method_4_code (2 : Nat) (Option.none : Option FieldType)) ∈ sf_T := sf_T_of 557 (by decide +kernel) rfl
theorem wt_558 : (Cond.methodLink "StreamFuser$Reader" (44 : Nat) ({ cls := "StreamFuser$Reader", name := "readNode", desc := "()V" } : MethodName)) ∈ sf_T := sf_T_of 558 (by decide +kernel) rfl
theorem wt_560 : (Cond.instanceMethod ({ cls := "StreamFuser$Reader", name := "readNode", desc := "()V" } : MethodName)) ∈ sf_T := sf_T_of 560 (by decide +kernel) rfl
theorem wt_561 : (Cond.code ({ cls := "StreamFuser$Reader", name := "readNode", desc := "()V" } : MethodName) prog_6_method_5_code (7 : Nat) (Option.none : Option FieldType)) ∈ sf_T := sf_T_of 561 (by decide +kernel) rfl
theorem wt_562 : (Cond.methodLink "StreamFuser$Reader" (47 : Nat) ({ cls := "StreamFuser$Reader", name := "peek", desc := "()I" } : MethodName)) ∈ sf_T := sf_T_of 562 (by decide +kernel) rfl
theorem wt_564 : (Cond.instanceMethod ({ cls := "StreamFuser$Reader", name := "peek", desc := "()I" } : MethodName)) ∈ sf_T := sf_T_of 564 (by decide +kernel) rfl
theorem wt_565 : (Cond.code ({ cls := "StreamFuser$Reader", name := "peek", desc := "()I" } : MethodName) prog_6_method_7_code (1 : Nat) (Option.some FieldType.int)) ∈ sf_T := sf_T_of 565 (by decide +kernel) rfl
theorem wt_566 : (Cond.methodLink "StreamFuser$Reader" (51 : Nat) ({ cls := "StreamFuser$Reader", name := "isLetter", desc := "(II)Z" } : MethodName)) ∈ sf_T := sf_T_of 566 (by decide +kernel) rfl
theorem wt_567 : (Cond.static ({ cls := "StreamFuser$Reader", name := "isLetter", desc := "(II)Z" } : MethodName)) ∈ sf_T := sf_T_of 567 (by decide +kernel) rfl
theorem wt_568 : (Cond.code ({ cls := "StreamFuser$Reader", name := "isLetter", desc := "(II)Z" } : MethodName) prog_6_method_9_code (2 : Nat) (Option.some FieldType.boolean)) ∈ sf_T := sf_T_of 568 (by decide +kernel) rfl
theorem wt_569 : (Cond.methodLinkNest "StreamFuser$Reader" (81 : Nat) ({ cls := "StreamFuser$Plan", name := "partsOf", desc := "(I)I" } : MethodName) "StreamFuser") ∈ sf_N := sf_N_of 569 (by decide +kernel) rfl
theorem wt_570 : (Cond.static ({ cls := "StreamFuser$Plan", name := "partsOf", desc := "(I)I" } : MethodName)) ∈ sf_T := sf_T_of 570 (by decide +kernel) rfl
theorem wt_571 : (Cond.code ({ cls := "StreamFuser$Plan", name := "partsOf", desc := "(I)I" } : MethodName) prog_4_method_2_code (1 : Nat) (Option.some FieldType.int)) ∈ sf_T := sf_T_of 571 (by decide +kernel) rfl
theorem wt_572 : (Cond.methodLinkNest "StreamFuser$Reader" (67 : Nat) ({ cls := "StreamFuser$Plan", name := "numbersOf", desc := "(I)I" } : MethodName) "StreamFuser") ∈ sf_N := sf_N_of 572 (by decide +kernel) rfl
theorem wt_573 : (Cond.static ({ cls := "StreamFuser$Plan", name := "numbersOf", desc := "(I)I" } : MethodName)) ∈ sf_T := sf_T_of 573 (by decide +kernel) rfl
theorem wt_574 : (Cond.code ({ cls := "StreamFuser$Plan", name := "numbersOf", desc := "(I)I" } : MethodName) prog_4_method_3_code (1 : Nat) (Option.some FieldType.int)) ∈ sf_T := sf_T_of 574 (by decide +kernel) rfl
theorem wt_575 : (Cond.methodLink "StreamFuser$Reader" (55 : Nat) ({ cls := "StreamFuser$Reader", name := "accept", desc := "(Z)V" } : MethodName)) ∈ sf_T := sf_T_of 575 (by decide +kernel) rfl
theorem wt_577 : (Cond.instanceMethod ({ cls := "StreamFuser$Reader", name := "accept", desc := "(Z)V" } : MethodName)) ∈ sf_T := sf_T_of 577 (by decide +kernel) rfl
theorem wt_578 : (Cond.code ({ cls := "StreamFuser$Reader", name := "accept", desc := "(Z)V" } : MethodName) prog_6_method_8_code (2 : Nat) (Option.none : Option FieldType)) ∈ sf_T := sf_T_of 578 (by decide +kernel) rfl
theorem wt_579 : (Cond.methodLink "StreamFuser$Reader" (59 : Nat) ({ cls := "StreamFuser$Reader", name := "hasMark", desc := "(I)Z" } : MethodName)) ∈ sf_T := sf_T_of 579 (by decide +kernel) rfl
theorem wt_580 : (Cond.static ({ cls := "StreamFuser$Reader", name := "hasMark", desc := "(I)Z" } : MethodName)) ∈ sf_T := sf_T_of 580 (by decide +kernel) rfl
theorem wt_581 : (Cond.code ({ cls := "StreamFuser$Reader", name := "hasMark", desc := "(I)Z" } : MethodName) prog_6_method_10_code (1 : Nat) (Option.some FieldType.boolean)) ∈ sf_T := sf_T_of 581 (by decide +kernel) rfl
theorem wt_582 : (Cond.methodLink "StreamFuser$Reader" (84 : Nat) ({ cls := "StreamFuser$Reader", name := "hasDigit", desc := "(I)Z" } : MethodName)) ∈ sf_T := sf_T_of 582 (by decide +kernel) rfl
theorem wt_583 : (Cond.static ({ cls := "StreamFuser$Reader", name := "hasDigit", desc := "(I)Z" } : MethodName)) ∈ sf_T := sf_T_of 583 (by decide +kernel) rfl
theorem wt_584 : (Cond.code ({ cls := "StreamFuser$Reader", name := "hasDigit", desc := "(I)Z" } : MethodName) prog_6_method_11_code (1 : Nat) (Option.some FieldType.boolean)) ∈ sf_T := sf_T_of 584 (by decide +kernel) rfl
theorem wt_585 : (Cond.methodLink "StreamFuser$Reader" (63 : Nat) ({ cls := "StreamFuser$Reader", name := "readMark", desc := "(I)I" } : MethodName)) ∈ sf_T := sf_T_of 585 (by decide +kernel) rfl
theorem wt_587 : (Cond.instanceMethod ({ cls := "StreamFuser$Reader", name := "readMark", desc := "(I)I" } : MethodName)) ∈ sf_T := sf_T_of 587 (by decide +kernel) rfl
theorem wt_588 : (Cond.code ({ cls := "StreamFuser$Reader", name := "readMark", desc := "(I)I" } : MethodName) prog_6_method_12_code (3 : Nat) (Option.some FieldType.int)) ∈ sf_T := sf_T_of 588 (by decide +kernel) rfl
theorem wt_589 : (Cond.methodLink "StreamFuser$Reader" (87 : Nat) ({ cls := "StreamFuser$Reader", name := "fitsMark", desc := "(II)Z" } : MethodName)) ∈ sf_T := sf_T_of 589 (by decide +kernel) rfl
theorem wt_590 : (Cond.static ({ cls := "StreamFuser$Reader", name := "fitsMark", desc := "(II)Z" } : MethodName)) ∈ sf_T := sf_T_of 590 (by decide +kernel) rfl
theorem wt_591 : (Cond.code ({ cls := "StreamFuser$Reader", name := "fitsMark", desc := "(II)Z" } : MethodName) prog_6_method_13_code (2 : Nat) (Option.some FieldType.boolean)) ∈ sf_T := sf_T_of 591 (by decide +kernel) rfl
theorem wt_592 : (Cond.methodLink "StreamFuser$Reader" (90 : Nat) ({ cls := "StreamFuser$Reader", name := "isDigit", desc := "(I)Z" } : MethodName)) ∈ sf_T := sf_T_of 592 (by decide +kernel) rfl
theorem wt_593 : (Cond.static ({ cls := "StreamFuser$Reader", name := "isDigit", desc := "(I)Z" } : MethodName)) ∈ sf_T := sf_T_of 593 (by decide +kernel) rfl
theorem wt_594 : (Cond.code ({ cls := "StreamFuser$Reader", name := "isDigit", desc := "(I)Z" } : MethodName) prog_6_method_14_code (1 : Nat) (Option.some FieldType.boolean)) ∈ sf_T := sf_T_of 594 (by decide +kernel) rfl
theorem wt_595 : (Cond.methodLink "StreamFuser$Reader" (70 : Nat) ({ cls := "StreamFuser$Reader", name := "readNumber", desc := "(I)I" } : MethodName)) ∈ sf_T := sf_T_of 595 (by decide +kernel) rfl
theorem wt_597 : (Cond.instanceMethod ({ cls := "StreamFuser$Reader", name := "readNumber", desc := "(I)I" } : MethodName)) ∈ sf_T := sf_T_of 597 (by decide +kernel) rfl
theorem wt_598 : (Cond.code ({ cls := "StreamFuser$Reader", name := "readNumber", desc := "(I)I" } : MethodName) prog_6_method_15_code (9 : Nat) (Option.some FieldType.int)) ∈ sf_T := sf_T_of 598 (by decide +kernel) rfl
theorem wt_599 : (Cond.methodLinkNest "StreamFuser$Reader" (73 : Nat) ({ cls := "StreamFuser$Plan", name := "add", desc := "(IIII)V" } : MethodName) "StreamFuser") ∈ sf_N := sf_N_of 599 (by decide +kernel) rfl
theorem wt_601 : (Cond.instanceMethod ({ cls := "StreamFuser$Plan", name := "add", desc := "(IIII)V" } : MethodName)) ∈ sf_T := sf_T_of 601 (by decide +kernel) rfl
theorem wt_602 : (Cond.code ({ cls := "StreamFuser$Plan", name := "add", desc := "(IIII)V" } : MethodName) prog_4_method_9_code (5 : Nat) (Option.none : Option FieldType)) ∈ sf_T := sf_T_of 602 (by decide +kernel) rfl
theorem wt_603 : (Cond.methodLink "StreamFuser$Reader" (77 : Nat) ({ cls := "StreamFuser$Reader", name := "expectParts", desc := "(II)V" } : MethodName)) ∈ sf_T := sf_T_of 603 (by decide +kernel) rfl
theorem wt_605 : (Cond.instanceMethod ({ cls := "StreamFuser$Reader", name := "expectParts", desc := "(II)V" } : MethodName)) ∈ sf_T := sf_T_of 605 (by decide +kernel) rfl
theorem wt_606 : (Cond.code ({ cls := "StreamFuser$Reader", name := "expectParts", desc := "(II)V" } : MethodName) prog_6_method_6_code (4 : Nat) (Option.none : Option FieldType)) ∈ sf_T := sf_T_of 606 (by decide +kernel) rfl
theorem wt_607 : (Cond.methodLink "StreamFuserLaw" (27 : Nat) ({ cls := "StreamFuser", name := "plan", desc := "()I" } : MethodName)) ∈ sf_T := sf_T_of 607 (by decide +kernel) rfl
theorem wt_608 : (Cond.instanceMethod ({ cls := "StreamFuser", name := "plan", desc := "()I" } : MethodName)) ∈ sf_T := sf_T_of 608 (by decide +kernel) rfl
theorem wt_609 : (Cond.selects "StreamFuser" ({ cls := "StreamFuser", name := "plan", desc := "()I" } : MethodName) ({ cls := "StreamFuser", name := "plan", desc := "()I" } : MethodName)) ∈ sf_T := sf_T_of 609 (by decide +kernel) rfl
theorem wt_610 : (Cond.code ({ cls := "StreamFuser", name := "plan", desc := "()I" } : MethodName) prog_1_method_5_code (2 : Nat) (Option.some FieldType.int)) ∈ sf_T := sf_T_of 610 (by decide +kernel) rfl
theorem wt_611 : (Cond.methodLinkNest "StreamFuser" (104 : Nat) ({ cls := "StreamFuser$Plan", name := "takeFrom", desc := "(LStreamFuser$Plan;)V" } : MethodName) "StreamFuser") ∈ sf_N := sf_N_of 611 (by decide +kernel) rfl
theorem wt_613 : (Cond.instanceMethod ({ cls := "StreamFuser$Plan", name := "takeFrom", desc := "(LStreamFuser$Plan;)V" } : MethodName)) ∈ sf_T := sf_T_of 613 (by decide +kernel) rfl
theorem wt_614 : (Cond.code ({ cls := "StreamFuser$Plan", name := "takeFrom", desc := "(LStreamFuser$Plan;)V" } : MethodName) prog_4_method_10_code (3 : Nat) (Option.none : Option FieldType)) ∈ sf_T := sf_T_of 614 (by decide +kernel) rfl
theorem wt_615 : (Cond.methodLink "StreamFuser$Plan" (58 : Nat) ({ cls := "StreamFuser$Plan", name := "add", desc := "(IIII)V" } : MethodName)) ∈ sf_T := sf_T_of 615 (by decide +kernel) rfl
theorem wt_616 : (Cond.methodLink "StreamFuser$Plan" (62 : Nat) ({ cls := "StreamFuser$Plan", name := "measure", desc := "()V" } : MethodName)) ∈ sf_T := sf_T_of 616 (by decide +kernel) rfl
theorem wt_618 : (Cond.instanceMethod ({ cls := "StreamFuser$Plan", name := "measure", desc := "()V" } : MethodName)) ∈ sf_T := sf_T_of 618 (by decide +kernel) rfl
theorem wt_619 : (Cond.code ({ cls := "StreamFuser$Plan", name := "measure", desc := "()V" } : MethodName) prog_4_method_15_code (2 : Nat) (Option.none : Option FieldType)) ∈ sf_T := sf_T_of 619 (by decide +kernel) rfl
theorem wt_620 : (Cond.methodLink "StreamFuser$Plan" (72 : Nat) ({ cls := "StreamFuser$Plan", name := "measureFromParts", desc := "(I)V" } : MethodName)) ∈ sf_T := sf_T_of 620 (by decide +kernel) rfl
theorem wt_622 : (Cond.instanceMethod ({ cls := "StreamFuser$Plan", name := "measureFromParts", desc := "(I)V" } : MethodName)) ∈ sf_T := sf_T_of 622 (by decide +kernel) rfl
theorem wt_623 : (Cond.code ({ cls := "StreamFuser$Plan", name := "measureFromParts", desc := "(I)V" } : MethodName) prog_4_method_16_code (6 : Nat) (Option.none : Option FieldType)) ∈ sf_T := sf_T_of 623 (by decide +kernel) rfl
theorem wt_624 : (Cond.methodLink "StreamFuser$Plan" (89 : Nat) ({ cls := "StreamFuser$Plan", name := "partsOf", desc := "(I)I" } : MethodName)) ∈ sf_T := sf_T_of 624 (by decide +kernel) rfl
theorem wt_625 : (Cond.methodLink "StreamFuser$Plan" (80 : Nat) ({ cls := "StreamFuser$Plan", name := "measureParts", desc := "(I)V" } : MethodName)) ∈ sf_T := sf_T_of 625 (by decide +kernel) rfl
theorem wt_627 : (Cond.instanceMethod ({ cls := "StreamFuser$Plan", name := "measureParts", desc := "(I)V" } : MethodName)) ∈ sf_T := sf_T_of 627 (by decide +kernel) rfl
theorem wt_628 : (Cond.code ({ cls := "StreamFuser$Plan", name := "measureParts", desc := "(I)V" } : MethodName) prog_4_method_17_code (6 : Nat) (Option.none : Option FieldType)) ∈ sf_T := sf_T_of 628 (by decide +kernel) rfl
theorem wt_629 : (Cond.methodLink "StreamFuser$Plan" (83 : Nat) ({ cls := "java/lang/Math", name := "max", desc := "(II)I" } : MethodName)) ∈ sf_T := sf_T_of 629 (by decide +kernel) rfl
theorem wt_630 : (Cond.static ({ cls := "java/lang/Math", name := "max", desc := "(II)I" } : MethodName)) ∈ sf_T := sf_T_of 630 (by decide +kernel) rfl
theorem wt_631 : (Cond.code Lib.Math.max.name Lib.Math.max.code 2 (some .int)) ∈ sf_T := sf_T_of 631 (by decide +kernel) rfl
theorem wt_632 : (Cond.methodLinkNest "StreamFuser" (107 : Nat) ({ cls := "StreamFuser$Printer", name := "print", desc := "()V" } : MethodName) "StreamFuser") ∈ sf_N := sf_N_of 632 (by decide +kernel) rfl
theorem wt_634 : (Cond.instanceMethod ({ cls := "StreamFuser$Printer", name := "print", desc := "()V" } : MethodName)) ∈ sf_T := sf_T_of 634 (by decide +kernel) rfl
theorem wt_635 : (Cond.code ({ cls := "StreamFuser$Printer", name := "print", desc := "()V" } : MethodName) prog_5_method_2_code (2 : Nat) (Option.none : Option FieldType)) ∈ sf_T := sf_T_of 635 (by decide +kernel) rfl
theorem wt_636 : (Cond.methodLink "StreamFuser$Printer" (26 : Nat) ({ cls := "StreamFuser$Printer", name := "printNode", desc := "(I)V" } : MethodName)) ∈ sf_T := sf_T_of 636 (by decide +kernel) rfl
theorem wt_638 : (Cond.instanceMethod ({ cls := "StreamFuser$Printer", name := "printNode", desc := "(I)V" } : MethodName)) ∈ sf_T := sf_T_of 638 (by decide +kernel) rfl
theorem wt_639 : (Cond.code ({ cls := "StreamFuser$Printer", name := "printNode", desc := "(I)V" } : MethodName) prog_5_method_3_code (4 : Nat) (Option.none : Option FieldType)) ∈ sf_T := sf_T_of 639 (by decide +kernel) rfl
theorem wt_640 : (Cond.methodLinkNest "StreamFuser$Printer" (34 : Nat) ({ cls := "StreamFuser$Plan", name := "numbersOf", desc := "(I)I" } : MethodName) "StreamFuser") ∈ sf_N := sf_N_of 640 (by decide +kernel) rfl
theorem wt_641 : (Cond.methodLink "StreamFuser$Printer" (38 : Nat) ({ cls := "StreamFuser$Printer", name := "put", desc := "(I)V" } : MethodName)) ∈ sf_T := sf_T_of 641 (by decide +kernel) rfl
theorem wt_643 : (Cond.instanceMethod ({ cls := "StreamFuser$Printer", name := "put", desc := "(I)V" } : MethodName)) ∈ sf_T := sf_T_of 643 (by decide +kernel) rfl
theorem wt_644 : (Cond.code ({ cls := "StreamFuser$Printer", name := "put", desc := "(I)V" } : MethodName) prog_5_method_4_code (2 : Nat) (Option.none : Option FieldType)) ∈ sf_T := sf_T_of 644 (by decide +kernel) rfl
theorem wt_645 : (Cond.methodLinkNest "StreamFuser$Printer" (41 : Nat) ({ cls := "StreamFuser$Reader", name := "hasDigit", desc := "(I)Z" } : MethodName) "StreamFuser") ∈ sf_N := sf_N_of 645 (by decide +kernel) rfl
theorem wt_646 : (Cond.methodLinkNest "StreamFuser$Printer" (50 : Nat) ({ cls := "StreamFuser$Reader", name := "hasMark", desc := "(I)Z" } : MethodName) "StreamFuser") ∈ sf_N := sf_N_of 646 (by decide +kernel) rfl
theorem wt_647 : (Cond.methodLink "StreamFuser$Printer" (56 : Nat) ({ cls := "StreamFuser$Printer", name := "putNumber", desc := "(I)V" } : MethodName)) ∈ sf_T := sf_T_of 647 (by decide +kernel) rfl
theorem wt_649 : (Cond.instanceMethod ({ cls := "StreamFuser$Printer", name := "putNumber", desc := "(I)V" } : MethodName)) ∈ sf_T := sf_T_of 649 (by decide +kernel) rfl
theorem wt_650 : (Cond.code ({ cls := "StreamFuser$Printer", name := "putNumber", desc := "(I)V" } : MethodName) prog_5_method_5_code (7 : Nat) (Option.none : Option FieldType)) ∈ sf_T := sf_T_of 650 (by decide +kernel) rfl
theorem wt_651 : (Cond.methodLink "StreamFuser$Printer" (62 : Nat) ({ cls := "java/lang/Math", name := "abs", desc := "(J)J" } : MethodName)) ∈ sf_T := sf_T_of 651 (by decide +kernel) rfl
theorem wt_652 : (Cond.static ({ cls := "java/lang/Math", name := "abs", desc := "(J)J" } : MethodName)) ∈ sf_T := sf_T_of 652 (by decide +kernel) rfl
theorem wt_653 : (Cond.code Lib.MathLoose.abs_long.x Lib.MathLoose.abs_long.code 2 (some .long)) ∈ sf_T := sf_T_of 653 (by decide +kernel) rfl
theorem wt_654 : (Cond.constantLong "StreamFuser$Printer" (68 : Nat) (10 : Int64)) ∈ sf_T := sf_T_of 654 (by decide +kernel) rfl
theorem wt_655 : (Cond.methodLink "StreamFuserLaw" (31 : Nat) ({ cls := "StreamFuser", name := "node", desc := "(II)I" } : MethodName)) ∈ sf_T := sf_T_of 655 (by decide +kernel) rfl
theorem wt_656 : (Cond.instanceMethod ({ cls := "StreamFuser", name := "node", desc := "(II)I" } : MethodName)) ∈ sf_T := sf_T_of 656 (by decide +kernel) rfl
theorem wt_657 : (Cond.selects "StreamFuser" ({ cls := "StreamFuser", name := "node", desc := "(II)I" } : MethodName) ({ cls := "StreamFuser", name := "node", desc := "(II)I" } : MethodName)) ∈ sf_T := sf_T_of 657 (by decide +kernel) rfl
theorem wt_658 : (Cond.code ({ cls := "StreamFuser", name := "node", desc := "(II)I" } : MethodName) prog_1_method_6_code (3 : Nat) (Option.some FieldType.int)) ∈ sf_T := sf_T_of 658 (by decide +kernel) rfl
theorem wt_659 : (Cond.methodLinkNest "StreamFuser" (113 : Nat) ({ cls := "StreamFuser$Plan", name := "has", desc := "(I)Z" } : MethodName) "StreamFuser") ∈ sf_N := sf_N_of 659 (by decide +kernel) rfl
theorem wt_661 : (Cond.instanceMethod ({ cls := "StreamFuser$Plan", name := "has", desc := "(I)Z" } : MethodName)) ∈ sf_T := sf_T_of 661 (by decide +kernel) rfl
theorem wt_662 : (Cond.code ({ cls := "StreamFuser$Plan", name := "has", desc := "(I)Z" } : MethodName) prog_4_method_4_code (2 : Nat) (Option.some FieldType.boolean)) ∈ sf_T := sf_T_of 662 (by decide +kernel) rfl
theorem wt_663 : (Cond.constant "StreamFuser" (116 : Nat) (-2147483648 : Int32)) ∈ sf_T := sf_T_of 663 (by decide +kernel) rfl
theorem wt_664 : (Cond.methodLink "StreamFuserLaw" (36 : Nat) ({ cls := "StreamFuser", name := "text", desc := "(I)I" } : MethodName)) ∈ sf_T := sf_T_of 664 (by decide +kernel) rfl
theorem wt_665 : (Cond.instanceMethod ({ cls := "StreamFuser", name := "text", desc := "(I)I" } : MethodName)) ∈ sf_T := sf_T_of 665 (by decide +kernel) rfl
theorem wt_666 : (Cond.selects "StreamFuser" ({ cls := "StreamFuser", name := "text", desc := "(I)I" } : MethodName) ({ cls := "StreamFuser", name := "text", desc := "(I)I" } : MethodName)) ∈ sf_T := sf_T_of 666 (by decide +kernel) rfl
theorem wt_667 : (Cond.code ({ cls := "StreamFuser", name := "text", desc := "(I)I" } : MethodName) prog_1_method_7_code (2 : Nat) (Option.some FieldType.int)) ∈ sf_T := sf_T_of 667 (by decide +kernel) rfl
theorem wt_668 : (Cond.methodLink "StreamFuserLaw" (40 : Nat) ({ cls := "StreamFuser", name := "tidy", desc := "(I)I" } : MethodName)) ∈ sf_T := sf_T_of 668 (by decide +kernel) rfl
theorem wt_669 : (Cond.instanceMethod ({ cls := "StreamFuser", name := "tidy", desc := "(I)I" } : MethodName)) ∈ sf_T := sf_T_of 669 (by decide +kernel) rfl
theorem wt_670 : (Cond.selects "StreamFuser" ({ cls := "StreamFuser", name := "tidy", desc := "(I)I" } : MethodName) ({ cls := "StreamFuser", name := "tidy", desc := "(I)I" } : MethodName)) ∈ sf_T := sf_T_of 670 (by decide +kernel) rfl
theorem wt_671 : (Cond.code ({ cls := "StreamFuser", name := "tidy", desc := "(I)I" } : MethodName) prog_1_method_8_code (2 : Nat) (Option.some FieldType.int)) ∈ sf_T := sf_T_of 671 (by decide +kernel) rfl
theorem wt_672 : (Cond.methodLinkNest "StreamFuser" (142 : Nat) ({ cls := "StreamFuser$Rewriter", name := "simplify", desc := "(Z)V" } : MethodName) "StreamFuser") ∈ sf_N := sf_N_of 672 (by decide +kernel) rfl
theorem wt_674 : (Cond.instanceMethod ({ cls := "StreamFuser$Rewriter", name := "simplify", desc := "(Z)V" } : MethodName)) ∈ sf_T := sf_T_of 674 (by decide +kernel) rfl
theorem wt_675 : (Cond.code ({ cls := "StreamFuser$Rewriter", name := "simplify", desc := "(Z)V" } : MethodName) prog_7_method_2_code (5 : Nat) (Option.none : Option FieldType)) ∈ sf_T := sf_T_of 675 (by decide +kernel) rfl
theorem wt_676 : (Cond.constant "StreamFuser$Rewriter" (23 : Nat) (1000000 : Int32)) ∈ sf_T := sf_T_of 676 (by decide +kernel) rfl
theorem wt_677 : (Cond.methodLink "StreamFuser$Rewriter" (24 : Nat) ({ cls := "StreamFuser$Rewriter", name := "place", desc := "(Z)I" } : MethodName)) ∈ sf_T := sf_T_of 677 (by decide +kernel) rfl
theorem wt_679 : (Cond.instanceMethod ({ cls := "StreamFuser$Rewriter", name := "place", desc := "(Z)I" } : MethodName)) ∈ sf_T := sf_T_of 679 (by decide +kernel) rfl
theorem wt_680 : (Cond.code ({ cls := "StreamFuser$Rewriter", name := "place", desc := "(Z)I" } : MethodName) prog_7_method_3_code (5 : Nat) (Option.some FieldType.int)) ∈ sf_T := sf_T_of 680 (by decide +kernel) rfl
theorem wt_681 : (Cond.methodLink "StreamFuser$Rewriter" (28 : Nat) ({ cls := "StreamFuser$Rewriter", name := "ruleFor", desc := "(I)I" } : MethodName)) ∈ sf_T := sf_T_of 681 (by decide +kernel) rfl
theorem wt_683 : (Cond.instanceMethod ({ cls := "StreamFuser$Rewriter", name := "ruleFor", desc := "(I)I" } : MethodName)) ∈ sf_T := sf_T_of 683 (by decide +kernel) rfl
theorem wt_684 : (Cond.code ({ cls := "StreamFuser$Rewriter", name := "ruleFor", desc := "(I)I" } : MethodName) prog_7_method_4_code (2 : Nat) (Option.some FieldType.int)) ∈ sf_T := sf_T_of 684 (by decide +kernel) rfl
theorem wt_685 : (Cond.methodLinkNest "StreamFuser$Rewriter" (44 : Nat) ({ cls := "StreamFuser$Plan", name := "has", desc := "(I)Z" } : MethodName) "StreamFuser") ∈ sf_N := sf_N_of 685 (by decide +kernel) rfl
theorem wt_686 : (Cond.methodLinkNest "StreamFuser$Rewriter" (57 : Nat) ({ cls := "StreamFuser$Plan", name := "isNil", desc := "(I)Z" } : MethodName) "StreamFuser") ∈ sf_N := sf_N_of 686 (by decide +kernel) rfl
theorem wt_688 : (Cond.instanceMethod ({ cls := "StreamFuser$Plan", name := "isNil", desc := "(I)Z" } : MethodName)) ∈ sf_T := sf_T_of 688 (by decide +kernel) rfl
theorem wt_689 : (Cond.code ({ cls := "StreamFuser$Plan", name := "isNil", desc := "(I)Z" } : MethodName) prog_4_method_6_code (2 : Nat) (Option.some FieldType.boolean)) ∈ sf_T := sf_T_of 689 (by decide +kernel) rfl
theorem wt_690 : (Cond.methodLink "StreamFuser$Plan" (47 : Nat) ({ cls := "StreamFuser$Plan", name := "has", desc := "(I)Z" } : MethodName)) ∈ sf_T := sf_T_of 690 (by decide +kernel) rfl
theorem wt_691 : (Cond.methodLink "StreamFuser$Rewriter" (60 : Nat) ({ cls := "StreamFuser$Rewriter", name := "ruleForTake", desc := "(I)I" } : MethodName)) ∈ sf_T := sf_T_of 691 (by decide +kernel) rfl
theorem wt_693 : (Cond.instanceMethod ({ cls := "StreamFuser$Rewriter", name := "ruleForTake", desc := "(I)I" } : MethodName)) ∈ sf_T := sf_T_of 693 (by decide +kernel) rfl
theorem wt_694 : (Cond.code ({ cls := "StreamFuser$Rewriter", name := "ruleForTake", desc := "(I)I" } : MethodName) prog_7_method_5_code (2 : Nat) (Option.some FieldType.int)) ∈ sf_T := sf_T_of 694 (by decide +kernel) rfl
theorem wt_695 : (Cond.methodLinkNest "StreamFuser$Rewriter" (72 : Nat) ({ cls := "StreamFuser$Plan", name := "letterAt", desc := "(I)I" } : MethodName) "StreamFuser") ∈ sf_N := sf_N_of 695 (by decide +kernel) rfl
theorem wt_697 : (Cond.instanceMethod ({ cls := "StreamFuser$Plan", name := "letterAt", desc := "(I)I" } : MethodName)) ∈ sf_T := sf_T_of 697 (by decide +kernel) rfl
theorem wt_698 : (Cond.code ({ cls := "StreamFuser$Plan", name := "letterAt", desc := "(I)I" } : MethodName) prog_4_method_5_code (2 : Nat) (Option.some FieldType.int)) ∈ sf_T := sf_T_of 698 (by decide +kernel) rfl
theorem wt_699 : (Cond.methodLink "StreamFuser$Rewriter" (63 : Nat) ({ cls := "StreamFuser$Rewriter", name := "ruleForDrop", desc := "(I)I" } : MethodName)) ∈ sf_T := sf_T_of 699 (by decide +kernel) rfl
theorem wt_701 : (Cond.instanceMethod ({ cls := "StreamFuser$Rewriter", name := "ruleForDrop", desc := "(I)I" } : MethodName)) ∈ sf_T := sf_T_of 701 (by decide +kernel) rfl
theorem wt_702 : (Cond.code ({ cls := "StreamFuser$Rewriter", name := "ruleForDrop", desc := "(I)I" } : MethodName) prog_7_method_6_code (3 : Nat) (Option.some FieldType.int)) ∈ sf_T := sf_T_of 702 (by decide +kernel) rfl
theorem wt_703 : (Cond.methodLinkNest "StreamFuser$Rewriter" (66 : Nat) ({ cls := "StreamFuser$Plan", name := "secondPart", desc := "(I)I" } : MethodName) "StreamFuser") ∈ sf_N := sf_N_of 703 (by decide +kernel) rfl
theorem wt_705 : (Cond.instanceMethod ({ cls := "StreamFuser$Plan", name := "secondPart", desc := "(I)I" } : MethodName)) ∈ sf_T := sf_T_of 705 (by decide +kernel) rfl
theorem wt_706 : (Cond.code ({ cls := "StreamFuser$Plan", name := "secondPart", desc := "(I)I" } : MethodName) prog_4_method_7_code (2 : Nat) (Option.some FieldType.int)) ∈ sf_T := sf_T_of 706 (by decide +kernel) rfl
theorem wt_707 : (Cond.methodLinkNest "StreamFuser$Rewriter" (69 : Nat) ({ cls := "StreamFuser$Plan", name := "input", desc := "(I)I" } : MethodName) "StreamFuser") ∈ sf_N := sf_N_of 707 (by decide +kernel) rfl
theorem wt_709 : (Cond.instanceMethod ({ cls := "StreamFuser$Plan", name := "input", desc := "(I)I" } : MethodName)) ∈ sf_T := sf_T_of 709 (by decide +kernel) rfl
theorem wt_710 : (Cond.code ({ cls := "StreamFuser$Plan", name := "input", desc := "(I)I" } : MethodName) prog_4_method_8_code (2 : Nat) (Option.some FieldType.int)) ∈ sf_T := sf_T_of 710 (by decide +kernel) rfl
theorem wt_711 : (Cond.methodLink "StreamFuser$Plan" (51 : Nat) ({ cls := "StreamFuser$Plan", name := "letterAt", desc := "(I)I" } : MethodName)) ∈ sf_T := sf_T_of 711 (by decide +kernel) rfl
theorem wt_712 : (Cond.methodLink "StreamFuser$Plan" (55 : Nat) ({ cls := "StreamFuser$Plan", name := "secondPart", desc := "(I)I" } : MethodName)) ∈ sf_T := sf_T_of 712 (by decide +kernel) rfl
theorem wt_713 : (Cond.methodLink "StreamFuser$Rewriter" (32 : Nat) ({ cls := "StreamFuser$Rewriter", name := "apply", desc := "(II)V" } : MethodName)) ∈ sf_T := sf_T_of 713 (by decide +kernel) rfl
theorem wt_715 : (Cond.instanceMethod ({ cls := "StreamFuser$Rewriter", name := "apply", desc := "(II)V" } : MethodName)) ∈ sf_T := sf_T_of 715 (by decide +kernel) rfl
theorem wt_716 : (Cond.code ({ cls := "StreamFuser$Rewriter", name := "apply", desc := "(II)V" } : MethodName) prog_7_method_7_code (3 : Nat) (Option.none : Option FieldType)) ∈ sf_T := sf_T_of 716 (by decide +kernel) rfl
theorem wt_717 : (Cond.methodLinkNest "StreamFuser$Rewriter" (79 : Nat) ({ cls := "StreamFuser$Plan", name := "makeNil", desc := "(I)V" } : MethodName) "StreamFuser") ∈ sf_N := sf_N_of 717 (by decide +kernel) rfl
theorem wt_719 : (Cond.instanceMethod ({ cls := "StreamFuser$Plan", name := "makeNil", desc := "(I)V" } : MethodName)) ∈ sf_T := sf_T_of 719 (by decide +kernel) rfl
theorem wt_720 : (Cond.code ({ cls := "StreamFuser$Plan", name := "makeNil", desc := "(I)V" } : MethodName) prog_4_method_14_code (2 : Nat) (Option.none : Option FieldType)) ∈ sf_T := sf_T_of 720 (by decide +kernel) rfl
theorem wt_721 : (Cond.methodLink "StreamFuser$Plan" (69 : Nat) ({ cls := "StreamFuser$Plan", name := "cut", desc := "(II)V" } : MethodName)) ∈ sf_T := sf_T_of 721 (by decide +kernel) rfl
theorem wt_723 : (Cond.instanceMethod ({ cls := "StreamFuser$Plan", name := "cut", desc := "(II)V" } : MethodName)) ∈ sf_T := sf_T_of 723 (by decide +kernel) rfl
theorem wt_724 : (Cond.code ({ cls := "StreamFuser$Plan", name := "cut", desc := "(II)V" } : MethodName) prog_4_method_12_code (4 : Nat) (Option.none : Option FieldType)) ∈ sf_T := sf_T_of 724 (by decide +kernel) rfl
theorem wt_725 : (Cond.methodLink "StreamFuser$Plan" (65 : Nat) ({ cls := "StreamFuser$Plan", name := "moveNode", desc := "(II)V" } : MethodName)) ∈ sf_T := sf_T_of 725 (by decide +kernel) rfl
theorem wt_727 : (Cond.instanceMethod ({ cls := "StreamFuser$Plan", name := "moveNode", desc := "(II)V" } : MethodName)) ∈ sf_T := sf_T_of 727 (by decide +kernel) rfl
theorem wt_728 : (Cond.code ({ cls := "StreamFuser$Plan", name := "moveNode", desc := "(II)V" } : MethodName) prog_4_method_13_code (3 : Nat) (Option.none : Option FieldType)) ∈ sf_T := sf_T_of 728 (by decide +kernel) rfl
theorem wt_729 : (Cond.methodLinkNest "StreamFuser$Rewriter" (83 : Nat) ({ cls := "StreamFuser$Plan", name := "swapWithNext", desc := "(I)V" } : MethodName) "StreamFuser") ∈ sf_N := sf_N_of 729 (by decide +kernel) rfl
theorem wt_731 : (Cond.instanceMethod ({ cls := "StreamFuser$Plan", name := "swapWithNext", desc := "(I)V" } : MethodName)) ∈ sf_T := sf_T_of 731 (by decide +kernel) rfl
theorem wt_732 : (Cond.code ({ cls := "StreamFuser$Plan", name := "swapWithNext", desc := "(I)V" } : MethodName) prog_4_method_11_code (6 : Nat) (Option.none : Option FieldType)) ∈ sf_T := sf_T_of 732 (by decide +kernel) rfl
theorem wt_733 : (Cond.methodLink "StreamFuser$Rewriter" (86 : Nat) ({ cls := "StreamFuser$Rewriter", name := "swapDropWithTake", desc := "(I)V" } : MethodName)) ∈ sf_T := sf_T_of 733 (by decide +kernel) rfl
theorem wt_735 : (Cond.instanceMethod ({ cls := "StreamFuser$Rewriter", name := "swapDropWithTake", desc := "(I)V" } : MethodName)) ∈ sf_T := sf_T_of 735 (by decide +kernel) rfl
theorem wt_736 : (Cond.code ({ cls := "StreamFuser$Rewriter", name := "swapDropWithTake", desc := "(I)V" } : MethodName) prog_7_method_8_code (3 : Nat) (Option.none : Option FieldType)) ∈ sf_T := sf_T_of 736 (by decide +kernel) rfl
theorem wt_737 : (Cond.methodLink "StreamFuser$Rewriter" (98 : Nat) ({ cls := "java/lang/Math", name := "max", desc := "(II)I" } : MethodName)) ∈ sf_T := sf_T_of 737 (by decide +kernel) rfl
theorem wt_738 : (Cond.methodLinkNest "StreamFuser$Rewriter" (89 : Nat) ({ cls := "StreamFuser$Plan", name := "cut", desc := "(II)V" } : MethodName) "StreamFuser") ∈ sf_N := sf_N_of 738 (by decide +kernel) rfl
theorem wt_739 : (Cond.methodLink "StreamFuser$Rewriter" (92 : Nat) ({ cls := "StreamFuser$Rewriter", name := "keepOnePart", desc := "(I)V" } : MethodName)) ∈ sf_T := sf_T_of 739 (by decide +kernel) rfl
theorem wt_741 : (Cond.instanceMethod ({ cls := "StreamFuser$Rewriter", name := "keepOnePart", desc := "(I)V" } : MethodName)) ∈ sf_T := sf_T_of 741 (by decide +kernel) rfl
theorem wt_742 : (Cond.code ({ cls := "StreamFuser$Rewriter", name := "keepOnePart", desc := "(I)V" } : MethodName) prog_7_method_9_code (3 : Nat) (Option.none : Option FieldType)) ∈ sf_T := sf_T_of 742 (by decide +kernel) rfl
theorem wt_743 : (Cond.methodLink "StreamFuser$Rewriter" (95 : Nat) ({ cls := "StreamFuser$Rewriter", name := "mergeWithNext", desc := "(II)V" } : MethodName)) ∈ sf_T := sf_T_of 743 (by decide +kernel) rfl
theorem wt_745 : (Cond.instanceMethod ({ cls := "StreamFuser$Rewriter", name := "mergeWithNext", desc := "(II)V" } : MethodName)) ∈ sf_T := sf_T_of 745 (by decide +kernel) rfl
theorem wt_746 : (Cond.code ({ cls := "StreamFuser$Rewriter", name := "mergeWithNext", desc := "(II)V" } : MethodName) prog_7_method_10_code (7 : Nat) (Option.none : Option FieldType)) ∈ sf_T := sf_T_of 746 (by decide +kernel) rfl
theorem wt_747 : (Cond.methodLink "StreamFuser$Rewriter" (104 : Nat) ({ cls := "java/lang/Math", name := "min", desc := "(II)I" } : MethodName)) ∈ sf_T := sf_T_of 747 (by decide +kernel) rfl
theorem wt_748 : (Cond.static ({ cls := "java/lang/Math", name := "min", desc := "(II)I" } : MethodName)) ∈ sf_T := sf_T_of 748 (by decide +kernel) rfl
theorem wt_749 : (Cond.code Lib.Math.min.name Lib.Math.min.code 2 (some .int)) ∈ sf_T := sf_T_of 749 (by decide +kernel) rfl
theorem wt_750 : (Cond.methodLinkNest "StreamFuser$Rewriter" (36 : Nat) ({ cls := "StreamFuser$Plan", name := "measure", desc := "()V" } : MethodName) "StreamFuser") ∈ sf_N := sf_N_of 750 (by decide +kernel) rfl
theorem wt_751 : (Cond.methodLink "StreamFuserLaw" (44 : Nat) ({ cls := "StreamFuser", name := "rules", desc := "(I)I" } : MethodName)) ∈ sf_T := sf_T_of 751 (by decide +kernel) rfl
theorem wt_752 : (Cond.instanceMethod ({ cls := "StreamFuser", name := "rules", desc := "(I)I" } : MethodName)) ∈ sf_T := sf_T_of 752 (by decide +kernel) rfl
theorem wt_753 : (Cond.selects "StreamFuser" ({ cls := "StreamFuser", name := "rules", desc := "(I)I" } : MethodName) ({ cls := "StreamFuser", name := "rules", desc := "(I)I" } : MethodName)) ∈ sf_T := sf_T_of 753 (by decide +kernel) rfl
theorem wt_754 : (Cond.code ({ cls := "StreamFuser", name := "rules", desc := "(I)I" } : MethodName) prog_1_method_9_code (2 : Nat) (Option.some FieldType.int)) ∈ sf_T := sf_T_of 754 (by decide +kernel) rfl
theorem wt_755 : (Cond.methodLink "StreamFuserLaw" (48 : Nat) ({ cls := "StreamFuser", name := "saves", desc := "(I)I" } : MethodName)) ∈ sf_T := sf_T_of 755 (by decide +kernel) rfl
theorem wt_756 : (Cond.instanceMethod ({ cls := "StreamFuser", name := "saves", desc := "(I)I" } : MethodName)) ∈ sf_T := sf_T_of 756 (by decide +kernel) rfl
theorem wt_757 : (Cond.selects "StreamFuser" ({ cls := "StreamFuser", name := "saves", desc := "(I)I" } : MethodName) ({ cls := "StreamFuser", name := "saves", desc := "(I)I" } : MethodName)) ∈ sf_T := sf_T_of 757 (by decide +kernel) rfl
theorem wt_758 : (Cond.code ({ cls := "StreamFuser", name := "saves", desc := "(I)I" } : MethodName) prog_1_method_10_code (3 : Nat) (Option.some FieldType.int)) ∈ sf_T := sf_T_of 758 (by decide +kernel) rfl
theorem wt_759 : (Cond.methodLinkNest "StreamFuser" (152 : Nat) ({ cls := "StreamFuser$Asker", name := "play", desc := "(I)V" } : MethodName) "StreamFuser") ∈ sf_N := sf_N_of 759 (by decide +kernel) rfl
theorem wt_761 : (Cond.instanceMethod ({ cls := "StreamFuser$Asker", name := "play", desc := "(I)V" } : MethodName)) ∈ sf_T := sf_T_of 761 (by decide +kernel) rfl
theorem wt_762 : (Cond.code ({ cls := "StreamFuser$Asker", name := "play", desc := "(I)V" } : MethodName) prog_2_method_2_code (3 : Nat) (Option.none : Option FieldType)) ∈ sf_T := sf_T_of 762 (by decide +kernel) rfl
theorem wt_763 : (Cond.methodLinkNest "StreamFuser$Asker" (15 : Nat) ({ cls := "StreamFuser$Run", name := "begin", desc := "()V" } : MethodName) "StreamFuser") ∈ sf_N := sf_N_of 763 (by decide +kernel) rfl
theorem wt_765 : (Cond.instanceMethod ({ cls := "StreamFuser$Run", name := "begin", desc := "()V" } : MethodName)) ∈ sf_T := sf_T_of 765 (by decide +kernel) rfl
theorem wt_766 : (Cond.code ({ cls := "StreamFuser$Run", name := "begin", desc := "()V" } : MethodName) prog_8_method_2_code (1 : Nat) (Option.none : Option FieldType)) ∈ sf_T := sf_T_of 766 (by decide +kernel) rfl
theorem wt_767 : (Cond.methodLink "StreamFuser$Asker" (31 : Nat) ({ cls := "StreamFuser$Asker", name := "restart", desc := "(II)V" } : MethodName)) ∈ sf_T := sf_T_of 767 (by decide +kernel) rfl
theorem wt_768 : (Cond.sameMethod "StreamFuser$Asker" "StreamFuser$Walk" "restart" "(II)V") ∈ sf_T := sf_T_of 768 (by decide +kernel) rfl
theorem wt_770 : (Cond.selects "StreamFuser$Asker" ({ cls := "StreamFuser$Asker", name := "restart", desc := "(II)V" } : MethodName) ({ cls := "StreamFuser$Walk", name := "restart", desc := "(II)V" } : MethodName)) ∈ sf_T := sf_T_of 770 (by decide +kernel) rfl
theorem wt_771 : (Cond.instanceMethod ({ cls := "StreamFuser$Walk", name := "restart", desc := "(II)V" } : MethodName)) ∈ sf_T := sf_T_of 771 (by decide +kernel) rfl
theorem wt_772 : (Cond.code ({ cls := "StreamFuser$Walk", name := "restart", desc := "(II)V" } : MethodName) prog_11_method_2_code (4 : Nat) (Option.none : Option FieldType)) ∈ sf_T := sf_T_of 772 (by decide +kernel) rfl
theorem wt_773 : (Cond.methodLink "StreamFuser$Walk" (19 : Nat) ({ cls := "java/lang/Math", name := "max", desc := "(II)I" } : MethodName)) ∈ sf_T := sf_T_of 773 (by decide +kernel) rfl
theorem wt_774 : (Cond.methodLink "StreamFuser$Asker" (35 : Nat) ({ cls := "StreamFuser$Asker", name := "ask", desc := "(II)Z" } : MethodName)) ∈ sf_T := sf_T_of 774 (by decide +kernel) rfl
theorem wt_776 : (Cond.instanceMethod ({ cls := "StreamFuser$Asker", name := "ask", desc := "(II)Z" } : MethodName)) ∈ sf_T := sf_T_of 776 (by decide +kernel) rfl
theorem wt_777 : (Cond.code ({ cls := "StreamFuser$Asker", name := "ask", desc := "(II)Z" } : MethodName) prog_2_method_3_code (3 : Nat) (Option.some FieldType.boolean)) ∈ sf_T := sf_T_of 777 (by decide +kernel) rfl
theorem wt_778 : (Cond.methodLinkNest "StreamFuser$Asker" (46 : Nat) ({ cls := "StreamFuser$Plan", name := "has", desc := "(I)Z" } : MethodName) "StreamFuser") ∈ sf_N := sf_N_of 778 (by decide +kernel) rfl
theorem wt_779 : (Cond.methodLink "StreamFuser$Asker" (57 : Nat) ({ cls := "StreamFuser$Asker", name := "change", desc := "(II)Z" } : MethodName)) ∈ sf_T := sf_T_of 779 (by decide +kernel) rfl
theorem wt_780 : (Cond.sameMethod "StreamFuser$Asker" "StreamFuser$Way" "change" "(II)Z") ∈ sf_T := sf_T_of 780 (by decide +kernel) rfl
theorem wt_782 : (Cond.selects "StreamFuser$Asker" ({ cls := "StreamFuser$Asker", name := "change", desc := "(II)Z" } : MethodName) ({ cls := "StreamFuser$Way", name := "change", desc := "(II)Z" } : MethodName)) ∈ sf_T := sf_T_of 782 (by decide +kernel) rfl
theorem wt_783 : (Cond.instanceMethod ({ cls := "StreamFuser$Way", name := "change", desc := "(II)Z" } : MethodName)) ∈ sf_T := sf_T_of 783 (by decide +kernel) rfl
theorem wt_784 : (Cond.code ({ cls := "StreamFuser$Way", name := "change", desc := "(II)Z" } : MethodName) prog_12_method_6_code (4 : Nat) (Option.some FieldType.boolean)) ∈ sf_T := sf_T_of 784 (by decide +kernel) rfl
theorem wt_785 : (Cond.methodLinkNest "StreamFuser$Way" (58 : Nat) ({ cls := "StreamFuser$Plan", name := "has", desc := "(I)Z" } : MethodName) "StreamFuser") ∈ sf_N := sf_N_of 785 (by decide +kernel) rfl
theorem wt_786 : (Cond.methodLink "StreamFuser$Way" (98 : Nat) ({ cls := "StreamFuser$Way", name := "divide", desc := "(III)Z" } : MethodName)) ∈ sf_T := sf_T_of 786 (by decide +kernel) rfl
theorem wt_788 : (Cond.instanceMethod ({ cls := "StreamFuser$Way", name := "divide", desc := "(III)Z" } : MethodName)) ∈ sf_T := sf_T_of 788 (by decide +kernel) rfl
theorem wt_789 : (Cond.code ({ cls := "StreamFuser$Way", name := "divide", desc := "(III)Z" } : MethodName) prog_12_method_7_code (4 : Nat) (Option.some FieldType.boolean)) ∈ sf_T := sf_T_of 789 (by decide +kernel) rfl
theorem wt_790 : (Cond.methodLinkNest "StreamFuser$Way" (52 : Nat) ({ cls := "StreamFuser$Run", name := "fail", desc := "(II)V" } : MethodName) "StreamFuser") ∈ sf_N := sf_N_of 790 (by decide +kernel) rfl
theorem wt_792 : (Cond.instanceMethod ({ cls := "StreamFuser$Run", name := "fail", desc := "(II)V" } : MethodName)) ∈ sf_T := sf_T_of 792 (by decide +kernel) rfl
theorem wt_793 : (Cond.code ({ cls := "StreamFuser$Run", name := "fail", desc := "(II)V" } : MethodName) prog_8_method_5_code (3 : Nat) (Option.none : Option FieldType)) ∈ sf_T := sf_T_of 793 (by decide +kernel) rfl
theorem wt_794 : (Cond.methodLink "StreamFuser$Way" (102 : Nat) ({ cls := "StreamFuser$Way", name := "modulo", desc := "(II)I" } : MethodName)) ∈ sf_T := sf_T_of 794 (by decide +kernel) rfl
theorem wt_795 : (Cond.static ({ cls := "StreamFuser$Way", name := "modulo", desc := "(II)I" } : MethodName)) ∈ sf_T := sf_T_of 795 (by decide +kernel) rfl
theorem wt_796 : (Cond.code ({ cls := "StreamFuser$Way", name := "modulo", desc := "(II)I" } : MethodName) prog_12_method_8_code (2 : Nat) (Option.some FieldType.int)) ∈ sf_T := sf_T_of 796 (by decide +kernel) rfl
theorem wt_797 : (Cond.methodLink "StreamFuser$Way" (108 : Nat) ({ cls := "java/lang/Math", name := "floorMod", desc := "(II)I" } : MethodName)) ∈ sf_T := sf_T_of 797 (by decide +kernel) rfl
theorem wt_798 : (Cond.static ({ cls := "java/lang/Math", name := "floorMod", desc := "(II)I" } : MethodName)) ∈ sf_T := sf_T_of 798 (by decide +kernel) rfl
theorem wt_799 : (Cond.code ({ cls := "java/lang/Math", name := "floorMod", desc := "(II)I" } : MethodName) prog_15_method_50_code (3 : Nat) (Option.some FieldType.int)) ∈ sf_T := sf_T_of 799 (by decide +kernel) rfl
theorem wt_800 : (Cond.methodLinkNest "StreamFuser$Way" (105 : Nat) ({ cls := "StreamFuser$Run", name := "note", desc := "(II)V" } : MethodName) "StreamFuser") ∈ sf_N := sf_N_of 800 (by decide +kernel) rfl
theorem wt_802 : (Cond.instanceMethod ({ cls := "StreamFuser$Run", name := "note", desc := "(II)V" } : MethodName)) ∈ sf_T := sf_T_of 802 (by decide +kernel) rfl
theorem wt_803 : (Cond.code ({ cls := "StreamFuser$Run", name := "note", desc := "(II)V" } : MethodName) prog_8_method_7_code (3 : Nat) (Option.none : Option FieldType)) ∈ sf_T := sf_T_of 803 (by decide +kernel) rfl
theorem wt_804 : (Cond.methodLink "StreamFuser$Asker" (60 : Nat) ({ cls := "StreamFuser$Asker", name := "askFilter", desc := "(II)Z" } : MethodName)) ∈ sf_T := sf_T_of 804 (by decide +kernel) rfl
theorem wt_806 : (Cond.instanceMethod ({ cls := "StreamFuser$Asker", name := "askFilter", desc := "(II)Z" } : MethodName)) ∈ sf_T := sf_T_of 806 (by decide +kernel) rfl
theorem wt_807 : (Cond.code ({ cls := "StreamFuser$Asker", name := "askFilter", desc := "(II)Z" } : MethodName) prog_2_method_4_code (4 : Nat) (Option.some FieldType.boolean)) ∈ sf_T := sf_T_of 807 (by decide +kernel) rfl
theorem wt_808 : (Cond.constant "StreamFuser$Asker" (84 : Nat) (1000000 : Int32)) ∈ sf_T := sf_T_of 808 (by decide +kernel) rfl
theorem wt_809 : (Cond.methodLink "StreamFuser$Asker" (85 : Nat) ({ cls := "StreamFuser$Asker", name := "passes", desc := "(II)Z" } : MethodName)) ∈ sf_T := sf_T_of 809 (by decide +kernel) rfl
theorem wt_810 : (Cond.sameMethod "StreamFuser$Asker" "StreamFuser$Way" "passes" "(II)Z") ∈ sf_T := sf_T_of 810 (by decide +kernel) rfl
theorem wt_812 : (Cond.selects "StreamFuser$Asker" ({ cls := "StreamFuser$Asker", name := "passes", desc := "(II)Z" } : MethodName) ({ cls := "StreamFuser$Way", name := "passes", desc := "(II)Z" } : MethodName)) ∈ sf_T := sf_T_of 812 (by decide +kernel) rfl
theorem wt_813 : (Cond.instanceMethod ({ cls := "StreamFuser$Way", name := "passes", desc := "(II)Z" } : MethodName)) ∈ sf_T := sf_T_of 813 (by decide +kernel) rfl
theorem wt_814 : (Cond.code ({ cls := "StreamFuser$Way", name := "passes", desc := "(II)Z" } : MethodName) prog_12_method_9_code (4 : Nat) (Option.some FieldType.boolean)) ∈ sf_T := sf_T_of 814 (by decide +kernel) rfl
theorem wt_815 : (Cond.methodLink "StreamFuser$Asker" (63 : Nat) ({ cls := "StreamFuser$Asker", name := "askWhile", desc := "(II)Z" } : MethodName)) ∈ sf_T := sf_T_of 815 (by decide +kernel) rfl
theorem wt_817 : (Cond.instanceMethod ({ cls := "StreamFuser$Asker", name := "askWhile", desc := "(II)Z" } : MethodName)) ∈ sf_T := sf_T_of 817 (by decide +kernel) rfl
theorem wt_818 : (Cond.code ({ cls := "StreamFuser$Asker", name := "askWhile", desc := "(II)Z" } : MethodName) prog_2_method_5_code (3 : Nat) (Option.some FieldType.boolean)) ∈ sf_T := sf_T_of 818 (by decide +kernel) rfl
theorem wt_819 : (Cond.methodLink "StreamFuser$Asker" (66 : Nat) ({ cls := "StreamFuser$Asker", name := "askTake", desc := "(II)Z" } : MethodName)) ∈ sf_T := sf_T_of 819 (by decide +kernel) rfl
theorem wt_821 : (Cond.instanceMethod ({ cls := "StreamFuser$Asker", name := "askTake", desc := "(II)Z" } : MethodName)) ∈ sf_T := sf_T_of 821 (by decide +kernel) rfl
theorem wt_822 : (Cond.code ({ cls := "StreamFuser$Asker", name := "askTake", desc := "(II)Z" } : MethodName) prog_2_method_6_code (3 : Nat) (Option.some FieldType.boolean)) ∈ sf_T := sf_T_of 822 (by decide +kernel) rfl
theorem wt_823 : (Cond.methodLink "StreamFuser$Asker" (69 : Nat) ({ cls := "StreamFuser$Asker", name := "askDrop", desc := "(II)Z" } : MethodName)) ∈ sf_T := sf_T_of 823 (by decide +kernel) rfl
theorem wt_825 : (Cond.instanceMethod ({ cls := "StreamFuser$Asker", name := "askDrop", desc := "(II)Z" } : MethodName)) ∈ sf_T := sf_T_of 825 (by decide +kernel) rfl
theorem wt_826 : (Cond.code ({ cls := "StreamFuser$Asker", name := "askDrop", desc := "(II)Z" } : MethodName) prog_2_method_7_code (5 : Nat) (Option.some FieldType.boolean)) ∈ sf_T := sf_T_of 826 (by decide +kernel) rfl
theorem wt_827 : (Cond.methodLink "StreamFuser$Asker" (98 : Nat) ({ cls := "java/lang/Math", name := "min", desc := "(II)I" } : MethodName)) ∈ sf_T := sf_T_of 827 (by decide +kernel) rfl
theorem wt_828 : (Cond.methodLink "StreamFuser$Asker" (72 : Nat) ({ cls := "StreamFuser$Asker", name := "askChain", desc := "(II)Z" } : MethodName)) ∈ sf_T := sf_T_of 828 (by decide +kernel) rfl
theorem wt_830 : (Cond.instanceMethod ({ cls := "StreamFuser$Asker", name := "askChain", desc := "(II)Z" } : MethodName)) ∈ sf_T := sf_T_of 830 (by decide +kernel) rfl
theorem wt_831 : (Cond.code ({ cls := "StreamFuser$Asker", name := "askChain", desc := "(II)Z" } : MethodName) prog_2_method_8_code (3 : Nat) (Option.some FieldType.boolean)) ∈ sf_T := sf_T_of 831 (by decide +kernel) rfl
theorem wt_832 : (Cond.methodLinkNest "StreamFuser$Asker" (104 : Nat) ({ cls := "StreamFuser$Run", name := "failed", desc := "()Z" } : MethodName) "StreamFuser") ∈ sf_N := sf_N_of 832 (by decide +kernel) rfl
theorem wt_834 : (Cond.instanceMethod ({ cls := "StreamFuser$Run", name := "failed", desc := "()Z" } : MethodName)) ∈ sf_T := sf_T_of 834 (by decide +kernel) rfl
theorem wt_835 : (Cond.code ({ cls := "StreamFuser$Run", name := "failed", desc := "()Z" } : MethodName) prog_8_method_6_code (1 : Nat) (Option.some FieldType.boolean)) ∈ sf_T := sf_T_of 835 (by decide +kernel) rfl
theorem wt_836 : (Cond.methodLinkNest "StreamFuser$Asker" (108 : Nat) ({ cls := "StreamFuser$Plan", name := "secondPart", desc := "(I)I" } : MethodName) "StreamFuser") ∈ sf_N := sf_N_of 836 (by decide +kernel) rfl
theorem wt_837 : (Cond.methodLink "StreamFuser$Asker" (75 : Nat) ({ cls := "StreamFuser$Asker", name := "askZip", desc := "(II)Z" } : MethodName)) ∈ sf_T := sf_T_of 837 (by decide +kernel) rfl
theorem wt_839 : (Cond.instanceMethod ({ cls := "StreamFuser$Asker", name := "askZip", desc := "(II)Z" } : MethodName)) ∈ sf_T := sf_T_of 839 (by decide +kernel) rfl
theorem wt_840 : (Cond.code ({ cls := "StreamFuser$Asker", name := "askZip", desc := "(II)Z" } : MethodName) prog_2_method_9_code (4 : Nat) (Option.some FieldType.boolean)) ∈ sf_T := sf_T_of 840 (by decide +kernel) rfl
theorem wt_841 : (Cond.methodLink "StreamFuser$Asker" (112 : Nat) ({ cls := "StreamFuser$Asker", name := "join", desc := "(III)I" } : MethodName)) ∈ sf_T := sf_T_of 841 (by decide +kernel) rfl
theorem wt_842 : (Cond.sameMethod "StreamFuser$Asker" "StreamFuser$Way" "join" "(III)I") ∈ sf_T := sf_T_of 842 (by decide +kernel) rfl
theorem wt_844 : (Cond.selects "StreamFuser$Asker" ({ cls := "StreamFuser$Asker", name := "join", desc := "(III)I" } : MethodName) ({ cls := "StreamFuser$Way", name := "join", desc := "(III)I" } : MethodName)) ∈ sf_T := sf_T_of 844 (by decide +kernel) rfl
theorem wt_845 : (Cond.instanceMethod ({ cls := "StreamFuser$Way", name := "join", desc := "(III)I" } : MethodName)) ∈ sf_T := sf_T_of 845 (by decide +kernel) rfl
theorem wt_846 : (Cond.code ({ cls := "StreamFuser$Way", name := "join", desc := "(III)I" } : MethodName) prog_12_method_10_code (4 : Nat) (Option.some FieldType.int)) ∈ sf_T := sf_T_of 846 (by decide +kernel) rfl
theorem wt_847 : (Cond.methodLink "StreamFuser$Way" (111 : Nat) ({ cls := "java/lang/Math", name := "min", desc := "(II)I" } : MethodName)) ∈ sf_T := sf_T_of 847 (by decide +kernel) rfl
theorem wt_848 : (Cond.methodLink "StreamFuser$Asker" (78 : Nat) ({ cls := "StreamFuser$Asker", name := "askOpener", desc := "(II)Z" } : MethodName)) ∈ sf_T := sf_T_of 848 (by decide +kernel) rfl
theorem wt_850 : (Cond.instanceMethod ({ cls := "StreamFuser$Asker", name := "askOpener", desc := "(II)Z" } : MethodName)) ∈ sf_T := sf_T_of 850 (by decide +kernel) rfl
theorem wt_851 : (Cond.code ({ cls := "StreamFuser$Asker", name := "askOpener", desc := "(II)Z" } : MethodName) prog_2_method_10_code (4 : Nat) (Option.some FieldType.boolean)) ∈ sf_T := sf_T_of 851 (by decide +kernel) rfl
theorem wt_852 : (Cond.methodLinkNest "StreamFuser$Asker" (116 : Nat) ({ cls := "StreamFuser$Plan", name := "input", desc := "(I)I" } : MethodName) "StreamFuser") ∈ sf_N := sf_N_of 852 (by decide +kernel) rfl
theorem wt_853 : (Cond.methodLink "StreamFuser$Asker" (119 : Nat) ({ cls := "StreamFuser$Asker", name := "open", desc := "(II)V" } : MethodName)) ∈ sf_T := sf_T_of 853 (by decide +kernel) rfl
theorem wt_854 : (Cond.sameMethod "StreamFuser$Asker" "StreamFuser$Walk" "open" "(II)V") ∈ sf_T := sf_T_of 854 (by decide +kernel) rfl
theorem wt_856 : (Cond.selects "StreamFuser$Asker" ({ cls := "StreamFuser$Asker", name := "open", desc := "(II)V" } : MethodName) ({ cls := "StreamFuser$Walk", name := "open", desc := "(II)V" } : MethodName)) ∈ sf_T := sf_T_of 856 (by decide +kernel) rfl
theorem wt_857 : (Cond.instanceMethod ({ cls := "StreamFuser$Walk", name := "open", desc := "(II)V" } : MethodName)) ∈ sf_T := sf_T_of 857 (by decide +kernel) rfl
theorem wt_858 : (Cond.code ({ cls := "StreamFuser$Walk", name := "open", desc := "(II)V" } : MethodName) prog_11_method_3_code (3 : Nat) (Option.none : Option FieldType)) ∈ sf_T := sf_T_of 858 (by decide +kernel) rfl
theorem wt_859 : (Cond.methodLinkNest "StreamFuser$Walk" (35 : Nat) ({ cls := "StreamFuser$Plan", name := "has", desc := "(I)Z" } : MethodName) "StreamFuser") ∈ sf_N := sf_N_of 859 (by decide +kernel) rfl
theorem wt_860 : (Cond.methodLinkNest "StreamFuser$Walk" (42 : Nat) ({ cls := "StreamFuser$Plan", name := "secondPart", desc := "(I)I" } : MethodName) "StreamFuser") ∈ sf_N := sf_N_of 860 (by decide +kernel) rfl
theorem wt_861 : (Cond.methodLink "StreamFuser$Walk" (46 : Nat) ({ cls := "StreamFuser$Walk", name := "restart", desc := "(II)V" } : MethodName)) ∈ sf_T := sf_T_of 861 (by decide +kernel) rfl
theorem wt_862 : (Cond.methodLink "StreamFuser$Asker" (81 : Nat) ({ cls := "StreamFuser$Asker", name := "produce", desc := "(I)Z" } : MethodName)) ∈ sf_T := sf_T_of 862 (by decide +kernel) rfl
theorem wt_863 : (Cond.sameMethod "StreamFuser$Asker" "StreamFuser$Walk" "produce" "(I)Z") ∈ sf_T := sf_T_of 863 (by decide +kernel) rfl
theorem wt_865 : (Cond.selects "StreamFuser$Asker" ({ cls := "StreamFuser$Asker", name := "produce", desc := "(I)Z" } : MethodName) ({ cls := "StreamFuser$Walk", name := "produce", desc := "(I)Z" } : MethodName)) ∈ sf_T := sf_T_of 865 (by decide +kernel) rfl
theorem wt_866 : (Cond.instanceMethod ({ cls := "StreamFuser$Walk", name := "produce", desc := "(I)Z" } : MethodName)) ∈ sf_T := sf_T_of 866 (by decide +kernel) rfl
theorem wt_867 : (Cond.code ({ cls := "StreamFuser$Walk", name := "produce", desc := "(I)Z" } : MethodName) prog_11_method_4_code (2 : Nat) (Option.some FieldType.boolean)) ∈ sf_T := sf_T_of 867 (by decide +kernel) rfl
theorem wt_868 : (Cond.methodLink "StreamFuser$Walk" (50 : Nat) ({ cls := "StreamFuser$Walk", name := "isReady", desc := "(I)Z" } : MethodName)) ∈ sf_T := sf_T_of 868 (by decide +kernel) rfl
theorem wt_869 : (Cond.sameMethod "StreamFuser$Walk" "StreamFuser$Way" "isReady" "(I)Z") ∈ sf_T := sf_T_of 869 (by decide +kernel) rfl
theorem wt_871 : (Cond.selects "StreamFuser$Asker" ({ cls := "StreamFuser$Walk", name := "isReady", desc := "(I)Z" } : MethodName) ({ cls := "StreamFuser$Way", name := "isReady", desc := "(I)Z" } : MethodName)) ∈ sf_T := sf_T_of 871 (by decide +kernel) rfl
theorem wt_872 : (Cond.selects "StreamFuser$Stepper" ({ cls := "StreamFuser$Walk", name := "isReady", desc := "(I)Z" } : MethodName) ({ cls := "StreamFuser$Way", name := "isReady", desc := "(I)Z" } : MethodName)) ∈ sf_T := sf_T_of 872 (by decide +kernel) rfl
theorem wt_873 : (Cond.instanceMethod ({ cls := "StreamFuser$Way", name := "isReady", desc := "(I)Z" } : MethodName)) ∈ sf_T := sf_T_of 873 (by decide +kernel) rfl
theorem wt_874 : (Cond.code ({ cls := "StreamFuser$Way", name := "isReady", desc := "(I)Z" } : MethodName) prog_12_method_3_code (2 : Nat) (Option.some FieldType.boolean)) ∈ sf_T := sf_T_of 874 (by decide +kernel) rfl
theorem wt_875 : (Cond.methodLinkNest "StreamFuser$Way" (36 : Nat) ({ cls := "StreamFuser$Plan", name := "letterAt", desc := "(I)I" } : MethodName) "StreamFuser") ∈ sf_N := sf_N_of 875 (by decide +kernel) rfl
theorem wt_876 : (Cond.methodLinkNest "StreamFuser$Way" (43 : Nat) ({ cls := "StreamFuser$Sheets", name := "isLost", desc := "(I)Z" } : MethodName) "StreamFuser") ∈ sf_N := sf_N_of 876 (by decide +kernel) rfl
theorem wt_878 : (Cond.instanceMethod ({ cls := "StreamFuser$Sheets", name := "isLost", desc := "(I)Z" } : MethodName)) ∈ sf_T := sf_T_of 878 (by decide +kernel) rfl
theorem wt_879 : (Cond.code ({ cls := "StreamFuser$Sheets", name := "isLost", desc := "(I)Z" } : MethodName) prog_9_method_2_code (2 : Nat) (Option.some FieldType.boolean)) ∈ sf_T := sf_T_of 879 (by decide +kernel) rfl
theorem wt_880 : (Cond.methodLink "StreamFuser$Walk" (53 : Nat) ({ cls := "StreamFuser$Walk", name := "supply", desc := "(I)J" } : MethodName)) ∈ sf_T := sf_T_of 880 (by decide +kernel) rfl
theorem wt_881 : (Cond.sameMethod "StreamFuser$Walk" "StreamFuser$Way" "supply" "(I)J") ∈ sf_T := sf_T_of 881 (by decide +kernel) rfl
theorem wt_883 : (Cond.selects "StreamFuser$Asker" ({ cls := "StreamFuser$Walk", name := "supply", desc := "(I)J" } : MethodName) ({ cls := "StreamFuser$Way", name := "supply", desc := "(I)J" } : MethodName)) ∈ sf_T := sf_T_of 883 (by decide +kernel) rfl
theorem wt_884 : (Cond.selects "StreamFuser$Stepper" ({ cls := "StreamFuser$Walk", name := "supply", desc := "(I)J" } : MethodName) ({ cls := "StreamFuser$Way", name := "supply", desc := "(I)J" } : MethodName)) ∈ sf_T := sf_T_of 884 (by decide +kernel) rfl
theorem wt_885 : (Cond.instanceMethod ({ cls := "StreamFuser$Way", name := "supply", desc := "(I)J" } : MethodName)) ∈ sf_T := sf_T_of 885 (by decide +kernel) rfl
theorem wt_886 : (Cond.code ({ cls := "StreamFuser$Way", name := "supply", desc := "(I)J" } : MethodName) prog_12_method_4_code (2 : Nat) (Option.some FieldType.long)) ∈ sf_T := sf_T_of 886 (by decide +kernel) rfl
theorem wt_887 : (Cond.methodLink "StreamFuser$Way" (70 : Nat) ({ cls := "java/lang/Math", name := "max", desc := "(JJ)J" } : MethodName)) ∈ sf_T := sf_T_of 887 (by decide +kernel) rfl
theorem wt_888 : (Cond.static ({ cls := "java/lang/Math", name := "max", desc := "(JJ)J" } : MethodName)) ∈ sf_T := sf_T_of 888 (by decide +kernel) rfl
theorem wt_889 : (Cond.code Lib.MathLoose.max_long.x Lib.MathLoose.max_long.code 4 (some .long)) ∈ sf_T := sf_T_of 889 (by decide +kernel) rfl
theorem wt_890 : (Cond.constantLong "StreamFuser$Way" (78 : Nat) (9223372036854775807 : Int64)) ∈ sf_T := sf_T_of 890 (by decide +kernel) rfl
theorem wt_891 : (Cond.methodLinkNest "StreamFuser$Way" (80 : Nat) ({ cls := "StreamFuser", name := "isSheet", desc := "(I)Z" } : MethodName) "StreamFuser") ∈ sf_N := sf_N_of 891 (by decide +kernel) rfl
theorem wt_892 : (Cond.static ({ cls := "StreamFuser", name := "isSheet", desc := "(I)Z" } : MethodName)) ∈ sf_T := sf_T_of 892 (by decide +kernel) rfl
theorem wt_893 : (Cond.code ({ cls := "StreamFuser", name := "isSheet", desc := "(I)Z" } : MethodName) prog_1_method_29_code (1 : Nat) (Option.some FieldType.boolean)) ∈ sf_T := sf_T_of 893 (by decide +kernel) rfl
theorem wt_894 : (Cond.methodLink "StreamFuser$Way" (86 : Nat) ({ cls := "StreamFuser$Way", name := "openedFor", desc := "(I)I" } : MethodName)) ∈ sf_T := sf_T_of 894 (by decide +kernel) rfl
theorem wt_895 : (Cond.instanceMethod ({ cls := "StreamFuser$Way", name := "openedFor", desc := "(I)I" } : MethodName)) ∈ sf_T := sf_T_of 895 (by decide +kernel) rfl
theorem wt_896 : (Cond.sameMethod "StreamFuser$Way" "StreamFuser$Way" "openedFor" "(I)I") ∈ sf_T := sf_T_of 896 (by decide +kernel) rfl
theorem wt_897 : (Cond.selects "StreamFuser$Asker" ({ cls := "StreamFuser$Way", name := "openedFor", desc := "(I)I" } : MethodName) ({ cls := "StreamFuser$Way", name := "openedFor", desc := "(I)I" } : MethodName)) ∈ sf_T := sf_T_of 897 (by decide +kernel) rfl
theorem wt_898 : (Cond.selects "StreamFuser$Maker" ({ cls := "StreamFuser$Way", name := "openedFor", desc := "(I)I" } : MethodName) ({ cls := "StreamFuser$Way", name := "openedFor", desc := "(I)I" } : MethodName)) ∈ sf_T := sf_T_of 898 (by decide +kernel) rfl
theorem wt_899 : (Cond.selects "StreamFuser$Stepper" ({ cls := "StreamFuser$Way", name := "openedFor", desc := "(I)I" } : MethodName) ({ cls := "StreamFuser$Way", name := "openedFor", desc := "(I)I" } : MethodName)) ∈ sf_T := sf_T_of 899 (by decide +kernel) rfl
theorem wt_900 : (Cond.code ({ cls := "StreamFuser$Way", name := "openedFor", desc := "(I)I" } : MethodName) prog_12_method_2_code (3 : Nat) (Option.some FieldType.int)) ∈ sf_T := sf_T_of 900 (by decide +kernel) rfl
theorem wt_901 : (Cond.methodLink "StreamFuser$Way" (89 : Nat) ({ cls := "java/lang/Math", name := "max", desc := "(II)I" } : MethodName)) ∈ sf_T := sf_T_of 901 (by decide +kernel) rfl
theorem wt_902 : (Cond.methodLinkNest "StreamFuser$Walk" (61 : Nat) ({ cls := "StreamFuser$Run", name := "draw", desc := "(I)Z" } : MethodName) "StreamFuser") ∈ sf_N := sf_N_of 902 (by decide +kernel) rfl
theorem wt_904 : (Cond.instanceMethod ({ cls := "StreamFuser$Run", name := "draw", desc := "(I)Z" } : MethodName)) ∈ sf_T := sf_T_of 904 (by decide +kernel) rfl
theorem wt_905 : (Cond.code ({ cls := "StreamFuser$Run", name := "draw", desc := "(I)Z" } : MethodName) prog_8_method_4_code (2 : Nat) (Option.some FieldType.boolean)) ∈ sf_T := sf_T_of 905 (by decide +kernel) rfl
theorem wt_906 : (Cond.methodLink "StreamFuser$Run" (43 : Nat) ({ cls := "StreamFuser$Run", name := "fail", desc := "(II)V" } : MethodName)) ∈ sf_T := sf_T_of 906 (by decide +kernel) rfl
theorem wt_907 : (Cond.methodLink "StreamFuser$Walk" (66 : Nat) ({ cls := "StreamFuser$Walk", name := "supplied", desc := "(II)I" } : MethodName)) ∈ sf_T := sf_T_of 907 (by decide +kernel) rfl
theorem wt_908 : (Cond.sameMethod "StreamFuser$Walk" "StreamFuser$Way" "supplied" "(II)I") ∈ sf_T := sf_T_of 908 (by decide +kernel) rfl
theorem wt_910 : (Cond.selects "StreamFuser$Asker" ({ cls := "StreamFuser$Walk", name := "supplied", desc := "(II)I" } : MethodName) ({ cls := "StreamFuser$Way", name := "supplied", desc := "(II)I" } : MethodName)) ∈ sf_T := sf_T_of 910 (by decide +kernel) rfl
theorem wt_911 : (Cond.selects "StreamFuser$Stepper" ({ cls := "StreamFuser$Walk", name := "supplied", desc := "(II)I" } : MethodName) ({ cls := "StreamFuser$Way", name := "supplied", desc := "(II)I" } : MethodName)) ∈ sf_T := sf_T_of 911 (by decide +kernel) rfl
theorem wt_912 : (Cond.instanceMethod ({ cls := "StreamFuser$Way", name := "supplied", desc := "(II)I" } : MethodName)) ∈ sf_T := sf_T_of 912 (by decide +kernel) rfl
theorem wt_913 : (Cond.code ({ cls := "StreamFuser$Way", name := "supplied", desc := "(II)I" } : MethodName) prog_12_method_5_code (3 : Nat) (Option.some FieldType.int)) ∈ sf_T := sf_T_of 913 (by decide +kernel) rfl
theorem wt_914 : (Cond.methodLinkNest "StreamFuser$Way" (92 : Nat) ({ cls := "StreamFuser$Sheets", name := "at", desc := "(II)I" } : MethodName) "StreamFuser") ∈ sf_N := sf_N_of 914 (by decide +kernel) rfl
theorem wt_916 : (Cond.instanceMethod ({ cls := "StreamFuser$Sheets", name := "at", desc := "(II)I" } : MethodName)) ∈ sf_T := sf_T_of 916 (by decide +kernel) rfl
theorem wt_917 : (Cond.code ({ cls := "StreamFuser$Sheets", name := "at", desc := "(II)I" } : MethodName) prog_9_method_8_code (3 : Nat) (Option.some FieldType.int)) ∈ sf_T := sf_T_of 917 (by decide +kernel) rfl
theorem wt_918 : (Cond.methodLinkNest "StreamFuser$Asker" (42 : Nat) ({ cls := "StreamFuser$Run", name := "give", desc := "(I)V" } : MethodName) "StreamFuser") ∈ sf_N := sf_N_of 918 (by decide +kernel) rfl
theorem wt_920 : (Cond.instanceMethod ({ cls := "StreamFuser$Run", name := "give", desc := "(I)V" } : MethodName)) ∈ sf_T := sf_T_of 920 (by decide +kernel) rfl
theorem wt_921 : (Cond.code ({ cls := "StreamFuser$Run", name := "give", desc := "(I)V" } : MethodName) prog_8_method_3_code (2 : Nat) (Option.none : Option FieldType)) ∈ sf_T := sf_T_of 921 (by decide +kernel) rfl
theorem wt_922 : (Cond.methodLink "StreamFuserLaw" (52 : Nat) ({ cls := "StreamFuser", name := "run", desc := "(II)I" } : MethodName)) ∈ sf_T := sf_T_of 922 (by decide +kernel) rfl
theorem wt_923 : (Cond.instanceMethod ({ cls := "StreamFuser", name := "run", desc := "(II)I" } : MethodName)) ∈ sf_T := sf_T_of 923 (by decide +kernel) rfl
theorem wt_924 : (Cond.selects "StreamFuser" ({ cls := "StreamFuser", name := "run", desc := "(II)I" } : MethodName) ({ cls := "StreamFuser", name := "run", desc := "(II)I" } : MethodName)) ∈ sf_T := sf_T_of 924 (by decide +kernel) rfl
theorem wt_925 : (Cond.code ({ cls := "StreamFuser", name := "run", desc := "(II)I" } : MethodName) prog_1_method_11_code (3 : Nat) (Option.some FieldType.int)) ∈ sf_T := sf_T_of 925 (by decide +kernel) rfl
theorem wt_926 : (Cond.methodLinkNest "StreamFuser" (163 : Nat) ({ cls := "StreamFuser$Stepper", name := "play", desc := "(I)V" } : MethodName) "StreamFuser") ∈ sf_N := sf_N_of 926 (by decide +kernel) rfl
theorem wt_928 : (Cond.instanceMethod ({ cls := "StreamFuser$Stepper", name := "play", desc := "(I)V" } : MethodName)) ∈ sf_T := sf_T_of 928 (by decide +kernel) rfl
theorem wt_929 : (Cond.code ({ cls := "StreamFuser$Stepper", name := "play", desc := "(I)V" } : MethodName) prog_10_method_2_code (4 : Nat) (Option.none : Option FieldType)) ∈ sf_T := sf_T_of 929 (by decide +kernel) rfl
theorem wt_930 : (Cond.methodLinkNest "StreamFuser$Stepper" (19 : Nat) ({ cls := "StreamFuser$Run", name := "begin", desc := "()V" } : MethodName) "StreamFuser") ∈ sf_N := sf_N_of 930 (by decide +kernel) rfl
theorem wt_931 : (Cond.methodLink "StreamFuser$Stepper" (35 : Nat) ({ cls := "StreamFuser$Stepper", name := "restart", desc := "(II)V" } : MethodName)) ∈ sf_T := sf_T_of 931 (by decide +kernel) rfl
theorem wt_932 : (Cond.sameMethod "StreamFuser$Stepper" "StreamFuser$Walk" "restart" "(II)V") ∈ sf_T := sf_T_of 932 (by decide +kernel) rfl
theorem wt_933 : (Cond.selects "StreamFuser$Stepper" ({ cls := "StreamFuser$Stepper", name := "restart", desc := "(II)V" } : MethodName) ({ cls := "StreamFuser$Walk", name := "restart", desc := "(II)V" } : MethodName)) ∈ sf_T := sf_T_of 933 (by decide +kernel) rfl
theorem wt_934 : (Cond.constant "StreamFuser$Stepper" (39 : Nat) (1000000 : Int32)) ∈ sf_T := sf_T_of 934 (by decide +kernel) rfl
theorem wt_935 : (Cond.methodLink "StreamFuser$Stepper" (44 : Nat) ({ cls := "StreamFuser$Stepper", name := "step", desc := "(II)I" } : MethodName)) ∈ sf_T := sf_T_of 935 (by decide +kernel) rfl
theorem wt_937 : (Cond.instanceMethod ({ cls := "StreamFuser$Stepper", name := "step", desc := "(II)I" } : MethodName)) ∈ sf_T := sf_T_of 937 (by decide +kernel) rfl
theorem wt_938 : (Cond.code ({ cls := "StreamFuser$Stepper", name := "step", desc := "(II)I" } : MethodName) prog_10_method_3_code (3 : Nat) (Option.some FieldType.int)) ∈ sf_T := sf_T_of 938 (by decide +kernel) rfl
theorem wt_939 : (Cond.methodLinkNest "StreamFuser$Stepper" (55 : Nat) ({ cls := "StreamFuser$Plan", name := "has", desc := "(I)Z" } : MethodName) "StreamFuser") ∈ sf_N := sf_N_of 939 (by decide +kernel) rfl
theorem wt_940 : (Cond.methodLink "StreamFuser$Stepper" (62 : Nat) ({ cls := "StreamFuser$Stepper", name := "stepChain", desc := "(II)I" } : MethodName)) ∈ sf_T := sf_T_of 940 (by decide +kernel) rfl
theorem wt_942 : (Cond.instanceMethod ({ cls := "StreamFuser$Stepper", name := "stepChain", desc := "(II)I" } : MethodName)) ∈ sf_T := sf_T_of 942 (by decide +kernel) rfl
theorem wt_943 : (Cond.code ({ cls := "StreamFuser$Stepper", name := "stepChain", desc := "(II)I" } : MethodName) prog_10_method_6_code (4 : Nat) (Option.some FieldType.int)) ∈ sf_T := sf_T_of 943 (by decide +kernel) rfl
theorem wt_944 : (Cond.methodLinkNest "StreamFuser$Stepper" (102 : Nat) ({ cls := "StreamFuser$Plan", name := "secondPart", desc := "(I)I" } : MethodName) "StreamFuser") ∈ sf_N := sf_N_of 944 (by decide +kernel) rfl
theorem wt_945 : (Cond.methodLink "StreamFuser$Stepper" (65 : Nat) ({ cls := "StreamFuser$Stepper", name := "stepZip", desc := "(II)I" } : MethodName)) ∈ sf_T := sf_T_of 945 (by decide +kernel) rfl
theorem wt_947 : (Cond.instanceMethod ({ cls := "StreamFuser$Stepper", name := "stepZip", desc := "(II)I" } : MethodName)) ∈ sf_T := sf_T_of 947 (by decide +kernel) rfl
theorem wt_948 : (Cond.code ({ cls := "StreamFuser$Stepper", name := "stepZip", desc := "(II)I" } : MethodName) prog_10_method_7_code (4 : Nat) (Option.some FieldType.int)) ∈ sf_T := sf_T_of 948 (by decide +kernel) rfl
theorem wt_949 : (Cond.methodLink "StreamFuser$Stepper" (106 : Nat) ({ cls := "StreamFuser$Stepper", name := "join", desc := "(III)I" } : MethodName)) ∈ sf_T := sf_T_of 949 (by decide +kernel) rfl
theorem wt_950 : (Cond.sameMethod "StreamFuser$Stepper" "StreamFuser$Way" "join" "(III)I") ∈ sf_T := sf_T_of 950 (by decide +kernel) rfl
theorem wt_951 : (Cond.selects "StreamFuser$Stepper" ({ cls := "StreamFuser$Stepper", name := "join", desc := "(III)I" } : MethodName) ({ cls := "StreamFuser$Way", name := "join", desc := "(III)I" } : MethodName)) ∈ sf_T := sf_T_of 951 (by decide +kernel) rfl
theorem wt_952 : (Cond.methodLink "StreamFuser$Stepper" (68 : Nat) ({ cls := "StreamFuser$Stepper", name := "stepOpener", desc := "(II)I" } : MethodName)) ∈ sf_T := sf_T_of 952 (by decide +kernel) rfl
theorem wt_954 : (Cond.instanceMethod ({ cls := "StreamFuser$Stepper", name := "stepOpener", desc := "(II)I" } : MethodName)) ∈ sf_T := sf_T_of 954 (by decide +kernel) rfl
theorem wt_955 : (Cond.code ({ cls := "StreamFuser$Stepper", name := "stepOpener", desc := "(II)I" } : MethodName) prog_10_method_8_code (4 : Nat) (Option.some FieldType.int)) ∈ sf_T := sf_T_of 955 (by decide +kernel) rfl
theorem wt_956 : (Cond.methodLinkNest "StreamFuser$Stepper" (110 : Nat) ({ cls := "StreamFuser$Plan", name := "input", desc := "(I)I" } : MethodName) "StreamFuser") ∈ sf_N := sf_N_of 956 (by decide +kernel) rfl
theorem wt_957 : (Cond.methodLink "StreamFuser$Stepper" (113 : Nat) ({ cls := "StreamFuser$Stepper", name := "open", desc := "(II)V" } : MethodName)) ∈ sf_T := sf_T_of 957 (by decide +kernel) rfl
theorem wt_958 : (Cond.sameMethod "StreamFuser$Stepper" "StreamFuser$Walk" "open" "(II)V") ∈ sf_T := sf_T_of 958 (by decide +kernel) rfl
theorem wt_959 : (Cond.selects "StreamFuser$Stepper" ({ cls := "StreamFuser$Stepper", name := "open", desc := "(II)V" } : MethodName) ({ cls := "StreamFuser$Walk", name := "open", desc := "(II)V" } : MethodName)) ∈ sf_T := sf_T_of 959 (by decide +kernel) rfl
theorem wt_960 : (Cond.methodLink "StreamFuser$Stepper" (71 : Nat) ({ cls := "StreamFuser$Stepper", name := "produce", desc := "(I)Z" } : MethodName)) ∈ sf_T := sf_T_of 960 (by decide +kernel) rfl
theorem wt_961 : (Cond.sameMethod "StreamFuser$Stepper" "StreamFuser$Walk" "produce" "(I)Z") ∈ sf_T := sf_T_of 961 (by decide +kernel) rfl
theorem wt_962 : (Cond.selects "StreamFuser$Stepper" ({ cls := "StreamFuser$Stepper", name := "produce", desc := "(I)Z" } : MethodName) ({ cls := "StreamFuser$Walk", name := "produce", desc := "(I)Z" } : MethodName)) ∈ sf_T := sf_T_of 962 (by decide +kernel) rfl
theorem wt_963 : (Cond.methodLink "StreamFuser$Stepper" (74 : Nat) ({ cls := "StreamFuser$Stepper", name := "given", desc := "(Z)I" } : MethodName)) ∈ sf_T := sf_T_of 963 (by decide +kernel) rfl
theorem wt_965 : (Cond.instanceMethod ({ cls := "StreamFuser$Stepper", name := "given", desc := "(Z)I" } : MethodName)) ∈ sf_T := sf_T_of 965 (by decide +kernel) rfl
theorem wt_966 : (Cond.code ({ cls := "StreamFuser$Stepper", name := "given", desc := "(Z)I" } : MethodName) prog_10_method_5_code (2 : Nat) (Option.some FieldType.int)) ∈ sf_T := sf_T_of 966 (by decide +kernel) rfl
theorem wt_967 : (Cond.methodLinkNest "StreamFuser$Stepper" (94 : Nat) ({ cls := "StreamFuser$Run", name := "failed", desc := "()Z" } : MethodName) "StreamFuser") ∈ sf_N := sf_N_of 967 (by decide +kernel) rfl
theorem wt_968 : (Cond.methodLink "StreamFuser$Stepper" (78 : Nat) ({ cls := "StreamFuser$Stepper", name := "stepOne", desc := "(II)I" } : MethodName)) ∈ sf_T := sf_T_of 968 (by decide +kernel) rfl
theorem wt_970 : (Cond.instanceMethod ({ cls := "StreamFuser$Stepper", name := "stepOne", desc := "(II)I" } : MethodName)) ∈ sf_T := sf_T_of 970 (by decide +kernel) rfl
theorem wt_971 : (Cond.code ({ cls := "StreamFuser$Stepper", name := "stepOne", desc := "(II)I" } : MethodName) prog_10_method_4_code (4 : Nat) (Option.some FieldType.int)) ∈ sf_T := sf_T_of 971 (by decide +kernel) rfl
theorem wt_972 : (Cond.methodLink "StreamFuser$Stepper" (87 : Nat) ({ cls := "StreamFuser$Stepper", name := "passes", desc := "(II)Z" } : MethodName)) ∈ sf_T := sf_T_of 972 (by decide +kernel) rfl
theorem wt_973 : (Cond.sameMethod "StreamFuser$Stepper" "StreamFuser$Way" "passes" "(II)Z") ∈ sf_T := sf_T_of 973 (by decide +kernel) rfl
theorem wt_974 : (Cond.selects "StreamFuser$Stepper" ({ cls := "StreamFuser$Stepper", name := "passes", desc := "(II)Z" } : MethodName) ({ cls := "StreamFuser$Way", name := "passes", desc := "(II)Z" } : MethodName)) ∈ sf_T := sf_T_of 974 (by decide +kernel) rfl
theorem wt_975 : (Cond.methodLink "StreamFuser$Stepper" (91 : Nat) ({ cls := "StreamFuser$Stepper", name := "change", desc := "(II)Z" } : MethodName)) ∈ sf_T := sf_T_of 975 (by decide +kernel) rfl
theorem wt_976 : (Cond.sameMethod "StreamFuser$Stepper" "StreamFuser$Way" "change" "(II)Z") ∈ sf_T := sf_T_of 976 (by decide +kernel) rfl
theorem wt_977 : (Cond.selects "StreamFuser$Stepper" ({ cls := "StreamFuser$Stepper", name := "change", desc := "(II)Z" } : MethodName) ({ cls := "StreamFuser$Way", name := "change", desc := "(II)Z" } : MethodName)) ∈ sf_T := sf_T_of 977 (by decide +kernel) rfl
theorem wt_978 : (Cond.methodLinkNest "StreamFuser$Stepper" (51 : Nat) ({ cls := "StreamFuser$Run", name := "give", desc := "(I)V" } : MethodName) "StreamFuser") ∈ sf_N := sf_N_of 978 (by decide +kernel) rfl
theorem wt_979 : (Cond.methodLinkNest "StreamFuser" (164 : Nat) ({ cls := "StreamFuser$Maker", name := "play", desc := "(I)V" } : MethodName) "StreamFuser") ∈ sf_N := sf_N_of 979 (by decide +kernel) rfl
theorem wt_981 : (Cond.instanceMethod ({ cls := "StreamFuser$Maker", name := "play", desc := "(I)V" } : MethodName)) ∈ sf_T := sf_T_of 981 (by decide +kernel) rfl
theorem wt_982 : (Cond.code ({ cls := "StreamFuser$Maker", name := "play", desc := "(I)V" } : MethodName) prog_3_method_2_code (3 : Nat) (Option.none : Option FieldType)) ∈ sf_T := sf_T_of 982 (by decide +kernel) rfl
theorem wt_983 : (Cond.methodLinkNest "StreamFuser$Maker" (22 : Nat) ({ cls := "StreamFuser$Run", name := "begin", desc := "()V" } : MethodName) "StreamFuser") ∈ sf_N := sf_N_of 983 (by decide +kernel) rfl
theorem wt_984 : (Cond.methodLink "StreamFuser$Maker" (28 : Nat) ({ cls := "StreamFuser$Maker", name := "make", desc := "(II)Z" } : MethodName)) ∈ sf_T := sf_T_of 984 (by decide +kernel) rfl
theorem wt_986 : (Cond.instanceMethod ({ cls := "StreamFuser$Maker", name := "make", desc := "(II)Z" } : MethodName)) ∈ sf_T := sf_T_of 986 (by decide +kernel) rfl
theorem wt_987 : (Cond.code ({ cls := "StreamFuser$Maker", name := "make", desc := "(II)Z" } : MethodName) prog_3_method_3_code (3 : Nat) (Option.some FieldType.boolean)) ∈ sf_T := sf_T_of 987 (by decide +kernel) rfl
theorem wt_988 : (Cond.methodLinkNest "StreamFuser$Maker" (40 : Nat) ({ cls := "StreamFuser$Plan", name := "has", desc := "(I)Z" } : MethodName) "StreamFuser") ∈ sf_N := sf_N_of 988 (by decide +kernel) rfl
theorem wt_989 : (Cond.methodLink "StreamFuser$Maker" (46 : Nat) ({ cls := "StreamFuser$Maker", name := "fill", desc := "(II)Z" } : MethodName)) ∈ sf_T := sf_T_of 989 (by decide +kernel) rfl
theorem wt_991 : (Cond.instanceMethod ({ cls := "StreamFuser$Maker", name := "fill", desc := "(II)Z" } : MethodName)) ∈ sf_T := sf_T_of 991 (by decide +kernel) rfl
theorem wt_992 : (Cond.code ({ cls := "StreamFuser$Maker", name := "fill", desc := "(II)Z" } : MethodName) prog_3_method_4_code (5 : Nat) (Option.some FieldType.boolean)) ∈ sf_T := sf_T_of 992 (by decide +kernel) rfl
theorem wt_993 : (Cond.methodLinkNest "StreamFuser$Maker" (59 : Nat) ({ cls := "StreamFuser$Plan", name := "partsOf", desc := "(I)I" } : MethodName) "StreamFuser") ∈ sf_N := sf_N_of 993 (by decide +kernel) rfl
theorem wt_994 : (Cond.methodLink "StreamFuser$Maker" (63 : Nat) ({ cls := "StreamFuser$Maker", name := "fillFromProducer", desc := "(I)Z" } : MethodName)) ∈ sf_T := sf_T_of 994 (by decide +kernel) rfl
theorem wt_996 : (Cond.instanceMethod ({ cls := "StreamFuser$Maker", name := "fillFromProducer", desc := "(I)Z" } : MethodName)) ∈ sf_T := sf_T_of 996 (by decide +kernel) rfl
theorem wt_997 : (Cond.code ({ cls := "StreamFuser$Maker", name := "fillFromProducer", desc := "(I)Z" } : MethodName) prog_3_method_5_code (5 : Nat) (Option.some FieldType.boolean)) ∈ sf_T := sf_T_of 997 (by decide +kernel) rfl
theorem wt_998 : (Cond.methodLink "StreamFuser$Maker" (85 : Nat) ({ cls := "StreamFuser$Maker", name := "isReady", desc := "(I)Z" } : MethodName)) ∈ sf_T := sf_T_of 998 (by decide +kernel) rfl
theorem wt_999 : (Cond.sameMethod "StreamFuser$Maker" "StreamFuser$Way" "isReady" "(I)Z") ∈ sf_T := sf_T_of 999 (by decide +kernel) rfl
theorem wt_1000 : (Cond.selects "StreamFuser$Maker" ({ cls := "StreamFuser$Maker", name := "isReady", desc := "(I)Z" } : MethodName) ({ cls := "StreamFuser$Way", name := "isReady", desc := "(I)Z" } : MethodName)) ∈ sf_T := sf_T_of 1000 (by decide +kernel) rfl
theorem wt_1001 : (Cond.methodLink "StreamFuser$Maker" (88 : Nat) ({ cls := "StreamFuser$Maker", name := "supply", desc := "(I)J" } : MethodName)) ∈ sf_T := sf_T_of 1001 (by decide +kernel) rfl
theorem wt_1002 : (Cond.sameMethod "StreamFuser$Maker" "StreamFuser$Way" "supply" "(I)J") ∈ sf_T := sf_T_of 1002 (by decide +kernel) rfl
theorem wt_1003 : (Cond.selects "StreamFuser$Maker" ({ cls := "StreamFuser$Maker", name := "supply", desc := "(I)J" } : MethodName) ({ cls := "StreamFuser$Way", name := "supply", desc := "(I)J" } : MethodName)) ∈ sf_T := sf_T_of 1003 (by decide +kernel) rfl
theorem wt_1004 : (Cond.constantLong "StreamFuser$Maker" (92 : Nat) (60 : Int64)) ∈ sf_T := sf_T_of 1004 (by decide +kernel) rfl
theorem wt_1005 : (Cond.methodLinkNest "StreamFuser$Maker" (97 : Nat) ({ cls := "StreamFuser$Run", name := "fail", desc := "(II)V" } : MethodName) "StreamFuser") ∈ sf_N := sf_N_of 1005 (by decide +kernel) rfl
theorem wt_1006 : (Cond.methodLinkNest "StreamFuser$Maker" (100 : Nat) ({ cls := "StreamFuser$Run", name := "draw", desc := "(I)Z" } : MethodName) "StreamFuser") ∈ sf_N := sf_N_of 1006 (by decide +kernel) rfl
theorem wt_1007 : (Cond.methodLink "StreamFuser$Maker" (103 : Nat) ({ cls := "StreamFuser$Maker", name := "supplied", desc := "(II)I" } : MethodName)) ∈ sf_T := sf_T_of 1007 (by decide +kernel) rfl
theorem wt_1008 : (Cond.sameMethod "StreamFuser$Maker" "StreamFuser$Way" "supplied" "(II)I") ∈ sf_T := sf_T_of 1008 (by decide +kernel) rfl
theorem wt_1009 : (Cond.selects "StreamFuser$Maker" ({ cls := "StreamFuser$Maker", name := "supplied", desc := "(II)I" } : MethodName) ({ cls := "StreamFuser$Way", name := "supplied", desc := "(II)I" } : MethodName)) ∈ sf_T := sf_T_of 1009 (by decide +kernel) rfl
theorem wt_1010 : (Cond.methodLink "StreamFuser$Maker" (107 : Nat) ({ cls := "StreamFuser$Maker", name := "add", desc := "(II)V" } : MethodName)) ∈ sf_T := sf_T_of 1010 (by decide +kernel) rfl
theorem wt_1012 : (Cond.instanceMethod ({ cls := "StreamFuser$Maker", name := "add", desc := "(II)V" } : MethodName)) ∈ sf_T := sf_T_of 1012 (by decide +kernel) rfl
theorem wt_1013 : (Cond.code ({ cls := "StreamFuser$Maker", name := "add", desc := "(II)V" } : MethodName) prog_3_method_11_code (3 : Nat) (Option.none : Option FieldType)) ∈ sf_T := sf_T_of 1013 (by decide +kernel) rfl
theorem wt_1014 : (Cond.methodLinkNest "StreamFuser$Maker" (66 : Nat) ({ cls := "StreamFuser$Plan", name := "input", desc := "(I)I" } : MethodName) "StreamFuser") ∈ sf_N := sf_N_of 1014 (by decide +kernel) rfl
theorem wt_1015 : (Cond.methodLink "StreamFuser$Maker" (69 : Nat) ({ cls := "StreamFuser$Maker", name := "fillByOpening", desc := "(II)Z" } : MethodName)) ∈ sf_T := sf_T_of 1015 (by decide +kernel) rfl
theorem wt_1017 : (Cond.instanceMethod ({ cls := "StreamFuser$Maker", name := "fillByOpening", desc := "(II)Z" } : MethodName)) ∈ sf_T := sf_T_of 1017 (by decide +kernel) rfl
theorem wt_1018 : (Cond.code ({ cls := "StreamFuser$Maker", name := "fillByOpening", desc := "(II)Z" } : MethodName) prog_3_method_7_code (5 : Nat) (Option.some FieldType.boolean)) ∈ sf_T := sf_T_of 1018 (by decide +kernel) rfl
theorem wt_1019 : (Cond.methodLink "StreamFuser$Maker" (110 : Nat) ({ cls := "StreamFuser$Maker", name := "element", desc := "(II)I" } : MethodName)) ∈ sf_T := sf_T_of 1019 (by decide +kernel) rfl
theorem wt_1021 : (Cond.instanceMethod ({ cls := "StreamFuser$Maker", name := "element", desc := "(II)I" } : MethodName)) ∈ sf_T := sf_T_of 1021 (by decide +kernel) rfl
theorem wt_1022 : (Cond.code ({ cls := "StreamFuser$Maker", name := "element", desc := "(II)I" } : MethodName) prog_3_method_10_code (3 : Nat) (Option.some FieldType.int)) ∈ sf_T := sf_T_of 1022 (by decide +kernel) rfl
theorem wt_1023 : (Cond.methodLink "StreamFuser$Maker" (78 : Nat) ({ cls := "StreamFuser$Maker", name := "addRow", desc := "(II)Z" } : MethodName)) ∈ sf_T := sf_T_of 1023 (by decide +kernel) rfl
theorem wt_1025 : (Cond.instanceMethod ({ cls := "StreamFuser$Maker", name := "addRow", desc := "(II)Z" } : MethodName)) ∈ sf_T := sf_T_of 1025 (by decide +kernel) rfl
theorem wt_1026 : (Cond.code ({ cls := "StreamFuser$Maker", name := "addRow", desc := "(II)Z" } : MethodName) prog_3_method_8_code (3 : Nat) (Option.some FieldType.boolean)) ∈ sf_T := sf_T_of 1026 (by decide +kernel) rfl
theorem wt_1027 : (Cond.methodLink "StreamFuser$Maker" (128 : Nat) ({ cls := "java/lang/System", name := "arraycopy", desc := "(Ljava/lang/Object;ILjava/lang/Object;II)V" } : MethodName)) ∈ sf_T := sf_T_of 1027 (by decide +kernel) rfl
theorem wt_1028 : (Cond.static ({ cls := "java/lang/System", name := "arraycopy", desc := "(Ljava/lang/Object;ILjava/lang/Object;II)V" } : MethodName)) ∈ sf_T := sf_T_of 1028 (by decide +kernel) rfl
theorem wt_1029 : (Cond.native ({ cls := "java/lang/System", name := "arraycopy", desc := "(Ljava/lang/Object;ILjava/lang/Object;II)V" } : MethodName)) ∈ sf_T := sf_T_of 1029 (by decide +kernel) rfl
theorem wt_1030 : (Cond.methodLink "StreamFuser$Maker" (72 : Nat) ({ cls := "StreamFuser$Maker", name := "fillFromInput", desc := "(I)Z" } : MethodName)) ∈ sf_T := sf_T_of 1030 (by decide +kernel) rfl
theorem wt_1032 : (Cond.instanceMethod ({ cls := "StreamFuser$Maker", name := "fillFromInput", desc := "(I)Z" } : MethodName)) ∈ sf_T := sf_T_of 1032 (by decide +kernel) rfl
theorem wt_1033 : (Cond.code ({ cls := "StreamFuser$Maker", name := "fillFromInput", desc := "(I)Z" } : MethodName) prog_3_method_6_code (5 : Nat) (Option.some FieldType.boolean)) ∈ sf_T := sf_T_of 1033 (by decide +kernel) rfl
theorem wt_1034 : (Cond.methodLink "StreamFuser$Maker" (113 : Nat) ({ cls := "StreamFuser$Maker", name := "passes", desc := "(II)Z" } : MethodName)) ∈ sf_T := sf_T_of 1034 (by decide +kernel) rfl
theorem wt_1035 : (Cond.sameMethod "StreamFuser$Maker" "StreamFuser$Way" "passes" "(II)Z") ∈ sf_T := sf_T_of 1035 (by decide +kernel) rfl
theorem wt_1036 : (Cond.selects "StreamFuser$Maker" ({ cls := "StreamFuser$Maker", name := "passes", desc := "(II)Z" } : MethodName) ({ cls := "StreamFuser$Way", name := "passes", desc := "(II)Z" } : MethodName)) ∈ sf_T := sf_T_of 1036 (by decide +kernel) rfl
theorem wt_1037 : (Cond.methodLink "StreamFuser$Maker" (119 : Nat) ({ cls := "StreamFuser$Maker", name := "change", desc := "(II)Z" } : MethodName)) ∈ sf_T := sf_T_of 1037 (by decide +kernel) rfl
theorem wt_1038 : (Cond.sameMethod "StreamFuser$Maker" "StreamFuser$Way" "change" "(II)Z") ∈ sf_T := sf_T_of 1038 (by decide +kernel) rfl
theorem wt_1039 : (Cond.selects "StreamFuser$Maker" ({ cls := "StreamFuser$Maker", name := "change", desc := "(II)Z" } : MethodName) ({ cls := "StreamFuser$Way", name := "change", desc := "(II)Z" } : MethodName)) ∈ sf_T := sf_T_of 1039 (by decide +kernel) rfl
theorem wt_1040 : (Cond.methodLinkNest "StreamFuser$Maker" (75 : Nat) ({ cls := "StreamFuser$Plan", name := "secondPart", desc := "(I)I" } : MethodName) "StreamFuser") ∈ sf_N := sf_N_of 1040 (by decide +kernel) rfl
theorem wt_1041 : (Cond.methodLink "StreamFuser$Maker" (81 : Nat) ({ cls := "StreamFuser$Maker", name := "zip", desc := "(II)V" } : MethodName)) ∈ sf_T := sf_T_of 1041 (by decide +kernel) rfl
theorem wt_1043 : (Cond.instanceMethod ({ cls := "StreamFuser$Maker", name := "zip", desc := "(II)V" } : MethodName)) ∈ sf_T := sf_T_of 1043 (by decide +kernel) rfl
theorem wt_1044 : (Cond.code ({ cls := "StreamFuser$Maker", name := "zip", desc := "(II)V" } : MethodName) prog_3_method_9_code (6 : Nat) (Option.none : Option FieldType)) ∈ sf_T := sf_T_of 1044 (by decide +kernel) rfl
theorem wt_1045 : (Cond.methodLink "StreamFuser$Maker" (134 : Nat) ({ cls := "java/lang/Math", name := "min", desc := "(II)I" } : MethodName)) ∈ sf_T := sf_T_of 1045 (by decide +kernel) rfl
theorem wt_1046 : (Cond.methodLink "StreamFuser$Maker" (139 : Nat) ({ cls := "StreamFuser$Maker", name := "join", desc := "(III)I" } : MethodName)) ∈ sf_T := sf_T_of 1046 (by decide +kernel) rfl
theorem wt_1047 : (Cond.sameMethod "StreamFuser$Maker" "StreamFuser$Way" "join" "(III)I") ∈ sf_T := sf_T_of 1047 (by decide +kernel) rfl
theorem wt_1048 : (Cond.selects "StreamFuser$Maker" ({ cls := "StreamFuser$Maker", name := "join", desc := "(III)I" } : MethodName) ({ cls := "StreamFuser$Way", name := "join", desc := "(III)I" } : MethodName)) ∈ sf_T := sf_T_of 1048 (by decide +kernel) rfl
theorem wt_1049 : (Cond.methodLinkNest "StreamFuser$Maker" (32 : Nat) ({ cls := "StreamFuser$Run", name := "give", desc := "(I)V" } : MethodName) "StreamFuser") ∈ sf_N := sf_N_of 1049 (by decide +kernel) rfl
theorem wt_1050 : (Cond.methodLink "StreamFuserLaw" (56 : Nat) ({ cls := "StreamFuser", name := "result", desc := "(I)J" } : MethodName)) ∈ sf_T := sf_T_of 1050 (by decide +kernel) rfl
theorem wt_1051 : (Cond.instanceMethod ({ cls := "StreamFuser", name := "result", desc := "(I)J" } : MethodName)) ∈ sf_T := sf_T_of 1051 (by decide +kernel) rfl
theorem wt_1052 : (Cond.selects "StreamFuser" ({ cls := "StreamFuser", name := "result", desc := "(I)J" } : MethodName) ({ cls := "StreamFuser", name := "result", desc := "(I)J" } : MethodName)) ∈ sf_T := sf_T_of 1052 (by decide +kernel) rfl
theorem wt_1053 : (Cond.code ({ cls := "StreamFuser", name := "result", desc := "(I)J" } : MethodName) prog_1_method_12_code (2 : Nat) (Option.some FieldType.long)) ∈ sf_T := sf_T_of 1053 (by decide +kernel) rfl
theorem wt_1054 : (Cond.constantLong "StreamFuser" (169 : Nat) (-9223372036854775806 : Int64)) ∈ sf_T := sf_T_of 1054 (by decide +kernel) rfl
theorem wt_1055 : (Cond.methodLink "StreamFuserLaw" (61 : Nat) ({ cls := "StreamFuser", name := "fold", desc := "(I)J" } : MethodName)) ∈ sf_T := sf_T_of 1055 (by decide +kernel) rfl
theorem wt_1056 : (Cond.instanceMethod ({ cls := "StreamFuser", name := "fold", desc := "(I)J" } : MethodName)) ∈ sf_T := sf_T_of 1056 (by decide +kernel) rfl
theorem wt_1057 : (Cond.selects "StreamFuser" ({ cls := "StreamFuser", name := "fold", desc := "(I)J" } : MethodName) ({ cls := "StreamFuser", name := "fold", desc := "(I)J" } : MethodName)) ∈ sf_T := sf_T_of 1057 (by decide +kernel) rfl
theorem wt_1058 : (Cond.code ({ cls := "StreamFuser", name := "fold", desc := "(I)J" } : MethodName) prog_1_method_13_code (2 : Nat) (Option.some FieldType.long)) ∈ sf_T := sf_T_of 1058 (by decide +kernel) rfl
theorem wt_1059 : (Cond.methodLinkNest "StreamFuser" (171 : Nat) ({ cls := "StreamFuser$Run", name := "sum", desc := "()J" } : MethodName) "StreamFuser") ∈ sf_N := sf_N_of 1059 (by decide +kernel) rfl
theorem wt_1061 : (Cond.instanceMethod ({ cls := "StreamFuser$Run", name := "sum", desc := "()J" } : MethodName)) ∈ sf_T := sf_T_of 1061 (by decide +kernel) rfl
theorem wt_1062 : (Cond.code ({ cls := "StreamFuser$Run", name := "sum", desc := "()J" } : MethodName) prog_8_method_9_code (4 : Nat) (Option.some FieldType.long)) ∈ sf_T := sf_T_of 1062 (by decide +kernel) rfl
theorem wt_1063 : (Cond.constantLong "StreamFuser" (175 : Nat) (-9223372036854775805 : Int64)) ∈ sf_T := sf_T_of 1063 (by decide +kernel) rfl
theorem wt_1064 : (Cond.methodLinkNest "StreamFuser" (177 : Nat) ({ cls := "StreamFuser$Run", name := "greatest", desc := "()I" } : MethodName) "StreamFuser") ∈ sf_N := sf_N_of 1064 (by decide +kernel) rfl
theorem wt_1066 : (Cond.instanceMethod ({ cls := "StreamFuser$Run", name := "greatest", desc := "()I" } : MethodName)) ∈ sf_T := sf_T_of 1066 (by decide +kernel) rfl
theorem wt_1067 : (Cond.code ({ cls := "StreamFuser$Run", name := "greatest", desc := "()I" } : MethodName) prog_8_method_10_code (3 : Nat) (Option.some FieldType.int)) ∈ sf_T := sf_T_of 1067 (by decide +kernel) rfl
theorem wt_1068 : (Cond.constant "StreamFuser$Run" (55 : Nat) (-2147483648 : Int32)) ∈ sf_T := sf_T_of 1068 (by decide +kernel) rfl
theorem wt_1069 : (Cond.methodLink "StreamFuser$Run" (56 : Nat) ({ cls := "java/lang/Math", name := "max", desc := "(II)I" } : MethodName)) ∈ sf_T := sf_T_of 1069 (by decide +kernel) rfl
theorem wt_1070 : (Cond.methodLinkNest "StreamFuser" (180 : Nat) ({ cls := "StreamFuser$Run", name := "smallest", desc := "()I" } : MethodName) "StreamFuser") ∈ sf_N := sf_N_of 1070 (by decide +kernel) rfl
theorem wt_1072 : (Cond.instanceMethod ({ cls := "StreamFuser$Run", name := "smallest", desc := "()I" } : MethodName)) ∈ sf_T := sf_T_of 1072 (by decide +kernel) rfl
theorem wt_1073 : (Cond.code ({ cls := "StreamFuser$Run", name := "smallest", desc := "()I" } : MethodName) prog_8_method_11_code (3 : Nat) (Option.some FieldType.int)) ∈ sf_T := sf_T_of 1073 (by decide +kernel) rfl
theorem wt_1074 : (Cond.constant "StreamFuser$Run" (59 : Nat) (2147483647 : Int32)) ∈ sf_T := sf_T_of 1074 (by decide +kernel) rfl
theorem wt_1075 : (Cond.methodLink "StreamFuser$Run" (47 : Nat) ({ cls := "java/lang/Math", name := "min", desc := "(II)I" } : MethodName)) ∈ sf_T := sf_T_of 1075 (by decide +kernel) rfl
theorem wt_1076 : (Cond.methodLink "StreamFuserLaw" (65 : Nat) ({ cls := "StreamFuser", name := "failure", desc := "(I)I" } : MethodName)) ∈ sf_T := sf_T_of 1076 (by decide +kernel) rfl
theorem wt_1077 : (Cond.instanceMethod ({ cls := "StreamFuser", name := "failure", desc := "(I)I" } : MethodName)) ∈ sf_T := sf_T_of 1077 (by decide +kernel) rfl
theorem wt_1078 : (Cond.selects "StreamFuser" ({ cls := "StreamFuser", name := "failure", desc := "(I)I" } : MethodName) ({ cls := "StreamFuser", name := "failure", desc := "(I)I" } : MethodName)) ∈ sf_T := sf_T_of 1078 (by decide +kernel) rfl
theorem wt_1079 : (Cond.code ({ cls := "StreamFuser", name := "failure", desc := "(I)I" } : MethodName) prog_1_method_14_code (2 : Nat) (Option.some FieldType.int)) ∈ sf_T := sf_T_of 1079 (by decide +kernel) rfl
theorem wt_1080 : (Cond.methodLink "StreamFuserLaw" (69 : Nat) ({ cls := "StreamFuser", name := "told", desc := "(I)I" } : MethodName)) ∈ sf_T := sf_T_of 1080 (by decide +kernel) rfl
theorem wt_1081 : (Cond.instanceMethod ({ cls := "StreamFuser", name := "told", desc := "(I)I" } : MethodName)) ∈ sf_T := sf_T_of 1081 (by decide +kernel) rfl
theorem wt_1082 : (Cond.selects "StreamFuser" ({ cls := "StreamFuser", name := "told", desc := "(I)I" } : MethodName) ({ cls := "StreamFuser", name := "told", desc := "(I)I" } : MethodName)) ∈ sf_T := sf_T_of 1082 (by decide +kernel) rfl
theorem wt_1083 : (Cond.code ({ cls := "StreamFuser", name := "told", desc := "(I)I" } : MethodName) prog_1_method_15_code (2 : Nat) (Option.some FieldType.int)) ∈ sf_T := sf_T_of 1083 (by decide +kernel) rfl
theorem wt_1084 : (Cond.methodLink "StreamFuserLaw" (73 : Nat) ({ cls := "StreamFuser", name := "written", desc := "(II)J" } : MethodName)) ∈ sf_T := sf_T_of 1084 (by decide +kernel) rfl
theorem wt_1085 : (Cond.instanceMethod ({ cls := "StreamFuser", name := "written", desc := "(II)J" } : MethodName)) ∈ sf_T := sf_T_of 1085 (by decide +kernel) rfl
theorem wt_1086 : (Cond.selects "StreamFuser" ({ cls := "StreamFuser", name := "written", desc := "(II)J" } : MethodName) ({ cls := "StreamFuser", name := "written", desc := "(II)J" } : MethodName)) ∈ sf_T := sf_T_of 1086 (by decide +kernel) rfl
theorem wt_1087 : (Cond.code ({ cls := "StreamFuser", name := "written", desc := "(II)J" } : MethodName) prog_1_method_16_code (3 : Nat) (Option.some FieldType.long)) ∈ sf_T := sf_T_of 1087 (by decide +kernel) rfl
theorem wt_1088 : (Cond.methodLinkNest "StreamFuser" (198 : Nat) ({ cls := "StreamFuser$Run", name := "kept", desc := "()I" } : MethodName) "StreamFuser") ∈ sf_N := sf_N_of 1088 (by decide +kernel) rfl
theorem wt_1090 : (Cond.instanceMethod ({ cls := "StreamFuser$Run", name := "kept", desc := "()I" } : MethodName)) ∈ sf_T := sf_T_of 1090 (by decide +kernel) rfl
theorem wt_1091 : (Cond.code ({ cls := "StreamFuser$Run", name := "kept", desc := "()I" } : MethodName) prog_8_method_8_code (1 : Nat) (Option.some FieldType.int)) ∈ sf_T := sf_T_of 1091 (by decide +kernel) rfl
theorem wt_1092 : (Cond.methodLink "StreamFuserLaw" (78 : Nat) ({ cls := "StreamFuser", name := "sheet", desc := "(III)I" } : MethodName)) ∈ sf_T := sf_T_of 1092 (by decide +kernel) rfl
theorem wt_1093 : (Cond.instanceMethod ({ cls := "StreamFuser", name := "sheet", desc := "(III)I" } : MethodName)) ∈ sf_T := sf_T_of 1093 (by decide +kernel) rfl
theorem wt_1094 : (Cond.selects "StreamFuser" ({ cls := "StreamFuser", name := "sheet", desc := "(III)I" } : MethodName) ({ cls := "StreamFuser", name := "sheet", desc := "(III)I" } : MethodName)) ∈ sf_T := sf_T_of 1094 (by decide +kernel) rfl
theorem wt_1095 : (Cond.code ({ cls := "StreamFuser", name := "sheet", desc := "(III)I" } : MethodName) prog_1_method_17_code (4 : Nat) (Option.some FieldType.int)) ∈ sf_T := sf_T_of 1095 (by decide +kernel) rfl
theorem wt_1096 : (Cond.methodLink "StreamFuser" (207 : Nat) ({ cls := "StreamFuser", name := "isSheet", desc := "(I)Z" } : MethodName)) ∈ sf_T := sf_T_of 1096 (by decide +kernel) rfl
theorem wt_1097 : (Cond.methodLink "StreamFuser" (210 : Nat) ({ cls := "StreamFuser", name := "isForm", desc := "(I)Z" } : MethodName)) ∈ sf_T := sf_T_of 1097 (by decide +kernel) rfl
theorem wt_1098 : (Cond.static ({ cls := "StreamFuser", name := "isForm", desc := "(I)Z" } : MethodName)) ∈ sf_T := sf_T_of 1098 (by decide +kernel) rfl
theorem wt_1099 : (Cond.code ({ cls := "StreamFuser", name := "isForm", desc := "(I)Z" } : MethodName) prog_1_method_30_code (1 : Nat) (Option.some FieldType.boolean)) ∈ sf_T := sf_T_of 1099 (by decide +kernel) rfl
theorem wt_1100 : (Cond.methodLink "StreamFuser" (213 : Nat) ({ cls := "StreamFuser", name := "find", desc := "(I)I" } : MethodName)) ∈ sf_T := sf_T_of 1100 (by decide +kernel) rfl
theorem wt_1102 : (Cond.instanceMethod ({ cls := "StreamFuser", name := "find", desc := "(I)I" } : MethodName)) ∈ sf_T := sf_T_of 1102 (by decide +kernel) rfl
theorem wt_1103 : (Cond.code ({ cls := "StreamFuser", name := "find", desc := "(I)I" } : MethodName) prog_1_method_27_code (2 : Nat) (Option.some FieldType.int)) ∈ sf_T := sf_T_of 1103 (by decide +kernel) rfl
theorem wt_1104 : (Cond.methodLinkNest "StreamFuser" (217 : Nat) ({ cls := "StreamFuser$Sheets", name := "renew", desc := "(III)V" } : MethodName) "StreamFuser") ∈ sf_N := sf_N_of 1104 (by decide +kernel) rfl
theorem wt_1106 : (Cond.instanceMethod ({ cls := "StreamFuser$Sheets", name := "renew", desc := "(III)V" } : MethodName)) ∈ sf_T := sf_T_of 1106 (by decide +kernel) rfl
theorem wt_1107 : (Cond.code ({ cls := "StreamFuser$Sheets", name := "renew", desc := "(III)V" } : MethodName) prog_9_method_5_code (5 : Nat) (Option.none : Option FieldType)) ∈ sf_T := sf_T_of 1107 (by decide +kernel) rfl
theorem wt_1108 : (Cond.methodLink "StreamFuserLaw" (83 : Nat) ({ cls := "StreamFuser", name := "lose", desc := "(I)I" } : MethodName)) ∈ sf_T := sf_T_of 1108 (by decide +kernel) rfl
theorem wt_1109 : (Cond.instanceMethod ({ cls := "StreamFuser", name := "lose", desc := "(I)I" } : MethodName)) ∈ sf_T := sf_T_of 1109 (by decide +kernel) rfl
theorem wt_1110 : (Cond.selects "StreamFuser" ({ cls := "StreamFuser", name := "lose", desc := "(I)I" } : MethodName) ({ cls := "StreamFuser", name := "lose", desc := "(I)I" } : MethodName)) ∈ sf_T := sf_T_of 1110 (by decide +kernel) rfl
theorem wt_1111 : (Cond.code ({ cls := "StreamFuser", name := "lose", desc := "(I)I" } : MethodName) prog_1_method_18_code (3 : Nat) (Option.some FieldType.int)) ∈ sf_T := sf_T_of 1111 (by decide +kernel) rfl
theorem wt_1112 : (Cond.methodLinkNest "StreamFuser" (221 : Nat) ({ cls := "StreamFuser$Sheets", name := "isLost", desc := "(I)Z" } : MethodName) "StreamFuser") ∈ sf_N := sf_N_of 1112 (by decide +kernel) rfl
theorem wt_1113 : (Cond.methodLink "StreamFuserLaw" (87 : Nat) ({ cls := "StreamFuser", name := "lay", desc := "(IIII)I" } : MethodName)) ∈ sf_T := sf_T_of 1113 (by decide +kernel) rfl
theorem wt_1114 : (Cond.instanceMethod ({ cls := "StreamFuser", name := "lay", desc := "(IIII)I" } : MethodName)) ∈ sf_T := sf_T_of 1114 (by decide +kernel) rfl
theorem wt_1115 : (Cond.selects "StreamFuser" ({ cls := "StreamFuser", name := "lay", desc := "(IIII)I" } : MethodName) ({ cls := "StreamFuser", name := "lay", desc := "(IIII)I" } : MethodName)) ∈ sf_T := sf_T_of 1115 (by decide +kernel) rfl
theorem wt_1116 : (Cond.code ({ cls := "StreamFuser", name := "lay", desc := "(IIII)I" } : MethodName) prog_1_method_19_code (6 : Nat) (Option.some FieldType.int)) ∈ sf_T := sf_T_of 1116 (by decide +kernel) rfl
theorem wt_1117 : (Cond.methodLink "StreamFuser" (226 : Nat) ({ cls := "StreamFuser", name := "elementError", desc := "(III)I" } : MethodName)) ∈ sf_T := sf_T_of 1117 (by decide +kernel) rfl
theorem wt_1119 : (Cond.instanceMethod ({ cls := "StreamFuser", name := "elementError", desc := "(III)I" } : MethodName)) ∈ sf_T := sf_T_of 1119 (by decide +kernel) rfl
theorem wt_1120 : (Cond.code ({ cls := "StreamFuser", name := "elementError", desc := "(III)I" } : MethodName) prog_1_method_28_code (4 : Nat) (Option.some FieldType.int)) ∈ sf_T := sf_T_of 1120 (by decide +kernel) rfl
theorem wt_1121 : (Cond.methodLinkNest "StreamFuser" (304 : Nat) ({ cls := "StreamFuser$Sheets", name := "hasElement", desc := "(II)Z" } : MethodName) "StreamFuser") ∈ sf_N := sf_N_of 1121 (by decide +kernel) rfl
theorem wt_1123 : (Cond.instanceMethod ({ cls := "StreamFuser$Sheets", name := "hasElement", desc := "(II)Z" } : MethodName)) ∈ sf_T := sf_T_of 1123 (by decide +kernel) rfl
theorem wt_1124 : (Cond.code ({ cls := "StreamFuser$Sheets", name := "hasElement", desc := "(II)Z" } : MethodName) prog_9_method_3_code (3 : Nat) (Option.some FieldType.boolean)) ∈ sf_T := sf_T_of 1124 (by decide +kernel) rfl
theorem wt_1125 : (Cond.methodLinkNest "StreamFuser" (230 : Nat) ({ cls := "StreamFuser$Sheets", name := "store", desc := "(III)V" } : MethodName) "StreamFuser") ∈ sf_N := sf_N_of 1125 (by decide +kernel) rfl
theorem wt_1127 : (Cond.instanceMethod ({ cls := "StreamFuser$Sheets", name := "store", desc := "(III)V" } : MethodName)) ∈ sf_T := sf_T_of 1127 (by decide +kernel) rfl
theorem wt_1128 : (Cond.code ({ cls := "StreamFuser$Sheets", name := "store", desc := "(III)V" } : MethodName) prog_9_method_6_code (4 : Nat) (Option.none : Option FieldType)) ∈ sf_T := sf_T_of 1128 (by decide +kernel) rfl
theorem wt_1129 : (Cond.methodLink "StreamFuser$Sheets" (21 : Nat) ({ cls := "StreamFuser$Sheets", name := "hasElement", desc := "(II)Z" } : MethodName)) ∈ sf_T := sf_T_of 1129 (by decide +kernel) rfl
theorem wt_1130 : (Cond.methodLink "StreamFuser$Sheets" (25 : Nat) ({ cls := "StreamFuser$Sheets", name := "cast", desc := "(II)I" } : MethodName)) ∈ sf_T := sf_T_of 1130 (by decide +kernel) rfl
theorem wt_1131 : (Cond.static ({ cls := "StreamFuser$Sheets", name := "cast", desc := "(II)I" } : MethodName)) ∈ sf_T := sf_T_of 1131 (by decide +kernel) rfl
theorem wt_1132 : (Cond.code ({ cls := "StreamFuser$Sheets", name := "cast", desc := "(II)I" } : MethodName) prog_9_method_7_code (2 : Nat) (Option.some FieldType.int)) ∈ sf_T := sf_T_of 1132 (by decide +kernel) rfl
theorem wt_1133 : (Cond.methodLink "StreamFuserLaw" (92 : Nat) ({ cls := "StreamFuser", name := "get", desc := "(III)I" } : MethodName)) ∈ sf_T := sf_T_of 1133 (by decide +kernel) rfl
theorem wt_1134 : (Cond.instanceMethod ({ cls := "StreamFuser", name := "get", desc := "(III)I" } : MethodName)) ∈ sf_T := sf_T_of 1134 (by decide +kernel) rfl
theorem wt_1135 : (Cond.selects "StreamFuser" ({ cls := "StreamFuser", name := "get", desc := "(III)I" } : MethodName) ({ cls := "StreamFuser", name := "get", desc := "(III)I" } : MethodName)) ∈ sf_T := sf_T_of 1135 (by decide +kernel) rfl
theorem wt_1136 : (Cond.code ({ cls := "StreamFuser", name := "get", desc := "(III)I" } : MethodName) prog_1_method_20_code (5 : Nat) (Option.some FieldType.int)) ∈ sf_T := sf_T_of 1136 (by decide +kernel) rfl
theorem wt_1137 : (Cond.methodLinkNest "StreamFuser" (233 : Nat) ({ cls := "StreamFuser$Sheets", name := "at", desc := "(II)I" } : MethodName) "StreamFuser") ∈ sf_N := sf_N_of 1137 (by decide +kernel) rfl
theorem wt_1138 : (Cond.methodLink "StreamFuserLaw" (96 : Nat) ({ cls := "StreamFuser", name := "copy", desc := "(IIIII)I" } : MethodName)) ∈ sf_T := sf_T_of 1138 (by decide +kernel) rfl
theorem wt_1139 : (Cond.instanceMethod ({ cls := "StreamFuser", name := "copy", desc := "(IIIII)I" } : MethodName)) ∈ sf_T := sf_T_of 1139 (by decide +kernel) rfl
theorem wt_1140 : (Cond.selects "StreamFuser" ({ cls := "StreamFuser", name := "copy", desc := "(IIIII)I" } : MethodName) ({ cls := "StreamFuser", name := "copy", desc := "(IIIII)I" } : MethodName)) ∈ sf_T := sf_T_of 1140 (by decide +kernel) rfl
theorem wt_1141 : (Cond.code ({ cls := "StreamFuser", name := "copy", desc := "(IIIII)I" } : MethodName) prog_1_method_21_code (6 : Nat) (Option.some FieldType.int)) ∈ sf_T := sf_T_of 1141 (by decide +kernel) rfl
theorem wt_1142 : (Cond.methodLinkNest "StreamFuser" (240 : Nat) ({ cls := "StreamFuser$Sheets", name := "hasPart", desc := "(III)Z" } : MethodName) "StreamFuser") ∈ sf_N := sf_N_of 1142 (by decide +kernel) rfl
theorem wt_1144 : (Cond.instanceMethod ({ cls := "StreamFuser$Sheets", name := "hasPart", desc := "(III)Z" } : MethodName)) ∈ sf_T := sf_T_of 1144 (by decide +kernel) rfl
theorem wt_1145 : (Cond.code ({ cls := "StreamFuser$Sheets", name := "hasPart", desc := "(III)Z" } : MethodName) prog_9_method_4_code (4 : Nat) (Option.some FieldType.boolean)) ∈ sf_T := sf_T_of 1145 (by decide +kernel) rfl
theorem wt_1146 : (Cond.methodLinkNest "StreamFuser" (244 : Nat) ({ cls := "StreamFuser$Sheets", name := "move", desc := "(IIIII)V" } : MethodName) "StreamFuser") ∈ sf_N := sf_N_of 1146 (by decide +kernel) rfl
theorem wt_1148 : (Cond.instanceMethod ({ cls := "StreamFuser$Sheets", name := "move", desc := "(IIIII)V" } : MethodName)) ∈ sf_T := sf_T_of 1148 (by decide +kernel) rfl
theorem wt_1149 : (Cond.code ({ cls := "StreamFuser$Sheets", name := "move", desc := "(IIIII)V" } : MethodName) prog_9_method_9_code (6 : Nat) (Option.none : Option FieldType)) ∈ sf_T := sf_T_of 1149 (by decide +kernel) rfl
theorem wt_1150 : (Cond.methodLink "StreamFuser$Sheets" (29 : Nat) ({ cls := "StreamFuser$Sheets", name := "hasPart", desc := "(III)Z" } : MethodName)) ∈ sf_T := sf_T_of 1150 (by decide +kernel) rfl
theorem wt_1151 : (Cond.methodLink "StreamFuser$Sheets" (33 : Nat) ({ cls := "java/lang/System", name := "arraycopy", desc := "(Ljava/lang/Object;ILjava/lang/Object;II)V" } : MethodName)) ∈ sf_T := sf_T_of 1151 (by decide +kernel) rfl
theorem wt_1152 : (Cond.methodLink "StreamFuserLaw" (101 : Nat) ({ cls := "StreamFuser", name := "write", desc := "(I)I" } : MethodName)) ∈ sf_T := sf_T_of 1152 (by decide +kernel) rfl
theorem wt_1153 : (Cond.instanceMethod ({ cls := "StreamFuser", name := "write", desc := "(I)I" } : MethodName)) ∈ sf_T := sf_T_of 1153 (by decide +kernel) rfl
theorem wt_1154 : (Cond.selects "StreamFuser" ({ cls := "StreamFuser", name := "write", desc := "(I)I" } : MethodName) ({ cls := "StreamFuser", name := "write", desc := "(I)I" } : MethodName)) ∈ sf_T := sf_T_of 1154 (by decide +kernel) rfl
theorem wt_1155 : (Cond.code ({ cls := "StreamFuser", name := "write", desc := "(I)I" } : MethodName) prog_1_method_22_code (4 : Nat) (Option.some FieldType.int)) ∈ sf_T := sf_T_of 1155 (by decide +kernel) rfl
theorem wt_1156 : (Cond.methodLink "StreamFuser" (248 : Nat) ({ cls := "java/lang/Math", name := "min", desc := "(II)I" } : MethodName)) ∈ sf_T := sf_T_of 1156 (by decide +kernel) rfl
theorem wt_1157 : (Cond.methodLink "StreamFuserLaw" (105 : Nat) ({ cls := "StreamFuser", name := "count", desc := "(I)I" } : MethodName)) ∈ sf_T := sf_T_of 1157 (by decide +kernel) rfl
theorem wt_1158 : (Cond.instanceMethod ({ cls := "StreamFuser", name := "count", desc := "(I)I" } : MethodName)) ∈ sf_T := sf_T_of 1158 (by decide +kernel) rfl
theorem wt_1159 : (Cond.selects "StreamFuser" ({ cls := "StreamFuser", name := "count", desc := "(I)I" } : MethodName) ({ cls := "StreamFuser", name := "count", desc := "(I)I" } : MethodName)) ∈ sf_T := sf_T_of 1159 (by decide +kernel) rfl
theorem wt_1160 : (Cond.code ({ cls := "StreamFuser", name := "count", desc := "(I)I" } : MethodName) prog_1_method_23_code (2 : Nat) (Option.some FieldType.int)) ∈ sf_T := sf_T_of 1160 (by decide +kernel) rfl
theorem wt_1161 : (Cond.methodLink "StreamFuserLaw" (109 : Nat) ({ cls := "StreamFuser", name := "digest", desc := "()J" } : MethodName)) ∈ sf_T := sf_T_of 1161 (by decide +kernel) rfl
theorem wt_1162 : (Cond.instanceMethod ({ cls := "StreamFuser", name := "digest", desc := "()J" } : MethodName)) ∈ sf_T := sf_T_of 1162 (by decide +kernel) rfl
theorem wt_1163 : (Cond.selects "StreamFuser" ({ cls := "StreamFuser", name := "digest", desc := "()J" } : MethodName) ({ cls := "StreamFuser", name := "digest", desc := "()J" } : MethodName)) ∈ sf_T := sf_T_of 1163 (by decide +kernel) rfl
theorem wt_1164 : (Cond.code ({ cls := "StreamFuser", name := "digest", desc := "()J" } : MethodName) prog_1_method_24_code (4 : Nat) (Option.some FieldType.long)) ∈ sf_T := sf_T_of 1164 (by decide +kernel) rfl
theorem wt_1165 : (Cond.constantLong "StreamFuser" (259 : Nat) (17 : Int64)) ∈ sf_T := sf_T_of 1165 (by decide +kernel) rfl
theorem wt_1166 : (Cond.constantLong "StreamFuser" (261 : Nat) (31 : Int64)) ∈ sf_T := sf_T_of 1166 (by decide +kernel) rfl
theorem wt_1167 : (Cond.methodLink "StreamFuser" (263 : Nat) ({ cls := "StreamFuser", name := "count", desc := "(I)I" } : MethodName)) ∈ sf_T := sf_T_of 1167 (by decide +kernel) rfl
theorem wt_1168 : (Cond.methodLink "StreamFuser" (266 : Nat) ({ cls := "StreamFuser", name := "fault", desc := "()I" } : MethodName)) ∈ sf_T := sf_T_of 1168 (by decide +kernel) rfl
theorem wt_1169 : (Cond.methodLink "StreamFuser" (269 : Nat) ({ cls := "StreamFuser", name := "mixPlan", desc := "(J)J" } : MethodName)) ∈ sf_T := sf_T_of 1169 (by decide +kernel) rfl
theorem wt_1171 : (Cond.instanceMethod ({ cls := "StreamFuser", name := "mixPlan", desc := "(J)J" } : MethodName)) ∈ sf_T := sf_T_of 1171 (by decide +kernel) rfl
theorem wt_1172 : (Cond.code ({ cls := "StreamFuser", name := "mixPlan", desc := "(J)J" } : MethodName) prog_1_method_25_code (7 : Nat) (Option.some FieldType.long)) ∈ sf_T := sf_T_of 1172 (by decide +kernel) rfl
theorem wt_1173 : (Cond.methodLink "StreamFuser" (282 : Nat) ({ cls := "StreamFuser", name := "node", desc := "(II)I" } : MethodName)) ∈ sf_T := sf_T_of 1173 (by decide +kernel) rfl
theorem wt_1174 : (Cond.methodLink "StreamFuser" (285 : Nat) ({ cls := "StreamFuser", name := "text", desc := "(I)I" } : MethodName)) ∈ sf_T := sf_T_of 1174 (by decide +kernel) rfl
theorem wt_1175 : (Cond.methodLink "StreamFuser" (273 : Nat) ({ cls := "StreamFuser", name := "rules", desc := "(I)I" } : MethodName)) ∈ sf_T := sf_T_of 1175 (by decide +kernel) rfl
theorem wt_1176 : (Cond.methodLink "StreamFuser" (276 : Nat) ({ cls := "StreamFuser", name := "mixRun", desc := "(J)J" } : MethodName)) ∈ sf_T := sf_T_of 1176 (by decide +kernel) rfl
theorem wt_1178 : (Cond.instanceMethod ({ cls := "StreamFuser", name := "mixRun", desc := "(J)J" } : MethodName)) ∈ sf_T := sf_T_of 1178 (by decide +kernel) rfl
theorem wt_1179 : (Cond.code ({ cls := "StreamFuser", name := "mixRun", desc := "(J)J" } : MethodName) prog_1_method_26_code (7 : Nat) (Option.some FieldType.long)) ∈ sf_T := sf_T_of 1179 (by decide +kernel) rfl
theorem wt_1180 : (Cond.methodLink "StreamFuser" (288 : Nat) ({ cls := "StreamFuser", name := "result", desc := "(I)J" } : MethodName)) ∈ sf_T := sf_T_of 1180 (by decide +kernel) rfl
theorem wt_1181 : (Cond.methodLink "StreamFuser" (292 : Nat) ({ cls := "StreamFuser", name := "fold", desc := "(I)J" } : MethodName)) ∈ sf_T := sf_T_of 1181 (by decide +kernel) rfl
theorem wt_1182 : (Cond.methodLink "StreamFuser" (295 : Nat) ({ cls := "StreamFuser", name := "failure", desc := "(I)I" } : MethodName)) ∈ sf_T := sf_T_of 1182 (by decide +kernel) rfl
theorem wt_1183 : (Cond.methodLink "StreamFuser" (297 : Nat) ({ cls := "StreamFuser", name := "told", desc := "(I)I" } : MethodName)) ∈ sf_T := sf_T_of 1183 (by decide +kernel) rfl
theorem wt_1184 : (Cond.methodLink "StreamFuser" (300 : Nat) ({ cls := "StreamFuser", name := "written", desc := "(II)J" } : MethodName)) ∈ sf_T := sf_T_of 1184 (by decide +kernel) rfl
theorem wt_1185 : (Cond.methodLink "StreamFuser" (279 : Nat) ({ cls := "StreamFuser", name := "saves", desc := "(I)I" } : MethodName)) ∈ sf_T := sf_T_of 1185 (by decide +kernel) rfl
theorem wt_1188 : (Cond.methodLink "StreamFuserLaw" (12 : Nat) ({ cls := "StreamFuserModel", name := "<init>", desc := "()V" } : MethodName)) ∈ sf_T := sf_T_of 1188 (by decide +kernel) rfl
theorem wt_1189 : (Cond.instanceMethod ({ cls := "StreamFuserModel", name := "<init>", desc := "()V" } : MethodName)) ∈ sf_T := sf_T_of 1189 (by decide +kernel) rfl
theorem wt_1191 : (Cond.methodLink "StreamFuserModel" (1 : Nat) ({ cls := "java/lang/Object", name := "<init>", desc := "()V" } : MethodName)) ∈ sf_T := sf_T_of 1191 (by decide +kernel) rfl
theorem wt_1192 : (Cond.fieldLink "StreamFuserModel" (7 : Nat) "StreamFuserModel" "forms" "[I") ∈ sf_T := sf_T_of 1192 (by decide +kernel) rfl
theorem wt_1193 : (Cond.fieldLink "StreamFuserModel" (13 : Nat) "StreamFuserModel" "sizes" "[I") ∈ sf_T := sf_T_of 1193 (by decide +kernel) rfl
theorem wt_1194 : (Cond.fieldLink "StreamFuserModel" (16 : Nat) "StreamFuserModel" "items" "[I") ∈ sf_T := sf_T_of 1194 (by decide +kernel) rfl
theorem wt_1195 : (Cond.fieldLink "StreamFuserModel" (19 : Nat) "StreamFuserModel" "moved" "[I") ∈ sf_T := sf_T_of 1195 (by decide +kernel) rfl
theorem wt_1196 : (Cond.fieldLink "StreamFuserModel" (126 : Nat) "StreamFuserModel" "latest" "I") ∈ sf_T := sf_T_of 1196 (by decide +kernel) rfl
theorem wt_1197 : (Cond.fieldLink "StreamFuserModel" (22 : Nat) "StreamFuserModel" "text" "[I") ∈ sf_T := sf_T_of 1197 (by decide +kernel) rfl
theorem wt_1198 : (Cond.fieldLink "StreamFuserModel" (157 : Nat) "StreamFuserModel" "typed" "I") ∈ sf_T := sf_T_of 1198 (by decide +kernel) rfl
theorem wt_1199 : (Cond.fieldLink "StreamFuserModel" (25 : Nat) "StreamFuserModel" "wants" "[I") ∈ sf_T := sf_T_of 1199 (by decide +kernel) rfl
theorem wt_1200 : (Cond.fieldLink "StreamFuserModel" (160 : Nat) "StreamFuserModel" "wanted" "I") ∈ sf_T := sf_T_of 1200 (by decide +kernel) rfl
theorem wt_1201 : (Cond.fieldLink "StreamFuserModel" (180 : Nat) "StreamFuserModel" "figures" "I") ∈ sf_T := sf_T_of 1201 (by decide +kernel) rfl
theorem wt_1202 : (Cond.fieldLink "StreamFuserModel" (187 : Nat) "StreamFuserModel" "number" "I") ∈ sf_T := sf_T_of 1202 (by decide +kernel) rfl
theorem wt_1203 : (Cond.fieldLink "StreamFuserModel" (183 : Nat) "StreamFuserModel" "below" "Z") ∈ sf_T := sf_T_of 1203 (by decide +kernel) rfl
theorem wt_1204 : (Cond.fieldLink "StreamFuserModel" (28 : Nat) "StreamFuserModel" "readLetters" "[I") ∈ sf_T := sf_T_of 1204 (by decide +kernel) rfl
theorem wt_1205 : (Cond.fieldLink "StreamFuserModel" (31 : Nat) "StreamFuserModel" "readSigns" "[I") ∈ sf_T := sf_T_of 1205 (by decide +kernel) rfl
theorem wt_1206 : (Cond.fieldLink "StreamFuserModel" (34 : Nat) "StreamFuserModel" "readFirsts" "[I") ∈ sf_T := sf_T_of 1206 (by decide +kernel) rfl
theorem wt_1207 : (Cond.fieldLink "StreamFuserModel" (37 : Nat) "StreamFuserModel" "readSeconds" "[I") ∈ sf_T := sf_T_of 1207 (by decide +kernel) rfl
theorem wt_1208 : (Cond.fieldLink "StreamFuserModel" (169 : Nat) "StreamFuserModel" "read" "I") ∈ sf_T := sf_T_of 1208 (by decide +kernel) rfl
theorem wt_1209 : (Cond.fieldLink "StreamFuserModel" (40 : Nat) "StreamFuserModel" "letters" "[I") ∈ sf_T := sf_T_of 1209 (by decide +kernel) rfl
theorem wt_1210 : (Cond.fieldLink "StreamFuserModel" (43 : Nat) "StreamFuserModel" "signs" "[I") ∈ sf_T := sf_T_of 1210 (by decide +kernel) rfl
theorem wt_1211 : (Cond.fieldLink "StreamFuserModel" (46 : Nat) "StreamFuserModel" "firsts" "[I") ∈ sf_T := sf_T_of 1211 (by decide +kernel) rfl
theorem wt_1212 : (Cond.fieldLink "StreamFuserModel" (49 : Nat) "StreamFuserModel" "seconds" "[I") ∈ sf_T := sf_T_of 1212 (by decide +kernel) rfl
theorem wt_1213 : (Cond.fieldLink "StreamFuserModel" (206 : Nat) "StreamFuserModel" "nodes" "I") ∈ sf_T := sf_T_of 1213 (by decide +kernel) rfl
theorem wt_1214 : (Cond.fieldLink "StreamFuserModel" (52 : Nat) "StreamFuserModel" "sizes2" "[I") ∈ sf_T := sf_T_of 1214 (by decide +kernel) rfl
theorem wt_1215 : (Cond.fieldLink "StreamFuserModel" (55 : Nat) "StreamFuserModel" "ps" "[I") ∈ sf_T := sf_T_of 1215 (by decide +kernel) rfl
theorem wt_1216 : (Cond.fieldLink "StreamFuserModel" (58 : Nat) "StreamFuserModel" "qs" "[I") ∈ sf_T := sf_T_of 1216 (by decide +kernel) rfl
theorem wt_1217 : (Cond.fieldLink "StreamFuserModel" (61 : Nat) "StreamFuserModel" "deeps" "[I") ∈ sf_T := sf_T_of 1217 (by decide +kernel) rfl
theorem wt_1218 : (Cond.fieldLink "StreamFuserModel" (64 : Nat) "StreamFuserModel" "opens" "[I") ∈ sf_T := sf_T_of 1218 (by decide +kernel) rfl
theorem wt_1219 : (Cond.fieldLink "StreamFuserModel" (67 : Nat) "StreamFuserModel" "binders" "[I") ∈ sf_T := sf_T_of 1219 (by decide +kernel) rfl
theorem wt_1220 : (Cond.fieldLink "StreamFuserModel" (70 : Nat) "StreamFuserModel" "told" "[I") ∈ sf_T := sf_T_of 1220 (by decide +kernel) rfl
theorem wt_1221 : (Cond.fieldLink "StreamFuserModel" (224 : Nat) "StreamFuserModel" "bytes" "I") ∈ sf_T := sf_T_of 1221 (by decide +kernel) rfl
theorem wt_1222 : (Cond.fieldLink "StreamFuserModel" (73 : Nat) "StreamFuserModel" "used" "[I") ∈ sf_T := sf_T_of 1222 (by decide +kernel) rfl
theorem wt_1223 : (Cond.fieldLink "StreamFuserModel" (76 : Nat) "StreamFuserModel" "latestUsed" "[I") ∈ sf_T := sf_T_of 1223 (by decide +kernel) rfl
theorem wt_1224 : (Cond.fieldLink "StreamFuserModel" (289 : Nat) "StreamFuserModel" "usedAll" "I") ∈ sf_T := sf_T_of 1224 (by decide +kernel) rfl
theorem wt_1225 : (Cond.fieldLink "StreamFuserModel" (79 : Nat) "StreamFuserModel" "kept" "[I") ∈ sf_T := sf_T_of 1225 (by decide +kernel) rfl
theorem wt_1226 : (Cond.fieldLink "StreamFuserModel" (82 : Nat) "StreamFuserModel" "held" "[I") ∈ sf_T := sf_T_of 1226 (by decide +kernel) rfl
theorem wt_1227 : (Cond.fieldLink "StreamFuserModel" (294 : Nat) "StreamFuserModel" "failure" "I") ∈ sf_T := sf_T_of 1227 (by decide +kernel) rfl
theorem wt_1228 : (Cond.fieldLink "StreamFuserModel" (297 : Nat) "StreamFuserModel" "depth" "I") ∈ sf_T := sf_T_of 1228 (by decide +kernel) rfl
theorem wt_1229 : (Cond.fieldLink "StreamFuserModel" (303 : Nat) "StreamFuserModel" "drawn" "I") ∈ sf_T := sf_T_of 1229 (by decide +kernel) rfl
theorem wt_1230 : (Cond.fieldLink "StreamFuserModel" (325 : Nat) "StreamFuserModel" "counted" "I") ∈ sf_T := sf_T_of 1230 (by decide +kernel) rfl
theorem wt_1231 : (Cond.fieldLink "StreamFuserModel" (385 : Nat) "StreamFuserModel" "cells" "I") ∈ sf_T := sf_T_of 1231 (by decide +kernel) rfl
theorem wt_1232 : (Cond.fieldLink "StreamFuserModel" (85 : Nat) "StreamFuserModel" "results" "[I") ∈ sf_T := sf_T_of 1232 (by decide +kernel) rfl
theorem wt_1233 : (Cond.fieldLink "StreamFuserModel" (388 : Nat) "StreamFuserModel" "got" "I") ∈ sf_T := sf_T_of 1233 (by decide +kernel) rfl
theorem wt_1234 : (Cond.fieldLink "StreamFuserModel" (88 : Nat) "StreamFuserModel" "figuresDown" "[I") ∈ sf_T := sf_T_of 1234 (by decide +kernel) rfl
theorem wt_1235 : (Cond.fieldLink "StreamFuserModel" (91 : Nat) "StreamFuserModel" "numbersDown" "[I") ∈ sf_T := sf_T_of 1235 (by decide +kernel) rfl
theorem wt_1236 : (Cond.fieldLink "StreamFuserModel" (300 : Nat) "StreamFuserModel" "down" "I") ∈ sf_T := sf_T_of 1236 (by decide +kernel) rfl
theorem wt_1237 : (Cond.fieldLink "StreamFuserModel" (309 : Nat) "StreamFuserModel" "has" "Z") ∈ sf_T := sf_T_of 1237 (by decide +kernel) rfl
theorem wt_1238 : (Cond.fieldLink "StreamFuserModel" (312 : Nat) "StreamFuserModel" "value" "I") ∈ sf_T := sf_T_of 1238 (by decide +kernel) rfl
theorem wt_1239 : (Cond.fieldLink "StreamFuserModel" (94 : Nat) "StreamFuserModel" "pile" "[I") ∈ sf_T := sf_T_of 1239 (by decide +kernel) rfl
theorem wt_1240 : (Cond.fieldLink "StreamFuserModel" (349 : Nat) "StreamFuserModel" "high" "I") ∈ sf_T := sf_T_of 1240 (by decide +kernel) rfl
theorem wt_1241 : (Cond.fieldLink "StreamFuserModel" (97 : Nat) "StreamFuserModel" "rows" "[I") ∈ sf_T := sf_T_of 1241 (by decide +kernel) rfl
theorem wt_1242 : (Cond.fieldLink "StreamFuserModel" (100 : Nat) "StreamFuserModel" "longs" "[I") ∈ sf_T := sf_T_of 1242 (by decide +kernel) rfl
theorem wt_1243 : (Cond.fieldLink "StreamFuserModel" (103 : Nat) "StreamFuserModel" "phases" "[I") ∈ sf_T := sf_T_of 1243 (by decide +kernel) rfl
theorem wt_1244 : (Cond.fieldLink "StreamFuserModel" (106 : Nat) "StreamFuserModel" "at" "[I") ∈ sf_T := sf_T_of 1244 (by decide +kernel) rfl
theorem wt_1245 : (Cond.fieldLink "StreamFuserModel" (109 : Nat) "StreamFuserModel" "latestTold" "[I") ∈ sf_T := sf_T_of 1245 (by decide +kernel) rfl
theorem wt_1246 : (Cond.fieldLink "StreamFuserModel" (112 : Nat) "StreamFuserModel" "latestResults" "[I") ∈ sf_T := sf_T_of 1246 (by decide +kernel) rfl
theorem wt_1247 : (Cond.fieldLink "StreamFuserModel" (408 : Nat) "StreamFuserModel" "latestGot" "I") ∈ sf_T := sf_T_of 1247 (by decide +kernel) rfl
theorem wt_1248 : (Cond.fieldLink "StreamFuserModel" (115 : Nat) "StreamFuserModel" "latestFigures" "[I") ∈ sf_T := sf_T_of 1248 (by decide +kernel) rfl
theorem wt_1249 : (Cond.fieldLink "StreamFuserModel" (118 : Nat) "StreamFuserModel" "latestNumbers" "[I") ∈ sf_T := sf_T_of 1249 (by decide +kernel) rfl
theorem wt_1250 : (Cond.fieldLink "StreamFuserModel" (121 : Nat) "StreamFuserModel" "asideNodes" "[I") ∈ sf_T := sf_T_of 1250 (by decide +kernel) rfl
theorem wt_1370 : (Cond.methodLink "StreamFuserLaw" (82 : Nat) ({ cls := "StreamFuserModel", name := "sheet", desc := "(III)I" } : MethodName)) ∈ sf_T := sf_T_of 1370 (by decide +kernel) rfl
theorem wt_1371 : (Cond.instanceMethod ({ cls := "StreamFuserModel", name := "sheet", desc := "(III)I" } : MethodName)) ∈ sf_T := sf_T_of 1371 (by decide +kernel) rfl
theorem wt_1372 : (Cond.selects "StreamFuserModel" ({ cls := "StreamFuserModel", name := "sheet", desc := "(III)I" } : MethodName) ({ cls := "StreamFuserModel", name := "sheet", desc := "(III)I" } : MethodName)) ∈ sf_T := sf_T_of 1372 (by decide +kernel) rfl
theorem wt_1373 : (Cond.code ({ cls := "StreamFuserModel", name := "sheet", desc := "(III)I" } : MethodName) prog_14_method_9_code (5 : Nat) (Option.some FieldType.int)) ∈ sf_T := sf_T_of 1373 (by decide +kernel) rfl
theorem wt_1374 : (Cond.methodLink "StreamFuserModel" (136 : Nat) ({ cls := "StreamFuserModel", name := "isSheet", desc := "(I)Z" } : MethodName)) ∈ sf_T := sf_T_of 1374 (by decide +kernel) rfl
theorem wt_1375 : (Cond.static ({ cls := "StreamFuserModel", name := "isSheet", desc := "(I)Z" } : MethodName)) ∈ sf_T := sf_T_of 1375 (by decide +kernel) rfl
theorem wt_1376 : (Cond.code ({ cls := "StreamFuserModel", name := "isSheet", desc := "(I)Z" } : MethodName) prog_14_method_8_code (1 : Nat) (Option.some FieldType.boolean)) ∈ sf_T := sf_T_of 1376 (by decide +kernel) rfl
theorem wt_1377 : (Cond.constantLong "StreamFuserModel" (130 : Nat) (3 : Int64)) ∈ sf_T := sf_T_of 1377 (by decide +kernel) rfl
theorem wt_1378 : (Cond.methodLink "StreamFuserModel" (132 : Nat) ({ cls := "StreamFuserModel", name := "in", desc := "(JJJ)Z" } : MethodName)) ∈ sf_T := sf_T_of 1378 (by decide +kernel) rfl
theorem wt_1379 : (Cond.static ({ cls := "StreamFuserModel", name := "in", desc := "(JJJ)Z" } : MethodName)) ∈ sf_T := sf_T_of 1379 (by decide +kernel) rfl
theorem wt_1380 : (Cond.code ({ cls := "StreamFuserModel", name := "in", desc := "(JJJ)Z" } : MethodName) prog_14_method_3_code (6 : Nat) (Option.some FieldType.boolean)) ∈ sf_T := sf_T_of 1380 (by decide +kernel) rfl
theorem wt_1381 : (Cond.constantLong "StreamFuserModel" (140 : Nat) (2 : Int64)) ∈ sf_T := sf_T_of 1381 (by decide +kernel) rfl
theorem wt_1382 : (Cond.methodLink "StreamFuserModel" (142 : Nat) ({ cls := "StreamFuserModel", name := "finds", desc := "(I)I" } : MethodName)) ∈ sf_T := sf_T_of 1382 (by decide +kernel) rfl
theorem wt_1384 : (Cond.instanceMethod ({ cls := "StreamFuserModel", name := "finds", desc := "(I)I" } : MethodName)) ∈ sf_T := sf_T_of 1384 (by decide +kernel) rfl
theorem wt_1385 : (Cond.code ({ cls := "StreamFuserModel", name := "finds", desc := "(I)I" } : MethodName) prog_14_method_7_code (2 : Nat) (Option.some FieldType.int)) ∈ sf_T := sf_T_of 1385 (by decide +kernel) rfl
theorem wt_1386 : (Cond.methodLink "StreamFuserLaw" (86 : Nat) ({ cls := "StreamFuserModel", name := "lose", desc := "(I)I" } : MethodName)) ∈ sf_T := sf_T_of 1386 (by decide +kernel) rfl
theorem wt_1387 : (Cond.instanceMethod ({ cls := "StreamFuserModel", name := "lose", desc := "(I)I" } : MethodName)) ∈ sf_T := sf_T_of 1387 (by decide +kernel) rfl
theorem wt_1388 : (Cond.selects "StreamFuserModel" ({ cls := "StreamFuserModel", name := "lose", desc := "(I)I" } : MethodName) ({ cls := "StreamFuserModel", name := "lose", desc := "(I)I" } : MethodName)) ∈ sf_T := sf_T_of 1388 (by decide +kernel) rfl
theorem wt_1389 : (Cond.code ({ cls := "StreamFuserModel", name := "lose", desc := "(I)I" } : MethodName) prog_14_method_10_code (2 : Nat) (Option.some FieldType.int)) ∈ sf_T := sf_T_of 1389 (by decide +kernel) rfl
theorem wt_1390 : (Cond.methodLink "StreamFuserLaw" (91 : Nat) ({ cls := "StreamFuserModel", name := "lay", desc := "(IIII)I" } : MethodName)) ∈ sf_T := sf_T_of 1390 (by decide +kernel) rfl
theorem wt_1391 : (Cond.instanceMethod ({ cls := "StreamFuserModel", name := "lay", desc := "(IIII)I" } : MethodName)) ∈ sf_T := sf_T_of 1391 (by decide +kernel) rfl
theorem wt_1392 : (Cond.selects "StreamFuserModel" ({ cls := "StreamFuserModel", name := "lay", desc := "(IIII)I" } : MethodName) ({ cls := "StreamFuserModel", name := "lay", desc := "(IIII)I" } : MethodName)) ∈ sf_T := sf_T_of 1392 (by decide +kernel) rfl
theorem wt_1393 : (Cond.code ({ cls := "StreamFuserModel", name := "lay", desc := "(IIII)I" } : MethodName) prog_14_method_13_code (6 : Nat) (Option.some FieldType.int)) ∈ sf_T := sf_T_of 1393 (by decide +kernel) rfl
theorem wt_1394 : (Cond.methodLink "StreamFuserModel" (146 : Nat) ({ cls := "StreamFuserModel", name := "lacks", desc := "(III)I" } : MethodName)) ∈ sf_T := sf_T_of 1394 (by decide +kernel) rfl
theorem wt_1396 : (Cond.instanceMethod ({ cls := "StreamFuserModel", name := "lacks", desc := "(III)I" } : MethodName)) ∈ sf_T := sf_T_of 1396 (by decide +kernel) rfl
theorem wt_1397 : (Cond.code ({ cls := "StreamFuserModel", name := "lacks", desc := "(III)I" } : MethodName) prog_14_method_11_code (4 : Nat) (Option.some FieldType.int)) ∈ sf_T := sf_T_of 1397 (by decide +kernel) rfl
theorem wt_1398 : (Cond.methodLink "StreamFuserModel" (150 : Nat) ({ cls := "StreamFuserModel", name := "cut", desc := "(II)I" } : MethodName)) ∈ sf_T := sf_T_of 1398 (by decide +kernel) rfl
theorem wt_1399 : (Cond.static ({ cls := "StreamFuserModel", name := "cut", desc := "(II)I" } : MethodName)) ∈ sf_T := sf_T_of 1399 (by decide +kernel) rfl
theorem wt_1400 : (Cond.code ({ cls := "StreamFuserModel", name := "cut", desc := "(II)I" } : MethodName) prog_14_method_12_code (2 : Nat) (Option.some FieldType.int)) ∈ sf_T := sf_T_of 1400 (by decide +kernel) rfl
theorem wt_1401 : (Cond.methodLink "StreamFuserLaw" (95 : Nat) ({ cls := "StreamFuserModel", name := "get", desc := "(III)I" } : MethodName)) ∈ sf_T := sf_T_of 1401 (by decide +kernel) rfl
theorem wt_1402 : (Cond.instanceMethod ({ cls := "StreamFuserModel", name := "get", desc := "(III)I" } : MethodName)) ∈ sf_T := sf_T_of 1402 (by decide +kernel) rfl
theorem wt_1403 : (Cond.selects "StreamFuserModel" ({ cls := "StreamFuserModel", name := "get", desc := "(III)I" } : MethodName) ({ cls := "StreamFuserModel", name := "get", desc := "(III)I" } : MethodName)) ∈ sf_T := sf_T_of 1403 (by decide +kernel) rfl
theorem wt_1404 : (Cond.code ({ cls := "StreamFuserModel", name := "get", desc := "(III)I" } : MethodName) prog_14_method_14_code (4 : Nat) (Option.some FieldType.int)) ∈ sf_T := sf_T_of 1404 (by decide +kernel) rfl
theorem wt_1405 : (Cond.constant "StreamFuserModel" (154 : Nat) (-2147483648 : Int32)) ∈ sf_T := sf_T_of 1405 (by decide +kernel) rfl
theorem wt_1406 : (Cond.methodLink "StreamFuserLaw" (100 : Nat) ({ cls := "StreamFuserModel", name := "copy", desc := "(IIIII)I" } : MethodName)) ∈ sf_T := sf_T_of 1406 (by decide +kernel) rfl
theorem wt_1407 : (Cond.instanceMethod ({ cls := "StreamFuserModel", name := "copy", desc := "(IIIII)I" } : MethodName)) ∈ sf_T := sf_T_of 1407 (by decide +kernel) rfl
theorem wt_1408 : (Cond.selects "StreamFuserModel" ({ cls := "StreamFuserModel", name := "copy", desc := "(IIIII)I" } : MethodName) ({ cls := "StreamFuserModel", name := "copy", desc := "(IIIII)I" } : MethodName)) ∈ sf_T := sf_T_of 1408 (by decide +kernel) rfl
theorem wt_1409 : (Cond.code ({ cls := "StreamFuserModel", name := "copy", desc := "(IIIII)I" } : MethodName) prog_14_method_15_code (7 : Nat) (Option.some FieldType.int)) ∈ sf_T := sf_T_of 1409 (by decide +kernel) rfl
theorem wt_1410 : (Cond.methodLink "StreamFuserLaw" (17 : Nat) ({ cls := "StreamFuserModel", name := "type", desc := "(I)I" } : MethodName)) ∈ sf_T := sf_T_of 1410 (by decide +kernel) rfl
theorem wt_1411 : (Cond.instanceMethod ({ cls := "StreamFuserModel", name := "type", desc := "(I)I" } : MethodName)) ∈ sf_T := sf_T_of 1411 (by decide +kernel) rfl
theorem wt_1412 : (Cond.selects "StreamFuserModel" ({ cls := "StreamFuserModel", name := "type", desc := "(I)I" } : MethodName) ({ cls := "StreamFuserModel", name := "type", desc := "(I)I" } : MethodName)) ∈ sf_T := sf_T_of 1412 (by decide +kernel) rfl
theorem wt_1413 : (Cond.code ({ cls := "StreamFuserModel", name := "type", desc := "(I)I" } : MethodName) prog_14_method_16_code (2 : Nat) (Option.some FieldType.int)) ∈ sf_T := sf_T_of 1413 (by decide +kernel) rfl
theorem wt_1414 : (Cond.constantLong "StreamFuserModel" (155 : Nat) (255 : Int64)) ∈ sf_T := sf_T_of 1414 (by decide +kernel) rfl
theorem wt_1415 : (Cond.methodLink "StreamFuserLaw" (22 : Nat) ({ cls := "StreamFuserModel", name := "wipe", desc := "()I" } : MethodName)) ∈ sf_T := sf_T_of 1415 (by decide +kernel) rfl
theorem wt_1416 : (Cond.instanceMethod ({ cls := "StreamFuserModel", name := "wipe", desc := "()I" } : MethodName)) ∈ sf_T := sf_T_of 1416 (by decide +kernel) rfl
theorem wt_1417 : (Cond.selects "StreamFuserModel" ({ cls := "StreamFuserModel", name := "wipe", desc := "()I" } : MethodName) ({ cls := "StreamFuserModel", name := "wipe", desc := "()I" } : MethodName)) ∈ sf_T := sf_T_of 1417 (by decide +kernel) rfl
theorem wt_1418 : (Cond.code ({ cls := "StreamFuserModel", name := "wipe", desc := "()I" } : MethodName) prog_14_method_17_code (2 : Nat) (Option.some FieldType.int)) ∈ sf_T := sf_T_of 1418 (by decide +kernel) rfl
theorem wt_1419 : (Cond.methodLink "StreamFuserLaw" (26 : Nat) ({ cls := "StreamFuserModel", name := "fault", desc := "()I" } : MethodName)) ∈ sf_T := sf_T_of 1419 (by decide +kernel) rfl
theorem wt_1420 : (Cond.instanceMethod ({ cls := "StreamFuserModel", name := "fault", desc := "()I" } : MethodName)) ∈ sf_T := sf_T_of 1420 (by decide +kernel) rfl
theorem wt_1421 : (Cond.selects "StreamFuserModel" ({ cls := "StreamFuserModel", name := "fault", desc := "()I" } : MethodName) ({ cls := "StreamFuserModel", name := "fault", desc := "()I" } : MethodName)) ∈ sf_T := sf_T_of 1421 (by decide +kernel) rfl
theorem wt_1422 : (Cond.code ({ cls := "StreamFuserModel", name := "fault", desc := "()I" } : MethodName) prog_14_method_25_code (1 : Nat) (Option.some FieldType.int)) ∈ sf_T := sf_T_of 1422 (by decide +kernel) rfl
theorem wt_1423 : (Cond.methodLink "StreamFuserModel" (202 : Nat) ({ cls := "StreamFuserModel", name := "faultNow", desc := "()I" } : MethodName)) ∈ sf_T := sf_T_of 1423 (by decide +kernel) rfl
theorem wt_1425 : (Cond.instanceMethod ({ cls := "StreamFuserModel", name := "faultNow", desc := "()I" } : MethodName)) ∈ sf_T := sf_T_of 1425 (by decide +kernel) rfl
theorem wt_1426 : (Cond.code ({ cls := "StreamFuserModel", name := "faultNow", desc := "()I" } : MethodName) prog_14_method_24_code (4 : Nat) (Option.some FieldType.int)) ∈ sf_T := sf_T_of 1426 (by decide +kernel) rfl
theorem wt_1427 : (Cond.methodLink "StreamFuserModel" (192 : Nat) ({ cls := "StreamFuserModel", name := "takesLetter", desc := "(II)Z" } : MethodName)) ∈ sf_T := sf_T_of 1427 (by decide +kernel) rfl
theorem wt_1429 : (Cond.instanceMethod ({ cls := "StreamFuserModel", name := "takesLetter", desc := "(II)Z" } : MethodName)) ∈ sf_T := sf_T_of 1429 (by decide +kernel) rfl
theorem wt_1430 : (Cond.code ({ cls := "StreamFuserModel", name := "takesLetter", desc := "(II)Z" } : MethodName) prog_14_method_21_code (3 : Nat) (Option.some FieldType.boolean)) ∈ sf_T := sf_T_of 1430 (by decide +kernel) rfl
theorem wt_1431 : (Cond.methodLink "StreamFuserModel" (163 : Nat) ({ cls := "StreamFuserModel", name := "partsOf", desc := "(I)I" } : MethodName)) ∈ sf_T := sf_T_of 1431 (by decide +kernel) rfl
theorem wt_1432 : (Cond.static ({ cls := "StreamFuserModel", name := "partsOf", desc := "(I)I" } : MethodName)) ∈ sf_T := sf_T_of 1432 (by decide +kernel) rfl
theorem wt_1433 : (Cond.code ({ cls := "StreamFuserModel", name := "partsOf", desc := "(I)I" } : MethodName) prog_14_method_18_code (1 : Nat) (Option.some FieldType.int)) ∈ sf_T := sf_T_of 1433 (by decide +kernel) rfl
theorem wt_1434 : (Cond.methodLink "StreamFuserModel" (172 : Nat) ({ cls := "StreamFuserModel", name := "wantsBehind", desc := "(II)V" } : MethodName)) ∈ sf_T := sf_T_of 1434 (by decide +kernel) rfl
theorem wt_1436 : (Cond.instanceMethod ({ cls := "StreamFuserModel", name := "wantsBehind", desc := "(II)V" } : MethodName)) ∈ sf_T := sf_T_of 1436 (by decide +kernel) rfl
theorem wt_1437 : (Cond.code ({ cls := "StreamFuserModel", name := "wantsBehind", desc := "(II)V" } : MethodName) prog_14_method_20_code (5 : Nat) (Option.none : Option FieldType)) ∈ sf_T := sf_T_of 1437 (by decide +kernel) rfl
theorem wt_1438 : (Cond.methodLink "StreamFuserModel" (166 : Nat) ({ cls := "StreamFuserModel", name := "wants", desc := "(I)V" } : MethodName)) ∈ sf_T := sf_T_of 1438 (by decide +kernel) rfl
theorem wt_1440 : (Cond.instanceMethod ({ cls := "StreamFuserModel", name := "wants", desc := "(I)V" } : MethodName)) ∈ sf_T := sf_T_of 1440 (by decide +kernel) rfl
theorem wt_1441 : (Cond.code ({ cls := "StreamFuserModel", name := "wants", desc := "(I)V" } : MethodName) prog_14_method_19_code (2 : Nat) (Option.none : Option FieldType)) ∈ sf_T := sf_T_of 1441 (by decide +kernel) rfl
theorem wt_1442 : (Cond.methodLink "StreamFuserModel" (196 : Nat) ({ cls := "StreamFuserModel", name := "takesNumber", desc := "(II)Z" } : MethodName)) ∈ sf_T := sf_T_of 1442 (by decide +kernel) rfl
theorem wt_1444 : (Cond.instanceMethod ({ cls := "StreamFuserModel", name := "takesNumber", desc := "(II)Z" } : MethodName)) ∈ sf_T := sf_T_of 1444 (by decide +kernel) rfl
theorem wt_1445 : (Cond.code ({ cls := "StreamFuserModel", name := "takesNumber", desc := "(II)Z" } : MethodName) prog_14_method_22_code (5 : Nat) (Option.some FieldType.boolean)) ∈ sf_T := sf_T_of 1445 (by decide +kernel) rfl
theorem wt_1446 : (Cond.constantLong "StreamFuserModel" (176 : Nat) (48 : Int64)) ∈ sf_T := sf_T_of 1446 (by decide +kernel) rfl
theorem wt_1447 : (Cond.constantLong "StreamFuserModel" (178 : Nat) (57 : Int64)) ∈ sf_T := sf_T_of 1447 (by decide +kernel) rfl
theorem wt_1448 : (Cond.methodLink "StreamFuserModel" (199 : Nat) ({ cls := "StreamFuserModel", name := "takesSign", desc := "(II)Z" } : MethodName)) ∈ sf_T := sf_T_of 1448 (by decide +kernel) rfl
theorem wt_1450 : (Cond.instanceMethod ({ cls := "StreamFuserModel", name := "takesSign", desc := "(II)Z" } : MethodName)) ∈ sf_T := sf_T_of 1450 (by decide +kernel) rfl
theorem wt_1451 : (Cond.code ({ cls := "StreamFuserModel", name := "takesSign", desc := "(II)Z" } : MethodName) prog_14_method_23_code (4 : Nat) (Option.some FieldType.boolean)) ∈ sf_T := sf_T_of 1451 (by decide +kernel) rfl
theorem wt_1452 : (Cond.constantLong "StreamFuserModel" (190 : Nat) (51 : Int64)) ∈ sf_T := sf_T_of 1452 (by decide +kernel) rfl
theorem wt_1453 : (Cond.methodLink "StreamFuserLaw" (30 : Nat) ({ cls := "StreamFuserModel", name := "plan", desc := "()I" } : MethodName)) ∈ sf_T := sf_T_of 1453 (by decide +kernel) rfl
theorem wt_1454 : (Cond.instanceMethod ({ cls := "StreamFuserModel", name := "plan", desc := "()I" } : MethodName)) ∈ sf_T := sf_T_of 1454 (by decide +kernel) rfl
theorem wt_1455 : (Cond.selects "StreamFuserModel" ({ cls := "StreamFuserModel", name := "plan", desc := "()I" } : MethodName) ({ cls := "StreamFuserModel", name := "plan", desc := "()I" } : MethodName)) ∈ sf_T := sf_T_of 1455 (by decide +kernel) rfl
theorem wt_1456 : (Cond.code ({ cls := "StreamFuserModel", name := "plan", desc := "()I" } : MethodName) prog_14_method_28_code (3 : Nat) (Option.some FieldType.int)) ∈ sf_T := sf_T_of 1456 (by decide +kernel) rfl
theorem wt_1457 : (Cond.methodLink "StreamFuserModel" (213 : Nat) ({ cls := "StreamFuserModel", name := "places", desc := "()V" } : MethodName)) ∈ sf_T := sf_T_of 1457 (by decide +kernel) rfl
theorem wt_1459 : (Cond.instanceMethod ({ cls := "StreamFuserModel", name := "places", desc := "()V" } : MethodName)) ∈ sf_T := sf_T_of 1459 (by decide +kernel) rfl
theorem wt_1460 : (Cond.code ({ cls := "StreamFuserModel", name := "places", desc := "()V" } : MethodName) prog_14_method_26_code (6 : Nat) (Option.none : Option FieldType)) ∈ sf_T := sf_T_of 1460 (by decide +kernel) rfl
theorem wt_1461 : (Cond.methodLink "StreamFuserModel" (209 : Nat) ({ cls := "StreamFuserModel", name := "hangs", desc := "(IIZ)V" } : MethodName)) ∈ sf_T := sf_T_of 1461 (by decide +kernel) rfl
theorem wt_1463 : (Cond.instanceMethod ({ cls := "StreamFuserModel", name := "hangs", desc := "(IIZ)V" } : MethodName)) ∈ sf_T := sf_T_of 1463 (by decide +kernel) rfl
theorem wt_1464 : (Cond.code ({ cls := "StreamFuserModel", name := "hangs", desc := "(IIZ)V" } : MethodName) prog_14_method_27_code (4 : Nat) (Option.none : Option FieldType)) ∈ sf_T := sf_T_of 1464 (by decide +kernel) rfl
theorem wt_1465 : (Cond.methodLink "StreamFuserLaw" (35 : Nat) ({ cls := "StreamFuserModel", name := "node", desc := "(II)I" } : MethodName)) ∈ sf_T := sf_T_of 1465 (by decide +kernel) rfl
theorem wt_1466 : (Cond.instanceMethod ({ cls := "StreamFuserModel", name := "node", desc := "(II)I" } : MethodName)) ∈ sf_T := sf_T_of 1466 (by decide +kernel) rfl
theorem wt_1467 : (Cond.selects "StreamFuserModel" ({ cls := "StreamFuserModel", name := "node", desc := "(II)I" } : MethodName) ({ cls := "StreamFuserModel", name := "node", desc := "(II)I" } : MethodName)) ∈ sf_T := sf_T_of 1467 (by decide +kernel) rfl
theorem wt_1468 : (Cond.code ({ cls := "StreamFuserModel", name := "node", desc := "(II)I" } : MethodName) prog_14_method_31_code (3 : Nat) (Option.some FieldType.int)) ∈ sf_T := sf_T_of 1468 (by decide +kernel) rfl
theorem wt_1469 : (Cond.constantLong "StreamFuserModel" (219 : Nat) (5 : Int64)) ∈ sf_T := sf_T_of 1469 (by decide +kernel) rfl
theorem wt_1470 : (Cond.methodLink "StreamFuserModel" (221 : Nat) ({ cls := "StreamFuserModel", name := "nodeBy", desc := "(II)I" } : MethodName)) ∈ sf_T := sf_T_of 1470 (by decide +kernel) rfl
theorem wt_1472 : (Cond.instanceMethod ({ cls := "StreamFuserModel", name := "nodeBy", desc := "(II)I" } : MethodName)) ∈ sf_T := sf_T_of 1472 (by decide +kernel) rfl
theorem wt_1473 : (Cond.code ({ cls := "StreamFuserModel", name := "nodeBy", desc := "(II)I" } : MethodName) prog_14_method_30_code (3 : Nat) (Option.some FieldType.int)) ∈ sf_T := sf_T_of 1473 (by decide +kernel) rfl
theorem wt_1474 : (Cond.methodLink "StreamFuserModel" (216 : Nat) ({ cls := "StreamFuserModel", name := "isPure", desc := "(I)Z" } : MethodName)) ∈ sf_T := sf_T_of 1474 (by decide +kernel) rfl
theorem wt_1476 : (Cond.instanceMethod ({ cls := "StreamFuserModel", name := "isPure", desc := "(I)Z" } : MethodName)) ∈ sf_T := sf_T_of 1476 (by decide +kernel) rfl
theorem wt_1477 : (Cond.code ({ cls := "StreamFuserModel", name := "isPure", desc := "(I)Z" } : MethodName) prog_14_method_29_code (3 : Nat) (Option.some FieldType.boolean)) ∈ sf_T := sf_T_of 1477 (by decide +kernel) rfl
theorem wt_1478 : (Cond.methodLink "StreamFuserLaw" (39 : Nat) ({ cls := "StreamFuserModel", name := "text", desc := "(I)I" } : MethodName)) ∈ sf_T := sf_T_of 1478 (by decide +kernel) rfl
theorem wt_1479 : (Cond.instanceMethod ({ cls := "StreamFuserModel", name := "text", desc := "(I)I" } : MethodName)) ∈ sf_T := sf_T_of 1479 (by decide +kernel) rfl
theorem wt_1480 : (Cond.selects "StreamFuserModel" ({ cls := "StreamFuserModel", name := "text", desc := "(I)I" } : MethodName) ({ cls := "StreamFuserModel", name := "text", desc := "(I)I" } : MethodName)) ∈ sf_T := sf_T_of 1480 (by decide +kernel) rfl
theorem wt_1481 : (Cond.code ({ cls := "StreamFuserModel", name := "text", desc := "(I)I" } : MethodName) prog_14_method_37_code (2 : Nat) (Option.some FieldType.int)) ∈ sf_T := sf_T_of 1481 (by decide +kernel) rfl
theorem wt_1482 : (Cond.methodLink "StreamFuserModel" (238 : Nat) ({ cls := "StreamFuserModel", name := "writesPlan", desc := "()V" } : MethodName)) ∈ sf_T := sf_T_of 1482 (by decide +kernel) rfl
theorem wt_1484 : (Cond.instanceMethod ({ cls := "StreamFuserModel", name := "writesPlan", desc := "()V" } : MethodName)) ∈ sf_T := sf_T_of 1484 (by decide +kernel) rfl
theorem wt_1485 : (Cond.code ({ cls := "StreamFuserModel", name := "writesPlan", desc := "()V" } : MethodName) prog_14_method_35_code (2 : Nat) (Option.none : Option FieldType)) ∈ sf_T := sf_T_of 1485 (by decide +kernel) rfl
theorem wt_1486 : (Cond.methodLink "StreamFuserModel" (227 : Nat) ({ cls := "StreamFuserModel", name := "tells", desc := "(I)V" } : MethodName)) ∈ sf_T := sf_T_of 1486 (by decide +kernel) rfl
theorem wt_1488 : (Cond.instanceMethod ({ cls := "StreamFuserModel", name := "tells", desc := "(I)V" } : MethodName)) ∈ sf_T := sf_T_of 1488 (by decide +kernel) rfl
theorem wt_1489 : (Cond.code ({ cls := "StreamFuserModel", name := "tells", desc := "(I)V" } : MethodName) prog_14_method_32_code (2 : Nat) (Option.none : Option FieldType)) ∈ sf_T := sf_T_of 1489 (by decide +kernel) rfl
theorem wt_1490 : (Cond.methodLink "StreamFuserModel" (232 : Nat) ({ cls := "StreamFuserModel", name := "numbersOf", desc := "(I)I" } : MethodName)) ∈ sf_T := sf_T_of 1490 (by decide +kernel) rfl
theorem wt_1491 : (Cond.static ({ cls := "StreamFuserModel", name := "numbersOf", desc := "(I)I" } : MethodName)) ∈ sf_T := sf_T_of 1491 (by decide +kernel) rfl
theorem wt_1492 : (Cond.code ({ cls := "StreamFuserModel", name := "numbersOf", desc := "(I)I" } : MethodName) prog_14_method_34_code (1 : Nat) (Option.some FieldType.int)) ∈ sf_T := sf_T_of 1492 (by decide +kernel) rfl
theorem wt_1493 : (Cond.methodLink "StreamFuserModel" (235 : Nat) ({ cls := "StreamFuserModel", name := "tellsNumber", desc := "(I)V" } : MethodName)) ∈ sf_T := sf_T_of 1493 (by decide +kernel) rfl
theorem wt_1495 : (Cond.instanceMethod ({ cls := "StreamFuserModel", name := "tellsNumber", desc := "(I)V" } : MethodName)) ∈ sf_T := sf_T_of 1495 (by decide +kernel) rfl
theorem wt_1496 : (Cond.code ({ cls := "StreamFuserModel", name := "tellsNumber", desc := "(I)V" } : MethodName) prog_14_method_33_code (7 : Nat) (Option.none : Option FieldType)) ∈ sf_T := sf_T_of 1496 (by decide +kernel) rfl
theorem wt_1497 : (Cond.constantLong "StreamFuserModel" (230 : Nat) (10 : Int64)) ∈ sf_T := sf_T_of 1497 (by decide +kernel) rfl
theorem wt_1498 : (Cond.methodLink "StreamFuserModel" (241 : Nat) ({ cls := "StreamFuserModel", name := "textBy", desc := "(I)I" } : MethodName)) ∈ sf_T := sf_T_of 1498 (by decide +kernel) rfl
theorem wt_1500 : (Cond.instanceMethod ({ cls := "StreamFuserModel", name := "textBy", desc := "(I)I" } : MethodName)) ∈ sf_T := sf_T_of 1500 (by decide +kernel) rfl
theorem wt_1501 : (Cond.code ({ cls := "StreamFuserModel", name := "textBy", desc := "(I)I" } : MethodName) prog_14_method_36_code (2 : Nat) (Option.some FieldType.int)) ∈ sf_T := sf_T_of 1501 (by decide +kernel) rfl
theorem wt_1502 : (Cond.methodLink "StreamFuserLaw" (43 : Nat) ({ cls := "StreamFuserModel", name := "tidy", desc := "(I)I" } : MethodName)) ∈ sf_T := sf_T_of 1502 (by decide +kernel) rfl
theorem wt_1503 : (Cond.instanceMethod ({ cls := "StreamFuserModel", name := "tidy", desc := "(I)I" } : MethodName)) ∈ sf_T := sf_T_of 1503 (by decide +kernel) rfl
theorem wt_1504 : (Cond.selects "StreamFuserModel" ({ cls := "StreamFuserModel", name := "tidy", desc := "(I)I" } : MethodName) ({ cls := "StreamFuserModel", name := "tidy", desc := "(I)I" } : MethodName)) ∈ sf_T := sf_T_of 1504 (by decide +kernel) rfl
theorem wt_1505 : (Cond.code ({ cls := "StreamFuserModel", name := "tidy", desc := "(I)I" } : MethodName) prog_14_method_50_code (3 : Nat) (Option.some FieldType.int)) ∈ sf_T := sf_T_of 1505 (by decide +kernel) rfl
theorem wt_1506 : (Cond.methodLink "StreamFuserModel" (286 : Nat) ({ cls := "StreamFuserModel", name := "tidies", desc := "(I)I" } : MethodName)) ∈ sf_T := sf_T_of 1506 (by decide +kernel) rfl
theorem wt_1508 : (Cond.instanceMethod ({ cls := "StreamFuserModel", name := "tidies", desc := "(I)I" } : MethodName)) ∈ sf_T := sf_T_of 1508 (by decide +kernel) rfl
theorem wt_1509 : (Cond.code ({ cls := "StreamFuserModel", name := "tidies", desc := "(I)I" } : MethodName) prog_14_method_49_code (5 : Nat) (Option.some FieldType.int)) ∈ sf_T := sf_T_of 1509 (by decide +kernel) rfl
theorem wt_1510 : (Cond.constant "StreamFuserModel" (282 : Nat) (1000000 : Int32)) ∈ sf_T := sf_T_of 1510 (by decide +kernel) rfl
theorem wt_1511 : (Cond.methodLink "StreamFuserModel" (283 : Nat) ({ cls := "StreamFuserModel", name := "tidiesOnce", desc := "(I)Z" } : MethodName)) ∈ sf_T := sf_T_of 1511 (by decide +kernel) rfl
theorem wt_1513 : (Cond.instanceMethod ({ cls := "StreamFuserModel", name := "tidiesOnce", desc := "(I)Z" } : MethodName)) ∈ sf_T := sf_T_of 1513 (by decide +kernel) rfl
theorem wt_1514 : (Cond.code ({ cls := "StreamFuserModel", name := "tidiesOnce", desc := "(I)Z" } : MethodName) prog_14_method_48_code (5 : Nat) (Option.some FieldType.boolean)) ∈ sf_T := sf_T_of 1514 (by decide +kernel) rfl
theorem wt_1515 : (Cond.methodLink "StreamFuserModel" (276 : Nat) ({ cls := "StreamFuserModel", name := "ruleAt", desc := "(I)I" } : MethodName)) ∈ sf_T := sf_T_of 1515 (by decide +kernel) rfl
theorem wt_1517 : (Cond.instanceMethod ({ cls := "StreamFuserModel", name := "ruleAt", desc := "(I)I" } : MethodName)) ∈ sf_T := sf_T_of 1517 (by decide +kernel) rfl
theorem wt_1518 : (Cond.code ({ cls := "StreamFuserModel", name := "ruleAt", desc := "(I)I" } : MethodName) prog_14_method_41_code (3 : Nat) (Option.some FieldType.int)) ∈ sf_T := sf_T_of 1518 (by decide +kernel) rfl
theorem wt_1519 : (Cond.methodLink "StreamFuserModel" (247 : Nat) ({ cls := "StreamFuserModel", name := "isNil", desc := "(I)Z" } : MethodName)) ∈ sf_T := sf_T_of 1519 (by decide +kernel) rfl
theorem wt_1521 : (Cond.instanceMethod ({ cls := "StreamFuserModel", name := "isNil", desc := "(I)Z" } : MethodName)) ∈ sf_T := sf_T_of 1521 (by decide +kernel) rfl
theorem wt_1522 : (Cond.code ({ cls := "StreamFuserModel", name := "isNil", desc := "(I)Z" } : MethodName) prog_14_method_38_code (2 : Nat) (Option.some FieldType.boolean)) ∈ sf_T := sf_T_of 1522 (by decide +kernel) rfl
theorem wt_1523 : (Cond.methodLink "StreamFuserModel" (250 : Nat) ({ cls := "StreamFuserModel", name := "ruleOfCut", desc := "(I)I" } : MethodName)) ∈ sf_T := sf_T_of 1523 (by decide +kernel) rfl
theorem wt_1525 : (Cond.instanceMethod ({ cls := "StreamFuserModel", name := "ruleOfCut", desc := "(I)I" } : MethodName)) ∈ sf_T := sf_T_of 1525 (by decide +kernel) rfl
theorem wt_1526 : (Cond.code ({ cls := "StreamFuserModel", name := "ruleOfCut", desc := "(I)I" } : MethodName) prog_14_method_40_code (4 : Nat) (Option.some FieldType.int)) ∈ sf_T := sf_T_of 1526 (by decide +kernel) rfl
theorem wt_1527 : (Cond.methodLink "StreamFuserModel" (244 : Nat) ({ cls := "StreamFuserModel", name := "changes", desc := "(I)Z" } : MethodName)) ∈ sf_T := sf_T_of 1527 (by decide +kernel) rfl
theorem wt_1528 : (Cond.static ({ cls := "StreamFuserModel", name := "changes", desc := "(I)Z" } : MethodName)) ∈ sf_T := sf_T_of 1528 (by decide +kernel) rfl
theorem wt_1529 : (Cond.code ({ cls := "StreamFuserModel", name := "changes", desc := "(I)Z" } : MethodName) prog_14_method_39_code (1 : Nat) (Option.some FieldType.boolean)) ∈ sf_T := sf_T_of 1529 (by decide +kernel) rfl
theorem wt_1530 : (Cond.methodLink "StreamFuserModel" (279 : Nat) ({ cls := "StreamFuserModel", name := "uses", desc := "(II)V" } : MethodName)) ∈ sf_T := sf_T_of 1530 (by decide +kernel) rfl
theorem wt_1532 : (Cond.instanceMethod ({ cls := "StreamFuserModel", name := "uses", desc := "(II)V" } : MethodName)) ∈ sf_T := sf_T_of 1532 (by decide +kernel) rfl
theorem wt_1533 : (Cond.code ({ cls := "StreamFuserModel", name := "uses", desc := "(II)V" } : MethodName) prog_14_method_46_code (4 : Nat) (Option.none : Option FieldType)) ∈ sf_T := sf_T_of 1533 (by decide +kernel) rfl
theorem wt_1534 : (Cond.methodLink "StreamFuserModel" (253 : Nat) ({ cls := "StreamFuserModel", name := "becomes", desc := "(IIII)V" } : MethodName)) ∈ sf_T := sf_T_of 1534 (by decide +kernel) rfl
theorem wt_1536 : (Cond.instanceMethod ({ cls := "StreamFuserModel", name := "becomes", desc := "(IIII)V" } : MethodName)) ∈ sf_T := sf_T_of 1536 (by decide +kernel) rfl
theorem wt_1537 : (Cond.code ({ cls := "StreamFuserModel", name := "becomes", desc := "(IIII)V" } : MethodName) prog_14_method_43_code (5 : Nat) (Option.none : Option FieldType)) ∈ sf_T := sf_T_of 1537 (by decide +kernel) rfl
theorem wt_1538 : (Cond.methodLink "StreamFuserModel" (260 : Nat) ({ cls := "StreamFuserModel", name := "lesser", desc := "(II)I" } : MethodName)) ∈ sf_T := sf_T_of 1538 (by decide +kernel) rfl
theorem wt_1539 : (Cond.static ({ cls := "StreamFuserModel", name := "lesser", desc := "(II)I" } : MethodName)) ∈ sf_T := sf_T_of 1539 (by decide +kernel) rfl
theorem wt_1540 : (Cond.code ({ cls := "StreamFuserModel", name := "lesser", desc := "(II)I" } : MethodName) prog_14_method_5_code (2 : Nat) (Option.some FieldType.int)) ∈ sf_T := sf_T_of 1540 (by decide +kernel) rfl
theorem wt_1541 : (Cond.methodLink "StreamFuserModel" (257 : Nat) ({ cls := "StreamFuserModel", name := "cuts", desc := "(II)V" } : MethodName)) ∈ sf_T := sf_T_of 1541 (by decide +kernel) rfl
theorem wt_1543 : (Cond.instanceMethod ({ cls := "StreamFuserModel", name := "cuts", desc := "(II)V" } : MethodName)) ∈ sf_T := sf_T_of 1543 (by decide +kernel) rfl
theorem wt_1544 : (Cond.code ({ cls := "StreamFuserModel", name := "cuts", desc := "(II)V" } : MethodName) prog_14_method_42_code (4 : Nat) (Option.none : Option FieldType)) ∈ sf_T := sf_T_of 1544 (by decide +kernel) rfl
theorem wt_1545 : (Cond.methodLink "StreamFuserModel" (263 : Nat) ({ cls := "StreamFuserModel", name := "turns", desc := "(I)V" } : MethodName)) ∈ sf_T := sf_T_of 1545 (by decide +kernel) rfl
theorem wt_1547 : (Cond.instanceMethod ({ cls := "StreamFuserModel", name := "turns", desc := "(I)V" } : MethodName)) ∈ sf_T := sf_T_of 1547 (by decide +kernel) rfl
theorem wt_1548 : (Cond.code ({ cls := "StreamFuserModel", name := "turns", desc := "(I)V" } : MethodName) prog_14_method_45_code (5 : Nat) (Option.none : Option FieldType)) ∈ sf_T := sf_T_of 1548 (by decide +kernel) rfl
theorem wt_1549 : (Cond.methodLink "StreamFuserModel" (266 : Nat) ({ cls := "StreamFuserModel", name := "greater", desc := "(II)I" } : MethodName)) ∈ sf_T := sf_T_of 1549 (by decide +kernel) rfl
theorem wt_1550 : (Cond.static ({ cls := "StreamFuserModel", name := "greater", desc := "(II)I" } : MethodName)) ∈ sf_T := sf_T_of 1550 (by decide +kernel) rfl
theorem wt_1551 : (Cond.code ({ cls := "StreamFuserModel", name := "greater", desc := "(II)I" } : MethodName) prog_14_method_6_code (2 : Nat) (Option.some FieldType.int)) ∈ sf_T := sf_T_of 1551 (by decide +kernel) rfl
theorem wt_1552 : (Cond.methodLink "StreamFuserModel" (269 : Nat) ({ cls := "StreamFuserModel", name := "usesMore", desc := "(III)V" } : MethodName)) ∈ sf_T := sf_T_of 1552 (by decide +kernel) rfl
theorem wt_1554 : (Cond.instanceMethod ({ cls := "StreamFuserModel", name := "usesMore", desc := "(III)V" } : MethodName)) ∈ sf_T := sf_T_of 1554 (by decide +kernel) rfl
theorem wt_1555 : (Cond.code ({ cls := "StreamFuserModel", name := "usesMore", desc := "(III)V" } : MethodName) prog_14_method_47_code (4 : Nat) (Option.none : Option FieldType)) ∈ sf_T := sf_T_of 1555 (by decide +kernel) rfl
theorem wt_1556 : (Cond.methodLink "StreamFuserModel" (273 : Nat) ({ cls := "StreamFuserModel", name := "nil", desc := "(I)V" } : MethodName)) ∈ sf_T := sf_T_of 1556 (by decide +kernel) rfl
theorem wt_1558 : (Cond.instanceMethod ({ cls := "StreamFuserModel", name := "nil", desc := "(I)V" } : MethodName)) ∈ sf_T := sf_T_of 1558 (by decide +kernel) rfl
theorem wt_1559 : (Cond.code ({ cls := "StreamFuserModel", name := "nil", desc := "(I)V" } : MethodName) prog_14_method_44_code (3 : Nat) (Option.none : Option FieldType)) ∈ sf_T := sf_T_of 1559 (by decide +kernel) rfl
theorem wt_1560 : (Cond.methodLink "StreamFuserLaw" (47 : Nat) ({ cls := "StreamFuserModel", name := "rules", desc := "(I)I" } : MethodName)) ∈ sf_T := sf_T_of 1560 (by decide +kernel) rfl
theorem wt_1561 : (Cond.instanceMethod ({ cls := "StreamFuserModel", name := "rules", desc := "(I)I" } : MethodName)) ∈ sf_T := sf_T_of 1561 (by decide +kernel) rfl
theorem wt_1562 : (Cond.selects "StreamFuserModel" ({ cls := "StreamFuserModel", name := "rules", desc := "(I)I" } : MethodName) ({ cls := "StreamFuserModel", name := "rules", desc := "(I)I" } : MethodName)) ∈ sf_T := sf_T_of 1562 (by decide +kernel) rfl
theorem wt_1563 : (Cond.code ({ cls := "StreamFuserModel", name := "rules", desc := "(I)I" } : MethodName) prog_14_method_51_code (2 : Nat) (Option.some FieldType.int)) ∈ sf_T := sf_T_of 1563 (by decide +kernel) rfl
theorem wt_1564 : (Cond.constantLong "StreamFuserModel" (292 : Nat) (12 : Int64)) ∈ sf_T := sf_T_of 1564 (by decide +kernel) rfl
theorem wt_1565 : (Cond.methodLink "StreamFuserLaw" (55 : Nat) ({ cls := "StreamFuserModel", name := "run", desc := "(II)I" } : MethodName)) ∈ sf_T := sf_T_of 1565 (by decide +kernel) rfl
theorem wt_1566 : (Cond.instanceMethod ({ cls := "StreamFuserModel", name := "run", desc := "(II)I" } : MethodName)) ∈ sf_T := sf_T_of 1566 (by decide +kernel) rfl
theorem wt_1567 : (Cond.selects "StreamFuserModel" ({ cls := "StreamFuserModel", name := "run", desc := "(II)I" } : MethodName) ({ cls := "StreamFuserModel", name := "run", desc := "(II)I" } : MethodName)) ∈ sf_T := sf_T_of 1567 (by decide +kernel) rfl
theorem wt_1568 : (Cond.code ({ cls := "StreamFuserModel", name := "run", desc := "(II)I" } : MethodName) prog_14_method_78_code (4 : Nat) (Option.some FieldType.int)) ∈ sf_T := sf_T_of 1568 (by decide +kernel) rfl
theorem wt_1569 : (Cond.constantLong "StreamFuserModel" (400 : Nat) (40 : Int64)) ∈ sf_T := sf_T_of 1569 (by decide +kernel) rfl
theorem wt_1570 : (Cond.methodLink "StreamFuserModel" (402 : Nat) ({ cls := "StreamFuserModel", name := "hasEndless", desc := "()Z" } : MethodName)) ∈ sf_T := sf_T_of 1570 (by decide +kernel) rfl
theorem wt_1572 : (Cond.instanceMethod ({ cls := "StreamFuserModel", name := "hasEndless", desc := "()Z" } : MethodName)) ∈ sf_T := sf_T_of 1572 (by decide +kernel) rfl
theorem wt_1573 : (Cond.code ({ cls := "StreamFuserModel", name := "hasEndless", desc := "()Z" } : MethodName) prog_14_method_77_code (2 : Nat) (Option.some FieldType.boolean)) ∈ sf_T := sf_T_of 1573 (by decide +kernel) rfl
theorem wt_1574 : (Cond.methodLink "StreamFuserModel" (405 : Nat) ({ cls := "StreamFuserModel", name := "runs", desc := "(II)V" } : MethodName)) ∈ sf_T := sf_T_of 1574 (by decide +kernel) rfl
theorem wt_1576 : (Cond.instanceMethod ({ cls := "StreamFuserModel", name := "runs", desc := "(II)V" } : MethodName)) ∈ sf_T := sf_T_of 1576 (by decide +kernel) rfl
theorem wt_1577 : (Cond.code ({ cls := "StreamFuserModel", name := "runs", desc := "(II)V" } : MethodName) prog_14_method_76_code (6 : Nat) (Option.none : Option FieldType)) ∈ sf_T := sf_T_of 1577 (by decide +kernel) rfl
theorem wt_1578 : (Cond.methodLink "StreamFuserModel" (322 : Nat) ({ cls := "StreamFuserModel", name := "begins", desc := "(II)V" } : MethodName)) ∈ sf_T := sf_T_of 1578 (by decide +kernel) rfl
theorem wt_1580 : (Cond.instanceMethod ({ cls := "StreamFuserModel", name := "begins", desc := "(II)V" } : MethodName)) ∈ sf_T := sf_T_of 1580 (by decide +kernel) rfl
theorem wt_1581 : (Cond.code ({ cls := "StreamFuserModel", name := "begins", desc := "(II)V" } : MethodName) prog_14_method_54_code (5 : Nat) (Option.none : Option FieldType)) ∈ sf_T := sf_T_of 1581 (by decide +kernel) rfl
theorem wt_1582 : (Cond.methodLink "StreamFuserModel" (391 : Nat) ({ cls := "StreamFuserModel", name := "makesRows", desc := "()V" } : MethodName)) ∈ sf_T := sf_T_of 1582 (by decide +kernel) rfl
theorem wt_1584 : (Cond.instanceMethod ({ cls := "StreamFuserModel", name := "makesRows", desc := "()V" } : MethodName)) ∈ sf_T := sf_T_of 1584 (by decide +kernel) rfl
theorem wt_1585 : (Cond.code ({ cls := "StreamFuserModel", name := "makesRows", desc := "()V" } : MethodName) prog_14_method_75_code (4 : Nat) (Option.none : Option FieldType)) ∈ sf_T := sf_T_of 1585 (by decide +kernel) rfl
theorem wt_1586 : (Cond.constant "StreamFuserModel" (352 : Nat) (100000000 : Int32)) ∈ sf_T := sf_T_of 1586 (by decide +kernel) rfl
theorem wt_1587 : (Cond.methodLink "StreamFuserModel" (382 : Nat) ({ cls := "StreamFuserModel", name := "wantsRow", desc := "(I)I" } : MethodName)) ∈ sf_T := sf_T_of 1587 (by decide +kernel) rfl
theorem wt_1589 : (Cond.instanceMethod ({ cls := "StreamFuserModel", name := "wantsRow", desc := "(I)I" } : MethodName)) ∈ sf_T := sf_T_of 1589 (by decide +kernel) rfl
theorem wt_1590 : (Cond.code ({ cls := "StreamFuserModel", name := "wantsRow", desc := "(I)I" } : MethodName) prog_14_method_74_code (4 : Nat) (Option.some FieldType.int)) ∈ sf_T := sf_T_of 1590 (by decide +kernel) rfl
theorem wt_1591 : (Cond.methodLink "StreamFuserModel" (370 : Nat) ({ cls := "StreamFuserModel", name := "opensRow", desc := "(I)I" } : MethodName)) ∈ sf_T := sf_T_of 1591 (by decide +kernel) rfl
theorem wt_1593 : (Cond.instanceMethod ({ cls := "StreamFuserModel", name := "opensRow", desc := "(I)I" } : MethodName)) ∈ sf_T := sf_T_of 1593 (by decide +kernel) rfl
theorem wt_1594 : (Cond.code ({ cls := "StreamFuserModel", name := "opensRow", desc := "(I)I" } : MethodName) prog_14_method_73_code (4 : Nat) (Option.some FieldType.int)) ∈ sf_T := sf_T_of 1594 (by decide +kernel) rfl
theorem wt_1595 : (Cond.methodLink "StreamFuserModel" (306 : Nat) ({ cls := "StreamFuserModel", name := "fails", desc := "(II)V" } : MethodName)) ∈ sf_T := sf_T_of 1595 (by decide +kernel) rfl
theorem wt_1597 : (Cond.instanceMethod ({ cls := "StreamFuserModel", name := "fails", desc := "(II)V" } : MethodName)) ∈ sf_T := sf_T_of 1597 (by decide +kernel) rfl
theorem wt_1598 : (Cond.code ({ cls := "StreamFuserModel", name := "fails", desc := "(II)V" } : MethodName) prog_14_method_52_code (3 : Nat) (Option.none : Option FieldType)) ∈ sf_T := sf_T_of 1598 (by decide +kernel) rfl
theorem wt_1599 : (Cond.methodLink "StreamFuserModel" (367 : Nat) ({ cls := "StreamFuserModel", name := "adds", desc := "(II)V" } : MethodName)) ∈ sf_T := sf_T_of 1599 (by decide +kernel) rfl
theorem wt_1601 : (Cond.instanceMethod ({ cls := "StreamFuserModel", name := "adds", desc := "(II)V" } : MethodName)) ∈ sf_T := sf_T_of 1601 (by decide +kernel) rfl
theorem wt_1602 : (Cond.code ({ cls := "StreamFuserModel", name := "adds", desc := "(II)V" } : MethodName) prog_14_method_69_code (3 : Nat) (Option.none : Option FieldType)) ∈ sf_T := sf_T_of 1602 (by decide +kernel) rfl
theorem wt_1603 : (Cond.methodLink "StreamFuserModel" (373 : Nat) ({ cls := "StreamFuserModel", name := "fills", desc := "(I)V" } : MethodName)) ∈ sf_T := sf_T_of 1603 (by decide +kernel) rfl
theorem wt_1605 : (Cond.instanceMethod ({ cls := "StreamFuserModel", name := "fills", desc := "(I)V" } : MethodName)) ∈ sf_T := sf_T_of 1605 (by decide +kernel) rfl
theorem wt_1606 : (Cond.code ({ cls := "StreamFuserModel", name := "fills", desc := "(I)V" } : MethodName) prog_14_method_70_code (7 : Nat) (Option.none : Option FieldType)) ∈ sf_T := sf_T_of 1606 (by decide +kernel) rfl
theorem wt_1607 : (Cond.constantLong "StreamFuserModel" (365 : Nat) (60 : Int64)) ∈ sf_T := sf_T_of 1607 (by decide +kernel) rfl
theorem wt_1608 : (Cond.methodLink "StreamFuserModel" (315 : Nat) ({ cls := "StreamFuserModel", name := "draws", desc := "()Z" } : MethodName)) ∈ sf_T := sf_T_of 1608 (by decide +kernel) rfl
theorem wt_1610 : (Cond.instanceMethod ({ cls := "StreamFuserModel", name := "draws", desc := "()Z" } : MethodName)) ∈ sf_T := sf_T_of 1610 (by decide +kernel) rfl
theorem wt_1611 : (Cond.code ({ cls := "StreamFuserModel", name := "draws", desc := "()Z" } : MethodName) prog_14_method_55_code (1 : Nat) (Option.some FieldType.boolean)) ∈ sf_T := sf_T_of 1611 (by decide +kernel) rfl
theorem wt_1612 : (Cond.methodLink "StreamFuserModel" (376 : Nat) ({ cls := "StreamFuserModel", name := "changesRow", desc := "(I)V" } : MethodName)) ∈ sf_T := sf_T_of 1612 (by decide +kernel) rfl
theorem wt_1614 : (Cond.instanceMethod ({ cls := "StreamFuserModel", name := "changesRow", desc := "(I)V" } : MethodName)) ∈ sf_T := sf_T_of 1614 (by decide +kernel) rfl
theorem wt_1615 : (Cond.code ({ cls := "StreamFuserModel", name := "changesRow", desc := "(I)V" } : MethodName) prog_14_method_71_code (9 : Nat) (Option.none : Option FieldType)) ∈ sf_T := sf_T_of 1615 (by decide +kernel) rfl
theorem wt_1616 : (Cond.methodLink "StreamFuserModel" (331 : Nat) ({ cls := "StreamFuserModel", name := "passes", desc := "(II)Z" } : MethodName)) ∈ sf_T := sf_T_of 1616 (by decide +kernel) rfl
theorem wt_1618 : (Cond.instanceMethod ({ cls := "StreamFuserModel", name := "passes", desc := "(II)Z" } : MethodName)) ∈ sf_T := sf_T_of 1618 (by decide +kernel) rfl
theorem wt_1619 : (Cond.code ({ cls := "StreamFuserModel", name := "passes", desc := "(II)Z" } : MethodName) prog_14_method_58_code (4 : Nat) (Option.some FieldType.boolean)) ∈ sf_T := sf_T_of 1619 (by decide +kernel) rfl
theorem wt_1620 : (Cond.methodLink "StreamFuserModel" (340 : Nat) ({ cls := "StreamFuserModel", name := "made", desc := "(II)I" } : MethodName)) ∈ sf_T := sf_T_of 1620 (by decide +kernel) rfl
theorem wt_1622 : (Cond.instanceMethod ({ cls := "StreamFuserModel", name := "made", desc := "(II)I" } : MethodName)) ∈ sf_T := sf_T_of 1622 (by decide +kernel) rfl
theorem wt_1623 : (Cond.code ({ cls := "StreamFuserModel", name := "made", desc := "(II)I" } : MethodName) prog_14_method_57_code (5 : Nat) (Option.some FieldType.int)) ∈ sf_T := sf_T_of 1623 (by decide +kernel) rfl
theorem wt_1624 : (Cond.methodLink "StreamFuserModel" (319 : Nat) ({ cls := "StreamFuserModel", name := "writesDown", desc := "(II)V" } : MethodName)) ∈ sf_T := sf_T_of 1624 (by decide +kernel) rfl
theorem wt_1626 : (Cond.instanceMethod ({ cls := "StreamFuserModel", name := "writesDown", desc := "(II)V" } : MethodName)) ∈ sf_T := sf_T_of 1626 (by decide +kernel) rfl
theorem wt_1627 : (Cond.code ({ cls := "StreamFuserModel", name := "writesDown", desc := "(II)V" } : MethodName) prog_14_method_53_code (3 : Nat) (Option.none : Option FieldType)) ∈ sf_T := sf_T_of 1627 (by decide +kernel) rfl
theorem wt_1628 : (Cond.methodLink "StreamFuserModel" (379 : Nat) ({ cls := "StreamFuserModel", name := "joinsRows", desc := "(I)V" } : MethodName)) ∈ sf_T := sf_T_of 1628 (by decide +kernel) rfl
theorem wt_1630 : (Cond.instanceMethod ({ cls := "StreamFuserModel", name := "joinsRows", desc := "(I)V" } : MethodName)) ∈ sf_T := sf_T_of 1630 (by decide +kernel) rfl
theorem wt_1631 : (Cond.code ({ cls := "StreamFuserModel", name := "joinsRows", desc := "(I)V" } : MethodName) prog_14_method_72_code (5 : Nat) (Option.none : Option FieldType)) ∈ sf_T := sf_T_of 1631 (by decide +kernel) rfl
theorem wt_1632 : (Cond.methodLink "StreamFuserModel" (343 : Nat) ({ cls := "StreamFuserModel", name := "joined", desc := "(III)I" } : MethodName)) ∈ sf_T := sf_T_of 1632 (by decide +kernel) rfl
theorem wt_1634 : (Cond.instanceMethod ({ cls := "StreamFuserModel", name := "joined", desc := "(III)I" } : MethodName)) ∈ sf_T := sf_T_of 1634 (by decide +kernel) rfl
theorem wt_1635 : (Cond.code ({ cls := "StreamFuserModel", name := "joined", desc := "(III)I" } : MethodName) prog_14_method_59_code (4 : Nat) (Option.some FieldType.int)) ∈ sf_T := sf_T_of 1635 (by decide +kernel) rfl
theorem wt_1636 : (Cond.methodLink "StreamFuserModel" (394 : Nat) ({ cls := "StreamFuserModel", name := "steps", desc := "()I" } : MethodName)) ∈ sf_T := sf_T_of 1636 (by decide +kernel) rfl
theorem wt_1638 : (Cond.instanceMethod ({ cls := "StreamFuserModel", name := "steps", desc := "()I" } : MethodName)) ∈ sf_T := sf_T_of 1638 (by decide +kernel) rfl
theorem wt_1639 : (Cond.code ({ cls := "StreamFuserModel", name := "steps", desc := "()I" } : MethodName) prog_14_method_68_code (5 : Nat) (Option.some FieldType.int)) ∈ sf_T := sf_T_of 1639 (by decide +kernel) rfl
theorem wt_1640 : (Cond.methodLink "StreamFuserModel" (328 : Nat) ({ cls := "StreamFuserModel", name := "gives", desc := "(I)V" } : MethodName)) ∈ sf_T := sf_T_of 1640 (by decide +kernel) rfl
theorem wt_1642 : (Cond.instanceMethod ({ cls := "StreamFuserModel", name := "gives", desc := "(I)V" } : MethodName)) ∈ sf_T := sf_T_of 1642 (by decide +kernel) rfl
theorem wt_1643 : (Cond.code ({ cls := "StreamFuserModel", name := "gives", desc := "(I)V" } : MethodName) prog_14_method_56_code (3 : Nat) (Option.none : Option FieldType)) ∈ sf_T := sf_T_of 1643 (by decide +kernel) rfl
theorem wt_1644 : (Cond.methodLink "StreamFuserModel" (362 : Nat) ({ cls := "StreamFuserModel", name := "after", desc := "(II)I" } : MethodName)) ∈ sf_T := sf_T_of 1644 (by decide +kernel) rfl
theorem wt_1646 : (Cond.instanceMethod ({ cls := "StreamFuserModel", name := "after", desc := "(II)I" } : MethodName)) ∈ sf_T := sf_T_of 1646 (by decide +kernel) rfl
theorem wt_1647 : (Cond.code ({ cls := "StreamFuserModel", name := "after", desc := "(II)I" } : MethodName) prog_14_method_66_code (4 : Nat) (Option.some FieldType.int)) ∈ sf_T := sf_T_of 1647 (by decide +kernel) rfl
theorem wt_1648 : (Cond.methodLink "StreamFuserModel" (359 : Nat) ({ cls := "StreamFuserModel", name := "afterOne", desc := "(II)I" } : MethodName)) ∈ sf_T := sf_T_of 1648 (by decide +kernel) rfl
theorem wt_1650 : (Cond.instanceMethod ({ cls := "StreamFuserModel", name := "afterOne", desc := "(II)I" } : MethodName)) ∈ sf_T := sf_T_of 1650 (by decide +kernel) rfl
theorem wt_1651 : (Cond.code ({ cls := "StreamFuserModel", name := "afterOne", desc := "(II)I" } : MethodName) prog_14_method_67_code (3 : Nat) (Option.some FieldType.int)) ∈ sf_T := sf_T_of 1651 (by decide +kernel) rfl
theorem wt_1652 : (Cond.methodLink "StreamFuserModel" (346 : Nat) ({ cls := "StreamFuserModel", name := "opensFor", desc := "(II)V" } : MethodName)) ∈ sf_T := sf_T_of 1652 (by decide +kernel) rfl
theorem wt_1654 : (Cond.instanceMethod ({ cls := "StreamFuserModel", name := "opensFor", desc := "(II)V" } : MethodName)) ∈ sf_T := sf_T_of 1654 (by decide +kernel) rfl
theorem wt_1655 : (Cond.code ({ cls := "StreamFuserModel", name := "opensFor", desc := "(II)V" } : MethodName) prog_14_method_60_code (3 : Nat) (Option.none : Option FieldType)) ∈ sf_T := sf_T_of 1655 (by decide +kernel) rfl
theorem wt_1656 : (Cond.methodLink "StreamFuserModel" (397 : Nat) ({ cls := "StreamFuserModel", name := "asks", desc := "()Z" } : MethodName)) ∈ sf_T := sf_T_of 1656 (by decide +kernel) rfl
theorem wt_1658 : (Cond.instanceMethod ({ cls := "StreamFuserModel", name := "asks", desc := "()Z" } : MethodName)) ∈ sf_T := sf_T_of 1658 (by decide +kernel) rfl
theorem wt_1659 : (Cond.code ({ cls := "StreamFuserModel", name := "asks", desc := "()Z" } : MethodName) prog_14_method_65_code (5 : Nat) (Option.some FieldType.boolean)) ∈ sf_T := sf_T_of 1659 (by decide +kernel) rfl
theorem wt_1660 : (Cond.methodLink "StreamFuserModel" (353 : Nat) ({ cls := "StreamFuserModel", name := "asksNext", desc := "(I)I" } : MethodName)) ∈ sf_T := sf_T_of 1660 (by decide +kernel) rfl
theorem wt_1662 : (Cond.instanceMethod ({ cls := "StreamFuserModel", name := "asksNext", desc := "(I)I" } : MethodName)) ∈ sf_T := sf_T_of 1662 (by decide +kernel) rfl
theorem wt_1663 : (Cond.code ({ cls := "StreamFuserModel", name := "asksNext", desc := "(I)I" } : MethodName) prog_14_method_61_code (3 : Nat) (Option.some FieldType.int)) ∈ sf_T := sf_T_of 1663 (by decide +kernel) rfl
theorem wt_1664 : (Cond.methodLink "StreamFuserModel" (356 : Nat) ({ cls := "StreamFuserModel", name := "hears", desc := "(I)I" } : MethodName)) ∈ sf_T := sf_T_of 1664 (by decide +kernel) rfl
theorem wt_1666 : (Cond.instanceMethod ({ cls := "StreamFuserModel", name := "hears", desc := "(I)I" } : MethodName)) ∈ sf_T := sf_T_of 1666 (by decide +kernel) rfl
theorem wt_1667 : (Cond.code ({ cls := "StreamFuserModel", name := "hears", desc := "(I)I" } : MethodName) prog_14_method_62_code (2 : Nat) (Option.some FieldType.int)) ∈ sf_T := sf_T_of 1667 (by decide +kernel) rfl
theorem wt_1668 : (Cond.methodLink "StreamFuserModel" (334 : Nat) ({ cls := "StreamFuserModel", name := "hearsOne", desc := "(I)I" } : MethodName)) ∈ sf_T := sf_T_of 1668 (by decide +kernel) rfl
theorem wt_1670 : (Cond.instanceMethod ({ cls := "StreamFuserModel", name := "hearsOne", desc := "(I)I" } : MethodName)) ∈ sf_T := sf_T_of 1670 (by decide +kernel) rfl
theorem wt_1671 : (Cond.code ({ cls := "StreamFuserModel", name := "hearsOne", desc := "(I)I" } : MethodName) prog_14_method_63_code (2 : Nat) (Option.some FieldType.int)) ∈ sf_T := sf_T_of 1671 (by decide +kernel) rfl
theorem wt_1672 : (Cond.methodLink "StreamFuserModel" (337 : Nat) ({ cls := "StreamFuserModel", name := "hearsOpen", desc := "(I)I" } : MethodName)) ∈ sf_T := sf_T_of 1672 (by decide +kernel) rfl
theorem wt_1674 : (Cond.instanceMethod ({ cls := "StreamFuserModel", name := "hearsOpen", desc := "(I)I" } : MethodName)) ∈ sf_T := sf_T_of 1674 (by decide +kernel) rfl
theorem wt_1675 : (Cond.code ({ cls := "StreamFuserModel", name := "hearsOpen", desc := "(I)I" } : MethodName) prog_14_method_64_code (2 : Nat) (Option.some FieldType.int)) ∈ sf_T := sf_T_of 1675 (by decide +kernel) rfl
theorem wt_1676 : (Cond.methodLink "StreamFuserLaw" (60 : Nat) ({ cls := "StreamFuserModel", name := "result", desc := "(I)J" } : MethodName)) ∈ sf_T := sf_T_of 1676 (by decide +kernel) rfl
theorem wt_1677 : (Cond.instanceMethod ({ cls := "StreamFuserModel", name := "result", desc := "(I)J" } : MethodName)) ∈ sf_T := sf_T_of 1677 (by decide +kernel) rfl
theorem wt_1678 : (Cond.selects "StreamFuserModel" ({ cls := "StreamFuserModel", name := "result", desc := "(I)J" } : MethodName) ({ cls := "StreamFuserModel", name := "result", desc := "(I)J" } : MethodName)) ∈ sf_T := sf_T_of 1678 (by decide +kernel) rfl
theorem wt_1679 : (Cond.code ({ cls := "StreamFuserModel", name := "result", desc := "(I)J" } : MethodName) prog_14_method_79_code (2 : Nat) (Option.some FieldType.long)) ∈ sf_T := sf_T_of 1679 (by decide +kernel) rfl
theorem wt_1680 : (Cond.methodLink "StreamFuserModel" (411 : Nat) ({ cls := "StreamFuserModel", name := "no", desc := "(I)J" } : MethodName)) ∈ sf_T := sf_T_of 1680 (by decide +kernel) rfl
theorem wt_1681 : (Cond.static ({ cls := "StreamFuserModel", name := "no", desc := "(I)J" } : MethodName)) ∈ sf_T := sf_T_of 1681 (by decide +kernel) rfl
theorem wt_1682 : (Cond.code ({ cls := "StreamFuserModel", name := "no", desc := "(I)J" } : MethodName) prog_14_method_4_code (1 : Nat) (Option.some FieldType.long)) ∈ sf_T := sf_T_of 1682 (by decide +kernel) rfl
theorem wt_1683 : (Cond.constantLong "StreamFuserModel" (124 : Nat) (-9223372036854775808 : Int64)) ∈ sf_T := sf_T_of 1683 (by decide +kernel) rfl
theorem wt_1684 : (Cond.methodLink "StreamFuserLaw" (64 : Nat) ({ cls := "StreamFuserModel", name := "fold", desc := "(I)J" } : MethodName)) ∈ sf_T := sf_T_of 1684 (by decide +kernel) rfl
theorem wt_1685 : (Cond.instanceMethod ({ cls := "StreamFuserModel", name := "fold", desc := "(I)J" } : MethodName)) ∈ sf_T := sf_T_of 1685 (by decide +kernel) rfl
theorem wt_1686 : (Cond.selects "StreamFuserModel" ({ cls := "StreamFuserModel", name := "fold", desc := "(I)J" } : MethodName) ({ cls := "StreamFuserModel", name := "fold", desc := "(I)J" } : MethodName)) ∈ sf_T := sf_T_of 1686 (by decide +kernel) rfl
theorem wt_1687 : (Cond.code ({ cls := "StreamFuserModel", name := "fold", desc := "(I)J" } : MethodName) prog_14_method_81_code (2 : Nat) (Option.some FieldType.long)) ∈ sf_T := sf_T_of 1687 (by decide +kernel) rfl
theorem wt_1688 : (Cond.methodLink "StreamFuserModel" (416 : Nat) ({ cls := "StreamFuserModel", name := "foldBy", desc := "(I)J" } : MethodName)) ∈ sf_T := sf_T_of 1688 (by decide +kernel) rfl
theorem wt_1690 : (Cond.instanceMethod ({ cls := "StreamFuserModel", name := "foldBy", desc := "(I)J" } : MethodName)) ∈ sf_T := sf_T_of 1690 (by decide +kernel) rfl
theorem wt_1691 : (Cond.code ({ cls := "StreamFuserModel", name := "foldBy", desc := "(I)J" } : MethodName) prog_14_method_80_code (7 : Nat) (Option.some FieldType.long)) ∈ sf_T := sf_T_of 1691 (by decide +kernel) rfl
theorem wt_1692 : (Cond.constant "StreamFuserModel" (415 : Nat) (2147483647 : Int32)) ∈ sf_T := sf_T_of 1692 (by decide +kernel) rfl
theorem wt_1693 : (Cond.methodLink "StreamFuserLaw" (68 : Nat) ({ cls := "StreamFuserModel", name := "failure", desc := "(I)I" } : MethodName)) ∈ sf_T := sf_T_of 1693 (by decide +kernel) rfl
theorem wt_1694 : (Cond.instanceMethod ({ cls := "StreamFuserModel", name := "failure", desc := "(I)I" } : MethodName)) ∈ sf_T := sf_T_of 1694 (by decide +kernel) rfl
theorem wt_1695 : (Cond.selects "StreamFuserModel" ({ cls := "StreamFuserModel", name := "failure", desc := "(I)I" } : MethodName) ({ cls := "StreamFuserModel", name := "failure", desc := "(I)I" } : MethodName)) ∈ sf_T := sf_T_of 1695 (by decide +kernel) rfl
theorem wt_1696 : (Cond.code ({ cls := "StreamFuserModel", name := "failure", desc := "(I)I" } : MethodName) prog_14_method_82_code (2 : Nat) (Option.some FieldType.int)) ∈ sf_T := sf_T_of 1696 (by decide +kernel) rfl
theorem wt_1697 : (Cond.methodLink "StreamFuserLaw" (72 : Nat) ({ cls := "StreamFuserModel", name := "told", desc := "(I)I" } : MethodName)) ∈ sf_T := sf_T_of 1697 (by decide +kernel) rfl
theorem wt_1698 : (Cond.instanceMethod ({ cls := "StreamFuserModel", name := "told", desc := "(I)I" } : MethodName)) ∈ sf_T := sf_T_of 1698 (by decide +kernel) rfl
theorem wt_1699 : (Cond.selects "StreamFuserModel" ({ cls := "StreamFuserModel", name := "told", desc := "(I)I" } : MethodName) ({ cls := "StreamFuserModel", name := "told", desc := "(I)I" } : MethodName)) ∈ sf_T := sf_T_of 1699 (by decide +kernel) rfl
theorem wt_1700 : (Cond.code ({ cls := "StreamFuserModel", name := "told", desc := "(I)I" } : MethodName) prog_14_method_83_code (2 : Nat) (Option.some FieldType.int)) ∈ sf_T := sf_T_of 1700 (by decide +kernel) rfl
theorem wt_1701 : (Cond.methodLink "StreamFuserLaw" (77 : Nat) ({ cls := "StreamFuserModel", name := "written", desc := "(II)J" } : MethodName)) ∈ sf_T := sf_T_of 1701 (by decide +kernel) rfl
theorem wt_1702 : (Cond.instanceMethod ({ cls := "StreamFuserModel", name := "written", desc := "(II)J" } : MethodName)) ∈ sf_T := sf_T_of 1702 (by decide +kernel) rfl
theorem wt_1703 : (Cond.selects "StreamFuserModel" ({ cls := "StreamFuserModel", name := "written", desc := "(II)J" } : MethodName) ({ cls := "StreamFuserModel", name := "written", desc := "(II)J" } : MethodName)) ∈ sf_T := sf_T_of 1703 (by decide +kernel) rfl
theorem wt_1704 : (Cond.code ({ cls := "StreamFuserModel", name := "written", desc := "(II)J" } : MethodName) prog_14_method_86_code (3 : Nat) (Option.some FieldType.long)) ∈ sf_T := sf_T_of 1704 (by decide +kernel) rfl
theorem wt_1705 : (Cond.methodLink "StreamFuserModel" (419 : Nat) ({ cls := "StreamFuserModel", name := "keptDown", desc := "()I" } : MethodName)) ∈ sf_T := sf_T_of 1705 (by decide +kernel) rfl
theorem wt_1707 : (Cond.instanceMethod ({ cls := "StreamFuserModel", name := "keptDown", desc := "()I" } : MethodName)) ∈ sf_T := sf_T_of 1707 (by decide +kernel) rfl
theorem wt_1708 : (Cond.code ({ cls := "StreamFuserModel", name := "keptDown", desc := "()I" } : MethodName) prog_14_method_85_code (1 : Nat) (Option.some FieldType.int)) ∈ sf_T := sf_T_of 1708 (by decide +kernel) rfl
theorem wt_1709 : (Cond.methodLink "StreamFuserModel" (422 : Nat) ({ cls := "StreamFuserModel", name := "writtenBy", desc := "(II)J" } : MethodName)) ∈ sf_T := sf_T_of 1709 (by decide +kernel) rfl
theorem wt_1711 : (Cond.instanceMethod ({ cls := "StreamFuserModel", name := "writtenBy", desc := "(II)J" } : MethodName)) ∈ sf_T := sf_T_of 1711 (by decide +kernel) rfl
theorem wt_1712 : (Cond.code ({ cls := "StreamFuserModel", name := "writtenBy", desc := "(II)J" } : MethodName) prog_14_method_84_code (3 : Nat) (Option.some FieldType.long)) ∈ sf_T := sf_T_of 1712 (by decide +kernel) rfl
theorem wt_1713 : (Cond.methodLink "StreamFuserLaw" (104 : Nat) ({ cls := "StreamFuserModel", name := "write", desc := "(I)I" } : MethodName)) ∈ sf_T := sf_T_of 1713 (by decide +kernel) rfl
theorem wt_1714 : (Cond.instanceMethod ({ cls := "StreamFuserModel", name := "write", desc := "(I)I" } : MethodName)) ∈ sf_T := sf_T_of 1714 (by decide +kernel) rfl
theorem wt_1715 : (Cond.selects "StreamFuserModel" ({ cls := "StreamFuserModel", name := "write", desc := "(I)I" } : MethodName) ({ cls := "StreamFuserModel", name := "write", desc := "(I)I" } : MethodName)) ∈ sf_T := sf_T_of 1715 (by decide +kernel) rfl
theorem wt_1716 : (Cond.code ({ cls := "StreamFuserModel", name := "write", desc := "(I)I" } : MethodName) prog_14_method_87_code (4 : Nat) (Option.some FieldType.int)) ∈ sf_T := sf_T_of 1716 (by decide +kernel) rfl
theorem wt_1717 : (Cond.methodLink "StreamFuserLaw" (51 : Nat) ({ cls := "StreamFuserModel", name := "saves", desc := "(I)I" } : MethodName)) ∈ sf_T := sf_T_of 1717 (by decide +kernel) rfl
theorem wt_1718 : (Cond.instanceMethod ({ cls := "StreamFuserModel", name := "saves", desc := "(I)I" } : MethodName)) ∈ sf_T := sf_T_of 1718 (by decide +kernel) rfl
theorem wt_1719 : (Cond.selects "StreamFuserModel" ({ cls := "StreamFuserModel", name := "saves", desc := "(I)I" } : MethodName) ({ cls := "StreamFuserModel", name := "saves", desc := "(I)I" } : MethodName)) ∈ sf_T := sf_T_of 1719 (by decide +kernel) rfl
theorem wt_1720 : (Cond.code ({ cls := "StreamFuserModel", name := "saves", desc := "(I)I" } : MethodName) prog_14_method_90_code (2 : Nat) (Option.some FieldType.int)) ∈ sf_T := sf_T_of 1720 (by decide +kernel) rfl
theorem wt_1721 : (Cond.methodLink "StreamFuserModel" (430 : Nat) ({ cls := "StreamFuserModel", name := "savesBy", desc := "(I)I" } : MethodName)) ∈ sf_T := sf_T_of 1721 (by decide +kernel) rfl
theorem wt_1723 : (Cond.instanceMethod ({ cls := "StreamFuserModel", name := "savesBy", desc := "(I)I" } : MethodName)) ∈ sf_T := sf_T_of 1723 (by decide +kernel) rfl
theorem wt_1724 : (Cond.code ({ cls := "StreamFuserModel", name := "savesBy", desc := "(I)I" } : MethodName) prog_14_method_89_code (4 : Nat) (Option.some FieldType.int)) ∈ sf_T := sf_T_of 1724 (by decide +kernel) rfl
theorem wt_1725 : (Cond.methodLink "StreamFuserModel" (426 : Nat) ({ cls := "StreamFuserModel", name := "lays", desc := "(ZI)V" } : MethodName)) ∈ sf_T := sf_T_of 1725 (by decide +kernel) rfl
theorem wt_1727 : (Cond.instanceMethod ({ cls := "StreamFuserModel", name := "lays", desc := "(ZI)V" } : MethodName)) ∈ sf_T := sf_T_of 1727 (by decide +kernel) rfl
theorem wt_1728 : (Cond.code ({ cls := "StreamFuserModel", name := "lays", desc := "(ZI)V" } : MethodName) prog_14_method_88_code (4 : Nat) (Option.none : Option FieldType)) ∈ sf_T := sf_T_of 1728 (by decide +kernel) rfl
theorem wt_1729 : (Cond.methodLink "StreamFuserLaw" (108 : Nat) ({ cls := "StreamFuserModel", name := "count", desc := "(I)I" } : MethodName)) ∈ sf_T := sf_T_of 1729 (by decide +kernel) rfl
theorem wt_1730 : (Cond.instanceMethod ({ cls := "StreamFuserModel", name := "count", desc := "(I)I" } : MethodName)) ∈ sf_T := sf_T_of 1730 (by decide +kernel) rfl
theorem wt_1731 : (Cond.selects "StreamFuserModel" ({ cls := "StreamFuserModel", name := "count", desc := "(I)I" } : MethodName) ({ cls := "StreamFuserModel", name := "count", desc := "(I)I" } : MethodName)) ∈ sf_T := sf_T_of 1731 (by decide +kernel) rfl
theorem wt_1732 : (Cond.code ({ cls := "StreamFuserModel", name := "count", desc := "(I)I" } : MethodName) prog_14_method_92_code (2 : Nat) (Option.some FieldType.int)) ∈ sf_T := sf_T_of 1732 (by decide +kernel) rfl
theorem wt_1733 : (Cond.methodLink "StreamFuserModel" (433 : Nat) ({ cls := "StreamFuserModel", name := "deepest", desc := "()I" } : MethodName)) ∈ sf_T := sf_T_of 1733 (by decide +kernel) rfl
theorem wt_1735 : (Cond.instanceMethod ({ cls := "StreamFuserModel", name := "deepest", desc := "()I" } : MethodName)) ∈ sf_T := sf_T_of 1735 (by decide +kernel) rfl
theorem wt_1736 : (Cond.code ({ cls := "StreamFuserModel", name := "deepest", desc := "()I" } : MethodName) prog_14_method_91_code (3 : Nat) (Option.some FieldType.int)) ∈ sf_T := sf_T_of 1736 (by decide +kernel) rfl
theorem wt_1737 : (Cond.methodLink "StreamFuserLaw" (113 : Nat) ({ cls := "StreamFuserModel", name := "digest", desc := "()J" } : MethodName)) ∈ sf_T := sf_T_of 1737 (by decide +kernel) rfl
theorem wt_1738 : (Cond.instanceMethod ({ cls := "StreamFuserModel", name := "digest", desc := "()J" } : MethodName)) ∈ sf_T := sf_T_of 1738 (by decide +kernel) rfl
theorem wt_1739 : (Cond.selects "StreamFuserModel" ({ cls := "StreamFuserModel", name := "digest", desc := "()J" } : MethodName) ({ cls := "StreamFuserModel", name := "digest", desc := "()J" } : MethodName)) ∈ sf_T := sf_T_of 1739 (by decide +kernel) rfl
theorem wt_1740 : (Cond.code ({ cls := "StreamFuserModel", name := "digest", desc := "()J" } : MethodName) prog_14_method_94_code (4 : Nat) (Option.some FieldType.long)) ∈ sf_T := sf_T_of 1740 (by decide +kernel) rfl
theorem wt_1741 : (Cond.constantLong "StreamFuserModel" (438 : Nat) (17 : Int64)) ∈ sf_T := sf_T_of 1741 (by decide +kernel) rfl
theorem wt_1742 : (Cond.constantLong "StreamFuserModel" (436 : Nat) (31 : Int64)) ∈ sf_T := sf_T_of 1742 (by decide +kernel) rfl
theorem wt_1743 : (Cond.methodLink "StreamFuserModel" (440 : Nat) ({ cls := "StreamFuserModel", name := "count", desc := "(I)I" } : MethodName)) ∈ sf_T := sf_T_of 1743 (by decide +kernel) rfl
theorem wt_1744 : (Cond.methodLink "StreamFuserModel" (443 : Nat) ({ cls := "StreamFuserModel", name := "planTells", desc := "(J)J" } : MethodName)) ∈ sf_T := sf_T_of 1744 (by decide +kernel) rfl
theorem wt_1746 : (Cond.instanceMethod ({ cls := "StreamFuserModel", name := "planTells", desc := "(J)J" } : MethodName)) ∈ sf_T := sf_T_of 1746 (by decide +kernel) rfl
theorem wt_1747 : (Cond.code ({ cls := "StreamFuserModel", name := "planTells", desc := "(J)J" } : MethodName) prog_14_method_93_code (7 : Nat) (Option.some FieldType.long)) ∈ sf_T := sf_T_of 1747 (by decide +kernel) rfl
theorem wt_1748 : (Cond.sameMethod "StreamFuser$Way" "StreamFuser$Way" "divide" "(III)Z") ∈ sf_T := sf_T_of 1748 (by decide +kernel) rfl
theorem wt_1749 : (Cond.sameMethod "StreamFuser$Walk" "StreamFuser$Walk" "restart" "(II)V") ∈ sf_T := sf_T_of 1749 (by decide +kernel) rfl
theorem wt_1750 : (Cond.selects "StreamFuser$Asker" ({ cls := "StreamFuser$Walk", name := "restart", desc := "(II)V" } : MethodName) ({ cls := "StreamFuser$Walk", name := "restart", desc := "(II)V" } : MethodName)) ∈ sf_T := sf_T_of 1750 (by decide +kernel) rfl
theorem wt_1751 : (Cond.selects "StreamFuser$Stepper" ({ cls := "StreamFuser$Walk", name := "restart", desc := "(II)V" } : MethodName) ({ cls := "StreamFuser$Walk", name := "restart", desc := "(II)V" } : MethodName)) ∈ sf_T := sf_T_of 1751 (by decide +kernel) rfl
end
section
/-! THE SMALL MACHINE: bytecode over a world of fixed cells, as a function. A state gives each cell k and place j a number; references are constant. -/
abbrev sf_S : Type := Nat → Nat → Int32
/-- the locals, the latest store first -/
abbrev sf_L : Type := List (Nat × Option Value)
abbrev sf_Q : Type := Option Value × sf_S
/-- the shape of the cells: an object (its class's place in vwCl, its fields: some k a reference to cell k, none a number), or an array (0 int, 1 boolean, 2 byte; its length) -/
abbrev sf_Lay : Type := List ((Nat × List (Option Nat)) ⊕ (Nat × Nat))
abbrev sf_K (ρ : Type) : Type := Nat → sf_L → List Value → sf_S → Option ρ
/-- a call: the stack and the state before, what goes on behind -/
abbrev sf_J (ρ : Type) : Type := List Value → sf_S → (List Value → sf_S → Option ρ) → Option ρ
/-- a place of the code where a function of one's own takes over -/
abbrev sf_M (ρ : Type) : Type := sf_L → List Value → sf_S → Option ρ
/-- an instruction: itself, the next place, where it jumps, the constant that it brings, a switch's rows, a field's places by classes -/
abbrev sf_E : Type := Instr × Nat × Nat × Value × List (Int32 × Nat) × List (Nat × Nat)
def sf_up (σ : sf_S) (k j : Nat) (v : Int32) : sf_S := fun a b => if a = k ∧ b = j then v else σ a b
def sf_in (i : Int32) (n : Nat) : Bool := !(decide (i < 0)) && decide (i.toNatClampNeg < n)
def sf_01 (x : Int32) : Bool := decide (x = 0) || decide (x = 1)
abbrev sf_nl : Option Value → Option Value
  | some (.long _) => none
  | some (.double _) => none
  | o => o
/-- a long is gone when its second place was written -/
abbrev sf_get : sf_L → Nat → Option Value
  | [], _ => none
  | (k, o) :: l, i => match Nat.beq k i with
    | true => o
    | false => match Nat.beq k (i + 1) with
      | true => sf_nl (sf_get l i)
      | false => sf_get l i
abbrev sf_st1 (L : sf_L) (i : Nat) (v : Value) : sf_L := (i, some v) :: L
abbrev sf_st2 (L : sf_L) (i : Nat) (v : Value) : sf_L := (i, some v) :: (i + 1, none) :: L
abbrev sf_as {α : Type} : List (Nat × α) → Nat → Option α
  | [], _ => none
  | (k, a) :: l, n => if Nat.beq k n then some a else sf_as l n
abbrev sf_sw {ρ : Type} (K : Nat → Option ρ) (x : Int32) (d : Nat) : List (Int32 × Nat) → Option ρ
  | [] => K d
  | (a, t) :: l => if x = a then K t else sf_sw K x d l
abbrev sf_i1 {ρ : Type} (st : List Value) (f : Int32 → List Value → Option ρ) : Option ρ := match st with
  | .int x :: r => f x r
  | _ => none
abbrev sf_i2 {ρ : Type} (st : List Value) (f : Int32 → Int32 → List Value → Option ρ) : Option ρ := match st with
  | .int y :: .int x :: r => f x y r
  | _ => none
abbrev sf_l1 {ρ : Type} (st : List Value) (f : Int64 → List Value → Option ρ) : Option ρ := match st with
  | .long x :: r => f x r
  | _ => none
abbrev sf_l2 {ρ : Type} (st : List Value) (f : Int64 → Int64 → List Value → Option ρ) : Option ρ := match st with
  | .long y :: .long x :: r => f x y r
  | _ => none
abbrev sf_ar {ρ : Type} (lay : sf_Lay) (q : Nat) (f : Nat → Nat → Option ρ) : Option ρ := match lay[q]? with
  | some (.inr (t, n)) => f t n
  | _ => none
abbrev sf_ob {ρ : Type} (lay : sf_Lay) (q : Nat) (f : Nat → List (Option Nat) → Option ρ) : Option ρ := match lay[q]? with
  | some (.inl (c, fs)) => f c fs
  | _ => none
abbrev sf_ldi {ρ : Type} (L : sf_L) (i : Nat) (f : Int32 → Option ρ) : Option ρ := match sf_get L i with
  | some (.int x) => f x
  | _ => none
abbrev sf_ldl {ρ : Type} (L : sf_L) (i : Nat) (f : Int64 → Option ρ) : Option ρ := match sf_get L i with
  | some (.long x) => f x
  | _ => none
abbrev sf_lda {ρ : Type} (L : sf_L) (i : Nat) (f : Nat → Option ρ) : Option ρ := match sf_get L i with
  | some (.ref x) => f x
  | _ => none
abbrev sf_getf {ρ : Type} (lay : sf_Lay) (fp : List (Nat × Nat)) (q : Nat) (σ : sf_S) (f : Value → Option ρ) : Option ρ := sf_ob lay q fun c fs => match sf_as fp c with
  | some k => match fs[k]? with
    | some (some q2) => f (.ref q2)
    | some none => f (.int (σ q k))
    | none => none
  | none => none
/-- a field's place, where it is a number -/
abbrev sf_putf {ρ : Type} (lay : sf_Lay) (fp : List (Nat × Nat)) (q : Nat) (f : Nat → Option ρ) : Option ρ := sf_ob lay q fun c fs => match sf_as fp c with
  | some k => match fs[k]? with
    | some none => f k
    | _ => none
  | none => none
/-- one instruction; rh: what the method answers; J: its calls, by their places -/
abbrev sf_step {ρ : Type} (lay : sf_Lay) (rh : Option Value → sf_S → Option ρ) (J : List (Nat × sf_J ρ)) (e : sf_E) (pc : Nat) (L : sf_L) (st : List Value) (σ : sf_S) (K : sf_K ρ) : Option ρ :=
  match e with
  | (ins, nx, tg, v, sw, fp) =>
    match ins with
    | .iconst _ => K nx L (v :: st) σ
    | .bipush _ => K nx L (v :: st) σ
    | .sipush _ => K nx L (v :: st) σ
    | .ldc _ => K nx L (v :: st) σ
    | .ldc_w _ => K nx L (v :: st) σ
    | .ldc2_w _ => K nx L (v :: st) σ
    | .lconst _ => K nx L (v :: st) σ
    | .iload_n i => sf_ldi L i fun x => K nx L (.int x :: st) σ
    | .iload i => sf_ldi L i fun x => K nx L (.int x :: st) σ
    | .lload_n i => sf_ldl L i fun x => K nx L (.long x :: st) σ
    | .lload i => sf_ldl L i fun x => K nx L (.long x :: st) σ
    | .aload_n i => sf_lda L i fun x => K nx L (.ref x :: st) σ
    | .aload i => sf_lda L i fun x => K nx L (.ref x :: st) σ
    | .istore_n i => sf_i1 st fun x r => K nx (sf_st1 L i (.int x)) r σ
    | .istore i => sf_i1 st fun x r => K nx (sf_st1 L i (.int x)) r σ
    | .lstore_n i => sf_l1 st fun x r => K nx (sf_st2 L i (.long x)) r σ
    | .lstore i => sf_l1 st fun x r => K nx (sf_st2 L i (.long x)) r σ
    | .iinc i _ => sf_ldi L i fun x => match v with
      | .int d => K nx (sf_st1 L i (.int (x + d))) st σ
      | _ => none
    | .iadd => sf_i2 st fun x y r => K nx L (.int (x + y) :: r) σ
    | .isub => sf_i2 st fun x y r => K nx L (.int (x - y) :: r) σ
    | .imul => sf_i2 st fun x y r => K nx L (.int (x * y) :: r) σ
    | .ixor => sf_i2 st fun x y r => K nx L (.int (x ^^^ y) :: r) σ
    | .idiv => sf_i2 st fun x y r => if y = 0 then none else K nx L (.int (x / y) :: r) σ
    | .irem => sf_i2 st fun x y r => if y = 0 then none else K nx L (.int (x - x / y * y) :: r) σ
    | .ineg => sf_i1 st fun x r => K nx L (.int (-x) :: r) σ
    | .ladd => sf_l2 st fun x y r => K nx L (.long (x + y) :: r) σ
    | .lsub => sf_l2 st fun x y r => K nx L (.long (x - y) :: r) σ
    | .lmul => sf_l2 st fun x y r => K nx L (.long (x * y) :: r) σ
    | .ldiv => sf_l2 st fun x y r => if y = 0 then none else K nx L (.long (x / y) :: r) σ
    | .lrem => sf_l2 st fun x y r => if y = 0 then none else K nx L (.long (x - x / y * y) :: r) σ
    | .lneg => sf_l1 st fun x r => K nx L (.long (-x) :: r) σ
    | .lcmp => sf_l2 st fun x y r => K nx L (.int (lg_cmp x y) :: r) σ
    | .i2l => sf_i1 st fun x r => K nx L (.long x.toInt64 :: r) σ
    | .l2i => sf_l1 st fun x r => K nx L (.int x.toInt32 :: r) σ
    | .i2b => sf_i1 st fun x r => K nx L (.int x.toInt8.toInt32 :: r) σ
    | .i2s => sf_i1 st fun x r => K nx L (.int x.toInt16.toInt32 :: r) σ
    | .dup => match st with
      | .int x :: r => K nx L (.int x :: .int x :: r) σ
      | .ref x :: r => K nx L (.ref x :: .ref x :: r) σ
      | _ => none
    | .dup2 => match st with
      | .int x :: .ref y :: r => K nx L (.int x :: .ref y :: .int x :: .ref y :: r) σ
      | _ => none
    | .pop => match st with
      | .int _ :: r => K nx L r σ
      | .ref _ :: r => K nx L r σ
      | _ => none
    | .goto _ => K tg L st σ
    | .ifCond .eq _ => sf_i1 st fun x r => if x = 0 then K tg L r σ else K nx L r σ
    | .ifCond .ne _ => sf_i1 st fun x r => if ¬ x = 0 then K tg L r σ else K nx L r σ
    | .ifCond .lt _ => sf_i1 st fun x r => if x < 0 then K tg L r σ else K nx L r σ
    | .ifCond .ge _ => sf_i1 st fun x r => if 0 ≤ x then K tg L r σ else K nx L r σ
    | .ifCond .gt _ => sf_i1 st fun x r => if 0 < x then K tg L r σ else K nx L r σ
    | .ifCond .le _ => sf_i1 st fun x r => if x ≤ 0 then K tg L r σ else K nx L r σ
    | .if_icmp .eq _ => sf_i2 st fun x y r => if x = y then K tg L r σ else K nx L r σ
    | .if_icmp .ne _ => sf_i2 st fun x y r => if ¬ x = y then K tg L r σ else K nx L r σ
    | .if_icmp .lt _ => sf_i2 st fun x y r => if x < y then K tg L r σ else K nx L r σ
    | .if_icmp .ge _ => sf_i2 st fun x y r => if y ≤ x then K tg L r σ else K nx L r σ
    | .if_icmp .gt _ => sf_i2 st fun x y r => if y < x then K tg L r σ else K nx L r σ
    | .if_icmp .le _ => sf_i2 st fun x y r => if x ≤ y then K tg L r σ else K nx L r σ
    | .tableswitch _ _ _ _ => sf_i1 st fun x r => sf_sw (fun t => K t L r σ) x tg sw
    | .lookupswitch _ _ => sf_i1 st fun x r => sf_sw (fun t => K t L r σ) x tg sw
    | .getfield _ => match st with
      | .ref q :: r => sf_getf lay fp q σ fun y => K nx L (y :: r) σ
      | _ => none
    | .putfield _ => match st with
      | .int x :: .ref q :: r => sf_putf lay fp q fun k => match v with
        | .null => K nx L r (sf_up σ q k x)
        | _ => if sf_01 x then K nx L r (sf_up σ q k x) else none
      | _ => none
    | .iaload => match st with
      | .int i :: .ref q :: r => sf_ar lay q fun t n => match t with
        | 0 => if sf_in i n then K nx L (.int (σ q i.toNatClampNeg) :: r) σ else none
        | _ => none
      | _ => none
    | .baload => match st with
      | .int i :: .ref q :: r => sf_ar lay q fun t n => match t with
        | 1 => if sf_in i n then K nx L (.int (σ q i.toNatClampNeg) :: r) σ else none
        | 2 => if sf_in i n then K nx L (.int (σ q i.toNatClampNeg) :: r) σ else none
        | _ => none
      | _ => none
    | .iastore => match st with
      | .int x :: .int i :: .ref q :: r => sf_ar lay q fun t n => match t with
        | 0 => if sf_in i n then K nx L r (sf_up σ q i.toNatClampNeg x) else none
        | _ => none
      | _ => none
    | .bastore => match st with
      | .int x :: .int i :: .ref q :: r => sf_ar lay q fun t n => match t with
        | 1 => if sf_in i n then K nx L r (sf_up σ q i.toNatClampNeg (vp_nar .boolean x)) else none
        | 2 => if sf_in i n then K nx L r (sf_up σ q i.toNatClampNeg (vp_nar .byte x)) else none
        | _ => none
      | _ => none
    | .ireturn => match st with
      | [.int x] => rh (some (.int x)) σ
      | _ => none
    | .lreturn => match st with
      | [.long x] => rh (some (.long x)) σ
      | _ => none
    | .return_ => match st with
      | [] => rh none σ
      | _ => none
    | .invokevirtual _ => match sf_as J pc with
      | some j => j st σ fun st2 σ2 => K nx L st2 σ2
      | none => none
    | .invokestatic _ => match sf_as J pc with
      | some j => j st σ fun st2 σ2 => K nx L st2 σ2
      | none => none
    | _ => none
/-- n instructions at most, from a place on; at the places of sm one's own functions take over -/
abbrev sf_run {ρ : Type} (lay : sf_Lay) (rh : Option Value → sf_S → Option ρ) (J : List (Nat × sf_J ρ)) (tab : List (Nat × sf_E)) (sm : List (Nat × sf_M ρ)) : Nat → sf_K ρ
  | 0 => fun _ _ _ _ => none
  | n + 1 => fun pc L st σ => match sf_as tab pc with
    | some e => sf_step lay rh J e pc L st σ fun pc2 L2 st2 σ2 => match sf_as sm pc2 with
      | some f => f L2 st2 σ2
      | none => sf_run lay rh J tab sm n pc2 L2 st2 σ2
    | none => none
/-- what methods answer: a number (any, or 0 and 1 alone), a long, nothing -/
abbrev sf_hI (v : Option Value) (σ : sf_S) : Option (Int32 × sf_S) := match v with
  | some (.int x) => some (x, σ)
  | _ => none
abbrev sf_hZ (v : Option Value) (σ : sf_S) : Option (Int32 × sf_S) := match v with
  | some (.int x) => if sf_01 x then some (x, σ) else none
  | _ => none
abbrev sf_hL (v : Option Value) (σ : sf_S) : Option (Int64 × sf_S) := match v with
  | some (.long x) => some (x, σ)
  | _ => none
abbrev sf_hV (v : Option Value) (σ : sf_S) : Option sf_S := match v with
  | none => some σ
  | _ => none
def sf_vI (u : Int32 × sf_S) : sf_Q := (some (.int u.1), u.2)
def sf_vL (u : Int64 × sf_S) : sf_Q := (some (.long u.1), u.2)
def sf_vV (u : sf_S) : sf_Q := (none, u)
/-- n words from the top, the lowest first; what lies below -/
abbrev sf_pop {ρ : Type} : Nat → List Value → List Value → (List Value → List Value → Option ρ) → Option ρ
  | 0, acc, st, f => f acc st
  | n + 1, acc, st, f => match st with
    | v :: r => sf_pop n (v :: acc) r f
    | [] => none
abbrev sf_l4 (r : List Value) : Bool := match r with
  | [] => true
  | [_] => true
  | [_, _] => true
  | [_, _, _] => true
  | [_, _, _, _] => true
  | _ => false
/-- a call's words: the first is an object of the classes cs (where cs is empty: no receiver is asked for), four words at most lie below -/
abbrev sf_rc (lay : sf_Lay) (cs : List Nat) (av r : List Value) : Bool := match sf_l4 r with
  | false => false
  | true => match cs with
    | [] => true
    | _ => match av with
      | .ref q :: _ => match lay[q]? with
        | some (.inl (c, _)) => cs.any (fun x => Nat.beq x c)
        | _ => false
      | _ => false
abbrev sf_jI {ρ : Type} (lay : sf_Lay) (cs : List Nat) (n : Nat) (g : List Value → sf_S → Option (Int32 × sf_S)) : sf_J ρ := fun st σ K => sf_pop n [] st fun av r => match sf_rc lay cs av r with
  | true => (g av σ).bind fun u => K (.int u.1 :: r) u.2
  | false => none
abbrev sf_jL {ρ : Type} (lay : sf_Lay) (cs : List Nat) (n : Nat) (g : List Value → sf_S → Option (Int64 × sf_S)) : sf_J ρ := fun st σ K => sf_pop n [] st fun av r => match sf_rc lay cs av r with
  | true => (g av σ).bind fun u => K (.long u.1 :: r) u.2
  | false => none
abbrev sf_jV {ρ : Type} (lay : sf_Lay) (cs : List Nat) (n : Nat) (g : List Value → sf_S → Option sf_S) : sf_J ρ := fun st σ K => sf_pop n [] st fun av r => match sf_rc lay cs av r with
  | true => (g av σ).bind fun u => K r u
  | false => none
/-- Math's own, and arraycopy over the numbers of one array -/
abbrev sf_jmax {ρ : Type} : sf_J ρ := fun st σ K => match st with
  | .int y :: .int x :: r => if sf_l4 r then K (.int (if x < y then y else x) :: r) σ else none
  | _ => none
abbrev sf_jmin {ρ : Type} : sf_J ρ := fun st σ K => match st with
  | .int y :: .int x :: r => if sf_l4 r then K (.int (if y < x then y else x) :: r) σ else none
  | _ => none
abbrev sf_jmaxL {ρ : Type} : sf_J ρ := fun st σ K => match st with
  | .long y :: .long x :: r => if sf_l4 r then K (.long (if y < x then x else y) :: r) σ else none
  | _ => none
abbrev sf_jabsL {ρ : Type} : sf_J ρ := fun st σ K => match st with
  | .long x :: r => if sf_l4 r then K (.long (if 0 < x then x else -x) :: r) σ else none
  | _ => none
def sf_cpy (σ : sf_S) (q : Nat) (i j n : Int32) : sf_S := fun a b => if a = q then va_cpy (σ q) (σ q) i.toNatClampNeg j.toNatClampNeg n.toNatClampNeg b else σ a b
abbrev sf_jcpy {ρ : Type} (lay : sf_Lay) : sf_J ρ := fun st σ K => match st with
  | .int n :: .int j :: .ref q :: .int i :: .ref q2 :: r => if sf_l4 r && Nat.beq q q2 then sf_ar lay q fun t N => match t with
      | 0 => if !(decide (i < 0)) && !(decide (j < 0)) && !(decide (n < 0)) && Nat.ble (i.toNatClampNeg + n.toNatClampNeg) N && Nat.ble (j.toNatClampNeg + n.toNatClampNeg) N then K r (sf_cpy σ q i j n) else none
      | _ => none
    else none
  | _ => none
end
section
/-! THE SMALL MACHINE IS SOUND: what it says of a method's code, the machine does -/
def sf_v (ad : Nat → Nat) : Value → Value
  | .ref q => .ref (ad q)
  | v => v
def sf_fv (ad : Nat → Nat) (x : Int32) : Option Nat → Value
  | some q => .ref (ad q)
  | none => .int x
def sf_ce (ad : Nat → Nat) (cy : Nat → ClassId) (σ : sf_S) (k : Nat) : (Nat × List (Option Nat)) ⊕ (Nat × Nat) → va_E
  | .inl (ci, fs) => .inr (ci, fs.mapIdx fun j f => sf_fv ad (σ k j) f)
  | .inr (t, n) => .inl (cy t, n, .inl (σ k))
def sf_wd (lay : sf_Lay) (ad : Nat → Nat) (cy : Nat → ClassId) (σ : sf_S) : va_W := lay.mapIdx fun k sh => (ad k, sf_ce ad cy σ k sh)
def sf_ty (cy : Nat → ClassId) : List (ClassId × FieldType) := [(cy 0, .int), (cy 1, .boolean), (cy 2, .byte)]
def sf_A (lay : sf_Lay) (ad : Nat → Nat) (sz : Nat) : Nat → Prop := fun q => (∃ k, k < lay.length ∧ q = ad k) ∨ sz ≤ q
def sf_inj (lay : sf_Lay) (ad : Nat → Nat) : Prop := ∀ i j, i < lay.length → j < lay.length → ad i = ad j → i = j
def sf_LV (ls : Array Slot) (nL : Nat) (ad : Nat → Nat) (L : sf_L) : Prop := ls.size = nL ∧ lv_wf ls ∧ ∀ i v, sf_get L i = some v → ls[i]? = some (.val (sf_v ad v))
theorem sf_v_cat (ad : Nat → Nat) (v : Value) : (sf_v ad v).category = v.category := by cases v <;> rfl
theorem sf_nl_some {o : Option Value} {w : Value} (h : sf_nl o = some w) : o = some w ∧ w.category = 1 := by
  unfold sf_nl at h
  split at h
  · cases h
  · cases h
  · rename_i h1 h2
    refine ⟨h, ?_⟩
    subst h
    cases w with
    | long x => exact absurd rfl (h1 x)
    | double x => exact absurd rfl (h2 x)
    | _ => rfl
theorem sf_get_put {L : sf_L} {i : Nat} {o : Option Value} {j : Nat} {w : Value} (h : sf_get ((i, o) :: L) j = some w) : (j = i ∧ o = some w) ∨ (j ≠ i ∧ sf_get L j = some w ∧ ¬ (j + 1 = i ∧ w.category = 2)) := by
  simp only [sf_get] at h
  split at h
  · rename_i hk
    exact Or.inl ⟨(Nat.eq_of_beq_eq_true hk).symm, h⟩
  · rename_i hk
    have hne : j ≠ i := fun e => by rw [e, Nat.beq_refl] at hk; cases hk
    split at h
    · obtain ⟨h1, h2⟩ := sf_nl_some h
      exact Or.inr ⟨hne, h1, fun q => by omega⟩
    · rename_i hk2
      exact Or.inr ⟨hne, h, fun q => by rw [q.1, Nat.beq_refl] at hk2; cases hk2⟩
def sf_prs (ad : Nat → Nat) (nL : Nat) (L : sf_L) : List (Nat × Value) := (List.range nL).filterMap fun i => (sf_get L i).map fun v => (i, sf_v ad v)
theorem sf_mem_prs {ad : Nat → Nat} {nL : Nat} {L : sf_L} {i : Nat} {v : Value} (hi : i < nL) (h : sf_get L i = some v) : (i, sf_v ad v) ∈ sf_prs ad nL L :=
  List.mem_filterMap.mpr ⟨i, List.mem_range.mpr hi, by simp [h]⟩
theorem sf_LV.has {ls : Array Slot} {nL : Nat} {ad : Nat → Nat} {L : sf_L} (h : sf_LV ls nL ad L) : lv_has ls nL (sf_prs ad nL L) := by
  refine ⟨h.1, h.2.1, fun q hq => ?_⟩
  obtain ⟨i, -, hi⟩ := List.mem_filterMap.mp hq
  cases hg : sf_get L i with
  | none => simp [hg] at hi
  | some v =>
    simp [hg] at hi
    rw [← hi]
    exact h.2.2 i v hg
theorem sf_LV.lt {ls : Array Slot} {nL : Nat} {ad : Nat → Nat} {L : sf_L} (h : sf_LV ls nL ad L) {i : Nat} {v : Value} (hg : sf_get L i = some v) : i < nL := by
  have := lv_lt (h.2.2 i v hg)
  rw [h.1] at this
  exact this
theorem sf_LV.st1 {ls ls' : Array Slot} {nL : Nat} {ad : Nat → Nat} {L : sf_L} {i : Nat} {v w : Value} (h : sf_LV ls nL ad L) (hw : sf_v ad v = w) (h' : lv_has ls' nL ((i, w) :: (sf_prs ad nL L).filter (fun q => !(q.1 == i) && !(q.1 + 1 == i && q.2.category == 2)))) : sf_LV ls' nL ad (sf_st1 L i v) := by
  refine ⟨h'.1, h'.2.1, fun j x hg => ?_⟩
  rcases sf_get_put hg with ⟨h1, h2⟩ | ⟨h1, h2⟩
  · cases h2
    subst h1
    rw [hw]
    exact h'.2.2 (j, w) List.mem_cons_self
  · obtain ⟨h3, h4⟩ := h2
    refine h'.2.2 (j, sf_v ad x) (List.mem_cons_of_mem _ (List.mem_filter.mpr ⟨sf_mem_prs (h.lt h3) h3, ?_⟩))
    simp only [Bool.and_eq_true, Bool.not_eq_true', beq_eq_false_iff_ne, ne_eq, Bool.and_eq_false_iff, sf_v_cat]
    refine ⟨h1, ?_⟩
    by_cases hc : j + 1 = i
    · exact Or.inr fun hx => h4 ⟨hc, hx⟩
    · exact Or.inl hc
theorem sf_LV.st2 {ls ls' : Array Slot} {nL : Nat} {ad : Nat → Nat} {L : sf_L} {i : Nat} {v w : Value} (h : sf_LV ls nL ad L) (hw : sf_v ad v = w) (h' : lv_has ls' nL ((i, w) :: (sf_prs ad nL L).filter (fun q => !(q.1 == i) && (!(q.1 == i + 1) && !(q.1 + 1 == i && q.2.category == 2))))) : sf_LV ls' nL ad (sf_st2 L i v) := by
  refine ⟨h'.1, h'.2.1, fun j x hg => ?_⟩
  rcases sf_get_put hg with ⟨h1, h2⟩ | ⟨h1, hg, h4⟩
  · cases h2
    subst h1
    rw [hw]
    exact h'.2.2 (j, w) List.mem_cons_self
  rcases sf_get_put hg with ⟨-, h2⟩ | ⟨h0, h3, -⟩
  · cases h2
  · refine h'.2.2 (j, sf_v ad x) (List.mem_cons_of_mem _ (List.mem_filter.mpr ⟨sf_mem_prs (h.lt h3) h3, ?_⟩))
    simp only [Bool.and_eq_true, Bool.not_eq_true', beq_eq_false_iff_ne, ne_eq, Bool.and_eq_false_iff, sf_v_cat]
    refine ⟨h1, h0, ?_⟩
    by_cases hc : j + 1 = i
    · exact Or.inr fun hx => h4 ⟨hc, hx⟩
    · exact Or.inl hc
theorem sf_LV.mono {ls : Array Slot} {nL : Nat} {ad : Nat → Nat} {L L0 : sf_L} (h : sf_LV ls nL ad L) (hm : ∀ i v, sf_get L0 i = some v → sf_get L i = some v) : sf_LV ls nL ad L0 := ⟨h.1, h.2.1, fun i v hg => h.2.2 i v (hm i v hg)⟩
/-! the world's cells -/
theorem sf_wd_at {lay : sf_Lay} {ad : Nat → Nat} {cy : Nat → ClassId} {σ : sf_S} {k : Nat} {sh : (Nat × List (Option Nat)) ⊕ (Nat × Nat)} (h : lay[k]? = some sh) : (sf_wd lay ad cy σ)[k]? = some (ad k, sf_ce ad cy σ k sh) := by
  simp [sf_wd, List.getElem?_mapIdx, h]
theorem sf_wd_inv {lay : sf_Lay} {ad : Nat → Nat} {cy : Nat → ClassId} {σ : sf_S} {k : Nat} {q : Nat × va_E} (h : (sf_wd lay ad cy σ)[k]? = some q) : k < lay.length ∧ q.1 = ad k := by
  simp only [sf_wd, List.getElem?_mapIdx, Option.map_eq_some_iff] at h
  obtain ⟨sh, h1, h2⟩ := h
  exact ⟨(List.getElem?_eq_some_iff.mp h1).1, by rw [← h2]⟩
theorem sf_wd_D {lay : sf_Lay} {ad : Nat → Nat} (cy : Nat → ClassId) (σ : sf_S) (hi : sf_inj lay ad) {A : Nat → Prop} (hA : ∀ k, k < lay.length → A (ad k)) : va_D A (sf_wd lay ad cy σ) := by
  refine ⟨fun i j x y hx hy hxy => ?_, fun k q hq => ?_⟩
  · obtain ⟨h1, h2⟩ := sf_wd_inv hx
    obtain ⟨h3, h4⟩ := sf_wd_inv hy
    exact hi i j h1 h3 (by rw [← h2, ← h4]; exact hxy)
  · obtain ⟨h1, h2⟩ := sf_wd_inv hq
    rw [h2]
    exact hA k h1
theorem sf_wd_put {lay : sf_Lay} {ad : Nat → Nat} {cy : Nat → ClassId} {σ : sf_S} {q ci k : Nat} {fs : List (Option Nat)} {x : Int32} (h : lay[q]? = some (.inl (ci, fs))) (hk : fs[k]? = some none) : (sf_wd lay ad cy σ).set q (ad q, .inr (ci, (fs.mapIdx fun j f => sf_fv ad (σ q j) f).set k (.int x))) = sf_wd lay ad cy (sf_up σ q k x) := by
  have hq : q < lay.length := (List.getElem?_eq_some_iff.mp h).1
  have hkl : k < fs.length := (List.getElem?_eq_some_iff.mp hk).1
  apply List.ext_getElem?
  intro i
  by_cases hi : i = q
  · subst hi
    rw [sf_wd_at h, List.getElem?_set_self (by simp [sf_wd, hq])]
    simp only [sf_ce, Option.some.injEq, Prod.mk.injEq, Sum.inr.injEq, true_and]
    apply List.ext_getElem?
    intro j
    by_cases hj : j = k
    · subst hj
      rw [List.getElem?_set_self (by simp [hkl])]
      simp [List.getElem?_mapIdx, hk, sf_fv, sf_up]
    · rw [List.getElem?_set_ne (Ne.symm hj)]
      simp [List.getElem?_mapIdx, sf_up, hj]
  · rw [List.getElem?_set_ne (Ne.symm hi)]
    simp only [sf_wd, List.getElem?_mapIdx]
    congr 1
    funext sh
    cases sh with
    | inl o => simp [sf_ce, sf_up, hi]
    | inr o =>
      simp only [sf_ce, Prod.mk.injEq, Sum.inl.injEq, true_and]
      funext b
      simp [sf_up, hi]
theorem sf_wd_row {lay : sf_Lay} {ad : Nat → Nat} {cy : Nat → ClassId} {σ σ2 : sf_S} {q t n : Nat} {f : Nat → Int32} (h : lay[q]? = some (.inr (t, n))) (h1 : σ2 q = f) (h2 : ∀ a, a ≠ q → σ2 a = σ a) : (sf_wd lay ad cy σ).set q (ad q, .inl (cy t, n, .inl f)) = sf_wd lay ad cy σ2 := by
  have hq : q < lay.length := (List.getElem?_eq_some_iff.mp h).1
  apply List.ext_getElem?
  intro i
  by_cases hi : i = q
  · subst hi
    rw [sf_wd_at h, List.getElem?_set_self (by simp [sf_wd, hq])]
    simp [sf_ce, h1]
  · rw [List.getElem?_set_ne (Ne.symm hi)]
    simp only [sf_wd, List.getElem?_mapIdx]
    congr 1
    funext sh
    cases sh with
    | inl o => simp [sf_ce, h2 i hi]
    | inr o => simp [sf_ce, h2 i hi]
theorem sf_up_row (σ : sf_S) (q j : Nat) (x : Int32) : sf_up σ q j x q = upd (σ q) j x := by
  funext b
  simp [sf_up, upd]
theorem sf_up_else (σ : sf_S) (q j : Nat) (x : Int32) (a : Nat) (h : a ≠ q) : sf_up σ q j x a = σ a := by
  funext b
  simp [sf_up, h]
theorem sf_in_iff {i : Int32} {n : Nat} (h : sf_in i n = true) : vp_in i n := by
  simp only [sf_in, Bool.and_eq_true, Bool.not_eq_true', decide_eq_false_iff_not, decide_eq_true_eq] at h
  rintro (q | q)
  · exact h.1 q
  · omega
end
section
/-! one instruction, and many: the machine does what the small machine says -/
def sf_len : Instr → Nat
  | .bipush _ => 2
  | .sipush _ => 3
  | .ldc _ => 2
  | .ldc_w _ => 3
  | .ldc2_w _ => 3
  | .iload _ => 2
  | .lload _ => 2
  | .aload _ => 2
  | .istore _ => 2
  | .lstore _ => 2
  | .iinc _ _ => 3
  | .goto _ => 3
  | .ifCond _ _ => 3
  | .if_icmp _ _ => 3
  | .getfield _ => 3
  | .putfield _ => 3
  | .invokevirtual _ => 3
  | .invokestatic _ => 3
  | .tableswitch _ _ _ _ => 0
  | .lookupswitch _ _ => 0
  | _ => 1
/-- fields of a class's code: entry of its pool, class in vwCl, place, kind (0 read alone, 1 int, 2 boolean) -/
abbrev sf_FL : Type := List (Nat × Nat × Nat × Nat)
def sf_hasf (fl : sf_FL) (idx : Nat) (kinds : List Nat) (fp : List (Nat × Nat)) : Bool := fp.all fun q => fl.any fun r => Nat.beq r.1 idx && Nat.beq r.2.1 q.1 && Nat.beq r.2.2.1 q.2 && kinds.any (fun k => Nat.beq k r.2.2.2)
/-- rows of a lookupswitch: keys and places as the instruction has them -/
def sf_lks (pc : Nat) : List (Int × Int) → List (Int32 × Nat) → Bool
  | [], [] => true
  | (a, o) :: r, (k, t) :: w => decide (k.toInt = a) && decide ((pc : Int) + o = (t : Int)) && sf_lks pc r w
  | _, _ => false
def sf_tbs (pc : Nat) (lo : Int) : List Int → List (Int32 × Nat) → Bool
  | [], [] => true
  | o :: r, (k, t) :: w => decide (k.toInt = lo) && decide ((pc : Int) + o = (t : Int)) && sf_tbs pc (lo + 1) r w
  | _, _ => false
def sf_ok1 (nL : Nat) (fl : sf_FL) (cl : List (Nat × Value)) (pc : Nat) (e : sf_E) : Bool :=
  match e with
  | (ins, nx, tg, v, sw, fp) =>
    match ins with
    | .iconst n => decide (v = .int (Int32.ofInt n))
    | .bipush n => decide (v = .int ((Int8.ofInt n).toInt32))
    | .sipush n => decide (v = .int ((Int16.ofInt n).toInt32))
    | .ldc i => decide ((i, v) ∈ cl) && (match v with | .int _ => true | _ => false)
    | .ldc_w i => decide ((i, v) ∈ cl) && (match v with | .int _ => true | _ => false)
    | .ldc2_w i => decide ((i, v) ∈ cl) && (match v with | .long _ => true | _ => false)
    | .lconst n => decide (v = .long (Int64.ofNat (n : Nat)))
    | .istore_n i => decide ((i : Nat) < nL)
    | .istore i => decide (i < nL)
    | .lstore_n i => decide ((i : Nat) + 1 < nL)
    | .lstore i => decide (i + 1 < nL)
    | .iinc _ n => decide (v = .int (Int32.ofInt n))
    | .goto o => decide ((pc : Int) + o = (tg : Int))
    | .ifCond _ o => decide ((pc : Int) + o = (tg : Int))
    | .if_icmp _ o => decide ((pc : Int) + o = (tg : Int))
    | .getfield i => sf_hasf fl i [0, 1, 2] fp
    | .putfield i => (match v with | .null => sf_hasf fl i [1] fp | _ => sf_hasf fl i [2] fp)
    | .tableswitch d lo hi offs => decide ((pc : Int) + d = (tg : Int)) && sf_tbs pc lo offs.toList sw && decide (hi = lo + (offs.size : Int) - 1)
    | .lookupswitch d ps => decide ((pc : Int) + d = (tg : Int)) && sf_lks pc ps.toList sw && (ps.toList.zip (ps.toList.drop 1)).all (fun (a, next) => decide (a.1 < next.1))
    | _ => true
def sf_dec (cc : ByteArray) (pc : Nat) (e : sf_E) : Bool := match decode cc pc with
  | .ok (i, n) => decide (i = e.1) && (Nat.beq (sf_len i) 0 || (Nat.beq n (sf_len i) && Nat.beq e.2.1 (pc + n)))
  | _ => false
def sf_chk (cc : ByteArray) (nL : Nat) (fl : sf_FL) (cl : List (Nat × Value)) (tab : List (Nat × sf_E)) : Bool := tab.all fun q => sf_dec cc q.1 q.2 && sf_ok1 nL fl cl q.1 q.2
theorem sf_as_mem {α : Type} : ∀ {l : List (Nat × α)} {n : Nat} {a : α}, sf_as l n = some a → (n, a) ∈ l
  | [], _, _, h => by simp [sf_as] at h
  | (k, b) :: l, n, a, h => by
    simp only [sf_as] at h
    split at h
    · rename_i hk
      cases h
      rw [Nat.eq_of_beq_eq_true hk]
      exact List.mem_cons_self
    · exact List.mem_cons_of_mem _ (sf_as_mem h)
theorem sf_dec_ok {cc : ByteArray} {pc : Nat} {e : sf_E} (h : sf_dec cc pc e = true) : ∃ n, decode cc pc = .ok (e.1, n) ∧ (sf_len e.1 = 0 ∨ (n = sf_len e.1 ∧ e.2.1 = pc + n)) := by
  unfold sf_dec at h
  split at h
  · rename_i i n hd
    simp only [Bool.and_eq_true, decide_eq_true_eq, Bool.or_eq_true] at h
    obtain ⟨rfl, h2⟩ := h
    refine ⟨n, hd, ?_⟩
    rcases h2 with h2 | ⟨h2, h3⟩
    · exact Or.inl (Nat.eq_of_beq_eq_true h2)
    · exact Or.inr ⟨Nat.eq_of_beq_eq_true h2, Nat.eq_of_beq_eq_true h3⟩
  · cases h
/-- what the tables say of a field that a class's code names -/
def sf_FF (s : State) (args : Array Value) (Ts : List Cond) (own : String) (idx ci k kd : Nat) : Prop := ∃ (C : String) (T : u_T) (N : Nat) (ref : String) (ty0 : Nat → FieldType), vwCl[ci]? = some (C, T, N) ∧ k < N ∧ (∀ w ∈ u_ws C T N, w ∈ Ts) ∧
  ((Cond.fieldLink own idx ref (T k).2.1 (T k).2.2.1).before args s = true ∨ ∃ host, (Cond.fieldLinkNest own idx ref (T k).2.1 (T k).2.2.1 host).before args s = true) ∧ (∀ x, s.fieldFound? (T k).1 (T k).2.1 (T k).2.2.1 = some x → s.fieldFound? ref (T k).2.1 (T k).2.2.1 = some x) ∧
  (∀ j, j < N → parseFieldDescriptor (T j).2.2.1 = some (ty0 j)) ∧ (∀ a, a < N → ∀ b, b < N → a ≠ b → (T a).2.1 ≠ (T b).2.1) ∧ (kd = 1 → (T k).2.2.2 = false ∧ ty0 k = .int) ∧ (kd = 2 → (T k).2.2.2 = false ∧ ty0 k = .boolean)
theorem sf_hasf_ok {fl : sf_FL} {idx : Nat} {kinds : List Nat} {fp : List (Nat × Nat)} (h : sf_hasf fl idx kinds fp = true) {c k : Nat} (hk : sf_as fp c = some k) : ∃ kd, (idx, c, k, kd) ∈ fl ∧ kd ∈ kinds := by
  have h1 := List.all_eq_true.mp h _ (sf_as_mem hk)
  obtain ⟨⟨a, b, d, kd⟩, h2, h3⟩ := List.any_eq_true.mp h1
  simp only [Bool.and_eq_true] at h3
  obtain ⟨⟨⟨e1, e2⟩, e3⟩, e4⟩ := h3
  obtain ⟨kk, e5, e6⟩ := List.any_eq_true.mp e4
  have e1 := Nat.eq_of_beq_eq_true e1
  have e2 := Nat.eq_of_beq_eq_true e2
  have e3 := Nat.eq_of_beq_eq_true e3
  have e6 := Nat.eq_of_beq_eq_true e6
  try dsimp only at e1 e2 e3 e6
  subst e1; subst e2; subst e3; subst e6
  exact ⟨kk, h2, e5⟩
def sf_fo (x : Int32) : Option Nat → Value
  | some q => .ref q
  | none => .int x
theorem sf_fo_v (ad : Nat → Nat) (x : Int32) (f : Option Nat) : sf_fv ad x f = sf_v ad (sf_fo x f) := by cases f <;> rfl
section SFW
variable {p : Program} {l : Launch} {e : Env} {R : Room} {s : State} {m : MethodId} {args : Array Value} {below : List Frame} {meth : Method} {c : Code} {Q : State → Prop} {cc : ByteArray} {nL : Nat} {lay : sf_Lay} {D : va_G} {cy : Nat → ClassId} {ad : Nat → Nat} {A : Nat → Prop} {own : String} {Ts : List Cond}
def sf_W (p : Program) (l : Launch) (e : Env) (R : Room) (s : State) (m : MethodId) (args : Array Value) (below : List Frame) (meth : Method) (c : Code) (Q : State → Prop) (nL : Nat) (lay : sf_Lay) (D : va_G) (cy : Nat → ClassId) (ad : Nat → Nat) (A : Nat → Prop) (pc : Nat) (L : sf_L) (st : List Value) (σ : sf_S) : Prop :=
  ∀ (H : Heap) (locs : List Loc) (ls : Array Slot), sf_LV ls nL ad L → va_P D vwCl (sf_wd lay ad cy σ) H → va_S A s.heap H locs → W p l e R s m args below meth c H locs 0 0 Q (F0 m pc ls (st.map (sf_v ad)))
/-- a step that touches neither locals nor heap -/
theorem sf_W.go {pc pc2 : Nat} {L : sf_L} {st st2 : List Value} {σ : sf_S} (k : sf_W p l e R s m args below meth c Q nL lay D cy ad A pc2 L st2 σ)
    (h : ∀ (H : Heap) (locs : List Loc) (ls : Array Slot), sf_LV ls nL ad L → W p l e R s m args below meth c H locs 0 0 Q (F0 m pc2 ls (st2.map (sf_v ad))) → W p l e R s m args below meth c H locs 0 0 Q (F0 m pc ls (st.map (sf_v ad)))) : sf_W p l e R s m args below meth c Q nL lay D cy ad A pc L st σ :=
  fun H locs ls hl hP hS => h H locs ls hl (k H locs ls hl hP hS)
theorem sf_W.mono {pc : Nat} {L L0 : sf_L} {st : List Value} {σ : sf_S} (k : sf_W p l e R s m args below meth c Q nL lay D cy ad A pc L0 st σ) (hm : ∀ i v, sf_get L0 i = some v → sf_get L i = some v) : sf_W p l e R s m args below meth c Q nL lay D cy ad A pc L st σ :=
  fun H locs ls hl hP hS => k H locs ls (hl.mono hm) hP hS
/-- what holds while a method's body runs -/
def sf_At (p : Program) (s : State) (m : MethodId) (args : Array Value) (c : Code) (own : String) (cc : ByteArray) (nL : Nat) (lay : sf_Lay) (D : va_G) (cy : Nat → ClassId) (ad : Nat → Nat) (A : Nat → Prop) (Ts : List Cond) : Prop :=
  p.tables.exec = Jvm.exec ∧ c.code = cc ∧ c.maxLocals = nL ∧ s.vm.findClass own = some m.cls ∧ (∀ w ∈ Ts, w.before args s = true) ∧ va_K D vwCl (sf_ty cy) s ∧ sf_inj lay ad ∧ (∀ k, k < lay.length → A (ad k)) ∧ (∀ q, s.heap.size ≤ q → A q)
theorem sf_row_ist (h0 : sf_At p s m args c own cc nL lay D cy ad A Ts) {pc q n : Nat} {i x : Int32} {L : sf_L} {r : List Value} {σ : sf_S} (hq : lay[q]? = some (.inr (0, n))) (hin : sf_in i n = true) (hd : decode cc pc = .ok (.iastore, 1)) (k : sf_W p l e R s m args below meth c Q nL lay D cy ad A (pc + 1) L r (sf_up σ q i.toNatClampNeg x)) : sf_W p l e R s m args below meth c Q nL lay D cy ad A pc L (.int x :: .int i :: .ref q :: r) σ := by
  obtain ⟨hx, hb, -, -, -, hK, hi, hA, -⟩ := h0
  intro H locs ls hl hP hS
  have hD : va_D A (sf_wd lay ad cy σ) := sf_wd_D cy σ hi hA
  refine va_iast hx hb hK hP hD hS q 0 (sf_wd_at hq) rfl (sf_in_iff hin) hd (fun H1 locs1 hP1 _ hS1 => k H1 locs1 ls hl ?_ hS1)
  rw [← sf_wd_row hq (sf_up_row σ q i.toNatClampNeg x) (sf_up_else σ q i.toNatClampNeg x)]
  exact hP1
theorem sf_row_zst (h0 : sf_At p s m args c own cc nL lay D cy ad A Ts) {pc q n : Nat} {i x : Int32} {L : sf_L} {r : List Value} {σ : sf_S} (hq : lay[q]? = some (.inr (1, n))) (hin : sf_in i n = true) (hd : decode cc pc = .ok (.bastore, 1)) (k : sf_W p l e R s m args below meth c Q nL lay D cy ad A (pc + 1) L r (sf_up σ q i.toNatClampNeg (vp_nar .boolean x))) : sf_W p l e R s m args below meth c Q nL lay D cy ad A pc L (.int x :: .int i :: .ref q :: r) σ := by
  obtain ⟨hx, hb, -, -, -, hK, hi, hA, -⟩ := h0
  intro H locs ls hl hP hS
  have hD : va_D A (sf_wd lay ad cy σ) := sf_wd_D cy σ hi hA
  refine va_zast hx hb hK hP hD hS q 1 (sf_wd_at hq) rfl (sf_in_iff hin) hd (fun H1 locs1 hP1 _ hS1 => k H1 locs1 ls hl ?_ hS1)
  rw [← sf_wd_row hq (sf_up_row σ q i.toNatClampNeg _) (sf_up_else σ q i.toNatClampNeg _)]
  exact hP1
theorem sf_row_bst (h0 : sf_At p s m args c own cc nL lay D cy ad A Ts) {pc q n : Nat} {i x : Int32} {L : sf_L} {r : List Value} {σ : sf_S} (hq : lay[q]? = some (.inr (2, n))) (hin : sf_in i n = true) (hd : decode cc pc = .ok (.bastore, 1)) (k : sf_W p l e R s m args below meth c Q nL lay D cy ad A (pc + 1) L r (sf_up σ q i.toNatClampNeg (vp_nar .byte x))) : sf_W p l e R s m args below meth c Q nL lay D cy ad A pc L (.int x :: .int i :: .ref q :: r) σ := by
  obtain ⟨hx, hb, -, -, -, hK, hi, hA, -⟩ := h0
  intro H locs ls hl hP hS
  have hD : va_D A (sf_wd lay ad cy σ) := sf_wd_D cy σ hi hA
  refine va_bast hx hb hK hP hD hS q 2 (sf_wd_at hq) rfl (sf_in_iff hin) hd (fun H1 locs1 hP1 _ hS1 => k H1 locs1 ls hl ?_ hS1)
  rw [← sf_wd_row hq (sf_up_row σ q i.toNatClampNeg _) (sf_up_else σ q i.toNatClampNeg _)]
  exact hP1
theorem sf_row_ild (h0 : sf_At p s m args c own cc nL lay D cy ad A Ts) {pc q n : Nat} {i : Int32} {L : sf_L} {r : List Value} {σ : sf_S} (hq : lay[q]? = some (.inr (0, n))) (hin : sf_in i n = true) (hd : decode cc pc = .ok (.iaload, 1)) (k : sf_W p l e R s m args below meth c Q nL lay D cy ad A (pc + 1) L (.int (σ q i.toNatClampNeg) :: r) σ) : sf_W p l e R s m args below meth c Q nL lay D cy ad A pc L (.int i :: .ref q :: r) σ := by
  obtain ⟨hx, hb, -, -, -, hK, hi, hA, -⟩ := h0
  intro H locs ls hl hP hS
  exact va_iald hx hb hK hP q 0 (sf_wd_at hq) rfl (sf_in_iff hin) hd (k H locs ls hl hP hS)
theorem sf_row_zld (h0 : sf_At p s m args c own cc nL lay D cy ad A Ts) {pc q n : Nat} {i : Int32} {L : sf_L} {r : List Value} {σ : sf_S} (hq : lay[q]? = some (.inr (1, n))) (hin : sf_in i n = true) (hd : decode cc pc = .ok (.baload, 1)) (k : sf_W p l e R s m args below meth c Q nL lay D cy ad A (pc + 1) L (.int (σ q i.toNatClampNeg) :: r) σ) : sf_W p l e R s m args below meth c Q nL lay D cy ad A pc L (.int i :: .ref q :: r) σ := by
  obtain ⟨hx, hb, -, -, -, hK, hi, hA, -⟩ := h0
  intro H locs ls hl hP hS
  exact va_zald hx hb hK hP q 1 (sf_wd_at hq) rfl (sf_in_iff hin) hd (k H locs ls hl hP hS)
theorem sf_row_bld (h0 : sf_At p s m args c own cc nL lay D cy ad A Ts) {pc q n : Nat} {i : Int32} {L : sf_L} {r : List Value} {σ : sf_S} (hq : lay[q]? = some (.inr (2, n))) (hin : sf_in i n = true) (hd : decode cc pc = .ok (.baload, 1)) (k : sf_W p l e R s m args below meth c Q nL lay D cy ad A (pc + 1) L (.int (σ q i.toNatClampNeg) :: r) σ) : sf_W p l e R s m args below meth c Q nL lay D cy ad A pc L (.int i :: .ref q :: r) σ := by
  obtain ⟨hx, hb, -, -, -, hK, hi, hA, -⟩ := h0
  intro H locs ls hl hP hS
  exact va_bald hx hb hK hP q 2 (sf_wd_at hq) rfl (sf_in_iff hin) hd (k H locs ls hl hP hS)
theorem sf_row_get (h0 : sf_At p s m args c own cc nL lay D cy ad A Ts) {pc q idx ci k kd : Nat} {fs : List (Option Nat)} {f : Option Nat} {L : sf_L} {r : List Value} {σ : sf_S} (hq : lay[q]? = some (.inl (ci, fs))) (hf : fs[k]? = some f) (hF : sf_FF s args Ts own idx ci k kd) (hd : decode cc pc = .ok (.getfield idx, 3)) (kk : sf_W p l e R s m args below meth c Q nL lay D cy ad A (pc + 3) L (sf_fo (σ q k) f :: r) σ) : sf_W p l e R s m args below meth c Q nL lay D cy ad A pc L (.ref q :: r) σ := by
  obtain ⟨hx, hb, -, hown, hts, hK, hi, hA, -⟩ := h0
  obtain ⟨C, T, N, ref, ty0, hc, hk, hin, hlink, hsame, -, -, -, -⟩ := hF
  intro H locs ls hl hP hS
  have hv : (fs.mapIdx fun j f => sf_fv ad (σ q j) f)[k]? = some (sf_v ad (sf_fo (σ q k) f)) := by
    rw [List.getElem?_mapIdx, hf, ← sf_fo_v]
    rfl
  rcases hlink with hlink | ⟨host, hlink⟩
  · exact va_get hx hb hts hin hown hK hP q (sf_wd_at hq) hc k hk hlink hsame hv hd (kk H locs ls hl hP hS)
  · exact va_getN hx hb hts hin hown hK hP q (sf_wd_at hq) hc k hk hlink hsame hv hd (kk H locs ls hl hP hS)
theorem sf_row_put (h0 : sf_At p s m args c own cc nL lay D cy ad A Ts) {pc q idx ci k kd : Nat} {fs : List (Option Nat)} {L : sf_L} {r : List Value} {σ : sf_S} {x : Int32} (hq : lay[q]? = some (.inl (ci, fs))) (hf : fs[k]? = some none) (hF : sf_FF s args Ts own idx ci k kd) (hkd : kd = 1 ∨ (kd = 2 ∧ sf_01 x = true)) (hd : decode cc pc = .ok (.putfield idx, 3)) (kk : sf_W p l e R s m args below meth c Q nL lay D cy ad A (pc + 3) L r (sf_up σ q k x)) : sf_W p l e R s m args below meth c Q nL lay D cy ad A pc L (.int x :: .ref q :: r) σ := by
  obtain ⟨hx, hb, -, hown, hts, hK, hi, hA, -⟩ := h0
  obtain ⟨C, T, N, ref, ty0, hc, hk, hin, hlink, hsame, hty, hnm, h1, h2⟩ := hF
  intro H locs ls hl hP hS
  have hD : va_D A (sf_wd lay ad cy σ) := sf_wd_D cy σ hi hA
  have hfin : (T k).2.2.2 = false := by
    rcases hkd with e | ⟨e, -⟩
    · exact (h1 e).1
    · exact (h2 e).1
  have hlen : k < (fs.mapIdx fun j f => sf_fv ad (σ q j) f).length := by
    rw [List.length_mapIdx]; exact (List.getElem?_eq_some_iff.mp hf).1
  have hn : narrow (ty0 k) (.int x) = .int x ∧ fits (ty0 k) (.int x) = true := by
    rcases hkd with e | ⟨e, h01⟩
    · rw [(h1 e).2]
      exact ⟨vp_nar_int x, rfl⟩
    · rw [(h2 e).2]
      simp only [sf_01, Bool.or_eq_true, decide_eq_true_eq] at h01
      rcases h01 with rfl | rfl <;> exact ⟨by decide +kernel, by decide +kernel⟩
  rcases hlink with hlink | ⟨host, hlink⟩
  · refine va_put hx hb hts hin ty0 hty hnm hown hK hP hD hS q (sf_wd_at hq) hc k hk hlink hsame hfin (hty k hk) hn.1 hn.2 hlen hd (fun H1 locs1 hP1 _ hS1 => kk H1 locs1 ls hl ?_ hS1)
    rw [← sf_wd_put hq hf]
    exact hP1
  · refine va_putN hx hb hts hin ty0 hty hnm hown hK hP hD hS q (sf_wd_at hq) hc k hk hlink hsame hfin (hty k hk) hn.1 hn.2 hlen hd (fun H1 locs1 hP1 _ hS1 => kk H1 locs1 ls hl ?_ hS1)
    rw [← sf_wd_put hq hf]
    exact hP1
end SFW
end
section
/-! the step is sound -/
def sf_CC (s : State) (args : Array Value) (own : String) (i : Nat) (v : Value) : Prop := match v with
  | .int x => (Cond.constant own i x).before args s = true
  | .long x => (Cond.constantLong own i x).before args s = true
  | _ => True
def sf_Snd {ρ : Type} (Wt : Nat → sf_L → List Value → sf_S → Prop) (lay : sf_Lay) (rh : Option Value → sf_S → Option ρ) (J : List (Nat × sf_J ρ)) (tab : List (Nat × sf_E)) (Post : ρ → Prop) : Prop :=
  ∀ (pc : Nat) (e : sf_E) (L : sf_L) (st : List Value) (σ : sf_S) (K : sf_K ρ) (r : ρ), sf_as tab pc = some e → sf_step lay rh J e pc L st σ K = some r → Post r → (∀ pc2 L2 st2 σ2, K pc2 L2 st2 σ2 = some r → Wt pc2 L2 st2 σ2) → Wt pc L st σ
theorem sf_i1_inv {ρ : Type} {st : List Value} {f : Int32 → List Value → Option ρ} {r : ρ} (h : sf_i1 st f = some r) : ∃ x q, st = .int x :: q ∧ f x q = some r := by
  unfold sf_i1 at h
  split at h
  · exact ⟨_, _, rfl, h⟩
  · cases h
theorem sf_i2_inv {ρ : Type} {st : List Value} {f : Int32 → Int32 → List Value → Option ρ} {r : ρ} (h : sf_i2 st f = some r) : ∃ x y q, st = .int y :: .int x :: q ∧ f x y q = some r := by
  unfold sf_i2 at h
  split at h
  · exact ⟨_, _, _, rfl, h⟩
  · cases h
theorem sf_l1_inv {ρ : Type} {st : List Value} {f : Int64 → List Value → Option ρ} {r : ρ} (h : sf_l1 st f = some r) : ∃ x q, st = .long x :: q ∧ f x q = some r := by
  unfold sf_l1 at h
  split at h
  · exact ⟨_, _, rfl, h⟩
  · cases h
theorem sf_l2_inv {ρ : Type} {st : List Value} {f : Int64 → Int64 → List Value → Option ρ} {r : ρ} (h : sf_l2 st f = some r) : ∃ x y q, st = .long y :: .long x :: q ∧ f x y q = some r := by
  unfold sf_l2 at h
  split at h
  · exact ⟨_, _, _, rfl, h⟩
  · cases h
theorem sf_ldi_inv {ρ : Type} {L : sf_L} {i : Nat} {f : Int32 → Option ρ} {r : ρ} (h : sf_ldi L i f = some r) : ∃ x, sf_get L i = some (.int x) ∧ f x = some r := by
  unfold sf_ldi at h
  split at h
  · rename_i x hx
    exact ⟨x, hx, h⟩
  · cases h
theorem sf_ldl_inv {ρ : Type} {L : sf_L} {i : Nat} {f : Int64 → Option ρ} {r : ρ} (h : sf_ldl L i f = some r) : ∃ x, sf_get L i = some (.long x) ∧ f x = some r := by
  unfold sf_ldl at h
  split at h
  · rename_i x hx
    exact ⟨x, hx, h⟩
  · cases h
theorem sf_lda_inv {ρ : Type} {L : sf_L} {i : Nat} {f : Nat → Option ρ} {r : ρ} (h : sf_lda L i f = some r) : ∃ x, sf_get L i = some (.ref x) ∧ f x = some r := by
  unfold sf_lda at h
  split at h
  · rename_i x hx
    exact ⟨x, hx, h⟩
  · cases h
theorem sf_ar_inv {ρ : Type} {lay : sf_Lay} {q : Nat} {f : Nat → Nat → Option ρ} {r : ρ} (h : sf_ar lay q f = some r) : ∃ t n, lay[q]? = some (.inr (t, n)) ∧ f t n = some r := by
  unfold sf_ar at h
  split at h
  · rename_i t n hq
    exact ⟨t, n, hq, h⟩
  · cases h
theorem sf_ob_inv {ρ : Type} {lay : sf_Lay} {q : Nat} {f : Nat → List (Option Nat) → Option ρ} {r : ρ} (h : sf_ob lay q f = some r) : ∃ t n, lay[q]? = some (.inl (t, n)) ∧ f t n = some r := by
  unfold sf_ob at h
  split at h
  · rename_i t n hq
    exact ⟨t, n, hq, h⟩
  · cases h
theorem sf_getf_inv {ρ : Type} {lay : sf_Lay} {fp : List (Nat × Nat)} {q : Nat} {σ : sf_S} {f : Value → Option ρ} {r : ρ} (h : sf_getf lay fp q σ f = some r) : ∃ ci fs k x, lay[q]? = some (.inl (ci, fs)) ∧ sf_as fp ci = some k ∧ fs[k]? = some x ∧ f (sf_fo (σ q k) x) = some r := by
  obtain ⟨ci, fs, h1, h2⟩ := sf_ob_inv h
  split at h2
  · rename_i k hk
    split at h2
    · rename_i q2 hq2
      exact ⟨ci, fs, k, _, h1, hk, hq2, h2⟩
    · rename_i hq2
      exact ⟨ci, fs, k, _, h1, hk, hq2, h2⟩
    · cases h2
  · cases h2
theorem sf_putf_inv {ρ : Type} {lay : sf_Lay} {fp : List (Nat × Nat)} {q : Nat} {f : Nat → Option ρ} {r : ρ} (h : sf_putf lay fp q f = some r) : ∃ ci fs k, lay[q]? = some (.inl (ci, fs)) ∧ sf_as fp ci = some k ∧ fs[k]? = some none ∧ f k = some r := by
  obtain ⟨ci, fs, h1, h2⟩ := sf_ob_inv h
  split at h2
  · rename_i k hk
    split at h2
    · rename_i hq2
      exact ⟨ci, fs, k, h1, hk, hq2, h2⟩
    · cases h2
  · cases h2
theorem sf_lks_ok {ρ : Type} {pc d : Nat} {x : Int32} {K : Nat → Option ρ} {r : ρ} {D : Int} (hd : (pc : Int) + D = (d : Int)) : ∀ (ps : List (Int × Int)) (sw : List (Int32 × Nat)), sf_lks pc ps sw = true → sf_sw K x d sw = some r → ∃ tg : Nat, (pc : Int) + Op.lookupswitch.offset ps D x.toInt = (tg : Int) ∧ K tg = some r
  | [], [], _, h => ⟨d, hd, h⟩
  | (a, o) :: ps, (k, t) :: sw, hc, h => by
    simp only [sf_lks, Bool.and_eq_true, decide_eq_true_eq] at hc
    obtain ⟨⟨h1, h2⟩, h3⟩ := hc
    simp only [sf_sw] at h
    rw [Op.lookupswitch.offset_cons]
    by_cases hx : x = k
    · subst hx
      rw [if_pos rfl] at h
      rw [if_pos h1.symm]
      exact ⟨t, h2, h⟩
    · rw [if_neg hx] at h
      rw [if_neg (fun q => lv_neT hx h1 q.symm)]
      exact sf_lks_ok hd ps sw h3 h
  | [], _ :: _, hc, _ => by simp [sf_lks] at hc
  | _ :: _, [], hc, _ => by simp [sf_lks] at hc
theorem sf_tbs_ok {ρ : Type} {pc d : Nat} {x : Int32} {K : Nat → Option ρ} {r : ρ} : ∀ (os : List Int) (lo : Int) (sw : List (Int32 × Nat)), sf_tbs pc lo os sw = true → sf_sw K x d sw = some r → (∃ (tg : Nat) (off : Int), ¬ x.toInt < lo ∧ x.toInt < lo + (os.length : Int) ∧ os[(x.toInt - lo).toNat]? = some off ∧ (pc : Int) + off = (tg : Int) ∧ K tg = some r) ∨ ((x.toInt < lo ∨ lo + (os.length : Int) ≤ x.toInt) ∧ K d = some r)
  | [], lo, [], _, h => Or.inr ⟨by simp; omega, h⟩
  | o :: os, lo, (k, t) :: sw, hc, h => by
    simp only [sf_tbs, Bool.and_eq_true, decide_eq_true_eq] at hc
    obtain ⟨⟨h1, h2⟩, h3⟩ := hc
    simp only [sf_sw] at h
    by_cases hx : x = k
    · subst hx
      rw [if_pos rfl] at h
      exact Or.inl ⟨t, o, by omega, by simp; omega, by rw [h1, Int.sub_self]; rfl, h2, h⟩
    · rw [if_neg hx] at h
      have hne : ¬ x.toInt = lo := lv_neT hx h1
      rcases sf_tbs_ok os (lo + 1) sw h3 h with ⟨tg, off, a1, a2, a3, a4, a5⟩ | ⟨a1, a2⟩
      · refine Or.inl ⟨tg, off, by omega, by simp; omega, ?_, a4, a5⟩
        rw [show (x.toInt - lo).toNat = (x.toInt - (lo + 1)).toNat + 1 by omega]
        exact a3
      · exact Or.inr ⟨by simp; omega, a2⟩
  | [], _, _ :: _, hc, _ => by simp [sf_tbs] at hc
  | _ :: _, _, [], hc, _ => by simp [sf_tbs] at hc
section SFS
variable {p : Program} {l : Launch} {e0 : Env} {R : Room} {s : State} {m : MethodId} {args : Array Value} {below : List Frame} {meth : Method} {c : Code} {Q : State → Prop} {cc : ByteArray} {nL : Nat} {lay : sf_Lay} {D : va_G} {cy : Nat → ClassId} {ad : Nat → Nat} {A : Nat → Prop} {own : String} {Ts : List Cond}
set_option maxHeartbeats 4000000 in
theorem sf_step_ok {ρ : Type} {rh : Option Value → sf_S → Option ρ} {J : List (Nat × sf_J ρ)} {tab : List (Nat × sf_E)} {Post : ρ → Prop} {fl : sf_FL} {cl : List (Nat × Value)} (h0 : sf_At p s m args c own cc nL lay D cy ad A Ts) (hchk : sf_chk cc nL fl cl tab = true) (hfl : ∀ q ∈ fl, sf_FF s args Ts own q.1 q.2.1 q.2.2.1 q.2.2.2) (hcl : ∀ q ∈ cl, sf_CC s args own q.1 q.2)
    (hJ : ∀ (pc : Nat) (j : sf_J ρ) (L : sf_L) (st : List Value) (σ : sf_S) (K : List Value → sf_S → Option ρ) (r : ρ), sf_as J pc = some j → j st σ K = some r → (∀ st2 σ2, K st2 σ2 = some r → sf_W p l e0 R s m args below meth c Q nL lay D cy ad A (pc + 3) L st2 σ2) → sf_W p l e0 R s m args below meth c Q nL lay D cy ad A pc L st σ)
    (hret : ∀ (v : Option Value) (σ : sf_S) (r : ρ) (pc : Nat) (L : sf_L) (ins : Instr), rh v σ = some r → Post r → decode cc pc = .ok (ins, 1) → (ins = .ireturn ∧ (∃ x, v = some (.int x)) ∨ ins = .lreturn ∧ (∃ x, v = some (.long x)) ∨ ins = .return_ ∧ v = none) → sf_W p l e0 R s m args below meth c Q nL lay D cy ad A pc L v.toList σ) :
    sf_Snd (sf_W p l e0 R s m args below meth c Q nL lay D cy ad A) lay rh J tab Post := by
  intro pc e L st σ K r he hs hp hk
  have hc := List.all_eq_true.mp hchk _ (sf_as_mem he)
  simp only [Bool.and_eq_true] at hc
  obtain ⟨hdec, hok⟩ := hc
  obtain ⟨n, hd, hn⟩ := sf_dec_ok hdec
  have h00 := h0
  obtain ⟨hx, hb, hml, hown, hts, hK, hi, hA, hAs⟩ := h00
  obtain ⟨ins, nx, tg, v, sw, fp⟩ := e
  dsimp only at hd hn
  cases ins with
  | iconst k =>
    obtain ⟨rfl, rfl⟩ := hn.resolve_left (show ¬ sf_len (.iconst k) = 0 by simp [sf_len])
    have hs : K _ L (v :: st) σ = some r := hs
    have hv := of_decide_eq_true hok
    subst hv
    exact (hk _ _ _ _ hs).go fun H locs ls hl w => lv_iconst hx hb hd rfl w
  | bipush k =>
    obtain ⟨rfl, rfl⟩ := hn.resolve_left (show ¬ sf_len (.bipush k) = 0 by simp [sf_len])
    have hs : K _ L (v :: st) σ = some r := hs
    have hv := of_decide_eq_true hok
    subst hv
    exact (hk _ _ _ _ hs).go fun H locs ls hl w => lv_bipush hx hb hd rfl w
  | sipush k =>
    obtain ⟨rfl, rfl⟩ := hn.resolve_left (show ¬ sf_len (.sipush k) = 0 by simp [sf_len])
    have hs : K _ L (v :: st) σ = some r := hs
    have hv := of_decide_eq_true hok
    subst hv
    exact (hk _ _ _ _ hs).go fun H locs ls hl w => lv_sipush hx hb hd rfl w
  | lconst k =>
    obtain ⟨rfl, rfl⟩ := hn.resolve_left (show ¬ sf_len (.lconst k) = 0 by simp [sf_len])
    have hs : K _ L (v :: st) σ = some r := hs
    have hv := of_decide_eq_true hok
    subst hv
    exact (hk _ _ _ _ hs).go fun H locs ls hl w => lv_lconst hx hb hd rfl w
  | ldc k =>
    obtain ⟨rfl, rfl⟩ := hn.resolve_left (show ¬ sf_len (.ldc k) = 0 by simp [sf_len])
    have hs : K _ L (v :: st) σ = some r := hs
    simp only [sf_ok1, Bool.and_eq_true, decide_eq_true_eq] at hok
    obtain ⟨hm, hty⟩ := hok
    have hcc := hcl _ hm
    cases v with
    | int x => exact (hk _ _ _ _ hs).go fun H locs ls hl w => lv_ldc hx hb hown hcc hd w
    | _ => cases hty
  | ldc_w k =>
    obtain ⟨rfl, rfl⟩ := hn.resolve_left (show ¬ sf_len (.ldc_w k) = 0 by simp [sf_len])
    have hs : K _ L (v :: st) σ = some r := hs
    simp only [sf_ok1, Bool.and_eq_true, decide_eq_true_eq] at hok
    obtain ⟨hm, hty⟩ := hok
    have hcc := hcl _ hm
    cases v with
    | int x => exact (hk _ _ _ _ hs).go fun H locs ls hl w => lv_ldcw hx hb hown hcc hd w
    | _ => cases hty
  | ldc2_w k =>
    obtain ⟨rfl, rfl⟩ := hn.resolve_left (show ¬ sf_len (.ldc2_w k) = 0 by simp [sf_len])
    have hs : K _ L (v :: st) σ = some r := hs
    simp only [sf_ok1, Bool.and_eq_true, decide_eq_true_eq] at hok
    obtain ⟨hm, hty⟩ := hok
    have hcc := hcl _ hm
    cases v with
    | long x => exact (hk _ _ _ _ hs).go fun H locs ls hl w => lv_ldc2 hx hb hown hcc hd w
    | _ => cases hty
  | iload_n k =>
    obtain ⟨rfl, rfl⟩ := hn.resolve_left (show ¬ sf_len (.iload_n k) = 0 by simp [sf_len])
    obtain ⟨x, hg, hz⟩ := sf_ldi_inv hs
    exact (hk _ _ _ _ hz).go fun H locs ls hl w => lv_iload_n hx hb hd rfl (hl.2.2 _ _ hg) w
  | iload k =>
    obtain ⟨rfl, rfl⟩ := hn.resolve_left (show ¬ sf_len (.iload k) = 0 by simp [sf_len])
    obtain ⟨x, hg, hz⟩ := sf_ldi_inv hs
    exact (hk _ _ _ _ hz).go fun H locs ls hl w => lv_iload hx hb hd (hl.2.2 _ _ hg) w
  | lload_n k =>
    obtain ⟨rfl, rfl⟩ := hn.resolve_left (show ¬ sf_len (.lload_n k) = 0 by simp [sf_len])
    obtain ⟨x, hg, hz⟩ := sf_ldl_inv hs
    exact (hk _ _ _ _ hz).go fun H locs ls hl w => lv_lload_n hx hb hd rfl (hl.2.2 _ _ hg) w
  | lload k =>
    obtain ⟨rfl, rfl⟩ := hn.resolve_left (show ¬ sf_len (.lload k) = 0 by simp [sf_len])
    obtain ⟨x, hg, hz⟩ := sf_ldl_inv hs
    exact (hk _ _ _ _ hz).go fun H locs ls hl w => lv_lload hx hb hd (hl.2.2 _ _ hg) w
  | aload_n k =>
    obtain ⟨rfl, rfl⟩ := hn.resolve_left (show ¬ sf_len (.aload_n k) = 0 by simp [sf_len])
    obtain ⟨x, hg, hz⟩ := sf_lda_inv hs
    exact (hk _ _ _ _ hz).go fun H locs ls hl w => lv_aload_n hx hb hd rfl (hl.2.2 _ _ hg) w
  | aload k =>
    obtain ⟨rfl, rfl⟩ := hn.resolve_left (show ¬ sf_len (.aload k) = 0 by simp [sf_len])
    obtain ⟨x, hg, hz⟩ := sf_lda_inv hs
    exact (hk _ _ _ _ hz).go fun H locs ls hl w => lv_aload hx hb hd (hl.2.2 _ _ hg) w
  | istore_n k =>
    obtain ⟨rfl, rfl⟩ := hn.resolve_left (show ¬ sf_len (.istore_n k) = 0 by simp [sf_len])
    obtain ⟨x, q, rfl, hz⟩ := sf_i1_inv hs
    exact fun H locs ls hl hP hS => lv_istore_n hx hb hd rfl hl.has (of_decide_eq_true hok) rfl fun ls2 hl2 => hk _ _ _ _ hz H locs ls2 (hl.st1 rfl hl2) hP hS
  | istore k =>
    obtain ⟨rfl, rfl⟩ := hn.resolve_left (show ¬ sf_len (.istore k) = 0 by simp [sf_len])
    obtain ⟨x, q, rfl, hz⟩ := sf_i1_inv hs
    exact fun H locs ls hl hP hS => lv_istore hx hb hd hl.has (of_decide_eq_true hok) rfl fun ls2 hl2 => hk _ _ _ _ hz H locs ls2 (hl.st1 rfl hl2) hP hS
  | lstore_n k =>
    obtain ⟨rfl, rfl⟩ := hn.resolve_left (show ¬ sf_len (.lstore_n k) = 0 by simp [sf_len])
    obtain ⟨x, q, rfl, hz⟩ := sf_l1_inv hs
    exact fun H locs ls hl hP hS => lv_lstore_n hx hb hd rfl hl.has (of_decide_eq_true hok) rfl fun ls2 hl2 => hk _ _ _ _ hz H locs ls2 (hl.st2 rfl hl2) hP hS
  | lstore k =>
    obtain ⟨rfl, rfl⟩ := hn.resolve_left (show ¬ sf_len (.lstore k) = 0 by simp [sf_len])
    obtain ⟨x, q, rfl, hz⟩ := sf_l1_inv hs
    exact fun H locs ls hl hP hS => lv_lstore hx hb hd hl.has (of_decide_eq_true hok) rfl fun ls2 hl2 => hk _ _ _ _ hz H locs ls2 (hl.st2 rfl hl2) hP hS
  | iinc k d =>
    obtain ⟨rfl, rfl⟩ := hn.resolve_left (show ¬ sf_len (.iinc k d) = 0 by simp [sf_len])
    obtain ⟨x, hg, hz⟩ := sf_ldi_inv hs
    have hv := of_decide_eq_true hok
    subst hv
    intro H locs ls hl hP hS
    obtain ⟨j, hj⟩ := List.getElem?_of_mem (sf_mem_prs (ad := ad) (hl.lt hg) hg)
    exact lv_iinc hx hb hd hl.has hj rfl (hl.lt hg) rfl fun ls2 hl2 => hk _ _ _ _ hz H locs ls2 (hl.st1 rfl hl2) hP hS
  | iadd =>
    obtain ⟨rfl, rfl⟩ := hn.resolve_left (show ¬ sf_len (.iadd) = 0 by simp [sf_len])
    obtain ⟨x, y, q, rfl, hz⟩ := sf_i2_inv hs
    exact (hk _ _ _ _ hz).go fun H locs ls hl w => lv_iadd hx hb hd w
  | isub =>
    obtain ⟨rfl, rfl⟩ := hn.resolve_left (show ¬ sf_len (.isub) = 0 by simp [sf_len])
    obtain ⟨x, y, q, rfl, hz⟩ := sf_i2_inv hs
    exact (hk _ _ _ _ hz).go fun H locs ls hl w => lv_isub hx hb hd w
  | imul =>
    obtain ⟨rfl, rfl⟩ := hn.resolve_left (show ¬ sf_len (.imul) = 0 by simp [sf_len])
    obtain ⟨x, y, q, rfl, hz⟩ := sf_i2_inv hs
    exact (hk _ _ _ _ hz).go fun H locs ls hl w => lv_imul hx hb hd w
  | ixor =>
    obtain ⟨rfl, rfl⟩ := hn.resolve_left (show ¬ sf_len (.ixor) = 0 by simp [sf_len])
    obtain ⟨x, y, q, rfl, hz⟩ := sf_i2_inv hs
    exact (hk _ _ _ _ hz).go fun H locs ls hl w => lv_ixor hx hb hd w
  | ladd =>
    obtain ⟨rfl, rfl⟩ := hn.resolve_left (show ¬ sf_len (.ladd) = 0 by simp [sf_len])
    obtain ⟨x, y, q, rfl, hz⟩ := sf_l2_inv hs
    exact (hk _ _ _ _ hz).go fun H locs ls hl w => lv_ladd hx hb hd w
  | lsub =>
    obtain ⟨rfl, rfl⟩ := hn.resolve_left (show ¬ sf_len (.lsub) = 0 by simp [sf_len])
    obtain ⟨x, y, q, rfl, hz⟩ := sf_l2_inv hs
    exact (hk _ _ _ _ hz).go fun H locs ls hl w => lv_lsub hx hb hd w
  | lmul =>
    obtain ⟨rfl, rfl⟩ := hn.resolve_left (show ¬ sf_len (.lmul) = 0 by simp [sf_len])
    obtain ⟨x, y, q, rfl, hz⟩ := sf_l2_inv hs
    exact (hk _ _ _ _ hz).go fun H locs ls hl w => lv_lmul hx hb hd w
  | lcmp =>
    obtain ⟨rfl, rfl⟩ := hn.resolve_left (show ¬ sf_len (.lcmp) = 0 by simp [sf_len])
    obtain ⟨x, y, q, rfl, hz⟩ := sf_l2_inv hs
    exact (hk _ _ _ _ hz).go fun H locs ls hl w => W.lcmp hx hb hd w
  | idiv =>
    obtain ⟨rfl, rfl⟩ := hn.resolve_left (show ¬ sf_len (.idiv) = 0 by simp [sf_len])
    obtain ⟨x, y, q, rfl, hz⟩ := sf_i2_inv hs
    by_cases hy : y = 0
    · rw [if_pos hy] at hz; cases hz
    · rw [if_neg hy] at hz
      exact (hk _ _ _ _ hz).go fun H locs ls hl w => lv_idiv hx hb hd hy w
  | irem =>
    obtain ⟨rfl, rfl⟩ := hn.resolve_left (show ¬ sf_len (.irem) = 0 by simp [sf_len])
    obtain ⟨x, y, q, rfl, hz⟩ := sf_i2_inv hs
    by_cases hy : y = 0
    · rw [if_pos hy] at hz; cases hz
    · rw [if_neg hy] at hz
      exact (hk _ _ _ _ hz).go fun H locs ls hl w => lv_irem hx hb hd hy w
  | ldiv =>
    obtain ⟨rfl, rfl⟩ := hn.resolve_left (show ¬ sf_len (.ldiv) = 0 by simp [sf_len])
    obtain ⟨x, y, q, rfl, hz⟩ := sf_l2_inv hs
    by_cases hy : y = 0
    · rw [if_pos hy] at hz; cases hz
    · rw [if_neg hy] at hz
      exact (hk _ _ _ _ hz).go fun H locs ls hl w => lv_ldiv hx hb hd hy w
  | lrem =>
    obtain ⟨rfl, rfl⟩ := hn.resolve_left (show ¬ sf_len (.lrem) = 0 by simp [sf_len])
    obtain ⟨x, y, q, rfl, hz⟩ := sf_l2_inv hs
    by_cases hy : y = 0
    · rw [if_pos hy] at hz; cases hz
    · rw [if_neg hy] at hz
      exact (hk _ _ _ _ hz).go fun H locs ls hl w => lv_lrem hx hb hd hy w
  | ineg =>
    obtain ⟨rfl, rfl⟩ := hn.resolve_left (show ¬ sf_len (.ineg) = 0 by simp [sf_len])
    obtain ⟨x, q, rfl, hz⟩ := sf_i1_inv hs
    exact (hk _ _ _ _ hz).go fun H locs ls hl w => lv_ineg hx hb hd w
  | lneg =>
    obtain ⟨rfl, rfl⟩ := hn.resolve_left (show ¬ sf_len (.lneg) = 0 by simp [sf_len])
    obtain ⟨x, q, rfl, hz⟩ := sf_l1_inv hs
    exact (hk _ _ _ _ hz).go fun H locs ls hl w => lv_lneg hx hb hd w
  | i2l =>
    obtain ⟨rfl, rfl⟩ := hn.resolve_left (show ¬ sf_len (.i2l) = 0 by simp [sf_len])
    obtain ⟨x, q, rfl, hz⟩ := sf_i1_inv hs
    exact (hk _ _ _ _ hz).go fun H locs ls hl w => lv_i2l hx hb hd rfl w
  | l2i =>
    obtain ⟨rfl, rfl⟩ := hn.resolve_left (show ¬ sf_len (.l2i) = 0 by simp [sf_len])
    obtain ⟨x, q, rfl, hz⟩ := sf_l1_inv hs
    exact (hk _ _ _ _ hz).go fun H locs ls hl w => lv_l2i hx hb hd rfl w
  | i2b =>
    obtain ⟨rfl, rfl⟩ := hn.resolve_left (show ¬ sf_len (.i2b) = 0 by simp [sf_len])
    obtain ⟨x, q, rfl, hz⟩ := sf_i1_inv hs
    exact (hk _ _ _ _ hz).go fun H locs ls hl w => lv_i2b hx hb hd rfl w
  | i2s =>
    obtain ⟨rfl, rfl⟩ := hn.resolve_left (show ¬ sf_len (.i2s) = 0 by simp [sf_len])
    obtain ⟨x, q, rfl, hz⟩ := sf_i1_inv hs
    exact (hk _ _ _ _ hz).go fun H locs ls hl w => lv_i2s hx hb hd rfl w
  | dup =>
    obtain ⟨rfl, rfl⟩ := hn.resolve_left (show ¬ sf_len (.dup) = 0 by simp [sf_len])
    simp only [sf_step] at hs
    split at hs
    · exact (hk _ _ _ _ hs).go fun H locs ls hl w => lv_dup hx hb hd rfl w
    · exact (hk _ _ _ _ hs).go fun H locs ls hl w => lv_dup hx hb hd rfl w
    · cases hs
  | dup2 =>
    obtain ⟨rfl, rfl⟩ := hn.resolve_left (show ¬ sf_len (.dup2) = 0 by simp [sf_len])
    simp only [sf_step] at hs
    split at hs
    · exact (hk _ _ _ _ hs).go fun H locs ls hl w => lv_dup2_11 hx hb hd rfl rfl w
    · cases hs
  | pop =>
    obtain ⟨rfl, rfl⟩ := hn.resolve_left (show ¬ sf_len (.pop) = 0 by simp [sf_len])
    simp only [sf_step] at hs
    split at hs
    · exact (hk _ _ _ _ hs).go fun H locs ls hl w => lv_pop hx hb hd rfl w
    · exact (hk _ _ _ _ hs).go fun H locs ls hl w => lv_pop hx hb hd rfl w
    · cases hs
  | goto o =>
    obtain ⟨rfl, rfl⟩ := hn.resolve_left (show ¬ sf_len (.goto o) = 0 by simp [sf_len])
    exact (hk _ _ _ _ hs).go fun H locs ls hl w => lv_goto hx hb hd (of_decide_eq_true hok) w
  | ifCond q o =>
    obtain ⟨rfl, rfl⟩ := hn.resolve_left (show ¬ sf_len (.ifCond q o) = 0 by simp [sf_len])
    have ht := of_decide_eq_true hok
    cases q with
    | eq =>
      obtain ⟨x, q, rfl, hz⟩ := sf_i1_inv hs
      intro H locs ls hl hP hS
      refine lv_if_eq hx hb hd ht (fun h => ?_) (fun h => ?_)
      · rw [if_pos h] at hz; exact hk _ _ _ _ hz H locs ls hl hP hS
      · rw [if_neg h] at hz; exact hk _ _ _ _ hz H locs ls hl hP hS
    | ne =>
      obtain ⟨x, q, rfl, hz⟩ := sf_i1_inv hs
      intro H locs ls hl hP hS
      refine lv_if_ne hx hb hd ht (fun h => ?_) (fun h => ?_)
      · rw [if_pos h] at hz; exact hk _ _ _ _ hz H locs ls hl hP hS
      · rw [if_neg (fun hn => hn h)] at hz; exact hk _ _ _ _ hz H locs ls hl hP hS
    | lt =>
      obtain ⟨x, q, rfl, hz⟩ := sf_i1_inv hs
      intro H locs ls hl hP hS
      refine lv_if_lt hx hb hd ht (fun h => ?_) (fun h => ?_)
      · rw [if_pos h] at hz; exact hk _ _ _ _ hz H locs ls hl hP hS
      · rw [if_neg h] at hz; exact hk _ _ _ _ hz H locs ls hl hP hS
    | ge =>
      obtain ⟨x, q, rfl, hz⟩ := sf_i1_inv hs
      intro H locs ls hl hP hS
      refine lv_if_ge hx hb hd ht (fun h => ?_) (fun h => ?_)
      · rw [if_pos h] at hz; exact hk _ _ _ _ hz H locs ls hl hP hS
      · rw [if_neg h] at hz; exact hk _ _ _ _ hz H locs ls hl hP hS
    | gt =>
      obtain ⟨x, q, rfl, hz⟩ := sf_i1_inv hs
      intro H locs ls hl hP hS
      refine lv_if_gt hx hb hd ht (fun h => ?_) (fun h => ?_)
      · rw [if_pos h] at hz; exact hk _ _ _ _ hz H locs ls hl hP hS
      · rw [if_neg h] at hz; exact hk _ _ _ _ hz H locs ls hl hP hS
    | le =>
      obtain ⟨x, q, rfl, hz⟩ := sf_i1_inv hs
      intro H locs ls hl hP hS
      refine lv_if_le hx hb hd ht (fun h => ?_) (fun h => ?_)
      · rw [if_pos h] at hz; exact hk _ _ _ _ hz H locs ls hl hP hS
      · rw [if_neg h] at hz; exact hk _ _ _ _ hz H locs ls hl hP hS
  | if_icmp q o =>
    obtain ⟨rfl, rfl⟩ := hn.resolve_left (show ¬ sf_len (.if_icmp q o) = 0 by simp [sf_len])
    have ht := of_decide_eq_true hok
    cases q with
    | eq =>
      obtain ⟨x, y, q, rfl, hz⟩ := sf_i2_inv hs
      intro H locs ls hl hP hS
      refine lv_icmp_eq hx hb hd ht (fun h => ?_) (fun h => ?_)
      · rw [if_pos h] at hz; exact hk _ _ _ _ hz H locs ls hl hP hS
      · rw [if_neg h] at hz; exact hk _ _ _ _ hz H locs ls hl hP hS
    | ne =>
      obtain ⟨x, y, q, rfl, hz⟩ := sf_i2_inv hs
      intro H locs ls hl hP hS
      refine lv_icmp_ne hx hb hd ht (fun h => ?_) (fun h => ?_)
      · rw [if_pos h] at hz; exact hk _ _ _ _ hz H locs ls hl hP hS
      · rw [if_neg (fun hn => hn h)] at hz; exact hk _ _ _ _ hz H locs ls hl hP hS
    | lt =>
      obtain ⟨x, y, q, rfl, hz⟩ := sf_i2_inv hs
      intro H locs ls hl hP hS
      refine lv_icmp_lt hx hb hd ht (fun h => ?_) (fun h => ?_)
      · rw [if_pos h] at hz; exact hk _ _ _ _ hz H locs ls hl hP hS
      · rw [if_neg h] at hz; exact hk _ _ _ _ hz H locs ls hl hP hS
    | ge =>
      obtain ⟨x, y, q, rfl, hz⟩ := sf_i2_inv hs
      intro H locs ls hl hP hS
      refine lv_icmp_ge hx hb hd ht (fun h => ?_) (fun h => ?_)
      · rw [if_pos h] at hz; exact hk _ _ _ _ hz H locs ls hl hP hS
      · rw [if_neg h] at hz; exact hk _ _ _ _ hz H locs ls hl hP hS
    | gt =>
      obtain ⟨x, y, q, rfl, hz⟩ := sf_i2_inv hs
      intro H locs ls hl hP hS
      refine lv_icmp_gt hx hb hd ht (fun h => ?_) (fun h => ?_)
      · rw [if_pos h] at hz; exact hk _ _ _ _ hz H locs ls hl hP hS
      · rw [if_neg h] at hz; exact hk _ _ _ _ hz H locs ls hl hP hS
    | le =>
      obtain ⟨x, y, q, rfl, hz⟩ := sf_i2_inv hs
      intro H locs ls hl hP hS
      refine lv_icmp_le hx hb hd ht (fun h => ?_) (fun h => ?_)
      · rw [if_pos h] at hz; exact hk _ _ _ _ hz H locs ls hl hP hS
      · rw [if_neg h] at hz; exact hk _ _ _ _ hz H locs ls hl hP hS
  | tableswitch d lo hi offs =>
    obtain ⟨x, q, rfl, hz⟩ := sf_i1_inv hs
    simp only [sf_ok1, Bool.and_eq_true, decide_eq_true_eq] at hok
    obtain ⟨⟨h1, h2⟩, h3⟩ := hok
    rcases sf_tbs_ok (K := fun t => K t L q σ) (d := tg) _ _ _ h2 hz with ⟨t2, off, a1, a2, a3, a4, a5⟩ | ⟨a1, a2⟩
    · exact (hk _ _ _ _ a5).go fun H locs ls hl w => lv_tableIn hx hb hd a1 (by rw [h3]; simp at a2; omega) (by rw [← a3]; simp) a4 w
    · exact (hk _ _ _ _ a2).go fun H locs ls hl w => lv_tableOut hx hb hd (by rw [h3]; simp at a1; omega) h1 w
  | lookupswitch d ps =>
    obtain ⟨x, q, rfl, hz⟩ := sf_i1_inv hs
    simp only [sf_ok1, Bool.and_eq_true, decide_eq_true_eq] at hok
    obtain ⟨⟨h1, h2⟩, h3⟩ := hok
    obtain ⟨t2, a1, a2⟩ := sf_lks_ok (K := fun t => K t L q σ) h1 _ _ h2 hz
    exact (hk _ _ _ _ a2).go fun H locs ls hl w => lv_lookup hx hb hd h3 rfl a1 w
  | getfield k =>
    obtain ⟨rfl, rfl⟩ := hn.resolve_left (show ¬ sf_len (.getfield k) = 0 by simp [sf_len])
    simp only [sf_step] at hs
    split at hs
    · obtain ⟨ci, fs, j, x, e1, e2, e3, hz⟩ := sf_getf_inv hs
      obtain ⟨kd, e4, -⟩ := sf_hasf_ok hok e2
      exact sf_row_get h0 e1 e3 (hfl _ e4) hd (hk _ _ _ _ hz)
    · cases hs
  | putfield k =>
    obtain ⟨rfl, rfl⟩ := hn.resolve_left (show ¬ sf_len (.putfield k) = 0 by simp [sf_len])
    simp only [sf_step] at hs
    split at hs
    · obtain ⟨ci, fs, j, e1, e2, e3, hz⟩ := sf_putf_inv hs
      split at hz
      · obtain ⟨kd, e4, e5⟩ := sf_hasf_ok hok e2
        have e6 : kd = 1 := by simpa using e5
        exact sf_row_put h0 e1 e3 (hfl _ e4) (Or.inl e6) hd (hk _ _ _ _ hz)
      · rename_i hnv
        have hok2 : sf_hasf fl k [2] fp = true := by
          cases v with
          | null => exact absurd rfl hnv
          | _ => exact hok
        obtain ⟨kd, e4, e5⟩ := sf_hasf_ok hok2 e2
        have e6 : kd = 2 := by simpa using e5
        split at hz
        · rename_i h01
          exact sf_row_put h0 e1 e3 (hfl _ e4) (Or.inr ⟨e6, h01⟩) hd (hk _ _ _ _ hz)
        · cases hz
    · cases hs
  | iaload =>
    obtain ⟨rfl, rfl⟩ := hn.resolve_left (show ¬ sf_len (.iaload) = 0 by simp [sf_len])
    simp only [sf_step] at hs
    split at hs
    · obtain ⟨t, z, e1, hz⟩ := sf_ar_inv hs
      split at hz
      · split at hz
        · rename_i hin
          exact sf_row_ild h0 e1 hin hd (hk _ _ _ _ hz)
        · cases hz
      · cases hz
    · cases hs
  | iastore =>
    obtain ⟨rfl, rfl⟩ := hn.resolve_left (show ¬ sf_len (.iastore) = 0 by simp [sf_len])
    simp only [sf_step] at hs
    split at hs
    · obtain ⟨t, z, e1, hz⟩ := sf_ar_inv hs
      split at hz
      · split at hz
        · rename_i hin
          exact sf_row_ist h0 e1 hin hd (hk _ _ _ _ hz)
        · cases hz
      · cases hz
    · cases hs
  | baload =>
    obtain ⟨rfl, rfl⟩ := hn.resolve_left (show ¬ sf_len (.baload) = 0 by simp [sf_len])
    simp only [sf_step] at hs
    split at hs
    · obtain ⟨t, z, e1, hz⟩ := sf_ar_inv hs
      split at hz
      · split at hz
        · rename_i hin
          exact sf_row_zld h0 e1 hin hd (hk _ _ _ _ hz)
        · cases hz
      · split at hz
        · rename_i hin
          exact sf_row_bld h0 e1 hin hd (hk _ _ _ _ hz)
        · cases hz
      · cases hz
    · cases hs
  | bastore =>
    obtain ⟨rfl, rfl⟩ := hn.resolve_left (show ¬ sf_len (.bastore) = 0 by simp [sf_len])
    simp only [sf_step] at hs
    split at hs
    · obtain ⟨t, z, e1, hz⟩ := sf_ar_inv hs
      split at hz
      · split at hz
        · rename_i hin
          exact sf_row_zst h0 e1 hin hd (hk _ _ _ _ hz)
        · cases hz
      · split at hz
        · rename_i hin
          exact sf_row_bst h0 e1 hin hd (hk _ _ _ _ hz)
        · cases hz
      · cases hz
    · cases hs
  | ireturn =>
    obtain ⟨rfl, rfl⟩ := hn.resolve_left (show ¬ sf_len (.ireturn) = 0 by simp [sf_len])
    simp only [sf_step] at hs
    split at hs
    · exact hret _ _ _ _ _ _ hs hp hd (Or.inl ⟨rfl, _, rfl⟩)
    · cases hs
  | lreturn =>
    obtain ⟨rfl, rfl⟩ := hn.resolve_left (show ¬ sf_len (.lreturn) = 0 by simp [sf_len])
    simp only [sf_step] at hs
    split at hs
    · exact hret _ _ _ _ _ _ hs hp hd (Or.inr (Or.inl ⟨rfl, _, rfl⟩))
    · cases hs
  | return_ =>
    obtain ⟨rfl, rfl⟩ := hn.resolve_left (show ¬ sf_len (.return_) = 0 by simp [sf_len])
    simp only [sf_step] at hs
    split at hs
    · exact hret _ _ _ _ _ _ hs hp hd (Or.inr (Or.inr ⟨rfl, rfl⟩))
    · cases hs
  | invokevirtual k =>
    obtain ⟨rfl, rfl⟩ := hn.resolve_left (show ¬ sf_len (.invokevirtual k) = 0 by simp [sf_len])
    simp only [sf_step] at hs
    split at hs
    · rename_i j hj
      exact hJ _ _ _ _ _ _ _ hj hs (fun st2 σ2 h => hk _ _ _ _ h)
    · cases hs
  | invokestatic k =>
    obtain ⟨rfl, rfl⟩ := hn.resolve_left (show ¬ sf_len (.invokestatic k) = 0 by simp [sf_len])
    simp only [sf_step] at hs
    split at hs
    · rename_i j hj
      exact hJ _ _ _ _ _ _ _ hj hs (fun st2 σ2 h => hk _ _ _ _ h)
    · cases hs
  | _ => simp [sf_step] at hs
theorem sf_run_ok {ρ : Type} {Wt : Nat → sf_L → List Value → sf_S → Prop} {rh : Option Value → sf_S → Option ρ} {J : List (Nat × sf_J ρ)} {tab : List (Nat × sf_E)} {Post : ρ → Prop} {sm : List (Nat × sf_M ρ)} (hsnd : sf_Snd Wt lay rh J tab Post) (hsm : ∀ pc f L st σ r, sf_as sm pc = some f → f L st σ = some r → Post r → Wt pc L st σ) : ∀ (n pc : Nat) (L : sf_L) (st : List Value) (σ : sf_S) (r : ρ), sf_run lay rh J tab sm n pc L st σ = some r → Post r → Wt pc L st σ
  | 0, _, _, _, _, _, h, _ => by simp [sf_run] at h
  | n + 1, pc, L, st, σ, r, h, hp => by
    simp only [sf_run] at h
    split at h
    · rename_i e he
      refine hsnd pc e L st σ _ r he h hp (fun pc2 L2 st2 σ2 h2 => ?_)
      try dsimp only at h2
      split at h2
      · rename_i f hf
        exact hsm _ _ _ _ _ _ hf h2 hp
      · exact sf_run_ok hsnd hsm n pc2 L2 st2 σ2 r h2 hp
    · cases h
end SFS
end
section
/-! a method's contract, in the small machine's words; calls -/
theorem sf_T_good : GoodIn sf_T sf_T := fun w h => ⟨h, good_of_word (List.mem_filter.mp h).2⟩
theorem sf_T_code {y : MethodName} {cc : ByteArray} {nL : Nat} {ret : Option FieldType} (h : Cond.code y cc nL ret ∈ sf_T) : GoodIn sf_T (Cond.code y cc nL ret :: sf_T) := fun w hw => by
  rcases List.mem_cons.mp hw with rfl | hw
  · exact sf_T_good _ h
  · exact sf_T_good _ hw
theorem sf_N_warm {s U : State} (hW : s.WarmedH U.vm) (h : ∀ w ∈ sf_N, va_Nw w s) : ∀ w ∈ sf_N, va_Nw w U := by
  intro w hw
  have h1 := (List.mem_filter.mp hw).2
  have h2 := h w hw
  cases w with
  | fieldLinkNest a b c d e f => exact va_Nw.warmF hW h2
  | methodLinkNest a b c d => exact va_Nw.warmM hW h2
  | _ => cases h1
theorem sf_N_same {s U : State} (hv : s.vm = U.vm) (h : ∀ w ∈ sf_N, va_Nw w s) : ∀ w ∈ sf_N, va_Nw w U := by
  intro w hw
  have h1 := (List.mem_filter.mp hw).2
  have h2 := h w hw
  cases w with
  | fieldLinkNest a b c d e f => exact va_Nw.same rfl hv h2
  | methodLinkNest a b c d => exact va_Nw.same rfl hv h2
  | _ => cases h1
/-- a method's start and end -/
def sf_Pc (lay : sf_Lay) (D : va_G) (cy : Nat → ClassId) (ad : Nat → Nat) (sz : Nat) (av : List Value) (σ : sf_S) : Array Value → State → Prop := va_Pc (av.map (sf_v ad)) fun U => U.heap.size = sz ∧ va_P D vwCl (sf_wd lay ad cy σ) U.heap ∧ va_K D vwCl (sf_ty cy) U ∧ ∀ w ∈ sf_N, va_Nw w U
def sf_Qc (lay : sf_Lay) (D : va_G) (cy : Nat → ClassId) (ad : Nat → Nat) (A : Nat → Prop) (r : sf_Q) : Array Value → State → Outcome → State → Prop := fun _ st oc t => (oc = .returned (r.1.map (sf_v ad)) ∧ va_P D vwCl (sf_wd lay ad cy r.2) t.heap) ∧ va_F A st t
def sf_C (l : Launch) (lay : sf_Lay) (y : MethodName) (cc : ByteArray) (nL : Nat) (ret : Option FieldType) (rm : Room) (F : List Value → sf_S → Option sf_Q) : Prop :=
  rm.cells = 0 ∧ rm.slots = 0 ∧ ∀ (D : va_G) (cy : Nat → ClassId) (ad : Nat → Nat) (sz : Nat) (av : List Value) (σ : sf_S) (r : sf_Q), sf_inj lay ad → F av σ = some r →
    Met l y (Cond.code y cc nL ret :: sf_T) rm (sf_Pc lay D cy ad sz av σ) (sf_Qc lay D cy ad (sf_A lay ad sz) r) 0 0 (sf_A lay ad sz)
theorem sf_pc_blind {lay : sf_Lay} {D : va_G} {cy : Nat → ClassId} {ad : Nat → Nat} {sz : Nat} {av : List Value} {σ : sf_S} : FrameBlind (sf_Pc lay D cy ad sz av σ) := by
  intro a U g mk h
  obtain ⟨h1, h2, h3, h4, h5⟩ := h
  exact ⟨h1, h2, h3, va_K.moved (u := U) (U := U.calling g mk a) (Vm.Alike.refl U.vm) h4, sf_N_same (s := U) (U := U.calling g mk a) rfl h5⟩
theorem sf_v_none {v : Value} (ad : Nat → Nat) (h : ∀ q, v ≠ .ref q) : sf_v ad v = v := by
  cases v with
  | ref q => exact absurd rfl (h q)
  | _ => rfl
theorem sf_cat4 (r : List Value) (h : r.length ≤ 4) : (r.map fun v => v.category).sum ≤ 8 := by
  have key : ∀ (r : List Value), (r.map fun v => v.category).sum ≤ 2 * r.length := by
    intro r
    induction r with
    | nil => simp
    | cons v r ih =>
      simp only [List.map_cons, List.sum_cons, List.length_cons]
      rcases lv_cat v with h1 | h1 <;> omega
  have := key r
  omega
section SFC
variable {p : Program} {l : Launch} {e0 : Env} {R : Room} {s : State} {m : MethodId} {args : Array Value} {below : List Frame} {meth : Method} {c : Code} {Q : State → Prop} {cc : ByteArray} {nL : Nat} {lay : sf_Lay} {D : va_G} {cy : Nat → ClassId} {ad : Nat → Nat} {A : Nat → Prop} {own : String}
/-- behind a call -/
theorem sf_behind {pc : Nat} {L : sf_L} {st rest : List Value} {σ : sf_S} {r : sf_Q} {a : Array Value} (hA : ∀ k, k < lay.length → A (ad k)) (hAs : ∀ q, s.heap.size ≤ q → A q)
    (hr : ∀ (H : Heap) (locs : List Loc) (ls : Array Slot), sf_LV ls nL ad L → va_P D vwCl (sf_wd lay ad cy σ) H → va_S A s.heap H locs → va_Run p l e0 R s m args below meth c H locs 0 0 0 0 (F0 m pc ls (st.map (sf_v ad))) (rest.map (sf_v ad)) (sf_Qc lay D cy ad (sf_A lay ad H.size) r a) (sf_A lay ad H.size))
    (kk : sf_W p l e0 R s m args below meth c Q nL lay D cy ad A (pc + 3) L (r.1.toList ++ rest) r.2) : sf_W p l e0 R s m args below meth c Q nL lay D cy ad A pc L st σ := by
  intro H locs ls hl hP hS T hT X
  obtain ⟨v, st₀, t, T', L', h0, X', hL, e1, e2, ⟨⟨hv, hw⟩, hz, hk⟩, stp⟩ := hr H locs ls hl hP hS T hT X
  have hv : v = r.1.map (sf_v ad) := by injection hv
  subst hv
  rw [h0] at hz hk
  have hfree : ∀ q, sf_A lay ad H.size q → A q := by
    intro q hq
    rcases hq with ⟨k, h1, rfl⟩ | hq
    · exact hA k h1
    · exact hAs q (Nat.le_trans hS.1 hq)
  have hS1 : va_S A s.heap T'.heap (locs ++ L') := ⟨Nat.le_trans hS.1 (by rw [e1]; exact hz), fun q h1 h2 => by rw [e1, hk q (Nat.lt_of_lt_of_le h1 hS.1) (fun z => h2 (hfree q z))]; exact hS.2.1 q h1 h2, fun q hq => by
      rcases List.mem_append.mp hq with h | h
      · exact hS.2.2 q h
      · exact hfree _ (hL q h)⟩
  obtain ⟨t2, a1, b1⟩ := kk T'.heap (locs ++ L') ls hl (by rw [e1]; exact hw) hS1 T' rfl X'
  refine ⟨t2, stp t2 ?_, b1⟩
  have he : (r.1.toList ++ rest).map (sf_v ad) = (r.1.map (sf_v ad)).toList ++ rest.map (sf_v ad) := by
    rw [List.map_append]
    cases r.1 <;> rfl
  rw [he] at a1
  exact a1
end SFC
/-- in every body of a method: its calls are sound (at the place pc) -/
def sf_JE {ρ : Type} (l : Launch) (own : String) (cc : ByteArray) (nL : Nat) (rm : Room) (lay : sf_Lay) (pc : Nat) (j : sf_J ρ) : Prop :=
  ∀ (p : Program) (e0 : Env) (s : State) (m : MethodId) (args : Array Value) (below : List Frame) (meth : Method) (c : Code) (Q : State → Prop) (D : va_G) (cy : Nat → ClassId) (ad : Nat → Nat) (A : Nat → Prop), sf_At p s m args c own cc nL lay D cy ad A sf_T → (∀ w ∈ sf_N, va_Nw w s) →
    ∀ (L : sf_L) (st : List Value) (σ : sf_S) (K : List Value → sf_S → Option ρ) (r : ρ), j st σ K = some r → (∀ st2 σ2, K st2 σ2 = some r → sf_W p l e0 rm s m args below meth c Q nL lay D cy ad A (pc + 3) L st2 σ2) → sf_W p l e0 rm s m args below meth c Q nL lay D cy ad A pc L st σ
def sf_JO {ρ : Type} (l : Launch) (own : String) (cc : ByteArray) (nL : Nat) (rm : Room) (lay : sf_Lay) (J : List (Nat × sf_J ρ)) : Prop := ∀ q ∈ J, sf_JE l own cc nL rm lay q.1 q.2
theorem sf_JO_nil {ρ : Type} {l : Launch} {own : String} {cc : ByteArray} {nL : Nat} {rm : Room} {lay : sf_Lay} : sf_JO (ρ := ρ) l own cc nL rm lay [] := fun _ h => absurd h List.not_mem_nil
theorem sf_JO_cons {ρ : Type} {l : Launch} {own : String} {cc : ByteArray} {nL : Nat} {rm : Room} {lay : sf_Lay} {pc : Nat} {j : sf_J ρ} {J : List (Nat × sf_J ρ)} (h : sf_JE l own cc nL rm lay pc j) (h2 : sf_JO l own cc nL rm lay J) : sf_JO l own cc nL rm lay ((pc, j) :: J) := List.forall_mem_cons.mpr ⟨h, h2⟩
def sf_jG {ρ τ : Type} (lay : sf_Lay) (cs : List Nat) (n : Nat) (g : List Value → sf_S → Option τ) (tv : τ → sf_Q) : sf_J ρ := fun st σ K => sf_pop n [] st fun av r => match sf_rc lay cs av r with
  | true => (g av σ).bind fun u => K ((tv u).1.toList ++ r) (tv u).2
  | false => none
/-- what a call hands over -/
theorem sf_pre {lay : sf_Lay} {D : va_G} {cy : Nat → ClassId} {ad : Nat → Nat} {s : State} {H : Heap} {av : List Value} {σ : sf_S} (hP : va_P D vwCl (sf_wd lay ad cy σ) H) (hK : va_K D vwCl (sf_ty cy) s) (hN : ∀ w ∈ sf_N, va_Nw w s) : ∀ U : State, U.heap = H → s.WarmedH U.vm → sf_Pc lay D cy ad H.size av σ (av.map (sf_v ad)).toArray U :=
  fun U hU hW => ⟨rfl, by rw [hU], by rw [hU]; exact hP, va_K.moved hW.alike hK, sf_N_warm hW hN⟩
theorem sf_pop_inv {ρ : Type} {f : List Value → List Value → Option ρ} {r : ρ} : ∀ (n : Nat) (acc st : List Value), sf_pop n acc st f = some r → n ≤ st.length ∧ f ((st.take n).reverse ++ acc) (st.drop n) = some r
  | 0, acc, st, h => ⟨Nat.zero_le _, by simpa [sf_pop] using h⟩
  | n + 1, acc, [], h => by simp [sf_pop] at h
  | n + 1, acc, v :: st, h => by
    obtain ⟨h1, h2⟩ := sf_pop_inv n (v :: acc) st (by simpa [sf_pop] using h)
    exact ⟨by simp; omega, by simpa using h2⟩
theorem sf_jG_inv {ρ τ : Type} {lay : sf_Lay} {cs : List Nat} {n : Nat} {g : List Value → sf_S → Option τ} {tv : τ → sf_Q} {st : List Value} {σ : sf_S} {K : List Value → sf_S → Option ρ} {r : ρ} (h : sf_jG lay cs n g tv st σ K = some r) : (n ≤ st.length ∧ sf_rc lay cs (st.take n).reverse (st.drop n) = true) ∧ ∃ u, (g (st.take n).reverse σ).map tv = some u ∧ K (u.1.toList ++ st.drop n) u.2 = some r := by
  unfold sf_jG at h
  obtain ⟨h1, h⟩ := sf_pop_inv n [] st h
  rw [List.append_nil] at h
  split at h
  · rename_i hr
    refine ⟨⟨h1, hr⟩, ?_⟩
    cases hg : g (st.take n).reverse σ with
    | none => rw [hg] at h; cases h
    | some u =>
      rw [hg] at h
      exact ⟨tv u, rfl, h⟩
  · cases h
theorem sf_l4_len {r : List Value} (h : sf_l4 r = true) : r.length ≤ 4 := by
  unfold sf_l4 at h
  split at h <;> first | (cases h; done) | simp
theorem sf_rc_inv {lay : sf_Lay} {cs : List Nat} {n : Nat} {st : List Value} (h : n ≤ st.length ∧ sf_rc lay cs (st.take n).reverse (st.drop n) = true) : n ≤ st.length ∧ (st.drop n).length ≤ 4 ∧ (cs = [] ∨ (1 ≤ n ∧ ∃ q ci fs, st[n - 1]? = some (.ref q) ∧ lay[q]? = some (.inl (ci, fs)) ∧ ci ∈ cs)) := by
  obtain ⟨h1, h⟩ := h
  unfold sf_rc at h
  split at h
  · cases h
  · rename_i h4
    refine ⟨h1, sf_l4_len h4, ?_⟩
    split at h
    · exact Or.inl rfl
    · split at h
      · rename_i q tl hq
        split at h
        · rename_i ci fs hl
          obtain ⟨z, hz, e⟩ := List.any_eq_true.mp h
          rw [Nat.eq_of_beq_eq_true e] at hz
          have hn : 1 ≤ n := by
            cases n with
            | zero => simp at hq
            | succ n => omega
          have h6 : (st.take n).reverse[0]? = some (.ref q) := by rw [hq]; rfl
          have hlen : (st.take n).length = n := by simp; omega
          rw [List.getElem?_reverse (by omega), hlen, List.getElem?_take_of_lt (by omega)] at h6
          exact Or.inr ⟨hn, q, ci, fs, by simpa using h6, hl, hz⟩
        · cases h
      · cases h
theorem sf_stack {n : Nat} {st : List Value} {q : Nat} (hn : 1 ≤ n) (hl : n ≤ st.length) (h : st[n - 1]? = some (.ref q)) (ad : Nat → Nat) : (st.take n).reverse = .ref q :: (st.take (n - 1)).reverse ∧ st.map (sf_v ad) = ((st.take (n - 1)).reverse.map (sf_v ad)).reverse ++ .ref (ad q) :: (st.drop n).map (sf_v ad) := by
  have h1 : st.take n = st.take (n - 1) ++ [.ref q] := by
    have : n = (n - 1) + 1 := by omega
    rw [this, List.take_succ, Nat.add_sub_cancel, h]
    rfl
  refine ⟨by rw [h1, List.reverse_append]; rfl, ?_⟩
  have h2 : st = st.take n ++ st.drop n := (List.take_append_drop n st).symm
  conv => lhs; rw [h2, h1]
  simp [sf_v]
/-- the words of a call of a method y, whose code is known -/
def sf_MW (y : MethodName) (cc : ByteArray) (nL : Nat) (ret : Option FieldType) : Prop := Cond.code y cc nL ret ∈ sf_T ∧ Cond.initialized y.cls ∈ sf_T ∧ y.cls ≠ "java/lang/invoke/MethodHandle" ∧ y.cls ≠ "java/lang/invoke/VarHandle"
def sf_RM (rm rm2 : Room) (nL2 : Nat) : Prop := rm2.frames + 1 ≤ rm.frames ∧ 8 + (nL2 + 11) + rm2.locals ≤ rm.locals ∧ rm.cells = 0 ∧ rm.slots = 0
theorem sf_je_V {ρ τ : Type} {l : Launch} {own : String} {cc cc2 : ByteArray} {nL nL2 idx pc n : Nat} {rm rm2 : Room} {lay : sf_Lay} {y : MethodName} {ret : Option FieldType} {cs : List Nat} {g : List Value → sf_S → Option τ} {tv : τ → sf_Q} (hC : sf_C l lay y cc2 nL2 ret rm2 fun av σ => (g av σ).map tv) (hw : sf_MW y cc2 nL2 ret) (hd : decode cc pc = .ok (.invokevirtual idx, 3)) (hl : Cond.methodLink own idx y ∈ sf_T) (hi : Cond.instanceMethod y ∈ sf_T) (hsel : Cond.selects y.cls y y ∈ sf_T)
    (hn : (parseMethodDescriptor y.desc).map (fun d => d.parameters.length) = some (n - 1)) (hn1 : 1 ≤ n) (hcs : cs ≠ []) (hcl : ∀ ci ∈ cs, ∃ T N, vwCl[ci]? = some (y.cls, T, N)) (hrm : sf_RM rm rm2 nL2) : sf_JE (ρ := ρ) l own cc nL rm lay pc (sf_jG lay cs n g tv) := by
  intro p e0 s m args below meth c Q D cy ad A h0 hN L st σ K r hj hk
  obtain ⟨hx, hb, hml, hown, hts, hK, hinj, hA, hAs⟩ := h0
  obtain ⟨hrc, u, hu, hr⟩ := sf_jG_inv hj
  obtain ⟨hlen, hrest, hq⟩ := sf_rc_inv hrc
  obtain ⟨-, q, ci, fs, hq1, hq2, hq3⟩ := hq.resolve_left hcs
  obtain ⟨T, N, hT⟩ := hcl ci hq3
  obtain ⟨e1, e2⟩ := sf_stack hn1 hlen hq1 ad
  obtain ⟨hc0, hs0, hMet⟩ := hC
  obtain ⟨w1, w2, w3, w4⟩ := hw
  obtain ⟨r1, r2, r3, r4⟩ := hrm
  refine sf_behind (rest := st.drop n) (r := u) (a := (Value.ref (ad q) :: ((st.take (n - 1)).reverse.map (sf_v ad))).toArray) hA hAs (fun H locs ls hl0 hP hS => ?_) (hk _ _ hr)
  have hM := hMet D cy ad H.size _ σ u hinj hu
  have hsz : (((st.take (n - 1)).reverse.map (sf_v ad)).length) = n - 1 := by simp; omega
  have cw : CallW rm s args own y.cls idx y cc2 nL2 ret (Cond.code y cc2 nL2 ret :: sf_T) rm2 0 0 (n - 1) :=
    ⟨callB_of (n - 1) hts (sf_T_code w1) rfl hc0 hs0 (hts _ w2) (hts _ hl) ⟨w3, w4, hn⟩ ⟨r1, r2⟩, hts _ hi, hts _ hsel⟩
  have hpre : PreV s H y.cls (ad q) (sf_Pc lay D cy ad H.size (st.take n).reverse σ) ((st.take (n - 1)).reverse.map (sf_v ad)) := by
    refine ⟨sf_pc_blind, va_recv hK hP hT (sf_wd_at hq2), fun U hU hW => ?_⟩
    have := sf_pre (av := (st.take n).reverse) hP hK hN U hU hW
    rw [e1] at this
    rw [e1]
    exact this
  exact va_runV (As := (st.take (n - 1)).reverse.map (sf_v ad)) (rest := (st.drop n).map (sf_v ad)) ⟨hx, hb, hml, hown, hts⟩ hM cw hpre rfl hsz hl0.1 e2 (lv_room (sf_cat4 _ (by simpa using hrest))) hd ⟨by rw [r3]; exact Nat.zero_le _, by rw [r4]; exact Nat.zero_le _⟩
end
section
/-! the other kinds of calls; a method's contract out of its code -/
theorem sf_je_N {ρ τ : Type} {l : Launch} {own : String} {cc cc2 : ByteArray} {nL nL2 idx pc n : Nat} {rm rm2 : Room} {lay : sf_Lay} {y : MethodName} {ret : Option FieldType} {cs : List Nat} {g : List Value → sf_S → Option τ} {tv : τ → sf_Q} (host : String) (hC : sf_C l lay y cc2 nL2 ret rm2 fun av σ => (g av σ).map tv) (hw : sf_MW y cc2 nL2 ret) (hd : decode cc pc = .ok (.invokevirtual idx, 3)) (hl : Cond.methodLinkNest own idx y host ∈ sf_N) (hi : Cond.instanceMethod y ∈ sf_T) (hsel : Cond.selects y.cls y y ∈ sf_T)
    (hn : (parseMethodDescriptor y.desc).map (fun d => d.parameters.length) = some (n - 1)) (hn1 : 1 ≤ n) (hcs : cs ≠ []) (hcl : ∀ ci ∈ cs, ∃ T N, vwCl[ci]? = some (y.cls, T, N)) (hrm : sf_RM rm rm2 nL2) : sf_JE (ρ := ρ) l own cc nL rm lay pc (sf_jG lay cs n g tv) := by
  intro p e0 s m args below meth c Q D cy ad A h0 hN L st σ K r hj hk
  obtain ⟨hx, hb, hml, hown, hts, hK, hinj, hA, hAs⟩ := h0
  obtain ⟨hrc, u, hu, hr⟩ := sf_jG_inv hj
  obtain ⟨hlen, hrest, hq⟩ := sf_rc_inv hrc
  obtain ⟨-, q, ci, fs, hq1, hq2, hq3⟩ := hq.resolve_left hcs
  obtain ⟨T, N, hT⟩ := hcl ci hq3
  obtain ⟨e1, e2⟩ := sf_stack hn1 hlen hq1 ad
  obtain ⟨hc0, hs0, hMet⟩ := hC
  obtain ⟨w1, w2, w3, w4⟩ := hw
  obtain ⟨r1, r2, r3, r4⟩ := hrm
  refine sf_behind (rest := st.drop n) (r := u) (a := (Value.ref (ad q) :: ((st.take (n - 1)).reverse.map (sf_v ad))).toArray) hA hAs (fun H locs ls hl0 hP hS => ?_) (hk _ _ hr)
  have hM := hMet D cy ad H.size _ σ u hinj hu
  have hsz : (((st.take (n - 1)).reverse.map (sf_v ad)).length) = n - 1 := by simp; omega
  have cw : va_CN rm s args own idx y host cc2 nL2 ret (Cond.code y cc2 nL2 ret :: sf_T) rm2 0 0 (n - 1) :=
    va_cnB (n - 1) hts (sf_T_code w1) rfl hc0 hs0 (hN _ hl) (hts _ w2) ⟨w3, w4, hn⟩ ⟨r1, r2⟩
  have hpre : PreV s H y.cls (ad q) (sf_Pc lay D cy ad H.size (st.take n).reverse σ) ((st.take (n - 1)).reverse.map (sf_v ad)) := by
    refine ⟨sf_pc_blind, va_recv hK hP hT (sf_wd_at hq2), fun U hU hW => ?_⟩
    have := sf_pre (av := (st.take n).reverse) hP hK hN U hU hW
    rw [e1] at this
    rw [e1]
    exact this
  exact va_runVN (As := (st.take (n - 1)).reverse.map (sf_v ad)) (rest := (st.drop n).map (sf_v ad)) ⟨hx, hb, hml, hown, hts⟩ hM ⟨cw, hts _ hi, hts _ hsel⟩ hpre rfl hsz hl0.1 e2 (lv_room (sf_cat4 _ (by simpa using hrest))) hd ⟨by rw [r3]; exact Nat.zero_le _, by rw [r4]; exact Nat.zero_le _⟩
theorem sf_je_U {ρ τ : Type} {l : Launch} {own : String} {cc cc2 : ByteArray} {nL nL2 idx pc n : Nat} {rm rm2 : Room} {lay : sf_Lay} {x y : MethodName} {ret : Option FieldType} {cs : List Nat} {g : List Value → sf_S → Option τ} {tv : τ → sf_Q} (hC : sf_C l lay y cc2 nL2 ret rm2 fun av σ => (g av σ).map tv) (hw : sf_MW y cc2 nL2 ret) (hd : decode cc pc = .ok (.invokevirtual idx, 3)) (hl : Cond.methodLink own idx x ∈ sf_T) (hi : Cond.instanceMethod y ∈ sf_T) (hsm : Cond.sameMethod x.cls y.cls x.name x.desc ∈ sf_T) (hyx : y = ⟨y.cls, x.name, x.desc⟩)
    (hn : (parseMethodDescriptor x.desc).map (fun d => d.parameters.length) = some (n - 1)) (hn1 : 1 ≤ n) (hcs : cs ≠ []) (hcl : ∀ ci ∈ cs, ∃ C T N, vwCl[ci]? = some (C, T, N) ∧ Cond.selects C x y ∈ sf_T) (hrm : sf_RM rm rm2 nL2) : sf_JE (ρ := ρ) l own cc nL rm lay pc (sf_jG lay cs n g tv) := by
  intro p e0 s m args below meth c Q D cy ad A h0 hN L st σ K r hj hk
  obtain ⟨hx, hb, hml, hown, hts, hK, hinj, hA, hAs⟩ := h0
  obtain ⟨hrc, u, hu, hr⟩ := sf_jG_inv hj
  obtain ⟨hlen, hrest, hq⟩ := sf_rc_inv hrc
  obtain ⟨-, q, ci, fs, hq1, hq2, hq3⟩ := hq.resolve_left hcs
  obtain ⟨C, T, N, hT, hsel⟩ := hcl ci hq3
  obtain ⟨e1, e2⟩ := sf_stack hn1 hlen hq1 ad
  obtain ⟨hc0, hs0, hMet⟩ := hC
  obtain ⟨w1, w2, w3, w4⟩ := hw
  obtain ⟨r1, r2, r3, r4⟩ := hrm
  refine sf_behind (rest := st.drop n) (r := u) (a := (Value.ref (ad q) :: ((st.take (n - 1)).reverse.map (sf_v ad))).toArray) hA hAs (fun H locs ls hl0 hP hS => ?_) (hk _ _ hr)
  have hM := hMet D cy ad H.size _ σ u hinj hu
  have hsz : (((st.take (n - 1)).reverse.map (sf_v ad)).length) = n - 1 := by simp; omega
  have cw : va_CU rm s args own C y.cls idx x y cc2 nL2 ret (Cond.code y cc2 nL2 ret :: sf_T) rm2 0 0 (n - 1) := by
    refine ⟨⟨hc0, hs0, r1, r2, pay_in hts (sf_T_code w1), List.mem_cons_self⟩, hts _ w1, hts _ w2, ⟨w3, w4⟩, fun sig h => ?_, hts _ hl, hts _ hsm, ?_, hts _ hsel, hts _ hi⟩
    · rw [h] at hn
      exact (Option.some.inj hn).symm
    · rw [← hyx]
      exact va_Decl.of (hts _ hi) (hts _ w1)
  have hpre : PreV s H C (ad q) (sf_Pc lay D cy ad H.size (st.take n).reverse σ) ((st.take (n - 1)).reverse.map (sf_v ad)) := by
    refine ⟨sf_pc_blind, va_recv hK hP hT (sf_wd_at hq2), fun U hU hW => ?_⟩
    have := sf_pre (av := (st.take n).reverse) hP hK hN U hU hW
    rw [e1] at this
    rw [e1]
    exact this
  exact va_runU (As := (st.take (n - 1)).reverse.map (sf_v ad)) (rest := (st.drop n).map (sf_v ad)) ⟨hx, hb, hml, hown, hts⟩ hM cw hpre rfl hsz hl0.1 e2 (lv_room (sf_cat4 _ (by simpa using hrest))) hd ⟨by rw [r3]; exact Nat.zero_le _, by rw [r4]; exact Nat.zero_le _⟩
theorem sf_stackS (n : Nat) (st : List Value) (ad : Nat → Nat) : st.map (sf_v ad) = ((st.take n).reverse.map (sf_v ad)).reverse ++ (st.drop n).map (sf_v ad) := by
  conv => lhs; rw [← List.take_append_drop n st]
  simp
theorem sf_je_S {ρ τ : Type} {l : Launch} {own : String} {cc cc2 : ByteArray} {nL nL2 idx pc n : Nat} {rm rm2 : Room} {lay : sf_Lay} {y : MethodName} {ret : Option FieldType} {g : List Value → sf_S → Option τ} {tv : τ → sf_Q} (hC : sf_C l lay y cc2 nL2 ret rm2 fun av σ => (g av σ).map tv) (hw : sf_MW y cc2 nL2 ret) (hd : decode cc pc = .ok (.invokestatic idx, 3)) (hl : Cond.methodLink own idx y ∈ sf_T) (hi : Cond.static y ∈ sf_T)
    (hn : (parseMethodDescriptor y.desc).map (fun d => d.parameters.length) = some n) (hrm : sf_RM rm rm2 nL2) : sf_JE (ρ := ρ) l own cc nL rm lay pc (sf_jG lay [] n g tv) := by
  intro p e0 s m args below meth c Q D cy ad A h0 hN L st σ K r hj hk
  obtain ⟨hx, hb, hml, hown, hts, hK, hinj, hA, hAs⟩ := h0
  obtain ⟨hrc, u, hu, hr⟩ := sf_jG_inv hj
  obtain ⟨hlen, hrest, -⟩ := sf_rc_inv hrc
  obtain ⟨hc0, hs0, hMet⟩ := hC
  obtain ⟨w1, w2, w3, w4⟩ := hw
  obtain ⟨r1, r2, r3, r4⟩ := hrm
  refine sf_behind (rest := st.drop n) (r := u) (a := ((st.take n).reverse.map (sf_v ad)).toArray) hA hAs (fun H locs ls hl0 hP hS => ?_) (hk _ _ hr)
  have hM := hMet D cy ad H.size _ σ u hinj hu
  have hsz : (((st.take n).reverse.map (sf_v ad)).length) = n := by simp; omega
  have cw : CallB rm s args own idx y cc2 nL2 ret (Cond.code y cc2 nL2 ret :: sf_T) rm2 0 0 n := callB_of n hts (sf_T_code w1) rfl hc0 hs0 (hts _ w2) (hts _ hl) ⟨w3, w4, hn⟩ ⟨r1, r2⟩
  have hpre : PreS s H (sf_Pc lay D cy ad H.size (st.take n).reverse σ) ((st.take n).reverse.map (sf_v ad)) := ⟨sf_pc_blind, sf_pre (av := (st.take n).reverse) hP hK hN⟩
  exact va_runS (As := (st.take n).reverse.map (sf_v ad)) (rest := (st.drop n).map (sf_v ad)) ⟨hx, hb, hml, hown, hts⟩ hM ⟨cw, hts _ hi⟩ hpre rfl hsz hl0.1 (sf_stackS n st ad) (lv_room (sf_cat4 _ (by simpa using hrest))) hd ⟨by rw [r3]; exact Nat.zero_le _, by rw [r4]; exact Nat.zero_le _⟩
theorem sf_je_SN {ρ τ : Type} {l : Launch} {own : String} {cc cc2 : ByteArray} {nL nL2 idx pc n : Nat} {rm rm2 : Room} {lay : sf_Lay} {y : MethodName} {ret : Option FieldType} {g : List Value → sf_S → Option τ} {tv : τ → sf_Q} (host : String) (hC : sf_C l lay y cc2 nL2 ret rm2 fun av σ => (g av σ).map tv) (hw : sf_MW y cc2 nL2 ret) (hd : decode cc pc = .ok (.invokestatic idx, 3)) (hl : Cond.methodLinkNest own idx y host ∈ sf_N) (hi : Cond.static y ∈ sf_T)
    (hn : (parseMethodDescriptor y.desc).map (fun d => d.parameters.length) = some n) (hrm : sf_RM rm rm2 nL2) : sf_JE (ρ := ρ) l own cc nL rm lay pc (sf_jG lay [] n g tv) := by
  intro p e0 s m args below meth c Q D cy ad A h0 hN L st σ K r hj hk
  obtain ⟨hx, hb, hml, hown, hts, hK, hinj, hA, hAs⟩ := h0
  obtain ⟨hrc, u, hu, hr⟩ := sf_jG_inv hj
  obtain ⟨hlen, hrest, -⟩ := sf_rc_inv hrc
  obtain ⟨hc0, hs0, hMet⟩ := hC
  obtain ⟨w1, w2, w3, w4⟩ := hw
  obtain ⟨r1, r2, r3, r4⟩ := hrm
  refine sf_behind (rest := st.drop n) (r := u) (a := ((st.take n).reverse.map (sf_v ad)).toArray) hA hAs (fun H locs ls hl0 hP hS => ?_) (hk _ _ hr)
  have hM := hMet D cy ad H.size _ σ u hinj hu
  have hsz : (((st.take n).reverse.map (sf_v ad)).length) = n := by simp; omega
  have cw : va_CN rm s args own idx y host cc2 nL2 ret (Cond.code y cc2 nL2 ret :: sf_T) rm2 0 0 n := va_cnB n hts (sf_T_code w1) rfl hc0 hs0 (hN _ hl) (hts _ w2) ⟨w3, w4, hn⟩ ⟨r1, r2⟩
  have hpre : PreS s H (sf_Pc lay D cy ad H.size (st.take n).reverse σ) ((st.take n).reverse.map (sf_v ad)) := ⟨sf_pc_blind, sf_pre (av := (st.take n).reverse) hP hK hN⟩
  exact va_runSN (As := (st.take n).reverse.map (sf_v ad)) (rest := (st.drop n).map (sf_v ad)) ⟨hx, hb, hml, hown, hts⟩ hM ⟨cw, hts _ hi, trivial⟩ hpre rfl hsz hl0.1 (sf_stackS n st ad) (lv_room (sf_cat4 _ (by simpa using hrest))) hd ⟨by rw [r3]; exact Nat.zero_le _, by rw [r4]; exact Nat.zero_le _⟩
/-- Math's own -/
def sf_RB (rm : Room) : Prop := 1 ≤ rm.frames ∧ 63 ≤ rm.locals ∧ rm.cells = 0 ∧ rm.slots = 0
theorem sf_room4 {r : List Value} {ad : Nat → Nat} (h : sf_l4 r = true) : ((r.map (sf_v ad)).map fun v => v.category).sum ≤ 8 := sf_cat4 _ (by simpa using sf_l4_len h)
theorem sf_je_max {ρ : Type} {l : Launch} {own : String} {cc : ByteArray} {nL idx pc : Nat} {rm : Room} {lay : sf_Lay} (hd : decode cc pc = .ok (.invokestatic idx, 3)) (hl : Cond.methodLink own idx Lib.Math.max.name ∈ sf_T) (w1 : Cond.static Lib.Math.max.name ∈ sf_T) (w2 : Cond.initialized "java/lang/Math" ∈ sf_T) (w3 : Cond.code Lib.Math.max.name Lib.Math.max.code 2 (some .int) ∈ sf_T) (hrm : sf_RB rm) : sf_JE (ρ := ρ) l own cc nL rm lay pc sf_jmax := by
  intro p e0 s m args below meth c Q D cy ad A h0 hN L st σ K r hj hk
  obtain ⟨hx, hb, hml, hown, hts, hK, hinj, hA, hAs⟩ := h0
  obtain ⟨r1, r2, r3, r4⟩ := hrm
  simp only [sf_jmax] at hj
  split at hj
  · split at hj
    · rename_i hlen
      refine fun H locs ls hl0 hP hS => va_mmax hx hb (hml.trans hl0.1.symm) hown (hts _ hl) (hts _ w1) (hts _ w2) (hts _ w3) r1 ?_ (Nat.zero_le _) (Nat.zero_le _) hd (hk _ _ hj H locs ls hl0 hP hS)
      have := sf_room4 (ad := ad) hlen
      omega
    · cases hj
  · cases hj
theorem sf_je_min {ρ : Type} {l : Launch} {own : String} {cc : ByteArray} {nL idx pc : Nat} {rm : Room} {lay : sf_Lay} (hd : decode cc pc = .ok (.invokestatic idx, 3)) (hl : Cond.methodLink own idx Lib.Math.min.name ∈ sf_T) (w1 : Cond.static Lib.Math.min.name ∈ sf_T) (w2 : Cond.initialized "java/lang/Math" ∈ sf_T) (w3 : Cond.code Lib.Math.min.name Lib.Math.min.code 2 (some .int) ∈ sf_T) (hrm : sf_RB rm) : sf_JE (ρ := ρ) l own cc nL rm lay pc sf_jmin := by
  intro p e0 s m args below meth c Q D cy ad A h0 hN L st σ K r hj hk
  obtain ⟨hx, hb, hml, hown, hts, hK, hinj, hA, hAs⟩ := h0
  obtain ⟨r1, r2, r3, r4⟩ := hrm
  simp only [sf_jmin] at hj
  split at hj
  · split at hj
    · rename_i hlen
      refine fun H locs ls hl0 hP hS => va_mmin hx hb (hml.trans hl0.1.symm) hown (hts _ hl) (hts _ w1) (hts _ w2) (hts _ w3) r1 ?_ (Nat.zero_le _) (Nat.zero_le _) hd (hk _ _ hj H locs ls hl0 hP hS)
      have := sf_room4 (ad := ad) hlen
      omega
    · cases hj
  · cases hj
theorem sf_je_maxL {ρ : Type} {l : Launch} {own : String} {cc : ByteArray} {nL idx pc : Nat} {rm : Room} {lay : sf_Lay} (hd : decode cc pc = .ok (.invokestatic idx, 3)) (hl : Cond.methodLink own idx Lib.MathLoose.max_long.x ∈ sf_T) (w1 : Cond.static Lib.MathLoose.max_long.x ∈ sf_T) (w2 : Cond.initialized "java/lang/Math" ∈ sf_T) (w3 : Cond.code Lib.MathLoose.max_long.x Lib.MathLoose.max_long.code 4 (some .long) ∈ sf_T) (hrm : sf_RB rm) : sf_JE (ρ := ρ) l own cc nL rm lay pc sf_jmaxL := by
  intro p e0 s m args below meth c Q D cy ad A h0 hN L st σ K r hj hk
  obtain ⟨hx, hb, hml, hown, hts, hK, hinj, hA, hAs⟩ := h0
  obtain ⟨r1, r2, r3, r4⟩ := hrm
  simp only [sf_jmaxL] at hj
  split at hj
  · split at hj
    · rename_i hlen
      refine fun H locs ls hl0 hP hS => va_mmax_long hx hb (hml.trans hl0.1.symm) hown (hts _ hl) (hts _ w1) (hts _ w2) (hts _ w3) r1 ?_ (Nat.zero_le _) (Nat.zero_le _) hd (hk _ _ hj H locs ls hl0 hP hS)
      have := sf_room4 (ad := ad) hlen
      omega
    · cases hj
  · cases hj
theorem sf_je_absL {ρ : Type} {l : Launch} {own : String} {cc : ByteArray} {nL idx pc : Nat} {rm : Room} {lay : sf_Lay} (hd : decode cc pc = .ok (.invokestatic idx, 3)) (hl : Cond.methodLink own idx Lib.MathLoose.abs_long.x ∈ sf_T) (w1 : Cond.static Lib.MathLoose.abs_long.x ∈ sf_T) (w2 : Cond.initialized "java/lang/Math" ∈ sf_T) (w3 : Cond.code Lib.MathLoose.abs_long.x Lib.MathLoose.abs_long.code 2 (some .long) ∈ sf_T) (hrm : sf_RB rm) : sf_JE (ρ := ρ) l own cc nL rm lay pc sf_jabsL := by
  intro p e0 s m args below meth c Q D cy ad A h0 hN L st σ K r hj hk
  obtain ⟨hx, hb, hml, hown, hts, hK, hinj, hA, hAs⟩ := h0
  obtain ⟨r1, r2, r3, r4⟩ := hrm
  simp only [sf_jabsL] at hj
  split at hj
  · split at hj
    · rename_i hlen
      refine fun H locs ls hl0 hP hS => va_mabs_long hx hb (hml.trans hl0.1.symm) hown (hts _ hl) (hts _ w1) (hts _ w2) (hts _ w3) r1 ?_ (Nat.zero_le _) (Nat.zero_le _) hd (hk _ _ hj H locs ls hl0 hP hS)
      have := sf_room4 (ad := ad) hlen
      omega
    · cases hj
  · cases hj
theorem sf_je_cpy {ρ : Type} {l : Launch} {own : String} {cc : ByteArray} {nL idx pc : Nat} {rm : Room} {lay : sf_Lay} (hd : decode cc pc = .ok (.invokestatic idx, 3)) (hl : Cond.methodLink own idx arraycopyName ∈ sf_T) (w1 : Cond.native arraycopyName ∈ sf_T) (w2 : Cond.static arraycopyName ∈ sf_T) (w3 : Cond.initialized "java/lang/System" ∈ sf_T) (hrm : sf_RB rm) (hwords : 8 + (nativeFrameWords "java/lang/System" "arraycopy" 5 + 11) ≤ rm.locals) : sf_JE (ρ := ρ) l own cc nL rm lay pc (sf_jcpy lay) := by
  intro p e0 s m args below meth c Q D cy ad A h0 hN L st σ K r hj hk
  obtain ⟨hx, hb, hml, hown, hts, hK, hinj, hA, hAs⟩ := h0
  obtain ⟨r1, r2, r3, r4⟩ := hrm
  simp only [sf_jcpy] at hj
  split at hj
  · split at hj
    · rename_i n j q i q2 r0 hlen
      simp only [Bool.and_eq_true] at hlen
      obtain ⟨hlen, hqq⟩ := hlen
      have hqq := Nat.eq_of_beq_eq_true hqq
      subst hqq
      obtain ⟨t, N, hq, hj⟩ := sf_ar_inv hj
      split at hj
      · split at hj
        · rename_i hin
          simp only [Bool.and_eq_true, Bool.not_eq_true', decide_eq_false_iff_not] at hin
          obtain ⟨⟨⟨⟨z1, z2⟩, z3⟩, z4⟩, z5⟩ := hin
          intro H locs ls hl0 hP hS
          have hD : va_D A (sf_wd lay ad cy σ) := sf_wd_D cy σ hinj hA
          refine va_copyi hx hb (hml.trans hl0.1.symm) hown (hts _ hl) (hts _ w1) (hts _ w2) (hts _ w3) hK hP hD hS q q 0 0 (sf_wd_at hq) (sf_wd_at hq) rfl rfl rfl z1 z2 z3 (Nat.le_of_ble_eq_true z4) (Nat.le_of_ble_eq_true z5) (fun _ _ => rfl) r1 ?_ hd (fun H1 locs1 hP1 _ hS1 => hk _ _ hj H1 locs1 ls hl0 ?_ hS1)
          · have := sf_room4 (ad := ad) hlen
            omega
          · rw [← sf_wd_row (σ := σ) (f := va_cpy (σ q) (σ q) i.toNatClampNeg j.toNatClampNeg n.toNatClampNeg) hq (by funext b; simp [sf_cpy]) (fun a ha => by funext b; simp [sf_cpy, ha])]
            exact hP1
        · cases hj
      · cases hj
    · cases hj
  · cases hj
/-! a method's contract out of its code -/
abbrev sf_ent : Nat → List Value → sf_L
  | _, [] => []
  | i, .long x :: r => (i, some (.long x)) :: sf_ent (i + 2) r
  | i, .double x :: r => (i, some (.double x)) :: sf_ent (i + 2) r
  | i, v :: r => (i, some v) :: sf_ent (i + 1) r
theorem sf_ent_ok (ad : Nat → Nat) : ∀ (av : List Value) (i j : Nat) (v : Value), sf_get (sf_ent i av) j = some v → i ≤ j ∧ (lg_sl (av.map (sf_v ad)))[j - i]? = some (.val (sf_v ad v)) := by
  intro av
  induction av with
  | nil => intro i j v h; simp [sf_ent, sf_get] at h
  | cons x r ih =>
    intro i j v h
    have one : x.category = 1 → sf_ent i (x :: r) = (i, some x) :: sf_ent (i + 1) r → i ≤ j ∧ (lg_sl ((x :: r).map (sf_v ad)))[j - i]? = some (.val (sf_v ad v)) := by
      intro hc he
      have e : lg_sl ((x :: r).map (sf_v ad)) = .val (sf_v ad x) :: lg_sl (r.map (sf_v ad)) := by
        simp [lg_sl, List.flatMap_cons, sf_v_cat, hc]
      rw [e]
      rw [he] at h
      rcases sf_get_put h with ⟨h1, h2⟩ | ⟨-, h2, -⟩
      · cases h2
        subst h1
        exact ⟨Nat.le_refl _, by rw [Nat.sub_self]; rfl⟩
      · obtain ⟨h3, h4⟩ := ih (i + 1) j v h2
        refine ⟨by omega, ?_⟩
        rw [show j - i = (j - (i + 1)) + 1 by omega]
        exact h4
    have two : x.category = 2 → sf_ent i (x :: r) = (i, some x) :: sf_ent (i + 2) r → i ≤ j ∧ (lg_sl ((x :: r).map (sf_v ad)))[j - i]? = some (.val (sf_v ad v)) := by
      intro hc he
      have e : lg_sl ((x :: r).map (sf_v ad)) = .val (sf_v ad x) :: .second :: lg_sl (r.map (sf_v ad)) := by
        simp [lg_sl, List.flatMap_cons, sf_v_cat, hc]
      rw [e]
      rw [he] at h
      rcases sf_get_put h with ⟨h1, h2⟩ | ⟨-, h2, -⟩
      · cases h2
        subst h1
        exact ⟨Nat.le_refl _, by rw [Nat.sub_self]; rfl⟩
      · obtain ⟨h3, h4⟩ := ih (i + 2) j v h2
        refine ⟨by omega, ?_⟩
        rw [show j - i = (j - (i + 2)) + 1 + 1 by omega]
        exact h4
    cases x <;> first | exact one rfl rfl | exact two rfl rfl
theorem sf_ent_LV (ad : Nat → Nat) {av : List Value} {n : Nat} (h : (lg_sl (av.map (sf_v ad))).length ≤ n) : sf_LV ((lg_sl (av.map (sf_v ad)) ++ List.replicate (n - (lg_sl (av.map (sf_v ad))).length) Slot.unset).toArray) n ad (sf_ent 0 av) := by
  obtain ⟨h1, h2, -⟩ := lv_entry (av.map (sf_v ad)) h
  refine ⟨h1, h2, fun i v hg => ?_⟩
  have := (sf_ent_ok ad av 0 i v hg).2
  rw [Nat.sub_zero] at this
  have hl := (List.getElem?_eq_some_iff.mp this).1
  simp only [List.getElem?_toArray]
  rw [List.getElem?_append_left hl]
  exact this
def sf_RH {ρ : Type} (ret : Option FieldType) (rh : Option Value → sf_S → Option ρ) (tv : ρ → sf_Q) : Prop := ∀ v σ u, rh v σ = some u → tv u = (v, σ) ∧ (∀ x, v = some (.int x) → ∃ ty, ret = some ty ∧ narrow ty (.int x) = .int x) ∧ (∀ x, v = some (.long x) → ret = some .long) ∧ (v = none → ret = none)
theorem sf_RH_I : sf_RH (some .int) sf_hI sf_vI := by
  intro v σ u h
  unfold sf_hI at h
  split at h
  · cases h
    exact ⟨rfl, fun x hx => ⟨.int, rfl, vp_nar_int x⟩, fun x hx => (by cases hx), fun hx => (by cases hx)⟩
  · cases h
theorem sf_RH_Z : sf_RH (some .boolean) sf_hZ sf_vI := by
  intro v σ u h
  unfold sf_hZ at h
  split at h
  · rename_i x
    split at h
    · rename_i h01
      cases h
      refine ⟨rfl, fun y hy => ⟨.boolean, rfl, ?_⟩, fun x hx => (by cases hx), fun hx => (by cases hx)⟩
      cases hy
      simp only [sf_01, Bool.or_eq_true, decide_eq_true_eq] at h01
      rcases h01 with rfl | rfl <;> decide +kernel
    · cases h
  · cases h
theorem sf_RH_L : sf_RH (some .long) sf_hL sf_vL := by
  intro v σ u h
  unfold sf_hL at h
  split at h
  · cases h
    exact ⟨rfl, fun x hx => (by cases hx), fun x hx => rfl, fun hx => (by cases hx)⟩
  · cases h
theorem sf_RH_V : sf_RH none sf_hV sf_vV := by
  intro v σ u h
  unfold sf_hV at h
  split at h
  · cases h
    exact ⟨rfl, fun x hx => (by cases hx), fun x hx => (by cases hx), fun _ => rfl⟩
  · cases h
def sf_mono (Wt : Nat → sf_L → List Value → sf_S → Prop) : Prop := ∀ (pc : Nat) (L0 L : sf_L) (st : List Value) (σ : sf_S), (∀ i v, sf_get L0 i = some v → sf_get L i = some v) → Wt pc L0 st σ → Wt pc L st σ
theorem sf_met {ρ : Type} {l : Launch} {y : MethodName} {cc : ByteArray} {nL : Nat} {ret : Option FieldType} {rm : Room} {lay : sf_Lay} {rh : Option Value → sf_S → Option ρ} {tv : ρ → sf_Q} {tab : List (Nat × sf_E)} {J : List (Nat × sf_J ρ)} {fl : sf_FL} {cl : List (Nat × Value)} {g : List Value → sf_S → Option ρ} (hy : plainName y.cls = true) (hrm : rm.cells = 0 ∧ rm.slots = 0) (hrh : sf_RH ret rh tv) (hchk : sf_chk cc nL fl cl tab = true)
    (hfl : ∀ (s : State) (args : Array Value), (∀ w ∈ sf_T, w.before args s = true) → (∀ w ∈ sf_N, va_Nw w s) → ∀ q ∈ fl, sf_FF s args sf_T y.cls q.1 q.2.1 q.2.2.1 q.2.2.2)
    (hcl : ∀ (s : State) (args : Array Value), (∀ w ∈ sf_T, w.before args s = true) → ∀ q ∈ cl, sf_CC s args y.cls q.1 q.2) (hJ : sf_JO l y.cls cc nL rm lay J)
    (hrun : ∀ (Wt : Nat → sf_L → List Value → sf_S → Prop) (Post : ρ → Prop), sf_Snd Wt lay rh J tab Post → sf_mono Wt → ∀ av σ u, g av σ = some u → Post u → (∀ ad, (lg_sl (av.map (sf_v ad))).length ≤ nL) ∧ Wt 0 (sf_ent 0 av) [] σ) : sf_C l lay y cc nL ret rm fun av σ => (g av σ).map tv := by
  refine ⟨hrm.1, hrm.2, fun D cy ad sz av σ r hinj hr => ?_⟩
  cases hg : g av σ with
  | none => simp [hg] at hr
  | some u =>
  simp only [hg, Option.map_some, Option.some.injEq] at hr
  subst hr
  refine Met.ofW (cc := cc) (maxL := nL) (ret := ret) hy rfl ?_
  intro p e s m args below meth c s₁ B hml hv
  obtain ⟨rfl, hsz, hP, hK, hN⟩ := hv
  have hx := B.exec
  have hb := B.bytes
  have hr := B.returns
  have hts0 := atoms_spec (ws := Cond.code y cc nL ret :: sf_T) B.pre
  have hts : ∀ w ∈ sf_T, w.before (av.map (sf_v ad)).toArray s = true := fun w h => hts0 w (List.mem_cons_of_mem _ h)
  have hown : s.vm.findClass y.cls = some m.cls := findClass_of_methodNamed B.named
  have hlocks := B.notSynchronized
  subst hsz
  have h0 : sf_At p s m (av.map (sf_v ad)).toArray c y.cls cc nL lay D cy ad (sf_A lay ad s.heap.size) sf_T := ⟨hx, hb, hml, hown, hts, hK, hinj, fun k hk => Or.inl ⟨k, hk, rfl⟩, fun q hq => Or.inr hq⟩
  have hsnd := sf_step_ok (l := l) (e0 := e) (R := rm) (below := below) (meth := meth) (Q := MQ below (sf_Qc lay D cy ad (sf_A lay ad s.heap.size) (tv u)) (av.map (sf_v ad)).toArray s 0 0 (sf_A lay ad s.heap.size)) (rh := rh) (J := J) (tab := tab) (Post := fun z => z = u) h0 hchk (hfl s _ hts hN) (hcl s _ hts)
    (fun pc j L st σ2 K r hj hjj hk => hJ (pc, j) (sf_as_mem hj) p e s m _ below meth c _ D cy ad _ h0 hN L st σ2 K r hjj hk)
    (by
      intro v σ2 r pc L ins hrv hpost hd hins
      subst hpost
      obtain ⟨htv, hI, hL, hV⟩ := hrh v σ2 r hrv
      intro H locs ls hl hP2 hS
      have hq : ∀ t : State, t.heap = H → s.WarmedH t.vm → sf_Qc lay D cy ad (sf_A lay ad s.heap.size) (tv r) (av.map (sf_v ad)).toArray s (.returned (v.map (sf_v ad))) t := by
        intro t ht hW
        rw [htv]
        exact ⟨⟨rfl, by rw [ht]; exact hP2⟩, hS.F ht⟩
      rcases hins with ⟨rfl, x, rfl⟩ | ⟨rfl, x, rfl⟩ | ⟨rfl, rfl⟩
      · obtain ⟨ty, h1, h2⟩ := hI x rfl
        exact W.zret hx hb (hr.trans h1) h2 hq hS.2.2 hd
      · exact W.lret hx hb (hr.trans (hL x rfl)) hq hS.2.2 hd
      · exact W.vret hx hb (hr.trans (hV rfl)) hq hS.2.2 hd)
  obtain ⟨hlen, hgo⟩ := hrun _ _ hsnd (fun pc L0 L st σ2 hm k => k.mono hm) av σ u hg rfl
  rw [lg_entry_eq]
  exact hgo s.heap [] _ (sf_ent_LV ad (hlen ad)) hP va_S.rf
end
section
/-! the shapes of the two worlds; which fields, constants and methods the code names: all out of the tables -/
def sf_layC : sf_Lay := [.inl (9, [some 1, some 11, some 13, some 15, some 19, some 23, some 27, some 32, some 36, some 46, some 49, some 51, some 55, none]), .inl (2, [some 2, some 3, some 4, some 5, none, some 6, some 7, some 8, some 9, some 10, none, none]), .inr (0, 40), .inr (0, 40), .inr (0, 40), .inr (0, 40), .inr (0, 40), .inr (0, 40), .inr (0, 40), .inr (0, 40), .inr (1, 40), .inl (3, [some 1, some 12, none]), .inr (2, 400), .inl (5, [some 1, some 14, none]), .inr (0, 13), .inl (7, [some 16, some 17, some 18]), .inr (0, 4), .inr (0, 4), .inr (0, 240), .inl (6, [some 20, none, none, none, none, none, none, some 21, some 22, none]), .inr (0, 40), .inr (0, 40), .inr (0, 40), .inl (0, [some 24, some 25, some 1, some 19, some 15, some 26, none]), .inr (0, 40), .inr (1, 40), .inr (0, 40), .inl (8, [some 28, some 29, some 1, some 19, some 15, some 30, none, some 31]), .inr (0, 40), .inr (1, 40), .inr (0, 40), .inr (0, 40), .inl (1, [some 1, some 19, some 15, some 33, none, some 34, some 35]), .inr (0, 40), .inr (0, 2400), .inr (0, 40), .inl (2, [some 37, some 38, some 39, some 40, none, some 41, some 42, some 43, some 44, some 45, none, none]), .inr (0, 40), .inr (0, 40), .inr (0, 40), .inr (0, 40), .inr (0, 40), .inr (0, 40), .inr (0, 40), .inr (0, 40), .inr (1, 40), .inl (4, [some 36, some 47, none, some 48, none, none, none]), .inr (0, 40), .inr (0, 41), .inl (5, [some 36, some 50, none]), .inr (0, 13), .inl (6, [some 52, none, none, none, none, none, none, some 53, some 54, none]), .inr (0, 40), .inr (0, 40), .inr (0, 40), .inl (0, [some 56, some 57, some 36, some 51, some 15, some 58, none]), .inr (0, 40), .inr (1, 40), .inr (0, 40)]
def sf_layM : sf_Lay := [.inl (10, [some 1, some 2, some 3, some 4, none, some 5, none, some 6, none, none, none, none, some 7, some 8, some 9, some 10, none, some 11, some 12, some 13, some 14, none, some 15, some 16, some 17, some 18, some 19, some 20, some 21, none, some 22, some 23, none, some 24, some 25, none, none, none, none, none, some 26, none, some 27, some 28, none, none, none, some 29, none, some 30, some 31, some 32, some 33, some 34, some 35, none, some 36, some 37, some 38]), .inr (0, 4), .inr (0, 4), .inr (0, 240), .inr (0, 60), .inr (0, 40), .inr (0, 160), .inr (0, 40), .inr (0, 40), .inr (0, 40), .inr (0, 40), .inr (0, 40), .inr (0, 40), .inr (0, 40), .inr (0, 40), .inr (0, 40), .inr (0, 40), .inr (0, 40), .inr (0, 40), .inr (0, 40), .inr (0, 40), .inr (0, 1200), .inr (0, 13), .inr (0, 13), .inr (0, 40), .inr (0, 40), .inr (0, 40), .inr (0, 40), .inr (0, 40), .inr (0, 41), .inr (0, 2400), .inr (0, 40), .inr (0, 40), .inr (0, 40), .inr (0, 6), .inr (0, 40), .inr (0, 40), .inr (0, 40), .inr (0, 160)]
/-- fuel of a loop: above any count that the code has -/
theorem sf_Fx : ∃ n : Nat, 200000000 ≤ n := ⟨_, Nat.le_refl _⟩
noncomputable def sf_F : Nat := Classical.choose sf_Fx
theorem sf_F_le : 200000000 ≤ sf_F := Classical.choose_spec sf_Fx
/-- the plan of a way or a rewriter, the run, the opened numbers and the place of the value of a way -/
def sf_pl (q : Nat) : Nat := if q = 55 then 36 else if q = 49 then 36 else 1
def sf_rn (q : Nat) : Nat := if q = 55 then 51 else 19
def sf_op (q : Nat) : Nat := if q = 32 then 33 else q + 3
def sf_vl (q : Nat) : Nat := if q = 32 then 4 else 6
def sf_fl0 : sf_FL := [(9, 0, 3, 0), (9, 1, 1, 0), (9, 8, 3, 0), (21, 0, 2, 0), (21, 1, 0, 0), (21, 8, 2, 0), (39, 0, 6, 1), (39, 1, 4, 1), (39, 8, 6, 1), (88, 0, 1, 0), (88, 8, 1, 0), (92, 0, 0, 0), (92, 8, 0, 0), (25, 2, 4, 1), (50, 6, 3, 1), (53, 2, 0, 0), (95, 2, 2, 0)]
theorem sf_fl0_0 (s : State) (args : Array Value) (hts : ∀ w ∈ sf_T, w.before args s = true) (hN : ∀ w ∈ sf_N, va_Nw w s) : sf_FF s args sf_T RX0 9 0 3 0 := ⟨RX0, TX0, 7, "StreamFuser$Asker", tyX0, rfl, by decide, sf_in0, Or.inl (hts _ wt_389), fun x h => u_same (hts _ wt_390) x h, tyX0_ok, nmX0, fun h => absurd h (by decide), fun h => absurd h (by decide)⟩
theorem sf_fl0_1 (s : State) (args : Array Value) (hts : ∀ w ∈ sf_T, w.before args s = true) (hN : ∀ w ∈ sf_N, va_Nw w s) : sf_FF s args sf_T RX0 9 1 1 0 := ⟨RX1, TX1, 7, "StreamFuser$Asker", tyX1, rfl, by decide, sf_in1, Or.inl (hts _ wt_389), fun x h => u_same (hts _ wt_390) x h, tyX1_ok, nmX1, fun h => absurd h (by decide), fun h => absurd h (by decide)⟩
theorem sf_fl0_2 (s : State) (args : Array Value) (hts : ∀ w ∈ sf_T, w.before args s = true) (hN : ∀ w ∈ sf_N, va_Nw w s) : sf_FF s args sf_T RX0 9 8 3 0 := ⟨RX8, TX8, 8, "StreamFuser$Asker", tyX8, rfl, by decide, sf_in8, Or.inl (hts _ wt_389), fun x h => u_same (hts _ wt_390) x h, tyX8_ok, nmX8, fun h => absurd h (by decide), fun h => absurd h (by decide)⟩
theorem sf_fl0_3 (s : State) (args : Array Value) (hts : ∀ w ∈ sf_T, w.before args s = true) (hN : ∀ w ∈ sf_N, va_Nw w s) : sf_FF s args sf_T RX0 21 0 2 0 := ⟨RX0, TX0, 7, "StreamFuser$Asker", tyX0, rfl, by decide, sf_in0, Or.inl (hts _ wt_380), fun x h => u_same (hts _ wt_381) x h, tyX0_ok, nmX0, fun h => absurd h (by decide), fun h => absurd h (by decide)⟩
theorem sf_fl0_4 (s : State) (args : Array Value) (hts : ∀ w ∈ sf_T, w.before args s = true) (hN : ∀ w ∈ sf_N, va_Nw w s) : sf_FF s args sf_T RX0 21 1 0 0 := ⟨RX1, TX1, 7, "StreamFuser$Asker", tyX1, rfl, by decide, sf_in1, Or.inl (hts _ wt_380), fun x h => u_same (hts _ wt_381) x h, tyX1_ok, nmX1, fun h => absurd h (by decide), fun h => absurd h (by decide)⟩
theorem sf_fl0_5 (s : State) (args : Array Value) (hts : ∀ w ∈ sf_T, w.before args s = true) (hN : ∀ w ∈ sf_N, va_Nw w s) : sf_FF s args sf_T RX0 21 8 2 0 := ⟨RX8, TX8, 8, "StreamFuser$Asker", tyX8, rfl, by decide, sf_in8, Or.inl (hts _ wt_380), fun x h => u_same (hts _ wt_381) x h, tyX8_ok, nmX8, fun h => absurd h (by decide), fun h => absurd h (by decide)⟩
theorem sf_fl0_6 (s : State) (args : Array Value) (hts : ∀ w ∈ sf_T, w.before args s = true) (hN : ∀ w ∈ sf_N, va_Nw w s) : sf_FF s args sf_T RX0 39 0 6 1 := ⟨RX0, TX0, 7, "StreamFuser$Asker", tyX0, rfl, by decide, sf_in0, Or.inl (hts _ wt_403), fun x h => u_same (hts _ wt_404) x h, tyX0_ok, nmX0, fun _ => ⟨rfl, rfl⟩, fun h => absurd h (by decide)⟩
theorem sf_fl0_7 (s : State) (args : Array Value) (hts : ∀ w ∈ sf_T, w.before args s = true) (hN : ∀ w ∈ sf_N, va_Nw w s) : sf_FF s args sf_T RX0 39 1 4 1 := ⟨RX1, TX1, 7, "StreamFuser$Asker", tyX1, rfl, by decide, sf_in1, Or.inl (hts _ wt_403), fun x h => u_same (hts _ wt_404) x h, tyX1_ok, nmX1, fun _ => ⟨rfl, rfl⟩, fun h => absurd h (by decide)⟩
theorem sf_fl0_8 (s : State) (args : Array Value) (hts : ∀ w ∈ sf_T, w.before args s = true) (hN : ∀ w ∈ sf_N, va_Nw w s) : sf_FF s args sf_T RX0 39 8 6 1 := ⟨RX8, TX8, 8, "StreamFuser$Asker", tyX8, rfl, by decide, sf_in8, Or.inl (hts _ wt_403), fun x h => u_same (hts _ wt_404) x h, tyX8_ok, nmX8, fun _ => ⟨rfl, rfl⟩, fun h => absurd h (by decide)⟩
theorem sf_fl0_9 (s : State) (args : Array Value) (hts : ∀ w ∈ sf_T, w.before args s = true) (hN : ∀ w ∈ sf_N, va_Nw w s) : sf_FF s args sf_T RX0 88 0 1 0 := ⟨RX0, TX0, 7, "StreamFuser$Asker", tyX0, rfl, by decide, sf_in0, Or.inl (hts _ wt_375), fun x h => u_same (hts _ wt_376) x h, tyX0_ok, nmX0, fun h => absurd h (by decide), fun h => absurd h (by decide)⟩
theorem sf_fl0_10 (s : State) (args : Array Value) (hts : ∀ w ∈ sf_T, w.before args s = true) (hN : ∀ w ∈ sf_N, va_Nw w s) : sf_FF s args sf_T RX0 88 8 1 0 := ⟨RX8, TX8, 8, "StreamFuser$Asker", tyX8, rfl, by decide, sf_in8, Or.inl (hts _ wt_375), fun x h => u_same (hts _ wt_376) x h, tyX8_ok, nmX8, fun h => absurd h (by decide), fun h => absurd h (by decide)⟩
theorem sf_fl0_11 (s : State) (args : Array Value) (hts : ∀ w ∈ sf_T, w.before args s = true) (hN : ∀ w ∈ sf_N, va_Nw w s) : sf_FF s args sf_T RX0 92 0 0 0 := ⟨RX0, TX0, 7, "StreamFuser$Asker", tyX0, rfl, by decide, sf_in0, Or.inl (hts _ wt_372), fun x h => u_same (hts _ wt_373) x h, tyX0_ok, nmX0, fun h => absurd h (by decide), fun h => absurd h (by decide)⟩
theorem sf_fl0_12 (s : State) (args : Array Value) (hts : ∀ w ∈ sf_T, w.before args s = true) (hN : ∀ w ∈ sf_N, va_Nw w s) : sf_FF s args sf_T RX0 92 8 0 0 := ⟨RX8, TX8, 8, "StreamFuser$Asker", tyX8, rfl, by decide, sf_in8, Or.inl (hts _ wt_372), fun x h => u_same (hts _ wt_373) x h, tyX8_ok, nmX8, fun h => absurd h (by decide), fun h => absurd h (by decide)⟩
theorem sf_fl0_13 (s : State) (args : Array Value) (hts : ∀ w ∈ sf_T, w.before args s = true) (hN : ∀ w ∈ sf_N, va_Nw w s) : sf_FF s args sf_T RX0 25 2 4 1 := ⟨RX2, TX2, 12, "StreamFuser$Plan", tyX2, rfl, by decide, sf_in2, Or.inr ⟨"StreamFuser", va_Nw.use rfl (hN _ wt_200)⟩, fun _ h => h, tyX2_ok, nmX2, fun _ => ⟨rfl, rfl⟩, fun h => absurd h (by decide)⟩
theorem sf_fl0_14 (s : State) (args : Array Value) (hts : ∀ w ∈ sf_T, w.before args s = true) (hN : ∀ w ∈ sf_N, va_Nw w s) : sf_FF s args sf_T RX0 50 6 3 1 := ⟨RX6, TX6, 10, "StreamFuser$Run", tyX6, rfl, by decide, sf_in6, Or.inr ⟨"StreamFuser", va_Nw.use rfl (hN _ wt_320)⟩, fun _ h => h, tyX6_ok, nmX6, fun _ => ⟨rfl, rfl⟩, fun h => absurd h (by decide)⟩
theorem sf_fl0_15 (s : State) (args : Array Value) (hts : ∀ w ∈ sf_T, w.before args s = true) (hN : ∀ w ∈ sf_N, va_Nw w s) : sf_FF s args sf_T RX0 53 2 0 0 := ⟨RX2, TX2, 12, "StreamFuser$Plan", tyX2, rfl, by decide, sf_in2, Or.inr ⟨"StreamFuser", va_Nw.use rfl (hN _ wt_176)⟩, fun _ h => h, tyX2_ok, nmX2, fun h => absurd h (by decide), fun h => absurd h (by decide)⟩
theorem sf_fl0_16 (s : State) (args : Array Value) (hts : ∀ w ∈ sf_T, w.before args s = true) (hN : ∀ w ∈ sf_N, va_Nw w s) : sf_FF s args sf_T RX0 95 2 2 0 := ⟨RX2, TX2, 12, "StreamFuser$Plan", tyX2, rfl, by decide, sf_in2, Or.inr ⟨"StreamFuser", va_Nw.use rfl (hN _ wt_190)⟩, fun _ h => h, tyX2_ok, nmX2, fun h => absurd h (by decide), fun h => absurd h (by decide)⟩
theorem sf_fl0_ok (s : State) (args : Array Value) (hts : ∀ w ∈ sf_T, w.before args s = true) (hN : ∀ w ∈ sf_N, va_Nw w s) : ∀ q ∈ sf_fl0, sf_FF s args sf_T RX0 q.1 q.2.1 q.2.2.1 q.2.2.2 := List.forall_mem_cons.mpr ⟨sf_fl0_0 s args hts hN, List.forall_mem_cons.mpr ⟨sf_fl0_1 s args hts hN, List.forall_mem_cons.mpr ⟨sf_fl0_2 s args hts hN, List.forall_mem_cons.mpr ⟨sf_fl0_3 s args hts hN, List.forall_mem_cons.mpr ⟨sf_fl0_4 s args hts hN, List.forall_mem_cons.mpr ⟨sf_fl0_5 s args hts hN, List.forall_mem_cons.mpr ⟨sf_fl0_6 s args hts hN, List.forall_mem_cons.mpr ⟨sf_fl0_7 s args hts hN, List.forall_mem_cons.mpr ⟨sf_fl0_8 s args hts hN, List.forall_mem_cons.mpr ⟨sf_fl0_9 s args hts hN, List.forall_mem_cons.mpr ⟨sf_fl0_10 s args hts hN, List.forall_mem_cons.mpr ⟨sf_fl0_11 s args hts hN, List.forall_mem_cons.mpr ⟨sf_fl0_12 s args hts hN, List.forall_mem_cons.mpr ⟨sf_fl0_13 s args hts hN, List.forall_mem_cons.mpr ⟨sf_fl0_14 s args hts hN, List.forall_mem_cons.mpr ⟨sf_fl0_15 s args hts hN, List.forall_mem_cons.mpr ⟨sf_fl0_16 s args hts hN, fun _ h => absurd h List.not_mem_nil⟩⟩⟩⟩⟩⟩⟩⟩⟩⟩⟩⟩⟩⟩⟩⟩⟩
def sf_cl0 : List (Nat × Value) := [(84, .int 1000000)]
theorem sf_cl0_ok (s : State) (args : Array Value) (hts : ∀ w ∈ sf_T, w.before args s = true) : ∀ q ∈ sf_cl0, sf_CC s args RX0 q.1 q.2 := List.forall_mem_cons.mpr ⟨hts _ wt_808, fun _ h => absurd h List.not_mem_nil⟩
def sf_fl1 : sf_FL := [(9, 1, 5, 0), (15, 1, 6, 0), (18, 0, 3, 0), (18, 1, 1, 0), (18, 8, 3, 0), (36, 0, 2, 0), (36, 1, 0, 0), (36, 8, 2, 0), (122, 0, 6, 1), (122, 1, 4, 1), (122, 8, 6, 1), (125, 0, 5, 0), (125, 1, 3, 0), (125, 8, 5, 0), (49, 6, 3, 1), (53, 6, 4, 1), (56, 2, 0, 0), (94, 2, 7, 0), (116, 2, 2, 0)]
theorem sf_fl1_0 (s : State) (args : Array Value) (hts : ∀ w ∈ sf_T, w.before args s = true) (hN : ∀ w ∈ sf_N, va_Nw w s) : sf_FF s args sf_T RX1 9 1 5 0 := ⟨RX1, TX1, 7, "StreamFuser$Maker", tyX1, rfl, by decide, sf_in1, Or.inl (hts _ wt_450), fun _ h => h, tyX1_ok, nmX1, fun h => absurd h (by decide), fun h => absurd h (by decide)⟩
theorem sf_fl1_1 (s : State) (args : Array Value) (hts : ∀ w ∈ sf_T, w.before args s = true) (hN : ∀ w ∈ sf_N, va_Nw w s) : sf_FF s args sf_T RX1 15 1 6 0 := ⟨RX1, TX1, 7, "StreamFuser$Maker", tyX1, rfl, by decide, sf_in1, Or.inl (hts _ wt_451), fun _ h => h, tyX1_ok, nmX1, fun h => absurd h (by decide), fun h => absurd h (by decide)⟩
theorem sf_fl1_2 (s : State) (args : Array Value) (hts : ∀ w ∈ sf_T, w.before args s = true) (hN : ∀ w ∈ sf_N, va_Nw w s) : sf_FF s args sf_T RX1 18 0 3 0 := ⟨RX0, TX0, 7, "StreamFuser$Maker", tyX0, rfl, by decide, sf_in0, Or.inl (hts _ wt_393), fun x h => u_same (hts _ wt_394) x h, tyX0_ok, nmX0, fun h => absurd h (by decide), fun h => absurd h (by decide)⟩
theorem sf_fl1_3 (s : State) (args : Array Value) (hts : ∀ w ∈ sf_T, w.before args s = true) (hN : ∀ w ∈ sf_N, va_Nw w s) : sf_FF s args sf_T RX1 18 1 1 0 := ⟨RX1, TX1, 7, "StreamFuser$Maker", tyX1, rfl, by decide, sf_in1, Or.inl (hts _ wt_393), fun x h => u_same (hts _ wt_394) x h, tyX1_ok, nmX1, fun h => absurd h (by decide), fun h => absurd h (by decide)⟩
theorem sf_fl1_4 (s : State) (args : Array Value) (hts : ∀ w ∈ sf_T, w.before args s = true) (hN : ∀ w ∈ sf_N, va_Nw w s) : sf_FF s args sf_T RX1 18 8 3 0 := ⟨RX8, TX8, 8, "StreamFuser$Maker", tyX8, rfl, by decide, sf_in8, Or.inl (hts _ wt_393), fun x h => u_same (hts _ wt_394) x h, tyX8_ok, nmX8, fun h => absurd h (by decide), fun h => absurd h (by decide)⟩
theorem sf_fl1_5 (s : State) (args : Array Value) (hts : ∀ w ∈ sf_T, w.before args s = true) (hN : ∀ w ∈ sf_N, va_Nw w s) : sf_FF s args sf_T RX1 36 0 2 0 := ⟨RX0, TX0, 7, "StreamFuser$Maker", tyX0, rfl, by decide, sf_in0, Or.inl (hts _ wt_386), fun x h => u_same (hts _ wt_387) x h, tyX0_ok, nmX0, fun h => absurd h (by decide), fun h => absurd h (by decide)⟩
theorem sf_fl1_6 (s : State) (args : Array Value) (hts : ∀ w ∈ sf_T, w.before args s = true) (hN : ∀ w ∈ sf_N, va_Nw w s) : sf_FF s args sf_T RX1 36 1 0 0 := ⟨RX1, TX1, 7, "StreamFuser$Maker", tyX1, rfl, by decide, sf_in1, Or.inl (hts _ wt_386), fun x h => u_same (hts _ wt_387) x h, tyX1_ok, nmX1, fun h => absurd h (by decide), fun h => absurd h (by decide)⟩
theorem sf_fl1_7 (s : State) (args : Array Value) (hts : ∀ w ∈ sf_T, w.before args s = true) (hN : ∀ w ∈ sf_N, va_Nw w s) : sf_FF s args sf_T RX1 36 8 2 0 := ⟨RX8, TX8, 8, "StreamFuser$Maker", tyX8, rfl, by decide, sf_in8, Or.inl (hts _ wt_386), fun x h => u_same (hts _ wt_387) x h, tyX8_ok, nmX8, fun h => absurd h (by decide), fun h => absurd h (by decide)⟩
theorem sf_fl1_8 (s : State) (args : Array Value) (hts : ∀ w ∈ sf_T, w.before args s = true) (hN : ∀ w ∈ sf_N, va_Nw w s) : sf_FF s args sf_T RX1 122 0 6 1 := ⟨RX0, TX0, 7, "StreamFuser$Maker", tyX0, rfl, by decide, sf_in0, Or.inl (hts _ wt_410), fun x h => u_same (hts _ wt_411) x h, tyX0_ok, nmX0, fun _ => ⟨rfl, rfl⟩, fun h => absurd h (by decide)⟩
theorem sf_fl1_9 (s : State) (args : Array Value) (hts : ∀ w ∈ sf_T, w.before args s = true) (hN : ∀ w ∈ sf_N, va_Nw w s) : sf_FF s args sf_T RX1 122 1 4 1 := ⟨RX1, TX1, 7, "StreamFuser$Maker", tyX1, rfl, by decide, sf_in1, Or.inl (hts _ wt_410), fun x h => u_same (hts _ wt_411) x h, tyX1_ok, nmX1, fun _ => ⟨rfl, rfl⟩, fun h => absurd h (by decide)⟩
theorem sf_fl1_10 (s : State) (args : Array Value) (hts : ∀ w ∈ sf_T, w.before args s = true) (hN : ∀ w ∈ sf_N, va_Nw w s) : sf_FF s args sf_T RX1 122 8 6 1 := ⟨RX8, TX8, 8, "StreamFuser$Maker", tyX8, rfl, by decide, sf_in8, Or.inl (hts _ wt_410), fun x h => u_same (hts _ wt_411) x h, tyX8_ok, nmX8, fun _ => ⟨rfl, rfl⟩, fun h => absurd h (by decide)⟩
theorem sf_fl1_11 (s : State) (args : Array Value) (hts : ∀ w ∈ sf_T, w.before args s = true) (hN : ∀ w ∈ sf_N, va_Nw w s) : sf_FF s args sf_T RX1 125 0 5 0 := ⟨RX0, TX0, 7, "StreamFuser$Maker", tyX0, rfl, by decide, sf_in0, Or.inl (hts _ wt_401), fun x h => u_same (hts _ wt_402) x h, tyX0_ok, nmX0, fun h => absurd h (by decide), fun h => absurd h (by decide)⟩
theorem sf_fl1_12 (s : State) (args : Array Value) (hts : ∀ w ∈ sf_T, w.before args s = true) (hN : ∀ w ∈ sf_N, va_Nw w s) : sf_FF s args sf_T RX1 125 1 3 0 := ⟨RX1, TX1, 7, "StreamFuser$Maker", tyX1, rfl, by decide, sf_in1, Or.inl (hts _ wt_401), fun x h => u_same (hts _ wt_402) x h, tyX1_ok, nmX1, fun h => absurd h (by decide), fun h => absurd h (by decide)⟩
theorem sf_fl1_13 (s : State) (args : Array Value) (hts : ∀ w ∈ sf_T, w.before args s = true) (hN : ∀ w ∈ sf_N, va_Nw w s) : sf_FF s args sf_T RX1 125 8 5 0 := ⟨RX8, TX8, 8, "StreamFuser$Maker", tyX8, rfl, by decide, sf_in8, Or.inl (hts _ wt_401), fun x h => u_same (hts _ wt_402) x h, tyX8_ok, nmX8, fun h => absurd h (by decide), fun h => absurd h (by decide)⟩
theorem sf_fl1_14 (s : State) (args : Array Value) (hts : ∀ w ∈ sf_T, w.before args s = true) (hN : ∀ w ∈ sf_N, va_Nw w s) : sf_FF s args sf_T RX1 49 6 3 1 := ⟨RX6, TX6, 10, "StreamFuser$Run", tyX6, rfl, by decide, sf_in6, Or.inr ⟨"StreamFuser", va_Nw.use rfl (hN _ wt_321)⟩, fun _ h => h, tyX6_ok, nmX6, fun _ => ⟨rfl, rfl⟩, fun h => absurd h (by decide)⟩
theorem sf_fl1_15 (s : State) (args : Array Value) (hts : ∀ w ∈ sf_T, w.before args s = true) (hN : ∀ w ∈ sf_N, va_Nw w s) : sf_FF s args sf_T RX1 53 6 4 1 := ⟨RX6, TX6, 10, "StreamFuser$Run", tyX6, rfl, by decide, sf_in6, Or.inr ⟨"StreamFuser", va_Nw.use rfl (hN _ wt_324)⟩, fun _ h => h, tyX6_ok, nmX6, fun _ => ⟨rfl, rfl⟩, fun h => absurd h (by decide)⟩
theorem sf_fl1_16 (s : State) (args : Array Value) (hts : ∀ w ∈ sf_T, w.before args s = true) (hN : ∀ w ∈ sf_N, va_Nw w s) : sf_FF s args sf_T RX1 56 2 0 0 := ⟨RX2, TX2, 12, "StreamFuser$Plan", tyX2, rfl, by decide, sf_in2, Or.inr ⟨"StreamFuser", va_Nw.use rfl (hN _ wt_177)⟩, fun _ h => h, tyX2_ok, nmX2, fun h => absurd h (by decide), fun h => absurd h (by decide)⟩
theorem sf_fl1_17 (s : State) (args : Array Value) (hts : ∀ w ∈ sf_T, w.before args s = true) (hN : ∀ w ∈ sf_N, va_Nw w s) : sf_FF s args sf_T RX1 94 2 7 0 := ⟨RX2, TX2, 12, "StreamFuser$Plan", tyX2, rfl, by decide, sf_in2, Or.inr ⟨"StreamFuser", va_Nw.use rfl (hN _ wt_212)⟩, fun _ h => h, tyX2_ok, nmX2, fun h => absurd h (by decide), fun h => absurd h (by decide)⟩
theorem sf_fl1_18 (s : State) (args : Array Value) (hts : ∀ w ∈ sf_T, w.before args s = true) (hN : ∀ w ∈ sf_N, va_Nw w s) : sf_FF s args sf_T RX1 116 2 2 0 := ⟨RX2, TX2, 12, "StreamFuser$Plan", tyX2, rfl, by decide, sf_in2, Or.inr ⟨"StreamFuser", va_Nw.use rfl (hN _ wt_192)⟩, fun _ h => h, tyX2_ok, nmX2, fun h => absurd h (by decide), fun h => absurd h (by decide)⟩
theorem sf_fl1_ok (s : State) (args : Array Value) (hts : ∀ w ∈ sf_T, w.before args s = true) (hN : ∀ w ∈ sf_N, va_Nw w s) : ∀ q ∈ sf_fl1, sf_FF s args sf_T RX1 q.1 q.2.1 q.2.2.1 q.2.2.2 := List.forall_mem_cons.mpr ⟨sf_fl1_0 s args hts hN, List.forall_mem_cons.mpr ⟨sf_fl1_1 s args hts hN, List.forall_mem_cons.mpr ⟨sf_fl1_2 s args hts hN, List.forall_mem_cons.mpr ⟨sf_fl1_3 s args hts hN, List.forall_mem_cons.mpr ⟨sf_fl1_4 s args hts hN, List.forall_mem_cons.mpr ⟨sf_fl1_5 s args hts hN, List.forall_mem_cons.mpr ⟨sf_fl1_6 s args hts hN, List.forall_mem_cons.mpr ⟨sf_fl1_7 s args hts hN, List.forall_mem_cons.mpr ⟨sf_fl1_8 s args hts hN, List.forall_mem_cons.mpr ⟨sf_fl1_9 s args hts hN, List.forall_mem_cons.mpr ⟨sf_fl1_10 s args hts hN, List.forall_mem_cons.mpr ⟨sf_fl1_11 s args hts hN, List.forall_mem_cons.mpr ⟨sf_fl1_12 s args hts hN, List.forall_mem_cons.mpr ⟨sf_fl1_13 s args hts hN, List.forall_mem_cons.mpr ⟨sf_fl1_14 s args hts hN, List.forall_mem_cons.mpr ⟨sf_fl1_15 s args hts hN, List.forall_mem_cons.mpr ⟨sf_fl1_16 s args hts hN, List.forall_mem_cons.mpr ⟨sf_fl1_17 s args hts hN, List.forall_mem_cons.mpr ⟨sf_fl1_18 s args hts hN, fun _ h => absurd h List.not_mem_nil⟩⟩⟩⟩⟩⟩⟩⟩⟩⟩⟩⟩⟩⟩⟩⟩⟩⟩⟩
def sf_cl1 : List (Nat × Value) := [(92, .long 60)]
theorem sf_cl1_ok (s : State) (args : Array Value) (hts : ∀ w ∈ sf_T, w.before args s = true) : ∀ q ∈ sf_cl1, sf_CC s args RX1 q.1 q.2 := List.forall_mem_cons.mpr ⟨hts _ wt_1004, fun _ h => absurd h List.not_mem_nil⟩
def sf_fl2 : sf_FL := [(9, 2, 0, 0), (15, 2, 1, 0), (18, 2, 2, 0), (21, 2, 3, 0), (24, 2, 5, 0), (27, 2, 6, 0), (30, 2, 7, 0), (33, 2, 8, 0), (36, 2, 9, 0), (40, 2, 10, 1), (44, 2, 4, 1), (76, 2, 11, 2)]
theorem sf_fl2_0 (s : State) (args : Array Value) (hts : ∀ w ∈ sf_T, w.before args s = true) (hN : ∀ w ∈ sf_N, va_Nw w s) : sf_FF s args sf_T RX2 9 2 0 0 := ⟨RX2, TX2, 12, "StreamFuser$Plan", tyX2, rfl, by decide, sf_in2, Or.inl (hts _ wt_173), fun _ h => h, tyX2_ok, nmX2, fun h => absurd h (by decide), fun h => absurd h (by decide)⟩
theorem sf_fl2_1 (s : State) (args : Array Value) (hts : ∀ w ∈ sf_T, w.before args s = true) (hN : ∀ w ∈ sf_N, va_Nw w s) : sf_FF s args sf_T RX2 15 2 1 0 := ⟨RX2, TX2, 12, "StreamFuser$Plan", tyX2, rfl, by decide, sf_in2, Or.inl (hts _ wt_181), fun _ h => h, tyX2_ok, nmX2, fun h => absurd h (by decide), fun h => absurd h (by decide)⟩
theorem sf_fl2_2 (s : State) (args : Array Value) (hts : ∀ w ∈ sf_T, w.before args s = true) (hN : ∀ w ∈ sf_N, va_Nw w s) : sf_FF s args sf_T RX2 18 2 2 0 := ⟨RX2, TX2, 12, "StreamFuser$Plan", tyX2, rfl, by decide, sf_in2, Or.inl (hts _ wt_185), fun _ h => h, tyX2_ok, nmX2, fun h => absurd h (by decide), fun h => absurd h (by decide)⟩
theorem sf_fl2_3 (s : State) (args : Array Value) (hts : ∀ w ∈ sf_T, w.before args s = true) (hN : ∀ w ∈ sf_N, va_Nw w s) : sf_FF s args sf_T RX2 21 2 3 0 := ⟨RX2, TX2, 12, "StreamFuser$Plan", tyX2, rfl, by decide, sf_in2, Or.inl (hts _ wt_193), fun _ h => h, tyX2_ok, nmX2, fun h => absurd h (by decide), fun h => absurd h (by decide)⟩
theorem sf_fl2_4 (s : State) (args : Array Value) (hts : ∀ w ∈ sf_T, w.before args s = true) (hN : ∀ w ∈ sf_N, va_Nw w s) : sf_FF s args sf_T RX2 24 2 5 0 := ⟨RX2, TX2, 12, "StreamFuser$Plan", tyX2, rfl, by decide, sf_in2, Or.inl (hts _ wt_207), fun _ h => h, tyX2_ok, nmX2, fun h => absurd h (by decide), fun h => absurd h (by decide)⟩
theorem sf_fl2_5 (s : State) (args : Array Value) (hts : ∀ w ∈ sf_T, w.before args s = true) (hN : ∀ w ∈ sf_N, va_Nw w s) : sf_FF s args sf_T RX2 27 2 6 0 := ⟨RX2, TX2, 12, "StreamFuser$Plan", tyX2, rfl, by decide, sf_in2, Or.inl (hts _ wt_208), fun _ h => h, tyX2_ok, nmX2, fun h => absurd h (by decide), fun h => absurd h (by decide)⟩
theorem sf_fl2_6 (s : State) (args : Array Value) (hts : ∀ w ∈ sf_T, w.before args s = true) (hN : ∀ w ∈ sf_N, va_Nw w s) : sf_FF s args sf_T RX2 30 2 7 0 := ⟨RX2, TX2, 12, "StreamFuser$Plan", tyX2, rfl, by decide, sf_in2, Or.inl (hts _ wt_210), fun _ h => h, tyX2_ok, nmX2, fun h => absurd h (by decide), fun h => absurd h (by decide)⟩
theorem sf_fl2_7 (s : State) (args : Array Value) (hts : ∀ w ∈ sf_T, w.before args s = true) (hN : ∀ w ∈ sf_N, va_Nw w s) : sf_FF s args sf_T RX2 33 2 8 0 := ⟨RX2, TX2, 12, "StreamFuser$Plan", tyX2, rfl, by decide, sf_in2, Or.inl (hts _ wt_213), fun _ h => h, tyX2_ok, nmX2, fun h => absurd h (by decide), fun h => absurd h (by decide)⟩
theorem sf_fl2_8 (s : State) (args : Array Value) (hts : ∀ w ∈ sf_T, w.before args s = true) (hN : ∀ w ∈ sf_N, va_Nw w s) : sf_FF s args sf_T RX2 36 2 9 0 := ⟨RX2, TX2, 12, "StreamFuser$Plan", tyX2, rfl, by decide, sf_in2, Or.inl (hts _ wt_215), fun _ h => h, tyX2_ok, nmX2, fun h => absurd h (by decide), fun h => absurd h (by decide)⟩
theorem sf_fl2_9 (s : State) (args : Array Value) (hts : ∀ w ∈ sf_T, w.before args s = true) (hN : ∀ w ∈ sf_N, va_Nw w s) : sf_FF s args sf_T RX2 40 2 10 1 := ⟨RX2, TX2, 12, "StreamFuser$Plan", tyX2, rfl, by decide, sf_in2, Or.inl (hts _ wt_218), fun _ h => h, tyX2_ok, nmX2, fun _ => ⟨rfl, rfl⟩, fun h => absurd h (by decide)⟩
theorem sf_fl2_10 (s : State) (args : Array Value) (hts : ∀ w ∈ sf_T, w.before args s = true) (hN : ∀ w ∈ sf_N, va_Nw w s) : sf_FF s args sf_T RX2 44 2 4 1 := ⟨RX2, TX2, 12, "StreamFuser$Plan", tyX2, rfl, by decide, sf_in2, Or.inl (hts _ wt_205), fun _ h => h, tyX2_ok, nmX2, fun _ => ⟨rfl, rfl⟩, fun h => absurd h (by decide)⟩
theorem sf_fl2_11 (s : State) (args : Array Value) (hts : ∀ w ∈ sf_T, w.before args s = true) (hN : ∀ w ∈ sf_N, va_Nw w s) : sf_FF s args sf_T RX2 76 2 11 2 := ⟨RX2, TX2, 12, "StreamFuser$Plan", tyX2, rfl, by decide, sf_in2, Or.inl (hts _ wt_221), fun _ h => h, tyX2_ok, nmX2, fun h => absurd h (by decide), fun _ => ⟨rfl, rfl⟩⟩
theorem sf_fl2_ok (s : State) (args : Array Value) (hts : ∀ w ∈ sf_T, w.before args s = true) (hN : ∀ w ∈ sf_N, va_Nw w s) : ∀ q ∈ sf_fl2, sf_FF s args sf_T RX2 q.1 q.2.1 q.2.2.1 q.2.2.2 := List.forall_mem_cons.mpr ⟨sf_fl2_0 s args hts hN, List.forall_mem_cons.mpr ⟨sf_fl2_1 s args hts hN, List.forall_mem_cons.mpr ⟨sf_fl2_2 s args hts hN, List.forall_mem_cons.mpr ⟨sf_fl2_3 s args hts hN, List.forall_mem_cons.mpr ⟨sf_fl2_4 s args hts hN, List.forall_mem_cons.mpr ⟨sf_fl2_5 s args hts hN, List.forall_mem_cons.mpr ⟨sf_fl2_6 s args hts hN, List.forall_mem_cons.mpr ⟨sf_fl2_7 s args hts hN, List.forall_mem_cons.mpr ⟨sf_fl2_8 s args hts hN, List.forall_mem_cons.mpr ⟨sf_fl2_9 s args hts hN, List.forall_mem_cons.mpr ⟨sf_fl2_10 s args hts hN, List.forall_mem_cons.mpr ⟨sf_fl2_11 s args hts hN, fun _ h => absurd h List.not_mem_nil⟩⟩⟩⟩⟩⟩⟩⟩⟩⟩⟩⟩
def sf_cl2 : List (Nat × Value) := []
theorem sf_cl2_ok (s : State) (args : Array Value) (hts : ∀ w ∈ sf_T, w.before args s = true) : ∀ q ∈ sf_cl2, sf_CC s args RX2 q.1 q.2 := fun _ h => absurd h List.not_mem_nil
def sf_fl3 : sf_FL := [(9, 3, 1, 0), (13, 3, 0, 0), (17, 3, 2, 1), (21, 2, 4, 1), (30, 2, 0, 0), (47, 2, 1, 0), (53, 2, 2, 0), (59, 2, 3, 0)]
theorem sf_fl3_0 (s : State) (args : Array Value) (hts : ∀ w ∈ sf_T, w.before args s = true) (hN : ∀ w ∈ sf_N, va_Nw w s) : sf_FF s args sf_T RX3 9 3 1 0 := ⟨RX3, TX3, 3, "StreamFuser$Printer", tyX3, rfl, by decide, sf_in3, Or.inl (hts _ wt_256), fun _ h => h, tyX3_ok, nmX3, fun h => absurd h (by decide), fun h => absurd h (by decide)⟩
theorem sf_fl3_1 (s : State) (args : Array Value) (hts : ∀ w ∈ sf_T, w.before args s = true) (hN : ∀ w ∈ sf_N, va_Nw w s) : sf_FF s args sf_T RX3 13 3 0 0 := ⟨RX3, TX3, 3, "StreamFuser$Printer", tyX3, rfl, by decide, sf_in3, Or.inl (hts _ wt_255), fun _ h => h, tyX3_ok, nmX3, fun h => absurd h (by decide), fun h => absurd h (by decide)⟩
theorem sf_fl3_2 (s : State) (args : Array Value) (hts : ∀ w ∈ sf_T, w.before args s = true) (hN : ∀ w ∈ sf_N, va_Nw w s) : sf_FF s args sf_T RX3 17 3 2 1 := ⟨RX3, TX3, 3, "StreamFuser$Printer", tyX3, rfl, by decide, sf_in3, Or.inl (hts _ wt_258), fun _ h => h, tyX3_ok, nmX3, fun _ => ⟨rfl, rfl⟩, fun h => absurd h (by decide)⟩
theorem sf_fl3_3 (s : State) (args : Array Value) (hts : ∀ w ∈ sf_T, w.before args s = true) (hN : ∀ w ∈ sf_N, va_Nw w s) : sf_FF s args sf_T RX3 21 2 4 1 := ⟨RX2, TX2, 12, "StreamFuser$Plan", tyX2, rfl, by decide, sf_in2, Or.inr ⟨"StreamFuser", va_Nw.use rfl (hN _ wt_199)⟩, fun _ h => h, tyX2_ok, nmX2, fun _ => ⟨rfl, rfl⟩, fun h => absurd h (by decide)⟩
theorem sf_fl3_4 (s : State) (args : Array Value) (hts : ∀ w ∈ sf_T, w.before args s = true) (hN : ∀ w ∈ sf_N, va_Nw w s) : sf_FF s args sf_T RX3 30 2 0 0 := ⟨RX2, TX2, 12, "StreamFuser$Plan", tyX2, rfl, by decide, sf_in2, Or.inr ⟨"StreamFuser", va_Nw.use rfl (hN _ wt_174)⟩, fun _ h => h, tyX2_ok, nmX2, fun h => absurd h (by decide), fun h => absurd h (by decide)⟩
theorem sf_fl3_5 (s : State) (args : Array Value) (hts : ∀ w ∈ sf_T, w.before args s = true) (hN : ∀ w ∈ sf_N, va_Nw w s) : sf_FF s args sf_T RX3 47 2 1 0 := ⟨RX2, TX2, 12, "StreamFuser$Plan", tyX2, rfl, by decide, sf_in2, Or.inr ⟨"StreamFuser", va_Nw.use rfl (hN _ wt_183)⟩, fun _ h => h, tyX2_ok, nmX2, fun h => absurd h (by decide), fun h => absurd h (by decide)⟩
theorem sf_fl3_6 (s : State) (args : Array Value) (hts : ∀ w ∈ sf_T, w.before args s = true) (hN : ∀ w ∈ sf_N, va_Nw w s) : sf_FF s args sf_T RX3 53 2 2 0 := ⟨RX2, TX2, 12, "StreamFuser$Plan", tyX2, rfl, by decide, sf_in2, Or.inr ⟨"StreamFuser", va_Nw.use rfl (hN _ wt_186)⟩, fun _ h => h, tyX2_ok, nmX2, fun h => absurd h (by decide), fun h => absurd h (by decide)⟩
theorem sf_fl3_7 (s : State) (args : Array Value) (hts : ∀ w ∈ sf_T, w.before args s = true) (hN : ∀ w ∈ sf_N, va_Nw w s) : sf_FF s args sf_T RX3 59 2 3 0 := ⟨RX2, TX2, 12, "StreamFuser$Plan", tyX2, rfl, by decide, sf_in2, Or.inr ⟨"StreamFuser", va_Nw.use rfl (hN _ wt_194)⟩, fun _ h => h, tyX2_ok, nmX2, fun h => absurd h (by decide), fun h => absurd h (by decide)⟩
theorem sf_fl3_ok (s : State) (args : Array Value) (hts : ∀ w ∈ sf_T, w.before args s = true) (hN : ∀ w ∈ sf_N, va_Nw w s) : ∀ q ∈ sf_fl3, sf_FF s args sf_T RX3 q.1 q.2.1 q.2.2.1 q.2.2.2 := List.forall_mem_cons.mpr ⟨sf_fl3_0 s args hts hN, List.forall_mem_cons.mpr ⟨sf_fl3_1 s args hts hN, List.forall_mem_cons.mpr ⟨sf_fl3_2 s args hts hN, List.forall_mem_cons.mpr ⟨sf_fl3_3 s args hts hN, List.forall_mem_cons.mpr ⟨sf_fl3_4 s args hts hN, List.forall_mem_cons.mpr ⟨sf_fl3_5 s args hts hN, List.forall_mem_cons.mpr ⟨sf_fl3_6 s args hts hN, List.forall_mem_cons.mpr ⟨sf_fl3_7 s args hts hN, fun _ h => absurd h List.not_mem_nil⟩⟩⟩⟩⟩⟩⟩⟩
def sf_cl3 : List (Nat × Value) := [(68, .long 10)]
theorem sf_cl3_ok (s : State) (args : Array Value) (hts : ∀ w ∈ sf_T, w.before args s = true) : ∀ q ∈ sf_cl3, sf_CC s args RX3 q.1 q.2 := List.forall_mem_cons.mpr ⟨hts _ wt_654, fun _ h => absurd h List.not_mem_nil⟩
def sf_fl4 : sf_FL := [(9, 4, 1, 0), (15, 4, 3, 0), (18, 4, 0, 0), (22, 4, 2, 1), (31, 4, 5, 1), (34, 4, 6, 1), (37, 4, 4, 1), (26, 2, 4, 1)]
theorem sf_fl4_0 (s : State) (args : Array Value) (hts : ∀ w ∈ sf_T, w.before args s = true) (hN : ∀ w ∈ sf_N, va_Nw w s) : sf_FF s args sf_T RX4 9 4 1 0 := ⟨RX4, TX4, 7, "StreamFuser$Reader", tyX4, rfl, by decide, sf_in4, Or.inl (hts _ wt_469), fun _ h => h, tyX4_ok, nmX4, fun h => absurd h (by decide), fun h => absurd h (by decide)⟩
theorem sf_fl4_1 (s : State) (args : Array Value) (hts : ∀ w ∈ sf_T, w.before args s = true) (hN : ∀ w ∈ sf_N, va_Nw w s) : sf_FF s args sf_T RX4 15 4 3 0 := ⟨RX4, TX4, 7, "StreamFuser$Reader", tyX4, rfl, by decide, sf_in4, Or.inl (hts _ wt_472), fun _ h => h, tyX4_ok, nmX4, fun h => absurd h (by decide), fun h => absurd h (by decide)⟩
theorem sf_fl4_2 (s : State) (args : Array Value) (hts : ∀ w ∈ sf_T, w.before args s = true) (hN : ∀ w ∈ sf_N, va_Nw w s) : sf_FF s args sf_T RX4 18 4 0 0 := ⟨RX4, TX4, 7, "StreamFuser$Reader", tyX4, rfl, by decide, sf_in4, Or.inl (hts _ wt_468), fun _ h => h, tyX4_ok, nmX4, fun h => absurd h (by decide), fun h => absurd h (by decide)⟩
theorem sf_fl4_3 (s : State) (args : Array Value) (hts : ∀ w ∈ sf_T, w.before args s = true) (hN : ∀ w ∈ sf_N, va_Nw w s) : sf_FF s args sf_T RX4 22 4 2 1 := ⟨RX4, TX4, 7, "StreamFuser$Reader", tyX4, rfl, by decide, sf_in4, Or.inl (hts _ wt_470), fun _ h => h, tyX4_ok, nmX4, fun _ => ⟨rfl, rfl⟩, fun h => absurd h (by decide)⟩
theorem sf_fl4_4 (s : State) (args : Array Value) (hts : ∀ w ∈ sf_T, w.before args s = true) (hN : ∀ w ∈ sf_N, va_Nw w s) : sf_FF s args sf_T RX4 31 4 5 1 := ⟨RX4, TX4, 7, "StreamFuser$Reader", tyX4, rfl, by decide, sf_in4, Or.inl (hts _ wt_474), fun _ h => h, tyX4_ok, nmX4, fun _ => ⟨rfl, rfl⟩, fun h => absurd h (by decide)⟩
theorem sf_fl4_5 (s : State) (args : Array Value) (hts : ∀ w ∈ sf_T, w.before args s = true) (hN : ∀ w ∈ sf_N, va_Nw w s) : sf_FF s args sf_T RX4 34 4 6 1 := ⟨RX4, TX4, 7, "StreamFuser$Reader", tyX4, rfl, by decide, sf_in4, Or.inl (hts _ wt_475), fun _ h => h, tyX4_ok, nmX4, fun _ => ⟨rfl, rfl⟩, fun h => absurd h (by decide)⟩
theorem sf_fl4_6 (s : State) (args : Array Value) (hts : ∀ w ∈ sf_T, w.before args s = true) (hN : ∀ w ∈ sf_N, va_Nw w s) : sf_FF s args sf_T RX4 37 4 4 1 := ⟨RX4, TX4, 7, "StreamFuser$Reader", tyX4, rfl, by decide, sf_in4, Or.inl (hts _ wt_473), fun _ h => h, tyX4_ok, nmX4, fun _ => ⟨rfl, rfl⟩, fun h => absurd h (by decide)⟩
theorem sf_fl4_7 (s : State) (args : Array Value) (hts : ∀ w ∈ sf_T, w.before args s = true) (hN : ∀ w ∈ sf_N, va_Nw w s) : sf_FF s args sf_T RX4 26 2 4 1 := ⟨RX2, TX2, 12, "StreamFuser$Plan", tyX2, rfl, by decide, sf_in2, Or.inr ⟨"StreamFuser", va_Nw.use rfl (hN _ wt_204)⟩, fun _ h => h, tyX2_ok, nmX2, fun _ => ⟨rfl, rfl⟩, fun h => absurd h (by decide)⟩
theorem sf_fl4_ok (s : State) (args : Array Value) (hts : ∀ w ∈ sf_T, w.before args s = true) (hN : ∀ w ∈ sf_N, va_Nw w s) : ∀ q ∈ sf_fl4, sf_FF s args sf_T RX4 q.1 q.2.1 q.2.2.1 q.2.2.2 := List.forall_mem_cons.mpr ⟨sf_fl4_0 s args hts hN, List.forall_mem_cons.mpr ⟨sf_fl4_1 s args hts hN, List.forall_mem_cons.mpr ⟨sf_fl4_2 s args hts hN, List.forall_mem_cons.mpr ⟨sf_fl4_3 s args hts hN, List.forall_mem_cons.mpr ⟨sf_fl4_4 s args hts hN, List.forall_mem_cons.mpr ⟨sf_fl4_5 s args hts hN, List.forall_mem_cons.mpr ⟨sf_fl4_6 s args hts hN, List.forall_mem_cons.mpr ⟨sf_fl4_7 s args hts hN, fun _ h => absurd h List.not_mem_nil⟩⟩⟩⟩⟩⟩⟩⟩
def sf_cl4 : List (Nat × Value) := []
theorem sf_cl4_ok (s : State) (args : Array Value) (hts : ∀ w ∈ sf_T, w.before args s = true) : ∀ q ∈ sf_cl4, sf_CC s args RX4 q.1 q.2 := fun _ h => absurd h List.not_mem_nil
def sf_fl5 : sf_FL := [(9, 5, 1, 0), (15, 5, 0, 0), (19, 5, 2, 1), (41, 2, 4, 1), (48, 2, 0, 0), (51, 2, 3, 0), (54, 2, 2, 0), (75, 2, 9, 0)]
theorem sf_fl5_0 (s : State) (args : Array Value) (hts : ∀ w ∈ sf_T, w.before args s = true) (hN : ∀ w ∈ sf_N, va_Nw w s) : sf_FF s args sf_T RX5 9 5 1 0 := ⟨RX5, TX5, 3, "StreamFuser$Rewriter", tyX5, rfl, by decide, sf_in5, Or.inl (hts _ wt_275), fun _ h => h, tyX5_ok, nmX5, fun h => absurd h (by decide), fun h => absurd h (by decide)⟩
theorem sf_fl5_1 (s : State) (args : Array Value) (hts : ∀ w ∈ sf_T, w.before args s = true) (hN : ∀ w ∈ sf_N, va_Nw w s) : sf_FF s args sf_T RX5 15 5 0 0 := ⟨RX5, TX5, 3, "StreamFuser$Rewriter", tyX5, rfl, by decide, sf_in5, Or.inl (hts _ wt_274), fun _ h => h, tyX5_ok, nmX5, fun h => absurd h (by decide), fun h => absurd h (by decide)⟩
theorem sf_fl5_2 (s : State) (args : Array Value) (hts : ∀ w ∈ sf_T, w.before args s = true) (hN : ∀ w ∈ sf_N, va_Nw w s) : sf_FF s args sf_T RX5 19 5 2 1 := ⟨RX5, TX5, 3, "StreamFuser$Rewriter", tyX5, rfl, by decide, sf_in5, Or.inl (hts _ wt_277), fun _ h => h, tyX5_ok, nmX5, fun _ => ⟨rfl, rfl⟩, fun h => absurd h (by decide)⟩
theorem sf_fl5_3 (s : State) (args : Array Value) (hts : ∀ w ∈ sf_T, w.before args s = true) (hN : ∀ w ∈ sf_N, va_Nw w s) : sf_FF s args sf_T RX5 41 2 4 1 := ⟨RX2, TX2, 12, "StreamFuser$Plan", tyX2, rfl, by decide, sf_in2, Or.inr ⟨"StreamFuser", va_Nw.use rfl (hN _ wt_203)⟩, fun _ h => h, tyX2_ok, nmX2, fun _ => ⟨rfl, rfl⟩, fun h => absurd h (by decide)⟩
theorem sf_fl5_4 (s : State) (args : Array Value) (hts : ∀ w ∈ sf_T, w.before args s = true) (hN : ∀ w ∈ sf_N, va_Nw w s) : sf_FF s args sf_T RX5 48 2 0 0 := ⟨RX2, TX2, 12, "StreamFuser$Plan", tyX2, rfl, by decide, sf_in2, Or.inr ⟨"StreamFuser", va_Nw.use rfl (hN _ wt_178)⟩, fun _ h => h, tyX2_ok, nmX2, fun h => absurd h (by decide), fun h => absurd h (by decide)⟩
theorem sf_fl5_5 (s : State) (args : Array Value) (hts : ∀ w ∈ sf_T, w.before args s = true) (hN : ∀ w ∈ sf_N, va_Nw w s) : sf_FF s args sf_T RX5 51 2 3 0 := ⟨RX2, TX2, 12, "StreamFuser$Plan", tyX2, rfl, by decide, sf_in2, Or.inr ⟨"StreamFuser", va_Nw.use rfl (hN _ wt_196)⟩, fun _ h => h, tyX2_ok, nmX2, fun h => absurd h (by decide), fun h => absurd h (by decide)⟩
theorem sf_fl5_6 (s : State) (args : Array Value) (hts : ∀ w ∈ sf_T, w.before args s = true) (hN : ∀ w ∈ sf_N, va_Nw w s) : sf_FF s args sf_T RX5 54 2 2 0 := ⟨RX2, TX2, 12, "StreamFuser$Plan", tyX2, rfl, by decide, sf_in2, Or.inr ⟨"StreamFuser", va_Nw.use rfl (hN _ wt_189)⟩, fun _ h => h, tyX2_ok, nmX2, fun h => absurd h (by decide), fun h => absurd h (by decide)⟩
theorem sf_fl5_7 (s : State) (args : Array Value) (hts : ∀ w ∈ sf_T, w.before args s = true) (hN : ∀ w ∈ sf_N, va_Nw w s) : sf_FF s args sf_T RX5 75 2 9 0 := ⟨RX2, TX2, 12, "StreamFuser$Plan", tyX2, rfl, by decide, sf_in2, Or.inr ⟨"StreamFuser", va_Nw.use rfl (hN _ wt_216)⟩, fun _ h => h, tyX2_ok, nmX2, fun h => absurd h (by decide), fun h => absurd h (by decide)⟩
theorem sf_fl5_ok (s : State) (args : Array Value) (hts : ∀ w ∈ sf_T, w.before args s = true) (hN : ∀ w ∈ sf_N, va_Nw w s) : ∀ q ∈ sf_fl5, sf_FF s args sf_T RX5 q.1 q.2.1 q.2.2.1 q.2.2.2 := List.forall_mem_cons.mpr ⟨sf_fl5_0 s args hts hN, List.forall_mem_cons.mpr ⟨sf_fl5_1 s args hts hN, List.forall_mem_cons.mpr ⟨sf_fl5_2 s args hts hN, List.forall_mem_cons.mpr ⟨sf_fl5_3 s args hts hN, List.forall_mem_cons.mpr ⟨sf_fl5_4 s args hts hN, List.forall_mem_cons.mpr ⟨sf_fl5_5 s args hts hN, List.forall_mem_cons.mpr ⟨sf_fl5_6 s args hts hN, List.forall_mem_cons.mpr ⟨sf_fl5_7 s args hts hN, fun _ h => absurd h List.not_mem_nil⟩⟩⟩⟩⟩⟩⟩⟩
def sf_cl5 : List (Nat × Value) := [(23, .int 1000000)]
theorem sf_cl5_ok (s : State) (args : Array Value) (hts : ∀ w ∈ sf_T, w.before args s = true) : ∀ q ∈ sf_cl5, sf_CC s args RX5 q.1 q.2 := List.forall_mem_cons.mpr ⟨hts _ wt_676, fun _ h => absurd h List.not_mem_nil⟩
def sf_fl6 : sf_FL := [(9, 6, 0, 0), (15, 6, 7, 0), (18, 6, 8, 0), (21, 6, 1, 1), (25, 6, 2, 1), (28, 6, 3, 1), (31, 6, 4, 1), (34, 6, 5, 1), (37, 6, 6, 1), (40, 6, 9, 1)]
theorem sf_fl6_0 (s : State) (args : Array Value) (hts : ∀ w ∈ sf_T, w.before args s = true) (hN : ∀ w ∈ sf_N, va_Nw w s) : sf_FF s args sf_T RX6 9 6 0 0 := ⟨RX6, TX6, 10, "StreamFuser$Run", tyX6, rfl, by decide, sf_in6, Or.inl (hts _ wt_311), fun _ h => h, tyX6_ok, nmX6, fun h => absurd h (by decide), fun h => absurd h (by decide)⟩
theorem sf_fl6_1 (s : State) (args : Array Value) (hts : ∀ w ∈ sf_T, w.before args s = true) (hN : ∀ w ∈ sf_N, va_Nw w s) : sf_FF s args sf_T RX6 15 6 7 0 := ⟨RX6, TX6, 10, "StreamFuser$Run", tyX6, rfl, by decide, sf_in6, Or.inl (hts _ wt_330), fun _ h => h, tyX6_ok, nmX6, fun h => absurd h (by decide), fun h => absurd h (by decide)⟩
theorem sf_fl6_2 (s : State) (args : Array Value) (hts : ∀ w ∈ sf_T, w.before args s = true) (hN : ∀ w ∈ sf_N, va_Nw w s) : sf_FF s args sf_T RX6 18 6 8 0 := ⟨RX6, TX6, 10, "StreamFuser$Run", tyX6, rfl, by decide, sf_in6, Or.inl (hts _ wt_332), fun _ h => h, tyX6_ok, nmX6, fun h => absurd h (by decide), fun h => absurd h (by decide)⟩
theorem sf_fl6_3 (s : State) (args : Array Value) (hts : ∀ w ∈ sf_T, w.before args s = true) (hN : ∀ w ∈ sf_N, va_Nw w s) : sf_FF s args sf_T RX6 21 6 1 1 := ⟨RX6, TX6, 10, "StreamFuser$Run", tyX6, rfl, by decide, sf_in6, Or.inl (hts _ wt_313), fun _ h => h, tyX6_ok, nmX6, fun _ => ⟨rfl, rfl⟩, fun h => absurd h (by decide)⟩
theorem sf_fl6_4 (s : State) (args : Array Value) (hts : ∀ w ∈ sf_T, w.before args s = true) (hN : ∀ w ∈ sf_N, va_Nw w s) : sf_FF s args sf_T RX6 25 6 2 1 := ⟨RX6, TX6, 10, "StreamFuser$Run", tyX6, rfl, by decide, sf_in6, Or.inl (hts _ wt_316), fun _ h => h, tyX6_ok, nmX6, fun _ => ⟨rfl, rfl⟩, fun h => absurd h (by decide)⟩
theorem sf_fl6_5 (s : State) (args : Array Value) (hts : ∀ w ∈ sf_T, w.before args s = true) (hN : ∀ w ∈ sf_N, va_Nw w s) : sf_FF s args sf_T RX6 28 6 3 1 := ⟨RX6, TX6, 10, "StreamFuser$Run", tyX6, rfl, by decide, sf_in6, Or.inl (hts _ wt_318), fun _ h => h, tyX6_ok, nmX6, fun _ => ⟨rfl, rfl⟩, fun h => absurd h (by decide)⟩
theorem sf_fl6_6 (s : State) (args : Array Value) (hts : ∀ w ∈ sf_T, w.before args s = true) (hN : ∀ w ∈ sf_N, va_Nw w s) : sf_FF s args sf_T RX6 31 6 4 1 := ⟨RX6, TX6, 10, "StreamFuser$Run", tyX6, rfl, by decide, sf_in6, Or.inl (hts _ wt_323), fun _ h => h, tyX6_ok, nmX6, fun _ => ⟨rfl, rfl⟩, fun h => absurd h (by decide)⟩
theorem sf_fl6_7 (s : State) (args : Array Value) (hts : ∀ w ∈ sf_T, w.before args s = true) (hN : ∀ w ∈ sf_N, va_Nw w s) : sf_FF s args sf_T RX6 34 6 5 1 := ⟨RX6, TX6, 10, "StreamFuser$Run", tyX6, rfl, by decide, sf_in6, Or.inl (hts _ wt_326), fun _ h => h, tyX6_ok, nmX6, fun _ => ⟨rfl, rfl⟩, fun h => absurd h (by decide)⟩
theorem sf_fl6_8 (s : State) (args : Array Value) (hts : ∀ w ∈ sf_T, w.before args s = true) (hN : ∀ w ∈ sf_N, va_Nw w s) : sf_FF s args sf_T RX6 37 6 6 1 := ⟨RX6, TX6, 10, "StreamFuser$Run", tyX6, rfl, by decide, sf_in6, Or.inl (hts _ wt_328), fun _ h => h, tyX6_ok, nmX6, fun _ => ⟨rfl, rfl⟩, fun h => absurd h (by decide)⟩
theorem sf_fl6_9 (s : State) (args : Array Value) (hts : ∀ w ∈ sf_T, w.before args s = true) (hN : ∀ w ∈ sf_N, va_Nw w s) : sf_FF s args sf_T RX6 40 6 9 1 := ⟨RX6, TX6, 10, "StreamFuser$Run", tyX6, rfl, by decide, sf_in6, Or.inl (hts _ wt_334), fun _ h => h, tyX6_ok, nmX6, fun _ => ⟨rfl, rfl⟩, fun h => absurd h (by decide)⟩
theorem sf_fl6_ok (s : State) (args : Array Value) (hts : ∀ w ∈ sf_T, w.before args s = true) (hN : ∀ w ∈ sf_N, va_Nw w s) : ∀ q ∈ sf_fl6, sf_FF s args sf_T RX6 q.1 q.2.1 q.2.2.1 q.2.2.2 := List.forall_mem_cons.mpr ⟨sf_fl6_0 s args hts hN, List.forall_mem_cons.mpr ⟨sf_fl6_1 s args hts hN, List.forall_mem_cons.mpr ⟨sf_fl6_2 s args hts hN, List.forall_mem_cons.mpr ⟨sf_fl6_3 s args hts hN, List.forall_mem_cons.mpr ⟨sf_fl6_4 s args hts hN, List.forall_mem_cons.mpr ⟨sf_fl6_5 s args hts hN, List.forall_mem_cons.mpr ⟨sf_fl6_6 s args hts hN, List.forall_mem_cons.mpr ⟨sf_fl6_7 s args hts hN, List.forall_mem_cons.mpr ⟨sf_fl6_8 s args hts hN, List.forall_mem_cons.mpr ⟨sf_fl6_9 s args hts hN, fun _ h => absurd h List.not_mem_nil⟩⟩⟩⟩⟩⟩⟩⟩⟩⟩
def sf_cl6 : List (Nat × Value) := [(55, .int (-2147483648)), (59, .int 2147483647)]
theorem sf_cl6_ok (s : State) (args : Array Value) (hts : ∀ w ∈ sf_T, w.before args s = true) : ∀ q ∈ sf_cl6, sf_CC s args RX6 q.1 q.2 := List.forall_mem_cons.mpr ⟨hts _ wt_1068, List.forall_mem_cons.mpr ⟨hts _ wt_1074, fun _ h => absurd h List.not_mem_nil⟩⟩
def sf_fl7 : sf_FL := [(9, 7, 0, 0), (15, 7, 1, 0), (18, 7, 2, 0)]
theorem sf_fl7_0 (s : State) (args : Array Value) (hts : ∀ w ∈ sf_T, w.before args s = true) (hN : ∀ w ∈ sf_N, va_Nw w s) : sf_FF s args sf_T RX7 9 7 0 0 := ⟨RX7, TX7, 3, "StreamFuser$Sheets", tyX7, rfl, by decide, sf_in7, Or.inl (hts _ wt_292), fun _ h => h, tyX7_ok, nmX7, fun h => absurd h (by decide), fun h => absurd h (by decide)⟩
theorem sf_fl7_1 (s : State) (args : Array Value) (hts : ∀ w ∈ sf_T, w.before args s = true) (hN : ∀ w ∈ sf_N, va_Nw w s) : sf_FF s args sf_T RX7 15 7 1 0 := ⟨RX7, TX7, 3, "StreamFuser$Sheets", tyX7, rfl, by decide, sf_in7, Or.inl (hts _ wt_294), fun _ h => h, tyX7_ok, nmX7, fun h => absurd h (by decide), fun h => absurd h (by decide)⟩
theorem sf_fl7_2 (s : State) (args : Array Value) (hts : ∀ w ∈ sf_T, w.before args s = true) (hN : ∀ w ∈ sf_N, va_Nw w s) : sf_FF s args sf_T RX7 18 7 2 0 := ⟨RX7, TX7, 3, "StreamFuser$Sheets", tyX7, rfl, by decide, sf_in7, Or.inl (hts _ wt_297), fun _ h => h, tyX7_ok, nmX7, fun h => absurd h (by decide), fun h => absurd h (by decide)⟩
theorem sf_fl7_ok (s : State) (args : Array Value) (hts : ∀ w ∈ sf_T, w.before args s = true) (hN : ∀ w ∈ sf_N, va_Nw w s) : ∀ q ∈ sf_fl7, sf_FF s args sf_T RX7 q.1 q.2.1 q.2.2.1 q.2.2.2 := List.forall_mem_cons.mpr ⟨sf_fl7_0 s args hts hN, List.forall_mem_cons.mpr ⟨sf_fl7_1 s args hts hN, List.forall_mem_cons.mpr ⟨sf_fl7_2 s args hts hN, fun _ h => absurd h List.not_mem_nil⟩⟩⟩
def sf_cl7 : List (Nat × Value) := []
theorem sf_cl7_ok (s : State) (args : Array Value) (hts : ∀ w ∈ sf_T, w.before args s = true) : ∀ q ∈ sf_cl7, sf_CC s args RX7 q.1 q.2 := fun _ h => absurd h List.not_mem_nil
def sf_fl8 : sf_FL := [(9, 8, 7, 0), (15, 0, 3, 0), (15, 1, 1, 0), (15, 8, 3, 0), (25, 0, 2, 0), (25, 1, 0, 0), (25, 8, 2, 0), (48, 0, 6, 1), (48, 1, 4, 1), (48, 8, 6, 1), (81, 0, 0, 0), (81, 8, 0, 0), (98, 0, 1, 0), (98, 8, 1, 0), (29, 2, 4, 1), (40, 6, 1, 1), (41, 6, 3, 1), (59, 2, 0, 0), (84, 2, 2, 0)]
theorem sf_fl8_0 (s : State) (args : Array Value) (hts : ∀ w ∈ sf_T, w.before args s = true) (hN : ∀ w ∈ sf_N, va_Nw w s) : sf_FF s args sf_T RX8 9 8 7 0 := ⟨RX8, TX8, 8, "StreamFuser$Stepper", tyX8, rfl, by decide, sf_in8, Or.inl (hts _ wt_433), fun _ h => h, tyX8_ok, nmX8, fun h => absurd h (by decide), fun h => absurd h (by decide)⟩
theorem sf_fl8_1 (s : State) (args : Array Value) (hts : ∀ w ∈ sf_T, w.before args s = true) (hN : ∀ w ∈ sf_N, va_Nw w s) : sf_FF s args sf_T RX8 15 0 3 0 := ⟨RX0, TX0, 7, "StreamFuser$Stepper", tyX0, rfl, by decide, sf_in0, Or.inl (hts _ wt_391), fun x h => u_same (hts _ wt_392) x h, tyX0_ok, nmX0, fun h => absurd h (by decide), fun h => absurd h (by decide)⟩
theorem sf_fl8_2 (s : State) (args : Array Value) (hts : ∀ w ∈ sf_T, w.before args s = true) (hN : ∀ w ∈ sf_N, va_Nw w s) : sf_FF s args sf_T RX8 15 1 1 0 := ⟨RX1, TX1, 7, "StreamFuser$Stepper", tyX1, rfl, by decide, sf_in1, Or.inl (hts _ wt_391), fun x h => u_same (hts _ wt_392) x h, tyX1_ok, nmX1, fun h => absurd h (by decide), fun h => absurd h (by decide)⟩
theorem sf_fl8_3 (s : State) (args : Array Value) (hts : ∀ w ∈ sf_T, w.before args s = true) (hN : ∀ w ∈ sf_N, va_Nw w s) : sf_FF s args sf_T RX8 15 8 3 0 := ⟨RX8, TX8, 8, "StreamFuser$Stepper", tyX8, rfl, by decide, sf_in8, Or.inl (hts _ wt_391), fun x h => u_same (hts _ wt_392) x h, tyX8_ok, nmX8, fun h => absurd h (by decide), fun h => absurd h (by decide)⟩
theorem sf_fl8_4 (s : State) (args : Array Value) (hts : ∀ w ∈ sf_T, w.before args s = true) (hN : ∀ w ∈ sf_N, va_Nw w s) : sf_FF s args sf_T RX8 25 0 2 0 := ⟨RX0, TX0, 7, "StreamFuser$Stepper", tyX0, rfl, by decide, sf_in0, Or.inl (hts _ wt_382), fun x h => u_same (hts _ wt_383) x h, tyX0_ok, nmX0, fun h => absurd h (by decide), fun h => absurd h (by decide)⟩
theorem sf_fl8_5 (s : State) (args : Array Value) (hts : ∀ w ∈ sf_T, w.before args s = true) (hN : ∀ w ∈ sf_N, va_Nw w s) : sf_FF s args sf_T RX8 25 1 0 0 := ⟨RX1, TX1, 7, "StreamFuser$Stepper", tyX1, rfl, by decide, sf_in1, Or.inl (hts _ wt_382), fun x h => u_same (hts _ wt_383) x h, tyX1_ok, nmX1, fun h => absurd h (by decide), fun h => absurd h (by decide)⟩
theorem sf_fl8_6 (s : State) (args : Array Value) (hts : ∀ w ∈ sf_T, w.before args s = true) (hN : ∀ w ∈ sf_N, va_Nw w s) : sf_FF s args sf_T RX8 25 8 2 0 := ⟨RX8, TX8, 8, "StreamFuser$Stepper", tyX8, rfl, by decide, sf_in8, Or.inl (hts _ wt_382), fun x h => u_same (hts _ wt_383) x h, tyX8_ok, nmX8, fun h => absurd h (by decide), fun h => absurd h (by decide)⟩
theorem sf_fl8_7 (s : State) (args : Array Value) (hts : ∀ w ∈ sf_T, w.before args s = true) (hN : ∀ w ∈ sf_N, va_Nw w s) : sf_FF s args sf_T RX8 48 0 6 1 := ⟨RX0, TX0, 7, "StreamFuser$Stepper", tyX0, rfl, by decide, sf_in0, Or.inl (hts _ wt_405), fun x h => u_same (hts _ wt_406) x h, tyX0_ok, nmX0, fun _ => ⟨rfl, rfl⟩, fun h => absurd h (by decide)⟩
theorem sf_fl8_8 (s : State) (args : Array Value) (hts : ∀ w ∈ sf_T, w.before args s = true) (hN : ∀ w ∈ sf_N, va_Nw w s) : sf_FF s args sf_T RX8 48 1 4 1 := ⟨RX1, TX1, 7, "StreamFuser$Stepper", tyX1, rfl, by decide, sf_in1, Or.inl (hts _ wt_405), fun x h => u_same (hts _ wt_406) x h, tyX1_ok, nmX1, fun _ => ⟨rfl, rfl⟩, fun h => absurd h (by decide)⟩
theorem sf_fl8_9 (s : State) (args : Array Value) (hts : ∀ w ∈ sf_T, w.before args s = true) (hN : ∀ w ∈ sf_N, va_Nw w s) : sf_FF s args sf_T RX8 48 8 6 1 := ⟨RX8, TX8, 8, "StreamFuser$Stepper", tyX8, rfl, by decide, sf_in8, Or.inl (hts _ wt_405), fun x h => u_same (hts _ wt_406) x h, tyX8_ok, nmX8, fun _ => ⟨rfl, rfl⟩, fun h => absurd h (by decide)⟩
theorem sf_fl8_10 (s : State) (args : Array Value) (hts : ∀ w ∈ sf_T, w.before args s = true) (hN : ∀ w ∈ sf_N, va_Nw w s) : sf_FF s args sf_T RX8 81 0 0 0 := ⟨RX0, TX0, 7, "StreamFuser$Stepper", tyX0, rfl, by decide, sf_in0, Or.inl (hts _ wt_370), fun x h => u_same (hts _ wt_371) x h, tyX0_ok, nmX0, fun h => absurd h (by decide), fun h => absurd h (by decide)⟩
theorem sf_fl8_11 (s : State) (args : Array Value) (hts : ∀ w ∈ sf_T, w.before args s = true) (hN : ∀ w ∈ sf_N, va_Nw w s) : sf_FF s args sf_T RX8 81 8 0 0 := ⟨RX8, TX8, 8, "StreamFuser$Stepper", tyX8, rfl, by decide, sf_in8, Or.inl (hts _ wt_370), fun x h => u_same (hts _ wt_371) x h, tyX8_ok, nmX8, fun h => absurd h (by decide), fun h => absurd h (by decide)⟩
theorem sf_fl8_12 (s : State) (args : Array Value) (hts : ∀ w ∈ sf_T, w.before args s = true) (hN : ∀ w ∈ sf_N, va_Nw w s) : sf_FF s args sf_T RX8 98 0 1 0 := ⟨RX0, TX0, 7, "StreamFuser$Stepper", tyX0, rfl, by decide, sf_in0, Or.inl (hts _ wt_377), fun x h => u_same (hts _ wt_378) x h, tyX0_ok, nmX0, fun h => absurd h (by decide), fun h => absurd h (by decide)⟩
theorem sf_fl8_13 (s : State) (args : Array Value) (hts : ∀ w ∈ sf_T, w.before args s = true) (hN : ∀ w ∈ sf_N, va_Nw w s) : sf_FF s args sf_T RX8 98 8 1 0 := ⟨RX8, TX8, 8, "StreamFuser$Stepper", tyX8, rfl, by decide, sf_in8, Or.inl (hts _ wt_377), fun x h => u_same (hts _ wt_378) x h, tyX8_ok, nmX8, fun h => absurd h (by decide), fun h => absurd h (by decide)⟩
theorem sf_fl8_14 (s : State) (args : Array Value) (hts : ∀ w ∈ sf_T, w.before args s = true) (hN : ∀ w ∈ sf_N, va_Nw w s) : sf_FF s args sf_T RX8 29 2 4 1 := ⟨RX2, TX2, 12, "StreamFuser$Plan", tyX2, rfl, by decide, sf_in2, Or.inr ⟨"StreamFuser", va_Nw.use rfl (hN _ wt_201)⟩, fun _ h => h, tyX2_ok, nmX2, fun _ => ⟨rfl, rfl⟩, fun h => absurd h (by decide)⟩
theorem sf_fl8_15 (s : State) (args : Array Value) (hts : ∀ w ∈ sf_T, w.before args s = true) (hN : ∀ w ∈ sf_N, va_Nw w s) : sf_FF s args sf_T RX8 40 6 1 1 := ⟨RX6, TX6, 10, "StreamFuser$Run", tyX6, rfl, by decide, sf_in6, Or.inr ⟨"StreamFuser", va_Nw.use rfl (hN _ wt_314)⟩, fun _ h => h, tyX6_ok, nmX6, fun _ => ⟨rfl, rfl⟩, fun h => absurd h (by decide)⟩
theorem sf_fl8_16 (s : State) (args : Array Value) (hts : ∀ w ∈ sf_T, w.before args s = true) (hN : ∀ w ∈ sf_N, va_Nw w s) : sf_FF s args sf_T RX8 41 6 3 1 := ⟨RX6, TX6, 10, "StreamFuser$Run", tyX6, rfl, by decide, sf_in6, Or.inr ⟨"StreamFuser", va_Nw.use rfl (hN _ wt_319)⟩, fun _ h => h, tyX6_ok, nmX6, fun _ => ⟨rfl, rfl⟩, fun h => absurd h (by decide)⟩
theorem sf_fl8_17 (s : State) (args : Array Value) (hts : ∀ w ∈ sf_T, w.before args s = true) (hN : ∀ w ∈ sf_N, va_Nw w s) : sf_FF s args sf_T RX8 59 2 0 0 := ⟨RX2, TX2, 12, "StreamFuser$Plan", tyX2, rfl, by decide, sf_in2, Or.inr ⟨"StreamFuser", va_Nw.use rfl (hN _ wt_175)⟩, fun _ h => h, tyX2_ok, nmX2, fun h => absurd h (by decide), fun h => absurd h (by decide)⟩
theorem sf_fl8_18 (s : State) (args : Array Value) (hts : ∀ w ∈ sf_T, w.before args s = true) (hN : ∀ w ∈ sf_N, va_Nw w s) : sf_FF s args sf_T RX8 84 2 2 0 := ⟨RX2, TX2, 12, "StreamFuser$Plan", tyX2, rfl, by decide, sf_in2, Or.inr ⟨"StreamFuser", va_Nw.use rfl (hN _ wt_187)⟩, fun _ h => h, tyX2_ok, nmX2, fun h => absurd h (by decide), fun h => absurd h (by decide)⟩
theorem sf_fl8_ok (s : State) (args : Array Value) (hts : ∀ w ∈ sf_T, w.before args s = true) (hN : ∀ w ∈ sf_N, va_Nw w s) : ∀ q ∈ sf_fl8, sf_FF s args sf_T RX8 q.1 q.2.1 q.2.2.1 q.2.2.2 := List.forall_mem_cons.mpr ⟨sf_fl8_0 s args hts hN, List.forall_mem_cons.mpr ⟨sf_fl8_1 s args hts hN, List.forall_mem_cons.mpr ⟨sf_fl8_2 s args hts hN, List.forall_mem_cons.mpr ⟨sf_fl8_3 s args hts hN, List.forall_mem_cons.mpr ⟨sf_fl8_4 s args hts hN, List.forall_mem_cons.mpr ⟨sf_fl8_5 s args hts hN, List.forall_mem_cons.mpr ⟨sf_fl8_6 s args hts hN, List.forall_mem_cons.mpr ⟨sf_fl8_7 s args hts hN, List.forall_mem_cons.mpr ⟨sf_fl8_8 s args hts hN, List.forall_mem_cons.mpr ⟨sf_fl8_9 s args hts hN, List.forall_mem_cons.mpr ⟨sf_fl8_10 s args hts hN, List.forall_mem_cons.mpr ⟨sf_fl8_11 s args hts hN, List.forall_mem_cons.mpr ⟨sf_fl8_12 s args hts hN, List.forall_mem_cons.mpr ⟨sf_fl8_13 s args hts hN, List.forall_mem_cons.mpr ⟨sf_fl8_14 s args hts hN, List.forall_mem_cons.mpr ⟨sf_fl8_15 s args hts hN, List.forall_mem_cons.mpr ⟨sf_fl8_16 s args hts hN, List.forall_mem_cons.mpr ⟨sf_fl8_17 s args hts hN, List.forall_mem_cons.mpr ⟨sf_fl8_18 s args hts hN, fun _ h => absurd h List.not_mem_nil⟩⟩⟩⟩⟩⟩⟩⟩⟩⟩⟩⟩⟩⟩⟩⟩⟩⟩⟩
def sf_cl8 : List (Nat × Value) := [(39, .int 1000000)]
theorem sf_cl8_ok (s : State) (args : Array Value) (hts : ∀ w ∈ sf_T, w.before args s = true) : ∀ q ∈ sf_cl8, sf_CC s args RX8 q.1 q.2 := List.forall_mem_cons.mpr ⟨hts _ wt_934, fun _ h => absurd h List.not_mem_nil⟩
def sf_fl9 : sf_FL := [(9, 0, 0, 0), (9, 8, 0, 0), (15, 0, 1, 0), (15, 8, 1, 0), (25, 0, 2, 0), (25, 1, 0, 0), (25, 8, 2, 0), (39, 0, 5, 0), (39, 1, 3, 0), (39, 8, 5, 0), (57, 0, 3, 0), (57, 1, 1, 0), (57, 8, 3, 0), (69, 0, 6, 1), (69, 1, 4, 1), (69, 8, 6, 1), (29, 2, 4, 1)]
theorem sf_fl9_0 (s : State) (args : Array Value) (hts : ∀ w ∈ sf_T, w.before args s = true) (hN : ∀ w ∈ sf_N, va_Nw w s) : sf_FF s args sf_T RX9 9 0 0 0 := ⟨RX0, TX0, 7, "StreamFuser$Walk", tyX0, rfl, by decide, sf_in0, Or.inl (hts _ wt_369), fun _ h => h, tyX0_ok, nmX0, fun h => absurd h (by decide), fun h => absurd h (by decide)⟩
theorem sf_fl9_1 (s : State) (args : Array Value) (hts : ∀ w ∈ sf_T, w.before args s = true) (hN : ∀ w ∈ sf_N, va_Nw w s) : sf_FF s args sf_T RX9 9 8 0 0 := ⟨RX8, TX8, 8, "StreamFuser$Walk", tyX8, rfl, by decide, sf_in8, Or.inl (hts _ wt_369), fun _ h => h, tyX8_ok, nmX8, fun h => absurd h (by decide), fun h => absurd h (by decide)⟩
theorem sf_fl9_2 (s : State) (args : Array Value) (hts : ∀ w ∈ sf_T, w.before args s = true) (hN : ∀ w ∈ sf_N, va_Nw w s) : sf_FF s args sf_T RX9 15 0 1 0 := ⟨RX0, TX0, 7, "StreamFuser$Walk", tyX0, rfl, by decide, sf_in0, Or.inl (hts _ wt_374), fun _ h => h, tyX0_ok, nmX0, fun h => absurd h (by decide), fun h => absurd h (by decide)⟩
theorem sf_fl9_3 (s : State) (args : Array Value) (hts : ∀ w ∈ sf_T, w.before args s = true) (hN : ∀ w ∈ sf_N, va_Nw w s) : sf_FF s args sf_T RX9 15 8 1 0 := ⟨RX8, TX8, 8, "StreamFuser$Walk", tyX8, rfl, by decide, sf_in8, Or.inl (hts _ wt_374), fun _ h => h, tyX8_ok, nmX8, fun h => absurd h (by decide), fun h => absurd h (by decide)⟩
theorem sf_fl9_4 (s : State) (args : Array Value) (hts : ∀ w ∈ sf_T, w.before args s = true) (hN : ∀ w ∈ sf_N, va_Nw w s) : sf_FF s args sf_T RX9 25 0 2 0 := ⟨RX0, TX0, 7, "StreamFuser$Walk", tyX0, rfl, by decide, sf_in0, Or.inl (hts _ wt_384), fun x h => u_same (hts _ wt_385) x h, tyX0_ok, nmX0, fun h => absurd h (by decide), fun h => absurd h (by decide)⟩
theorem sf_fl9_5 (s : State) (args : Array Value) (hts : ∀ w ∈ sf_T, w.before args s = true) (hN : ∀ w ∈ sf_N, va_Nw w s) : sf_FF s args sf_T RX9 25 1 0 0 := ⟨RX1, TX1, 7, "StreamFuser$Walk", tyX1, rfl, by decide, sf_in1, Or.inl (hts _ wt_384), fun x h => u_same (hts _ wt_385) x h, tyX1_ok, nmX1, fun h => absurd h (by decide), fun h => absurd h (by decide)⟩
theorem sf_fl9_6 (s : State) (args : Array Value) (hts : ∀ w ∈ sf_T, w.before args s = true) (hN : ∀ w ∈ sf_N, va_Nw w s) : sf_FF s args sf_T RX9 25 8 2 0 := ⟨RX8, TX8, 8, "StreamFuser$Walk", tyX8, rfl, by decide, sf_in8, Or.inl (hts _ wt_384), fun x h => u_same (hts _ wt_385) x h, tyX8_ok, nmX8, fun h => absurd h (by decide), fun h => absurd h (by decide)⟩
theorem sf_fl9_7 (s : State) (args : Array Value) (hts : ∀ w ∈ sf_T, w.before args s = true) (hN : ∀ w ∈ sf_N, va_Nw w s) : sf_FF s args sf_T RX9 39 0 5 0 := ⟨RX0, TX0, 7, "StreamFuser$Walk", tyX0, rfl, by decide, sf_in0, Or.inl (hts _ wt_399), fun x h => u_same (hts _ wt_400) x h, tyX0_ok, nmX0, fun h => absurd h (by decide), fun h => absurd h (by decide)⟩
theorem sf_fl9_8 (s : State) (args : Array Value) (hts : ∀ w ∈ sf_T, w.before args s = true) (hN : ∀ w ∈ sf_N, va_Nw w s) : sf_FF s args sf_T RX9 39 1 3 0 := ⟨RX1, TX1, 7, "StreamFuser$Walk", tyX1, rfl, by decide, sf_in1, Or.inl (hts _ wt_399), fun x h => u_same (hts _ wt_400) x h, tyX1_ok, nmX1, fun h => absurd h (by decide), fun h => absurd h (by decide)⟩
theorem sf_fl9_9 (s : State) (args : Array Value) (hts : ∀ w ∈ sf_T, w.before args s = true) (hN : ∀ w ∈ sf_N, va_Nw w s) : sf_FF s args sf_T RX9 39 8 5 0 := ⟨RX8, TX8, 8, "StreamFuser$Walk", tyX8, rfl, by decide, sf_in8, Or.inl (hts _ wt_399), fun x h => u_same (hts _ wt_400) x h, tyX8_ok, nmX8, fun h => absurd h (by decide), fun h => absurd h (by decide)⟩
theorem sf_fl9_10 (s : State) (args : Array Value) (hts : ∀ w ∈ sf_T, w.before args s = true) (hN : ∀ w ∈ sf_N, va_Nw w s) : sf_FF s args sf_T RX9 57 0 3 0 := ⟨RX0, TX0, 7, "StreamFuser$Walk", tyX0, rfl, by decide, sf_in0, Or.inl (hts _ wt_395), fun x h => u_same (hts _ wt_396) x h, tyX0_ok, nmX0, fun h => absurd h (by decide), fun h => absurd h (by decide)⟩
theorem sf_fl9_11 (s : State) (args : Array Value) (hts : ∀ w ∈ sf_T, w.before args s = true) (hN : ∀ w ∈ sf_N, va_Nw w s) : sf_FF s args sf_T RX9 57 1 1 0 := ⟨RX1, TX1, 7, "StreamFuser$Walk", tyX1, rfl, by decide, sf_in1, Or.inl (hts _ wt_395), fun x h => u_same (hts _ wt_396) x h, tyX1_ok, nmX1, fun h => absurd h (by decide), fun h => absurd h (by decide)⟩
theorem sf_fl9_12 (s : State) (args : Array Value) (hts : ∀ w ∈ sf_T, w.before args s = true) (hN : ∀ w ∈ sf_N, va_Nw w s) : sf_FF s args sf_T RX9 57 8 3 0 := ⟨RX8, TX8, 8, "StreamFuser$Walk", tyX8, rfl, by decide, sf_in8, Or.inl (hts _ wt_395), fun x h => u_same (hts _ wt_396) x h, tyX8_ok, nmX8, fun h => absurd h (by decide), fun h => absurd h (by decide)⟩
theorem sf_fl9_13 (s : State) (args : Array Value) (hts : ∀ w ∈ sf_T, w.before args s = true) (hN : ∀ w ∈ sf_N, va_Nw w s) : sf_FF s args sf_T RX9 69 0 6 1 := ⟨RX0, TX0, 7, "StreamFuser$Walk", tyX0, rfl, by decide, sf_in0, Or.inl (hts _ wt_407), fun x h => u_same (hts _ wt_408) x h, tyX0_ok, nmX0, fun _ => ⟨rfl, rfl⟩, fun h => absurd h (by decide)⟩
theorem sf_fl9_14 (s : State) (args : Array Value) (hts : ∀ w ∈ sf_T, w.before args s = true) (hN : ∀ w ∈ sf_N, va_Nw w s) : sf_FF s args sf_T RX9 69 1 4 1 := ⟨RX1, TX1, 7, "StreamFuser$Walk", tyX1, rfl, by decide, sf_in1, Or.inl (hts _ wt_407), fun x h => u_same (hts _ wt_408) x h, tyX1_ok, nmX1, fun _ => ⟨rfl, rfl⟩, fun h => absurd h (by decide)⟩
theorem sf_fl9_15 (s : State) (args : Array Value) (hts : ∀ w ∈ sf_T, w.before args s = true) (hN : ∀ w ∈ sf_N, va_Nw w s) : sf_FF s args sf_T RX9 69 8 6 1 := ⟨RX8, TX8, 8, "StreamFuser$Walk", tyX8, rfl, by decide, sf_in8, Or.inl (hts _ wt_407), fun x h => u_same (hts _ wt_408) x h, tyX8_ok, nmX8, fun _ => ⟨rfl, rfl⟩, fun h => absurd h (by decide)⟩
theorem sf_fl9_16 (s : State) (args : Array Value) (hts : ∀ w ∈ sf_T, w.before args s = true) (hN : ∀ w ∈ sf_N, va_Nw w s) : sf_FF s args sf_T RX9 29 2 4 1 := ⟨RX2, TX2, 12, "StreamFuser$Plan", tyX2, rfl, by decide, sf_in2, Or.inr ⟨"StreamFuser", va_Nw.use rfl (hN _ wt_202)⟩, fun _ h => h, tyX2_ok, nmX2, fun _ => ⟨rfl, rfl⟩, fun h => absurd h (by decide)⟩
theorem sf_fl9_ok (s : State) (args : Array Value) (hts : ∀ w ∈ sf_T, w.before args s = true) (hN : ∀ w ∈ sf_N, va_Nw w s) : ∀ q ∈ sf_fl9, sf_FF s args sf_T RX9 q.1 q.2.1 q.2.2.1 q.2.2.2 := List.forall_mem_cons.mpr ⟨sf_fl9_0 s args hts hN, List.forall_mem_cons.mpr ⟨sf_fl9_1 s args hts hN, List.forall_mem_cons.mpr ⟨sf_fl9_2 s args hts hN, List.forall_mem_cons.mpr ⟨sf_fl9_3 s args hts hN, List.forall_mem_cons.mpr ⟨sf_fl9_4 s args hts hN, List.forall_mem_cons.mpr ⟨sf_fl9_5 s args hts hN, List.forall_mem_cons.mpr ⟨sf_fl9_6 s args hts hN, List.forall_mem_cons.mpr ⟨sf_fl9_7 s args hts hN, List.forall_mem_cons.mpr ⟨sf_fl9_8 s args hts hN, List.forall_mem_cons.mpr ⟨sf_fl9_9 s args hts hN, List.forall_mem_cons.mpr ⟨sf_fl9_10 s args hts hN, List.forall_mem_cons.mpr ⟨sf_fl9_11 s args hts hN, List.forall_mem_cons.mpr ⟨sf_fl9_12 s args hts hN, List.forall_mem_cons.mpr ⟨sf_fl9_13 s args hts hN, List.forall_mem_cons.mpr ⟨sf_fl9_14 s args hts hN, List.forall_mem_cons.mpr ⟨sf_fl9_15 s args hts hN, List.forall_mem_cons.mpr ⟨sf_fl9_16 s args hts hN, fun _ h => absurd h List.not_mem_nil⟩⟩⟩⟩⟩⟩⟩⟩⟩⟩⟩⟩⟩⟩⟩⟩⟩
def sf_cl9 : List (Nat × Value) := []
theorem sf_cl9_ok (s : State) (args : Array Value) (hts : ∀ w ∈ sf_T, w.before args s = true) : ∀ q ∈ sf_cl9, sf_CC s args RX9 q.1 q.2 := fun _ h => absurd h List.not_mem_nil
def sf_fl10 : sf_FL := [(9, 0, 5, 0), (9, 1, 3, 0), (9, 8, 5, 0), (15, 0, 2, 0), (15, 1, 0, 0), (15, 8, 2, 0), (19, 0, 3, 0), (19, 1, 1, 0), (19, 8, 3, 0), (23, 0, 4, 0), (23, 1, 2, 0), (23, 8, 4, 0), (95, 0, 6, 1), (95, 1, 4, 1), (95, 8, 6, 1), (27, 2, 4, 1), (33, 2, 8, 0), (40, 2, 1, 0), (49, 2, 7, 0), (61, 2, 0, 0), (64, 2, 3, 0), (67, 2, 2, 0), (83, 7, 1, 0)]
theorem sf_fl10_0 (s : State) (args : Array Value) (hts : ∀ w ∈ sf_T, w.before args s = true) (hN : ∀ w ∈ sf_N, va_Nw w s) : sf_FF s args sf_T RX10 9 0 5 0 := ⟨RX0, TX0, 7, "StreamFuser$Way", tyX0, rfl, by decide, sf_in0, Or.inl (hts _ wt_398), fun _ h => h, tyX0_ok, nmX0, fun h => absurd h (by decide), fun h => absurd h (by decide)⟩
theorem sf_fl10_1 (s : State) (args : Array Value) (hts : ∀ w ∈ sf_T, w.before args s = true) (hN : ∀ w ∈ sf_N, va_Nw w s) : sf_FF s args sf_T RX10 9 1 3 0 := ⟨RX1, TX1, 7, "StreamFuser$Way", tyX1, rfl, by decide, sf_in1, Or.inl (hts _ wt_398), fun _ h => h, tyX1_ok, nmX1, fun h => absurd h (by decide), fun h => absurd h (by decide)⟩
theorem sf_fl10_2 (s : State) (args : Array Value) (hts : ∀ w ∈ sf_T, w.before args s = true) (hN : ∀ w ∈ sf_N, va_Nw w s) : sf_FF s args sf_T RX10 9 8 5 0 := ⟨RX8, TX8, 8, "StreamFuser$Way", tyX8, rfl, by decide, sf_in8, Or.inl (hts _ wt_398), fun _ h => h, tyX8_ok, nmX8, fun h => absurd h (by decide), fun h => absurd h (by decide)⟩
theorem sf_fl10_3 (s : State) (args : Array Value) (hts : ∀ w ∈ sf_T, w.before args s = true) (hN : ∀ w ∈ sf_N, va_Nw w s) : sf_FF s args sf_T RX10 15 0 2 0 := ⟨RX0, TX0, 7, "StreamFuser$Way", tyX0, rfl, by decide, sf_in0, Or.inl (hts _ wt_379), fun _ h => h, tyX0_ok, nmX0, fun h => absurd h (by decide), fun h => absurd h (by decide)⟩
theorem sf_fl10_4 (s : State) (args : Array Value) (hts : ∀ w ∈ sf_T, w.before args s = true) (hN : ∀ w ∈ sf_N, va_Nw w s) : sf_FF s args sf_T RX10 15 1 0 0 := ⟨RX1, TX1, 7, "StreamFuser$Way", tyX1, rfl, by decide, sf_in1, Or.inl (hts _ wt_379), fun _ h => h, tyX1_ok, nmX1, fun h => absurd h (by decide), fun h => absurd h (by decide)⟩
theorem sf_fl10_5 (s : State) (args : Array Value) (hts : ∀ w ∈ sf_T, w.before args s = true) (hN : ∀ w ∈ sf_N, va_Nw w s) : sf_FF s args sf_T RX10 15 8 2 0 := ⟨RX8, TX8, 8, "StreamFuser$Way", tyX8, rfl, by decide, sf_in8, Or.inl (hts _ wt_379), fun _ h => h, tyX8_ok, nmX8, fun h => absurd h (by decide), fun h => absurd h (by decide)⟩
theorem sf_fl10_6 (s : State) (args : Array Value) (hts : ∀ w ∈ sf_T, w.before args s = true) (hN : ∀ w ∈ sf_N, va_Nw w s) : sf_FF s args sf_T RX10 19 0 3 0 := ⟨RX0, TX0, 7, "StreamFuser$Way", tyX0, rfl, by decide, sf_in0, Or.inl (hts _ wt_388), fun _ h => h, tyX0_ok, nmX0, fun h => absurd h (by decide), fun h => absurd h (by decide)⟩
theorem sf_fl10_7 (s : State) (args : Array Value) (hts : ∀ w ∈ sf_T, w.before args s = true) (hN : ∀ w ∈ sf_N, va_Nw w s) : sf_FF s args sf_T RX10 19 1 1 0 := ⟨RX1, TX1, 7, "StreamFuser$Way", tyX1, rfl, by decide, sf_in1, Or.inl (hts _ wt_388), fun _ h => h, tyX1_ok, nmX1, fun h => absurd h (by decide), fun h => absurd h (by decide)⟩
theorem sf_fl10_8 (s : State) (args : Array Value) (hts : ∀ w ∈ sf_T, w.before args s = true) (hN : ∀ w ∈ sf_N, va_Nw w s) : sf_FF s args sf_T RX10 19 8 3 0 := ⟨RX8, TX8, 8, "StreamFuser$Way", tyX8, rfl, by decide, sf_in8, Or.inl (hts _ wt_388), fun _ h => h, tyX8_ok, nmX8, fun h => absurd h (by decide), fun h => absurd h (by decide)⟩
theorem sf_fl10_9 (s : State) (args : Array Value) (hts : ∀ w ∈ sf_T, w.before args s = true) (hN : ∀ w ∈ sf_N, va_Nw w s) : sf_FF s args sf_T RX10 23 0 4 0 := ⟨RX0, TX0, 7, "StreamFuser$Way", tyX0, rfl, by decide, sf_in0, Or.inl (hts _ wt_397), fun _ h => h, tyX0_ok, nmX0, fun h => absurd h (by decide), fun h => absurd h (by decide)⟩
theorem sf_fl10_10 (s : State) (args : Array Value) (hts : ∀ w ∈ sf_T, w.before args s = true) (hN : ∀ w ∈ sf_N, va_Nw w s) : sf_FF s args sf_T RX10 23 1 2 0 := ⟨RX1, TX1, 7, "StreamFuser$Way", tyX1, rfl, by decide, sf_in1, Or.inl (hts _ wt_397), fun _ h => h, tyX1_ok, nmX1, fun h => absurd h (by decide), fun h => absurd h (by decide)⟩
theorem sf_fl10_11 (s : State) (args : Array Value) (hts : ∀ w ∈ sf_T, w.before args s = true) (hN : ∀ w ∈ sf_N, va_Nw w s) : sf_FF s args sf_T RX10 23 8 4 0 := ⟨RX8, TX8, 8, "StreamFuser$Way", tyX8, rfl, by decide, sf_in8, Or.inl (hts _ wt_397), fun _ h => h, tyX8_ok, nmX8, fun h => absurd h (by decide), fun h => absurd h (by decide)⟩
theorem sf_fl10_12 (s : State) (args : Array Value) (hts : ∀ w ∈ sf_T, w.before args s = true) (hN : ∀ w ∈ sf_N, va_Nw w s) : sf_FF s args sf_T RX10 95 0 6 1 := ⟨RX0, TX0, 7, "StreamFuser$Way", tyX0, rfl, by decide, sf_in0, Or.inl (hts _ wt_409), fun _ h => h, tyX0_ok, nmX0, fun _ => ⟨rfl, rfl⟩, fun h => absurd h (by decide)⟩
theorem sf_fl10_13 (s : State) (args : Array Value) (hts : ∀ w ∈ sf_T, w.before args s = true) (hN : ∀ w ∈ sf_N, va_Nw w s) : sf_FF s args sf_T RX10 95 1 4 1 := ⟨RX1, TX1, 7, "StreamFuser$Way", tyX1, rfl, by decide, sf_in1, Or.inl (hts _ wt_409), fun _ h => h, tyX1_ok, nmX1, fun _ => ⟨rfl, rfl⟩, fun h => absurd h (by decide)⟩
theorem sf_fl10_14 (s : State) (args : Array Value) (hts : ∀ w ∈ sf_T, w.before args s = true) (hN : ∀ w ∈ sf_N, va_Nw w s) : sf_FF s args sf_T RX10 95 8 6 1 := ⟨RX8, TX8, 8, "StreamFuser$Way", tyX8, rfl, by decide, sf_in8, Or.inl (hts _ wt_409), fun _ h => h, tyX8_ok, nmX8, fun _ => ⟨rfl, rfl⟩, fun h => absurd h (by decide)⟩
theorem sf_fl10_15 (s : State) (args : Array Value) (hts : ∀ w ∈ sf_T, w.before args s = true) (hN : ∀ w ∈ sf_N, va_Nw w s) : sf_FF s args sf_T RX10 27 2 4 1 := ⟨RX2, TX2, 12, "StreamFuser$Plan", tyX2, rfl, by decide, sf_in2, Or.inr ⟨"StreamFuser", va_Nw.use rfl (hN _ wt_198)⟩, fun _ h => h, tyX2_ok, nmX2, fun _ => ⟨rfl, rfl⟩, fun h => absurd h (by decide)⟩
theorem sf_fl10_16 (s : State) (args : Array Value) (hts : ∀ w ∈ sf_T, w.before args s = true) (hN : ∀ w ∈ sf_N, va_Nw w s) : sf_FF s args sf_T RX10 33 2 8 0 := ⟨RX2, TX2, 12, "StreamFuser$Plan", tyX2, rfl, by decide, sf_in2, Or.inr ⟨"StreamFuser", va_Nw.use rfl (hN _ wt_214)⟩, fun _ h => h, tyX2_ok, nmX2, fun h => absurd h (by decide), fun h => absurd h (by decide)⟩
theorem sf_fl10_17 (s : State) (args : Array Value) (hts : ∀ w ∈ sf_T, w.before args s = true) (hN : ∀ w ∈ sf_N, va_Nw w s) : sf_FF s args sf_T RX10 40 2 1 0 := ⟨RX2, TX2, 12, "StreamFuser$Plan", tyX2, rfl, by decide, sf_in2, Or.inr ⟨"StreamFuser", va_Nw.use rfl (hN _ wt_182)⟩, fun _ h => h, tyX2_ok, nmX2, fun h => absurd h (by decide), fun h => absurd h (by decide)⟩
theorem sf_fl10_18 (s : State) (args : Array Value) (hts : ∀ w ∈ sf_T, w.before args s = true) (hN : ∀ w ∈ sf_N, va_Nw w s) : sf_FF s args sf_T RX10 49 2 7 0 := ⟨RX2, TX2, 12, "StreamFuser$Plan", tyX2, rfl, by decide, sf_in2, Or.inr ⟨"StreamFuser", va_Nw.use rfl (hN _ wt_211)⟩, fun _ h => h, tyX2_ok, nmX2, fun h => absurd h (by decide), fun h => absurd h (by decide)⟩
theorem sf_fl10_19 (s : State) (args : Array Value) (hts : ∀ w ∈ sf_T, w.before args s = true) (hN : ∀ w ∈ sf_N, va_Nw w s) : sf_FF s args sf_T RX10 61 2 0 0 := ⟨RX2, TX2, 12, "StreamFuser$Plan", tyX2, rfl, by decide, sf_in2, Or.inr ⟨"StreamFuser", va_Nw.use rfl (hN _ wt_179)⟩, fun _ h => h, tyX2_ok, nmX2, fun h => absurd h (by decide), fun h => absurd h (by decide)⟩
theorem sf_fl10_20 (s : State) (args : Array Value) (hts : ∀ w ∈ sf_T, w.before args s = true) (hN : ∀ w ∈ sf_N, va_Nw w s) : sf_FF s args sf_T RX10 64 2 3 0 := ⟨RX2, TX2, 12, "StreamFuser$Plan", tyX2, rfl, by decide, sf_in2, Or.inr ⟨"StreamFuser", va_Nw.use rfl (hN _ wt_195)⟩, fun _ h => h, tyX2_ok, nmX2, fun h => absurd h (by decide), fun h => absurd h (by decide)⟩
theorem sf_fl10_21 (s : State) (args : Array Value) (hts : ∀ w ∈ sf_T, w.before args s = true) (hN : ∀ w ∈ sf_N, va_Nw w s) : sf_FF s args sf_T RX10 67 2 2 0 := ⟨RX2, TX2, 12, "StreamFuser$Plan", tyX2, rfl, by decide, sf_in2, Or.inr ⟨"StreamFuser", va_Nw.use rfl (hN _ wt_188)⟩, fun _ h => h, tyX2_ok, nmX2, fun h => absurd h (by decide), fun h => absurd h (by decide)⟩
theorem sf_fl10_22 (s : State) (args : Array Value) (hts : ∀ w ∈ sf_T, w.before args s = true) (hN : ∀ w ∈ sf_N, va_Nw w s) : sf_FF s args sf_T RX10 83 7 1 0 := ⟨RX7, TX7, 3, "StreamFuser$Sheets", tyX7, rfl, by decide, sf_in7, Or.inr ⟨"StreamFuser", va_Nw.use rfl (hN _ wt_295)⟩, fun _ h => h, tyX7_ok, nmX7, fun h => absurd h (by decide), fun h => absurd h (by decide)⟩
theorem sf_fl10_ok (s : State) (args : Array Value) (hts : ∀ w ∈ sf_T, w.before args s = true) (hN : ∀ w ∈ sf_N, va_Nw w s) : ∀ q ∈ sf_fl10, sf_FF s args sf_T RX10 q.1 q.2.1 q.2.2.1 q.2.2.2 := List.forall_mem_cons.mpr ⟨sf_fl10_0 s args hts hN, List.forall_mem_cons.mpr ⟨sf_fl10_1 s args hts hN, List.forall_mem_cons.mpr ⟨sf_fl10_2 s args hts hN, List.forall_mem_cons.mpr ⟨sf_fl10_3 s args hts hN, List.forall_mem_cons.mpr ⟨sf_fl10_4 s args hts hN, List.forall_mem_cons.mpr ⟨sf_fl10_5 s args hts hN, List.forall_mem_cons.mpr ⟨sf_fl10_6 s args hts hN, List.forall_mem_cons.mpr ⟨sf_fl10_7 s args hts hN, List.forall_mem_cons.mpr ⟨sf_fl10_8 s args hts hN, List.forall_mem_cons.mpr ⟨sf_fl10_9 s args hts hN, List.forall_mem_cons.mpr ⟨sf_fl10_10 s args hts hN, List.forall_mem_cons.mpr ⟨sf_fl10_11 s args hts hN, List.forall_mem_cons.mpr ⟨sf_fl10_12 s args hts hN, List.forall_mem_cons.mpr ⟨sf_fl10_13 s args hts hN, List.forall_mem_cons.mpr ⟨sf_fl10_14 s args hts hN, List.forall_mem_cons.mpr ⟨sf_fl10_15 s args hts hN, List.forall_mem_cons.mpr ⟨sf_fl10_16 s args hts hN, List.forall_mem_cons.mpr ⟨sf_fl10_17 s args hts hN, List.forall_mem_cons.mpr ⟨sf_fl10_18 s args hts hN, List.forall_mem_cons.mpr ⟨sf_fl10_19 s args hts hN, List.forall_mem_cons.mpr ⟨sf_fl10_20 s args hts hN, List.forall_mem_cons.mpr ⟨sf_fl10_21 s args hts hN, List.forall_mem_cons.mpr ⟨sf_fl10_22 s args hts hN, fun _ h => absurd h List.not_mem_nil⟩⟩⟩⟩⟩⟩⟩⟩⟩⟩⟩⟩⟩⟩⟩⟩⟩⟩⟩⟩⟩⟩⟩
def sf_cl10 : List (Nat × Value) := [(78, .long 9223372036854775807)]
theorem sf_cl10_ok (s : State) (args : Array Value) (hts : ∀ w ∈ sf_T, w.before args s = true) : ∀ q ∈ sf_cl10, sf_CC s args RX10 q.1 q.2 := List.forall_mem_cons.mpr ⟨hts _ wt_890, fun _ h => absurd h List.not_mem_nil⟩
def sf_fl11 : sf_FL := [(16, 9, 0, 0), (25, 9, 1, 0), (32, 9, 2, 0), (39, 9, 3, 0), (46, 9, 4, 0), (55, 9, 5, 0), (62, 9, 6, 0), (69, 9, 7, 0), (73, 9, 8, 0), (79, 9, 9, 0), (83, 9, 10, 0), (86, 9, 11, 0), (89, 9, 12, 0), (256, 9, 13, 1), (96, 4, 2, 1), (110, 2, 4, 1), (117, 2, 0, 0), (121, 2, 1, 0), (124, 2, 2, 0), (127, 2, 3, 0), (130, 2, 6, 0), (133, 2, 9, 0), (137, 3, 2, 1), (138, 3, 1, 0), (146, 5, 2, 1), (149, 5, 1, 0), (156, 6, 2, 1), (159, 2, 11, 2), (165, 6, 1, 1), (166, 6, 0, 0), (183, 6, 5, 1), (186, 6, 6, 1), (189, 6, 3, 1), (192, 6, 4, 1), (195, 6, 9, 1), (201, 6, 7, 0), (204, 6, 8, 0), (224, 7, 1, 0), (237, 7, 0, 0), (253, 2, 10, 1)]
theorem sf_fl11_0 (s : State) (args : Array Value) (hts : ∀ w ∈ sf_T, w.before args s = true) (hN : ∀ w ∈ sf_N, va_Nw w s) : sf_FF s args sf_T RX11 16 9 0 0 := ⟨RX11, TX11, 14, "StreamFuser", tyX11, rfl, by decide, sf_in11, Or.inl (hts _ wt_491), fun _ h => h, tyX11_ok, nmX11, fun h => absurd h (by decide), fun h => absurd h (by decide)⟩
theorem sf_fl11_1 (s : State) (args : Array Value) (hts : ∀ w ∈ sf_T, w.before args s = true) (hN : ∀ w ∈ sf_N, va_Nw w s) : sf_FF s args sf_T RX11 25 9 1 0 := ⟨RX11, TX11, 14, "StreamFuser", tyX11, rfl, by decide, sf_in11, Or.inl (hts _ wt_492), fun _ h => h, tyX11_ok, nmX11, fun h => absurd h (by decide), fun h => absurd h (by decide)⟩
theorem sf_fl11_2 (s : State) (args : Array Value) (hts : ∀ w ∈ sf_T, w.before args s = true) (hN : ∀ w ∈ sf_N, va_Nw w s) : sf_FF s args sf_T RX11 32 9 2 0 := ⟨RX11, TX11, 14, "StreamFuser", tyX11, rfl, by decide, sf_in11, Or.inl (hts _ wt_493), fun _ h => h, tyX11_ok, nmX11, fun h => absurd h (by decide), fun h => absurd h (by decide)⟩
theorem sf_fl11_3 (s : State) (args : Array Value) (hts : ∀ w ∈ sf_T, w.before args s = true) (hN : ∀ w ∈ sf_N, va_Nw w s) : sf_FF s args sf_T RX11 39 9 3 0 := ⟨RX11, TX11, 14, "StreamFuser", tyX11, rfl, by decide, sf_in11, Or.inl (hts _ wt_494), fun _ h => h, tyX11_ok, nmX11, fun h => absurd h (by decide), fun h => absurd h (by decide)⟩
theorem sf_fl11_4 (s : State) (args : Array Value) (hts : ∀ w ∈ sf_T, w.before args s = true) (hN : ∀ w ∈ sf_N, va_Nw w s) : sf_FF s args sf_T RX11 46 9 4 0 := ⟨RX11, TX11, 14, "StreamFuser", tyX11, rfl, by decide, sf_in11, Or.inl (hts _ wt_495), fun _ h => h, tyX11_ok, nmX11, fun h => absurd h (by decide), fun h => absurd h (by decide)⟩
theorem sf_fl11_5 (s : State) (args : Array Value) (hts : ∀ w ∈ sf_T, w.before args s = true) (hN : ∀ w ∈ sf_N, va_Nw w s) : sf_FF s args sf_T RX11 55 9 5 0 := ⟨RX11, TX11, 14, "StreamFuser", tyX11, rfl, by decide, sf_in11, Or.inl (hts _ wt_496), fun _ h => h, tyX11_ok, nmX11, fun h => absurd h (by decide), fun h => absurd h (by decide)⟩
theorem sf_fl11_6 (s : State) (args : Array Value) (hts : ∀ w ∈ sf_T, w.before args s = true) (hN : ∀ w ∈ sf_N, va_Nw w s) : sf_FF s args sf_T RX11 62 9 6 0 := ⟨RX11, TX11, 14, "StreamFuser", tyX11, rfl, by decide, sf_in11, Or.inl (hts _ wt_497), fun _ h => h, tyX11_ok, nmX11, fun h => absurd h (by decide), fun h => absurd h (by decide)⟩
theorem sf_fl11_7 (s : State) (args : Array Value) (hts : ∀ w ∈ sf_T, w.before args s = true) (hN : ∀ w ∈ sf_N, va_Nw w s) : sf_FF s args sf_T RX11 69 9 7 0 := ⟨RX11, TX11, 14, "StreamFuser", tyX11, rfl, by decide, sf_in11, Or.inl (hts _ wt_498), fun _ h => h, tyX11_ok, nmX11, fun h => absurd h (by decide), fun h => absurd h (by decide)⟩
theorem sf_fl11_8 (s : State) (args : Array Value) (hts : ∀ w ∈ sf_T, w.before args s = true) (hN : ∀ w ∈ sf_N, va_Nw w s) : sf_FF s args sf_T RX11 73 9 8 0 := ⟨RX11, TX11, 14, "StreamFuser", tyX11, rfl, by decide, sf_in11, Or.inl (hts _ wt_499), fun _ h => h, tyX11_ok, nmX11, fun h => absurd h (by decide), fun h => absurd h (by decide)⟩
theorem sf_fl11_9 (s : State) (args : Array Value) (hts : ∀ w ∈ sf_T, w.before args s = true) (hN : ∀ w ∈ sf_N, va_Nw w s) : sf_FF s args sf_T RX11 79 9 9 0 := ⟨RX11, TX11, 14, "StreamFuser", tyX11, rfl, by decide, sf_in11, Or.inl (hts _ wt_500), fun _ h => h, tyX11_ok, nmX11, fun h => absurd h (by decide), fun h => absurd h (by decide)⟩
theorem sf_fl11_10 (s : State) (args : Array Value) (hts : ∀ w ∈ sf_T, w.before args s = true) (hN : ∀ w ∈ sf_N, va_Nw w s) : sf_FF s args sf_T RX11 83 9 10 0 := ⟨RX11, TX11, 14, "StreamFuser", tyX11, rfl, by decide, sf_in11, Or.inl (hts _ wt_501), fun _ h => h, tyX11_ok, nmX11, fun h => absurd h (by decide), fun h => absurd h (by decide)⟩
theorem sf_fl11_11 (s : State) (args : Array Value) (hts : ∀ w ∈ sf_T, w.before args s = true) (hN : ∀ w ∈ sf_N, va_Nw w s) : sf_FF s args sf_T RX11 86 9 11 0 := ⟨RX11, TX11, 14, "StreamFuser", tyX11, rfl, by decide, sf_in11, Or.inl (hts _ wt_502), fun _ h => h, tyX11_ok, nmX11, fun h => absurd h (by decide), fun h => absurd h (by decide)⟩
theorem sf_fl11_12 (s : State) (args : Array Value) (hts : ∀ w ∈ sf_T, w.before args s = true) (hN : ∀ w ∈ sf_N, va_Nw w s) : sf_FF s args sf_T RX11 89 9 12 0 := ⟨RX11, TX11, 14, "StreamFuser", tyX11, rfl, by decide, sf_in11, Or.inl (hts _ wt_503), fun _ h => h, tyX11_ok, nmX11, fun h => absurd h (by decide), fun h => absurd h (by decide)⟩
theorem sf_fl11_13 (s : State) (args : Array Value) (hts : ∀ w ∈ sf_T, w.before args s = true) (hN : ∀ w ∈ sf_N, va_Nw w s) : sf_FF s args sf_T RX11 256 9 13 1 := ⟨RX11, TX11, 14, "StreamFuser", tyX11, rfl, by decide, sf_in11, Or.inl (hts _ wt_504), fun _ h => h, tyX11_ok, nmX11, fun _ => ⟨rfl, rfl⟩, fun h => absurd h (by decide)⟩
theorem sf_fl11_14 (s : State) (args : Array Value) (hts : ∀ w ∈ sf_T, w.before args s = true) (hN : ∀ w ∈ sf_N, va_Nw w s) : sf_FF s args sf_T RX11 96 4 2 1 := ⟨RX4, TX4, 7, "StreamFuser$Reader", tyX4, rfl, by decide, sf_in4, Or.inr ⟨"StreamFuser", va_Nw.use rfl (hN _ wt_471)⟩, fun _ h => h, tyX4_ok, nmX4, fun _ => ⟨rfl, rfl⟩, fun h => absurd h (by decide)⟩
theorem sf_fl11_15 (s : State) (args : Array Value) (hts : ∀ w ∈ sf_T, w.before args s = true) (hN : ∀ w ∈ sf_N, va_Nw w s) : sf_FF s args sf_T RX11 110 2 4 1 := ⟨RX2, TX2, 12, "StreamFuser$Plan", tyX2, rfl, by decide, sf_in2, Or.inr ⟨"StreamFuser", va_Nw.use rfl (hN _ wt_206)⟩, fun _ h => h, tyX2_ok, nmX2, fun _ => ⟨rfl, rfl⟩, fun h => absurd h (by decide)⟩
theorem sf_fl11_16 (s : State) (args : Array Value) (hts : ∀ w ∈ sf_T, w.before args s = true) (hN : ∀ w ∈ sf_N, va_Nw w s) : sf_FF s args sf_T RX11 117 2 0 0 := ⟨RX2, TX2, 12, "StreamFuser$Plan", tyX2, rfl, by decide, sf_in2, Or.inr ⟨"StreamFuser", va_Nw.use rfl (hN _ wt_180)⟩, fun _ h => h, tyX2_ok, nmX2, fun h => absurd h (by decide), fun h => absurd h (by decide)⟩
theorem sf_fl11_17 (s : State) (args : Array Value) (hts : ∀ w ∈ sf_T, w.before args s = true) (hN : ∀ w ∈ sf_N, va_Nw w s) : sf_FF s args sf_T RX11 121 2 1 0 := ⟨RX2, TX2, 12, "StreamFuser$Plan", tyX2, rfl, by decide, sf_in2, Or.inr ⟨"StreamFuser", va_Nw.use rfl (hN _ wt_184)⟩, fun _ h => h, tyX2_ok, nmX2, fun h => absurd h (by decide), fun h => absurd h (by decide)⟩
theorem sf_fl11_18 (s : State) (args : Array Value) (hts : ∀ w ∈ sf_T, w.before args s = true) (hN : ∀ w ∈ sf_N, va_Nw w s) : sf_FF s args sf_T RX11 124 2 2 0 := ⟨RX2, TX2, 12, "StreamFuser$Plan", tyX2, rfl, by decide, sf_in2, Or.inr ⟨"StreamFuser", va_Nw.use rfl (hN _ wt_191)⟩, fun _ h => h, tyX2_ok, nmX2, fun h => absurd h (by decide), fun h => absurd h (by decide)⟩
theorem sf_fl11_19 (s : State) (args : Array Value) (hts : ∀ w ∈ sf_T, w.before args s = true) (hN : ∀ w ∈ sf_N, va_Nw w s) : sf_FF s args sf_T RX11 127 2 3 0 := ⟨RX2, TX2, 12, "StreamFuser$Plan", tyX2, rfl, by decide, sf_in2, Or.inr ⟨"StreamFuser", va_Nw.use rfl (hN _ wt_197)⟩, fun _ h => h, tyX2_ok, nmX2, fun h => absurd h (by decide), fun h => absurd h (by decide)⟩
theorem sf_fl11_20 (s : State) (args : Array Value) (hts : ∀ w ∈ sf_T, w.before args s = true) (hN : ∀ w ∈ sf_N, va_Nw w s) : sf_FF s args sf_T RX11 130 2 6 0 := ⟨RX2, TX2, 12, "StreamFuser$Plan", tyX2, rfl, by decide, sf_in2, Or.inr ⟨"StreamFuser", va_Nw.use rfl (hN _ wt_209)⟩, fun _ h => h, tyX2_ok, nmX2, fun h => absurd h (by decide), fun h => absurd h (by decide)⟩
theorem sf_fl11_21 (s : State) (args : Array Value) (hts : ∀ w ∈ sf_T, w.before args s = true) (hN : ∀ w ∈ sf_N, va_Nw w s) : sf_FF s args sf_T RX11 133 2 9 0 := ⟨RX2, TX2, 12, "StreamFuser$Plan", tyX2, rfl, by decide, sf_in2, Or.inr ⟨"StreamFuser", va_Nw.use rfl (hN _ wt_217)⟩, fun _ h => h, tyX2_ok, nmX2, fun h => absurd h (by decide), fun h => absurd h (by decide)⟩
theorem sf_fl11_22 (s : State) (args : Array Value) (hts : ∀ w ∈ sf_T, w.before args s = true) (hN : ∀ w ∈ sf_N, va_Nw w s) : sf_FF s args sf_T RX11 137 3 2 1 := ⟨RX3, TX3, 3, "StreamFuser$Printer", tyX3, rfl, by decide, sf_in3, Or.inr ⟨"StreamFuser", va_Nw.use rfl (hN _ wt_259)⟩, fun _ h => h, tyX3_ok, nmX3, fun _ => ⟨rfl, rfl⟩, fun h => absurd h (by decide)⟩
theorem sf_fl11_23 (s : State) (args : Array Value) (hts : ∀ w ∈ sf_T, w.before args s = true) (hN : ∀ w ∈ sf_N, va_Nw w s) : sf_FF s args sf_T RX11 138 3 1 0 := ⟨RX3, TX3, 3, "StreamFuser$Printer", tyX3, rfl, by decide, sf_in3, Or.inr ⟨"StreamFuser", va_Nw.use rfl (hN _ wt_257)⟩, fun _ h => h, tyX3_ok, nmX3, fun h => absurd h (by decide), fun h => absurd h (by decide)⟩
theorem sf_fl11_24 (s : State) (args : Array Value) (hts : ∀ w ∈ sf_T, w.before args s = true) (hN : ∀ w ∈ sf_N, va_Nw w s) : sf_FF s args sf_T RX11 146 5 2 1 := ⟨RX5, TX5, 3, "StreamFuser$Rewriter", tyX5, rfl, by decide, sf_in5, Or.inr ⟨"StreamFuser", va_Nw.use rfl (hN _ wt_278)⟩, fun _ h => h, tyX5_ok, nmX5, fun _ => ⟨rfl, rfl⟩, fun h => absurd h (by decide)⟩
theorem sf_fl11_25 (s : State) (args : Array Value) (hts : ∀ w ∈ sf_T, w.before args s = true) (hN : ∀ w ∈ sf_N, va_Nw w s) : sf_FF s args sf_T RX11 149 5 1 0 := ⟨RX5, TX5, 3, "StreamFuser$Rewriter", tyX5, rfl, by decide, sf_in5, Or.inr ⟨"StreamFuser", va_Nw.use rfl (hN _ wt_276)⟩, fun _ h => h, tyX5_ok, nmX5, fun h => absurd h (by decide), fun h => absurd h (by decide)⟩
theorem sf_fl11_26 (s : State) (args : Array Value) (hts : ∀ w ∈ sf_T, w.before args s = true) (hN : ∀ w ∈ sf_N, va_Nw w s) : sf_FF s args sf_T RX11 156 6 2 1 := ⟨RX6, TX6, 10, "StreamFuser$Run", tyX6, rfl, by decide, sf_in6, Or.inr ⟨"StreamFuser", va_Nw.use rfl (hN _ wt_317)⟩, fun _ h => h, tyX6_ok, nmX6, fun _ => ⟨rfl, rfl⟩, fun h => absurd h (by decide)⟩
theorem sf_fl11_27 (s : State) (args : Array Value) (hts : ∀ w ∈ sf_T, w.before args s = true) (hN : ∀ w ∈ sf_N, va_Nw w s) : sf_FF s args sf_T RX11 159 2 11 2 := ⟨RX2, TX2, 12, "StreamFuser$Plan", tyX2, rfl, by decide, sf_in2, Or.inr ⟨"StreamFuser", va_Nw.use rfl (hN _ wt_220)⟩, fun _ h => h, tyX2_ok, nmX2, fun h => absurd h (by decide), fun _ => ⟨rfl, rfl⟩⟩
theorem sf_fl11_28 (s : State) (args : Array Value) (hts : ∀ w ∈ sf_T, w.before args s = true) (hN : ∀ w ∈ sf_N, va_Nw w s) : sf_FF s args sf_T RX11 165 6 1 1 := ⟨RX6, TX6, 10, "StreamFuser$Run", tyX6, rfl, by decide, sf_in6, Or.inr ⟨"StreamFuser", va_Nw.use rfl (hN _ wt_315)⟩, fun _ h => h, tyX6_ok, nmX6, fun _ => ⟨rfl, rfl⟩, fun h => absurd h (by decide)⟩
theorem sf_fl11_29 (s : State) (args : Array Value) (hts : ∀ w ∈ sf_T, w.before args s = true) (hN : ∀ w ∈ sf_N, va_Nw w s) : sf_FF s args sf_T RX11 166 6 0 0 := ⟨RX6, TX6, 10, "StreamFuser$Run", tyX6, rfl, by decide, sf_in6, Or.inr ⟨"StreamFuser", va_Nw.use rfl (hN _ wt_312)⟩, fun _ h => h, tyX6_ok, nmX6, fun h => absurd h (by decide), fun h => absurd h (by decide)⟩
theorem sf_fl11_30 (s : State) (args : Array Value) (hts : ∀ w ∈ sf_T, w.before args s = true) (hN : ∀ w ∈ sf_N, va_Nw w s) : sf_FF s args sf_T RX11 183 6 5 1 := ⟨RX6, TX6, 10, "StreamFuser$Run", tyX6, rfl, by decide, sf_in6, Or.inr ⟨"StreamFuser", va_Nw.use rfl (hN _ wt_327)⟩, fun _ h => h, tyX6_ok, nmX6, fun _ => ⟨rfl, rfl⟩, fun h => absurd h (by decide)⟩
theorem sf_fl11_31 (s : State) (args : Array Value) (hts : ∀ w ∈ sf_T, w.before args s = true) (hN : ∀ w ∈ sf_N, va_Nw w s) : sf_FF s args sf_T RX11 186 6 6 1 := ⟨RX6, TX6, 10, "StreamFuser$Run", tyX6, rfl, by decide, sf_in6, Or.inr ⟨"StreamFuser", va_Nw.use rfl (hN _ wt_329)⟩, fun _ h => h, tyX6_ok, nmX6, fun _ => ⟨rfl, rfl⟩, fun h => absurd h (by decide)⟩
theorem sf_fl11_32 (s : State) (args : Array Value) (hts : ∀ w ∈ sf_T, w.before args s = true) (hN : ∀ w ∈ sf_N, va_Nw w s) : sf_FF s args sf_T RX11 189 6 3 1 := ⟨RX6, TX6, 10, "StreamFuser$Run", tyX6, rfl, by decide, sf_in6, Or.inr ⟨"StreamFuser", va_Nw.use rfl (hN _ wt_322)⟩, fun _ h => h, tyX6_ok, nmX6, fun _ => ⟨rfl, rfl⟩, fun h => absurd h (by decide)⟩
theorem sf_fl11_33 (s : State) (args : Array Value) (hts : ∀ w ∈ sf_T, w.before args s = true) (hN : ∀ w ∈ sf_N, va_Nw w s) : sf_FF s args sf_T RX11 192 6 4 1 := ⟨RX6, TX6, 10, "StreamFuser$Run", tyX6, rfl, by decide, sf_in6, Or.inr ⟨"StreamFuser", va_Nw.use rfl (hN _ wt_325)⟩, fun _ h => h, tyX6_ok, nmX6, fun _ => ⟨rfl, rfl⟩, fun h => absurd h (by decide)⟩
theorem sf_fl11_34 (s : State) (args : Array Value) (hts : ∀ w ∈ sf_T, w.before args s = true) (hN : ∀ w ∈ sf_N, va_Nw w s) : sf_FF s args sf_T RX11 195 6 9 1 := ⟨RX6, TX6, 10, "StreamFuser$Run", tyX6, rfl, by decide, sf_in6, Or.inr ⟨"StreamFuser", va_Nw.use rfl (hN _ wt_335)⟩, fun _ h => h, tyX6_ok, nmX6, fun _ => ⟨rfl, rfl⟩, fun h => absurd h (by decide)⟩
theorem sf_fl11_35 (s : State) (args : Array Value) (hts : ∀ w ∈ sf_T, w.before args s = true) (hN : ∀ w ∈ sf_N, va_Nw w s) : sf_FF s args sf_T RX11 201 6 7 0 := ⟨RX6, TX6, 10, "StreamFuser$Run", tyX6, rfl, by decide, sf_in6, Or.inr ⟨"StreamFuser", va_Nw.use rfl (hN _ wt_331)⟩, fun _ h => h, tyX6_ok, nmX6, fun h => absurd h (by decide), fun h => absurd h (by decide)⟩
theorem sf_fl11_36 (s : State) (args : Array Value) (hts : ∀ w ∈ sf_T, w.before args s = true) (hN : ∀ w ∈ sf_N, va_Nw w s) : sf_FF s args sf_T RX11 204 6 8 0 := ⟨RX6, TX6, 10, "StreamFuser$Run", tyX6, rfl, by decide, sf_in6, Or.inr ⟨"StreamFuser", va_Nw.use rfl (hN _ wt_333)⟩, fun _ h => h, tyX6_ok, nmX6, fun h => absurd h (by decide), fun h => absurd h (by decide)⟩
theorem sf_fl11_37 (s : State) (args : Array Value) (hts : ∀ w ∈ sf_T, w.before args s = true) (hN : ∀ w ∈ sf_N, va_Nw w s) : sf_FF s args sf_T RX11 224 7 1 0 := ⟨RX7, TX7, 3, "StreamFuser$Sheets", tyX7, rfl, by decide, sf_in7, Or.inr ⟨"StreamFuser", va_Nw.use rfl (hN _ wt_296)⟩, fun _ h => h, tyX7_ok, nmX7, fun h => absurd h (by decide), fun h => absurd h (by decide)⟩
theorem sf_fl11_38 (s : State) (args : Array Value) (hts : ∀ w ∈ sf_T, w.before args s = true) (hN : ∀ w ∈ sf_N, va_Nw w s) : sf_FF s args sf_T RX11 237 7 0 0 := ⟨RX7, TX7, 3, "StreamFuser$Sheets", tyX7, rfl, by decide, sf_in7, Or.inr ⟨"StreamFuser", va_Nw.use rfl (hN _ wt_293)⟩, fun _ h => h, tyX7_ok, nmX7, fun h => absurd h (by decide), fun h => absurd h (by decide)⟩
theorem sf_fl11_39 (s : State) (args : Array Value) (hts : ∀ w ∈ sf_T, w.before args s = true) (hN : ∀ w ∈ sf_N, va_Nw w s) : sf_FF s args sf_T RX11 253 2 10 1 := ⟨RX2, TX2, 12, "StreamFuser$Plan", tyX2, rfl, by decide, sf_in2, Or.inr ⟨"StreamFuser", va_Nw.use rfl (hN _ wt_219)⟩, fun _ h => h, tyX2_ok, nmX2, fun _ => ⟨rfl, rfl⟩, fun h => absurd h (by decide)⟩
theorem sf_fl11_ok (s : State) (args : Array Value) (hts : ∀ w ∈ sf_T, w.before args s = true) (hN : ∀ w ∈ sf_N, va_Nw w s) : ∀ q ∈ sf_fl11, sf_FF s args sf_T RX11 q.1 q.2.1 q.2.2.1 q.2.2.2 := List.forall_mem_cons.mpr ⟨sf_fl11_0 s args hts hN, List.forall_mem_cons.mpr ⟨sf_fl11_1 s args hts hN, List.forall_mem_cons.mpr ⟨sf_fl11_2 s args hts hN, List.forall_mem_cons.mpr ⟨sf_fl11_3 s args hts hN, List.forall_mem_cons.mpr ⟨sf_fl11_4 s args hts hN, List.forall_mem_cons.mpr ⟨sf_fl11_5 s args hts hN, List.forall_mem_cons.mpr ⟨sf_fl11_6 s args hts hN, List.forall_mem_cons.mpr ⟨sf_fl11_7 s args hts hN, List.forall_mem_cons.mpr ⟨sf_fl11_8 s args hts hN, List.forall_mem_cons.mpr ⟨sf_fl11_9 s args hts hN, List.forall_mem_cons.mpr ⟨sf_fl11_10 s args hts hN, List.forall_mem_cons.mpr ⟨sf_fl11_11 s args hts hN, List.forall_mem_cons.mpr ⟨sf_fl11_12 s args hts hN, List.forall_mem_cons.mpr ⟨sf_fl11_13 s args hts hN, List.forall_mem_cons.mpr ⟨sf_fl11_14 s args hts hN, List.forall_mem_cons.mpr ⟨sf_fl11_15 s args hts hN, List.forall_mem_cons.mpr ⟨sf_fl11_16 s args hts hN, List.forall_mem_cons.mpr ⟨sf_fl11_17 s args hts hN, List.forall_mem_cons.mpr ⟨sf_fl11_18 s args hts hN, List.forall_mem_cons.mpr ⟨sf_fl11_19 s args hts hN, List.forall_mem_cons.mpr ⟨sf_fl11_20 s args hts hN, List.forall_mem_cons.mpr ⟨sf_fl11_21 s args hts hN, List.forall_mem_cons.mpr ⟨sf_fl11_22 s args hts hN, List.forall_mem_cons.mpr ⟨sf_fl11_23 s args hts hN, List.forall_mem_cons.mpr ⟨sf_fl11_24 s args hts hN, List.forall_mem_cons.mpr ⟨sf_fl11_25 s args hts hN, List.forall_mem_cons.mpr ⟨sf_fl11_26 s args hts hN, List.forall_mem_cons.mpr ⟨sf_fl11_27 s args hts hN, List.forall_mem_cons.mpr ⟨sf_fl11_28 s args hts hN, List.forall_mem_cons.mpr ⟨sf_fl11_29 s args hts hN, List.forall_mem_cons.mpr ⟨sf_fl11_30 s args hts hN, List.forall_mem_cons.mpr ⟨sf_fl11_31 s args hts hN, List.forall_mem_cons.mpr ⟨sf_fl11_32 s args hts hN, List.forall_mem_cons.mpr ⟨sf_fl11_33 s args hts hN, List.forall_mem_cons.mpr ⟨sf_fl11_34 s args hts hN, List.forall_mem_cons.mpr ⟨sf_fl11_35 s args hts hN, List.forall_mem_cons.mpr ⟨sf_fl11_36 s args hts hN, List.forall_mem_cons.mpr ⟨sf_fl11_37 s args hts hN, List.forall_mem_cons.mpr ⟨sf_fl11_38 s args hts hN, List.forall_mem_cons.mpr ⟨sf_fl11_39 s args hts hN, fun _ h => absurd h List.not_mem_nil⟩⟩⟩⟩⟩⟩⟩⟩⟩⟩⟩⟩⟩⟩⟩⟩⟩⟩⟩⟩⟩⟩⟩⟩⟩⟩⟩⟩⟩⟩⟩⟩⟩⟩⟩⟩⟩⟩⟩⟩
def sf_cl11 : List (Nat × Value) := [(116, .int (-2147483648)), (169, .long (-9223372036854775806)), (175, .long (-9223372036854775805)), (259, .long 17), (261, .long 31)]
theorem sf_cl11_ok (s : State) (args : Array Value) (hts : ∀ w ∈ sf_T, w.before args s = true) : ∀ q ∈ sf_cl11, sf_CC s args RX11 q.1 q.2 := List.forall_mem_cons.mpr ⟨hts _ wt_663, List.forall_mem_cons.mpr ⟨hts _ wt_1054, List.forall_mem_cons.mpr ⟨hts _ wt_1063, List.forall_mem_cons.mpr ⟨hts _ wt_1165, List.forall_mem_cons.mpr ⟨hts _ wt_1166, fun _ h => absurd h List.not_mem_nil⟩⟩⟩⟩⟩
def sf_fl12 : sf_FL := [(7, 10, 0, 0), (13, 10, 1, 0), (16, 10, 2, 0), (19, 10, 3, 0), (22, 10, 5, 0), (25, 10, 7, 0), (28, 10, 12, 0), (31, 10, 13, 0), (34, 10, 14, 0), (37, 10, 15, 0), (40, 10, 17, 0), (43, 10, 18, 0), (46, 10, 19, 0), (49, 10, 20, 0), (52, 10, 22, 0), (55, 10, 23, 0), (58, 10, 24, 0), (61, 10, 25, 0), (64, 10, 26, 0), (67, 10, 27, 0), (70, 10, 28, 0), (73, 10, 30, 0), (76, 10, 31, 0), (79, 10, 33, 0), (82, 10, 34, 0), (85, 10, 40, 0), (88, 10, 42, 0), (91, 10, 43, 0), (94, 10, 47, 0), (97, 10, 49, 0), (100, 10, 50, 0), (103, 10, 51, 0), (106, 10, 52, 0), (109, 10, 53, 0), (112, 10, 54, 0), (115, 10, 56, 0), (118, 10, 57, 0), (121, 10, 58, 0), (126, 10, 4, 1), (157, 10, 6, 1), (160, 10, 8, 1), (169, 10, 16, 1), (180, 10, 9, 1), (183, 10, 11, 2), (187, 10, 10, 1), (206, 10, 21, 1), (224, 10, 29, 1), (289, 10, 32, 1), (294, 10, 35, 1), (297, 10, 36, 1), (300, 10, 44, 1), (303, 10, 37, 1), (309, 10, 45, 2), (312, 10, 46, 1), (325, 10, 38, 1), (349, 10, 48, 1), (385, 10, 39, 1), (388, 10, 41, 1), (408, 10, 55, 1)]
theorem sf_fl12_0 (s : State) (args : Array Value) (hts : ∀ w ∈ sf_T, w.before args s = true) (hN : ∀ w ∈ sf_N, va_Nw w s) : sf_FF s args sf_T RX12 7 10 0 0 := ⟨RX12, TX12, 59, "StreamFuserModel", tyX12, rfl, by decide, sf_in12, Or.inl (hts _ wt_1192), fun _ h => h, tyX12_ok, nmX12, fun h => absurd h (by decide), fun h => absurd h (by decide)⟩
theorem sf_fl12_1 (s : State) (args : Array Value) (hts : ∀ w ∈ sf_T, w.before args s = true) (hN : ∀ w ∈ sf_N, va_Nw w s) : sf_FF s args sf_T RX12 13 10 1 0 := ⟨RX12, TX12, 59, "StreamFuserModel", tyX12, rfl, by decide, sf_in12, Or.inl (hts _ wt_1193), fun _ h => h, tyX12_ok, nmX12, fun h => absurd h (by decide), fun h => absurd h (by decide)⟩
theorem sf_fl12_2 (s : State) (args : Array Value) (hts : ∀ w ∈ sf_T, w.before args s = true) (hN : ∀ w ∈ sf_N, va_Nw w s) : sf_FF s args sf_T RX12 16 10 2 0 := ⟨RX12, TX12, 59, "StreamFuserModel", tyX12, rfl, by decide, sf_in12, Or.inl (hts _ wt_1194), fun _ h => h, tyX12_ok, nmX12, fun h => absurd h (by decide), fun h => absurd h (by decide)⟩
theorem sf_fl12_3 (s : State) (args : Array Value) (hts : ∀ w ∈ sf_T, w.before args s = true) (hN : ∀ w ∈ sf_N, va_Nw w s) : sf_FF s args sf_T RX12 19 10 3 0 := ⟨RX12, TX12, 59, "StreamFuserModel", tyX12, rfl, by decide, sf_in12, Or.inl (hts _ wt_1195), fun _ h => h, tyX12_ok, nmX12, fun h => absurd h (by decide), fun h => absurd h (by decide)⟩
theorem sf_fl12_4 (s : State) (args : Array Value) (hts : ∀ w ∈ sf_T, w.before args s = true) (hN : ∀ w ∈ sf_N, va_Nw w s) : sf_FF s args sf_T RX12 22 10 5 0 := ⟨RX12, TX12, 59, "StreamFuserModel", tyX12, rfl, by decide, sf_in12, Or.inl (hts _ wt_1197), fun _ h => h, tyX12_ok, nmX12, fun h => absurd h (by decide), fun h => absurd h (by decide)⟩
theorem sf_fl12_5 (s : State) (args : Array Value) (hts : ∀ w ∈ sf_T, w.before args s = true) (hN : ∀ w ∈ sf_N, va_Nw w s) : sf_FF s args sf_T RX12 25 10 7 0 := ⟨RX12, TX12, 59, "StreamFuserModel", tyX12, rfl, by decide, sf_in12, Or.inl (hts _ wt_1199), fun _ h => h, tyX12_ok, nmX12, fun h => absurd h (by decide), fun h => absurd h (by decide)⟩
theorem sf_fl12_6 (s : State) (args : Array Value) (hts : ∀ w ∈ sf_T, w.before args s = true) (hN : ∀ w ∈ sf_N, va_Nw w s) : sf_FF s args sf_T RX12 28 10 12 0 := ⟨RX12, TX12, 59, "StreamFuserModel", tyX12, rfl, by decide, sf_in12, Or.inl (hts _ wt_1204), fun _ h => h, tyX12_ok, nmX12, fun h => absurd h (by decide), fun h => absurd h (by decide)⟩
theorem sf_fl12_7 (s : State) (args : Array Value) (hts : ∀ w ∈ sf_T, w.before args s = true) (hN : ∀ w ∈ sf_N, va_Nw w s) : sf_FF s args sf_T RX12 31 10 13 0 := ⟨RX12, TX12, 59, "StreamFuserModel", tyX12, rfl, by decide, sf_in12, Or.inl (hts _ wt_1205), fun _ h => h, tyX12_ok, nmX12, fun h => absurd h (by decide), fun h => absurd h (by decide)⟩
theorem sf_fl12_8 (s : State) (args : Array Value) (hts : ∀ w ∈ sf_T, w.before args s = true) (hN : ∀ w ∈ sf_N, va_Nw w s) : sf_FF s args sf_T RX12 34 10 14 0 := ⟨RX12, TX12, 59, "StreamFuserModel", tyX12, rfl, by decide, sf_in12, Or.inl (hts _ wt_1206), fun _ h => h, tyX12_ok, nmX12, fun h => absurd h (by decide), fun h => absurd h (by decide)⟩
theorem sf_fl12_9 (s : State) (args : Array Value) (hts : ∀ w ∈ sf_T, w.before args s = true) (hN : ∀ w ∈ sf_N, va_Nw w s) : sf_FF s args sf_T RX12 37 10 15 0 := ⟨RX12, TX12, 59, "StreamFuserModel", tyX12, rfl, by decide, sf_in12, Or.inl (hts _ wt_1207), fun _ h => h, tyX12_ok, nmX12, fun h => absurd h (by decide), fun h => absurd h (by decide)⟩
theorem sf_fl12_10 (s : State) (args : Array Value) (hts : ∀ w ∈ sf_T, w.before args s = true) (hN : ∀ w ∈ sf_N, va_Nw w s) : sf_FF s args sf_T RX12 40 10 17 0 := ⟨RX12, TX12, 59, "StreamFuserModel", tyX12, rfl, by decide, sf_in12, Or.inl (hts _ wt_1209), fun _ h => h, tyX12_ok, nmX12, fun h => absurd h (by decide), fun h => absurd h (by decide)⟩
theorem sf_fl12_11 (s : State) (args : Array Value) (hts : ∀ w ∈ sf_T, w.before args s = true) (hN : ∀ w ∈ sf_N, va_Nw w s) : sf_FF s args sf_T RX12 43 10 18 0 := ⟨RX12, TX12, 59, "StreamFuserModel", tyX12, rfl, by decide, sf_in12, Or.inl (hts _ wt_1210), fun _ h => h, tyX12_ok, nmX12, fun h => absurd h (by decide), fun h => absurd h (by decide)⟩
theorem sf_fl12_12 (s : State) (args : Array Value) (hts : ∀ w ∈ sf_T, w.before args s = true) (hN : ∀ w ∈ sf_N, va_Nw w s) : sf_FF s args sf_T RX12 46 10 19 0 := ⟨RX12, TX12, 59, "StreamFuserModel", tyX12, rfl, by decide, sf_in12, Or.inl (hts _ wt_1211), fun _ h => h, tyX12_ok, nmX12, fun h => absurd h (by decide), fun h => absurd h (by decide)⟩
theorem sf_fl12_13 (s : State) (args : Array Value) (hts : ∀ w ∈ sf_T, w.before args s = true) (hN : ∀ w ∈ sf_N, va_Nw w s) : sf_FF s args sf_T RX12 49 10 20 0 := ⟨RX12, TX12, 59, "StreamFuserModel", tyX12, rfl, by decide, sf_in12, Or.inl (hts _ wt_1212), fun _ h => h, tyX12_ok, nmX12, fun h => absurd h (by decide), fun h => absurd h (by decide)⟩
theorem sf_fl12_14 (s : State) (args : Array Value) (hts : ∀ w ∈ sf_T, w.before args s = true) (hN : ∀ w ∈ sf_N, va_Nw w s) : sf_FF s args sf_T RX12 52 10 22 0 := ⟨RX12, TX12, 59, "StreamFuserModel", tyX12, rfl, by decide, sf_in12, Or.inl (hts _ wt_1214), fun _ h => h, tyX12_ok, nmX12, fun h => absurd h (by decide), fun h => absurd h (by decide)⟩
theorem sf_fl12_15 (s : State) (args : Array Value) (hts : ∀ w ∈ sf_T, w.before args s = true) (hN : ∀ w ∈ sf_N, va_Nw w s) : sf_FF s args sf_T RX12 55 10 23 0 := ⟨RX12, TX12, 59, "StreamFuserModel", tyX12, rfl, by decide, sf_in12, Or.inl (hts _ wt_1215), fun _ h => h, tyX12_ok, nmX12, fun h => absurd h (by decide), fun h => absurd h (by decide)⟩
theorem sf_fl12_16 (s : State) (args : Array Value) (hts : ∀ w ∈ sf_T, w.before args s = true) (hN : ∀ w ∈ sf_N, va_Nw w s) : sf_FF s args sf_T RX12 58 10 24 0 := ⟨RX12, TX12, 59, "StreamFuserModel", tyX12, rfl, by decide, sf_in12, Or.inl (hts _ wt_1216), fun _ h => h, tyX12_ok, nmX12, fun h => absurd h (by decide), fun h => absurd h (by decide)⟩
theorem sf_fl12_17 (s : State) (args : Array Value) (hts : ∀ w ∈ sf_T, w.before args s = true) (hN : ∀ w ∈ sf_N, va_Nw w s) : sf_FF s args sf_T RX12 61 10 25 0 := ⟨RX12, TX12, 59, "StreamFuserModel", tyX12, rfl, by decide, sf_in12, Or.inl (hts _ wt_1217), fun _ h => h, tyX12_ok, nmX12, fun h => absurd h (by decide), fun h => absurd h (by decide)⟩
theorem sf_fl12_18 (s : State) (args : Array Value) (hts : ∀ w ∈ sf_T, w.before args s = true) (hN : ∀ w ∈ sf_N, va_Nw w s) : sf_FF s args sf_T RX12 64 10 26 0 := ⟨RX12, TX12, 59, "StreamFuserModel", tyX12, rfl, by decide, sf_in12, Or.inl (hts _ wt_1218), fun _ h => h, tyX12_ok, nmX12, fun h => absurd h (by decide), fun h => absurd h (by decide)⟩
theorem sf_fl12_19 (s : State) (args : Array Value) (hts : ∀ w ∈ sf_T, w.before args s = true) (hN : ∀ w ∈ sf_N, va_Nw w s) : sf_FF s args sf_T RX12 67 10 27 0 := ⟨RX12, TX12, 59, "StreamFuserModel", tyX12, rfl, by decide, sf_in12, Or.inl (hts _ wt_1219), fun _ h => h, tyX12_ok, nmX12, fun h => absurd h (by decide), fun h => absurd h (by decide)⟩
theorem sf_fl12_20 (s : State) (args : Array Value) (hts : ∀ w ∈ sf_T, w.before args s = true) (hN : ∀ w ∈ sf_N, va_Nw w s) : sf_FF s args sf_T RX12 70 10 28 0 := ⟨RX12, TX12, 59, "StreamFuserModel", tyX12, rfl, by decide, sf_in12, Or.inl (hts _ wt_1220), fun _ h => h, tyX12_ok, nmX12, fun h => absurd h (by decide), fun h => absurd h (by decide)⟩
theorem sf_fl12_21 (s : State) (args : Array Value) (hts : ∀ w ∈ sf_T, w.before args s = true) (hN : ∀ w ∈ sf_N, va_Nw w s) : sf_FF s args sf_T RX12 73 10 30 0 := ⟨RX12, TX12, 59, "StreamFuserModel", tyX12, rfl, by decide, sf_in12, Or.inl (hts _ wt_1222), fun _ h => h, tyX12_ok, nmX12, fun h => absurd h (by decide), fun h => absurd h (by decide)⟩
theorem sf_fl12_22 (s : State) (args : Array Value) (hts : ∀ w ∈ sf_T, w.before args s = true) (hN : ∀ w ∈ sf_N, va_Nw w s) : sf_FF s args sf_T RX12 76 10 31 0 := ⟨RX12, TX12, 59, "StreamFuserModel", tyX12, rfl, by decide, sf_in12, Or.inl (hts _ wt_1223), fun _ h => h, tyX12_ok, nmX12, fun h => absurd h (by decide), fun h => absurd h (by decide)⟩
theorem sf_fl12_23 (s : State) (args : Array Value) (hts : ∀ w ∈ sf_T, w.before args s = true) (hN : ∀ w ∈ sf_N, va_Nw w s) : sf_FF s args sf_T RX12 79 10 33 0 := ⟨RX12, TX12, 59, "StreamFuserModel", tyX12, rfl, by decide, sf_in12, Or.inl (hts _ wt_1225), fun _ h => h, tyX12_ok, nmX12, fun h => absurd h (by decide), fun h => absurd h (by decide)⟩
theorem sf_fl12_24 (s : State) (args : Array Value) (hts : ∀ w ∈ sf_T, w.before args s = true) (hN : ∀ w ∈ sf_N, va_Nw w s) : sf_FF s args sf_T RX12 82 10 34 0 := ⟨RX12, TX12, 59, "StreamFuserModel", tyX12, rfl, by decide, sf_in12, Or.inl (hts _ wt_1226), fun _ h => h, tyX12_ok, nmX12, fun h => absurd h (by decide), fun h => absurd h (by decide)⟩
theorem sf_fl12_25 (s : State) (args : Array Value) (hts : ∀ w ∈ sf_T, w.before args s = true) (hN : ∀ w ∈ sf_N, va_Nw w s) : sf_FF s args sf_T RX12 85 10 40 0 := ⟨RX12, TX12, 59, "StreamFuserModel", tyX12, rfl, by decide, sf_in12, Or.inl (hts _ wt_1232), fun _ h => h, tyX12_ok, nmX12, fun h => absurd h (by decide), fun h => absurd h (by decide)⟩
theorem sf_fl12_26 (s : State) (args : Array Value) (hts : ∀ w ∈ sf_T, w.before args s = true) (hN : ∀ w ∈ sf_N, va_Nw w s) : sf_FF s args sf_T RX12 88 10 42 0 := ⟨RX12, TX12, 59, "StreamFuserModel", tyX12, rfl, by decide, sf_in12, Or.inl (hts _ wt_1234), fun _ h => h, tyX12_ok, nmX12, fun h => absurd h (by decide), fun h => absurd h (by decide)⟩
theorem sf_fl12_27 (s : State) (args : Array Value) (hts : ∀ w ∈ sf_T, w.before args s = true) (hN : ∀ w ∈ sf_N, va_Nw w s) : sf_FF s args sf_T RX12 91 10 43 0 := ⟨RX12, TX12, 59, "StreamFuserModel", tyX12, rfl, by decide, sf_in12, Or.inl (hts _ wt_1235), fun _ h => h, tyX12_ok, nmX12, fun h => absurd h (by decide), fun h => absurd h (by decide)⟩
theorem sf_fl12_28 (s : State) (args : Array Value) (hts : ∀ w ∈ sf_T, w.before args s = true) (hN : ∀ w ∈ sf_N, va_Nw w s) : sf_FF s args sf_T RX12 94 10 47 0 := ⟨RX12, TX12, 59, "StreamFuserModel", tyX12, rfl, by decide, sf_in12, Or.inl (hts _ wt_1239), fun _ h => h, tyX12_ok, nmX12, fun h => absurd h (by decide), fun h => absurd h (by decide)⟩
theorem sf_fl12_29 (s : State) (args : Array Value) (hts : ∀ w ∈ sf_T, w.before args s = true) (hN : ∀ w ∈ sf_N, va_Nw w s) : sf_FF s args sf_T RX12 97 10 49 0 := ⟨RX12, TX12, 59, "StreamFuserModel", tyX12, rfl, by decide, sf_in12, Or.inl (hts _ wt_1241), fun _ h => h, tyX12_ok, nmX12, fun h => absurd h (by decide), fun h => absurd h (by decide)⟩
theorem sf_fl12_30 (s : State) (args : Array Value) (hts : ∀ w ∈ sf_T, w.before args s = true) (hN : ∀ w ∈ sf_N, va_Nw w s) : sf_FF s args sf_T RX12 100 10 50 0 := ⟨RX12, TX12, 59, "StreamFuserModel", tyX12, rfl, by decide, sf_in12, Or.inl (hts _ wt_1242), fun _ h => h, tyX12_ok, nmX12, fun h => absurd h (by decide), fun h => absurd h (by decide)⟩
theorem sf_fl12_31 (s : State) (args : Array Value) (hts : ∀ w ∈ sf_T, w.before args s = true) (hN : ∀ w ∈ sf_N, va_Nw w s) : sf_FF s args sf_T RX12 103 10 51 0 := ⟨RX12, TX12, 59, "StreamFuserModel", tyX12, rfl, by decide, sf_in12, Or.inl (hts _ wt_1243), fun _ h => h, tyX12_ok, nmX12, fun h => absurd h (by decide), fun h => absurd h (by decide)⟩
theorem sf_fl12_32 (s : State) (args : Array Value) (hts : ∀ w ∈ sf_T, w.before args s = true) (hN : ∀ w ∈ sf_N, va_Nw w s) : sf_FF s args sf_T RX12 106 10 52 0 := ⟨RX12, TX12, 59, "StreamFuserModel", tyX12, rfl, by decide, sf_in12, Or.inl (hts _ wt_1244), fun _ h => h, tyX12_ok, nmX12, fun h => absurd h (by decide), fun h => absurd h (by decide)⟩
theorem sf_fl12_33 (s : State) (args : Array Value) (hts : ∀ w ∈ sf_T, w.before args s = true) (hN : ∀ w ∈ sf_N, va_Nw w s) : sf_FF s args sf_T RX12 109 10 53 0 := ⟨RX12, TX12, 59, "StreamFuserModel", tyX12, rfl, by decide, sf_in12, Or.inl (hts _ wt_1245), fun _ h => h, tyX12_ok, nmX12, fun h => absurd h (by decide), fun h => absurd h (by decide)⟩
theorem sf_fl12_34 (s : State) (args : Array Value) (hts : ∀ w ∈ sf_T, w.before args s = true) (hN : ∀ w ∈ sf_N, va_Nw w s) : sf_FF s args sf_T RX12 112 10 54 0 := ⟨RX12, TX12, 59, "StreamFuserModel", tyX12, rfl, by decide, sf_in12, Or.inl (hts _ wt_1246), fun _ h => h, tyX12_ok, nmX12, fun h => absurd h (by decide), fun h => absurd h (by decide)⟩
theorem sf_fl12_35 (s : State) (args : Array Value) (hts : ∀ w ∈ sf_T, w.before args s = true) (hN : ∀ w ∈ sf_N, va_Nw w s) : sf_FF s args sf_T RX12 115 10 56 0 := ⟨RX12, TX12, 59, "StreamFuserModel", tyX12, rfl, by decide, sf_in12, Or.inl (hts _ wt_1248), fun _ h => h, tyX12_ok, nmX12, fun h => absurd h (by decide), fun h => absurd h (by decide)⟩
theorem sf_fl12_36 (s : State) (args : Array Value) (hts : ∀ w ∈ sf_T, w.before args s = true) (hN : ∀ w ∈ sf_N, va_Nw w s) : sf_FF s args sf_T RX12 118 10 57 0 := ⟨RX12, TX12, 59, "StreamFuserModel", tyX12, rfl, by decide, sf_in12, Or.inl (hts _ wt_1249), fun _ h => h, tyX12_ok, nmX12, fun h => absurd h (by decide), fun h => absurd h (by decide)⟩
theorem sf_fl12_37 (s : State) (args : Array Value) (hts : ∀ w ∈ sf_T, w.before args s = true) (hN : ∀ w ∈ sf_N, va_Nw w s) : sf_FF s args sf_T RX12 121 10 58 0 := ⟨RX12, TX12, 59, "StreamFuserModel", tyX12, rfl, by decide, sf_in12, Or.inl (hts _ wt_1250), fun _ h => h, tyX12_ok, nmX12, fun h => absurd h (by decide), fun h => absurd h (by decide)⟩
theorem sf_fl12_38 (s : State) (args : Array Value) (hts : ∀ w ∈ sf_T, w.before args s = true) (hN : ∀ w ∈ sf_N, va_Nw w s) : sf_FF s args sf_T RX12 126 10 4 1 := ⟨RX12, TX12, 59, "StreamFuserModel", tyX12, rfl, by decide, sf_in12, Or.inl (hts _ wt_1196), fun _ h => h, tyX12_ok, nmX12, fun _ => ⟨rfl, rfl⟩, fun h => absurd h (by decide)⟩
theorem sf_fl12_39 (s : State) (args : Array Value) (hts : ∀ w ∈ sf_T, w.before args s = true) (hN : ∀ w ∈ sf_N, va_Nw w s) : sf_FF s args sf_T RX12 157 10 6 1 := ⟨RX12, TX12, 59, "StreamFuserModel", tyX12, rfl, by decide, sf_in12, Or.inl (hts _ wt_1198), fun _ h => h, tyX12_ok, nmX12, fun _ => ⟨rfl, rfl⟩, fun h => absurd h (by decide)⟩
theorem sf_fl12_40 (s : State) (args : Array Value) (hts : ∀ w ∈ sf_T, w.before args s = true) (hN : ∀ w ∈ sf_N, va_Nw w s) : sf_FF s args sf_T RX12 160 10 8 1 := ⟨RX12, TX12, 59, "StreamFuserModel", tyX12, rfl, by decide, sf_in12, Or.inl (hts _ wt_1200), fun _ h => h, tyX12_ok, nmX12, fun _ => ⟨rfl, rfl⟩, fun h => absurd h (by decide)⟩
theorem sf_fl12_41 (s : State) (args : Array Value) (hts : ∀ w ∈ sf_T, w.before args s = true) (hN : ∀ w ∈ sf_N, va_Nw w s) : sf_FF s args sf_T RX12 169 10 16 1 := ⟨RX12, TX12, 59, "StreamFuserModel", tyX12, rfl, by decide, sf_in12, Or.inl (hts _ wt_1208), fun _ h => h, tyX12_ok, nmX12, fun _ => ⟨rfl, rfl⟩, fun h => absurd h (by decide)⟩
theorem sf_fl12_42 (s : State) (args : Array Value) (hts : ∀ w ∈ sf_T, w.before args s = true) (hN : ∀ w ∈ sf_N, va_Nw w s) : sf_FF s args sf_T RX12 180 10 9 1 := ⟨RX12, TX12, 59, "StreamFuserModel", tyX12, rfl, by decide, sf_in12, Or.inl (hts _ wt_1201), fun _ h => h, tyX12_ok, nmX12, fun _ => ⟨rfl, rfl⟩, fun h => absurd h (by decide)⟩
theorem sf_fl12_43 (s : State) (args : Array Value) (hts : ∀ w ∈ sf_T, w.before args s = true) (hN : ∀ w ∈ sf_N, va_Nw w s) : sf_FF s args sf_T RX12 183 10 11 2 := ⟨RX12, TX12, 59, "StreamFuserModel", tyX12, rfl, by decide, sf_in12, Or.inl (hts _ wt_1203), fun _ h => h, tyX12_ok, nmX12, fun h => absurd h (by decide), fun _ => ⟨rfl, rfl⟩⟩
theorem sf_fl12_44 (s : State) (args : Array Value) (hts : ∀ w ∈ sf_T, w.before args s = true) (hN : ∀ w ∈ sf_N, va_Nw w s) : sf_FF s args sf_T RX12 187 10 10 1 := ⟨RX12, TX12, 59, "StreamFuserModel", tyX12, rfl, by decide, sf_in12, Or.inl (hts _ wt_1202), fun _ h => h, tyX12_ok, nmX12, fun _ => ⟨rfl, rfl⟩, fun h => absurd h (by decide)⟩
theorem sf_fl12_45 (s : State) (args : Array Value) (hts : ∀ w ∈ sf_T, w.before args s = true) (hN : ∀ w ∈ sf_N, va_Nw w s) : sf_FF s args sf_T RX12 206 10 21 1 := ⟨RX12, TX12, 59, "StreamFuserModel", tyX12, rfl, by decide, sf_in12, Or.inl (hts _ wt_1213), fun _ h => h, tyX12_ok, nmX12, fun _ => ⟨rfl, rfl⟩, fun h => absurd h (by decide)⟩
theorem sf_fl12_46 (s : State) (args : Array Value) (hts : ∀ w ∈ sf_T, w.before args s = true) (hN : ∀ w ∈ sf_N, va_Nw w s) : sf_FF s args sf_T RX12 224 10 29 1 := ⟨RX12, TX12, 59, "StreamFuserModel", tyX12, rfl, by decide, sf_in12, Or.inl (hts _ wt_1221), fun _ h => h, tyX12_ok, nmX12, fun _ => ⟨rfl, rfl⟩, fun h => absurd h (by decide)⟩
theorem sf_fl12_47 (s : State) (args : Array Value) (hts : ∀ w ∈ sf_T, w.before args s = true) (hN : ∀ w ∈ sf_N, va_Nw w s) : sf_FF s args sf_T RX12 289 10 32 1 := ⟨RX12, TX12, 59, "StreamFuserModel", tyX12, rfl, by decide, sf_in12, Or.inl (hts _ wt_1224), fun _ h => h, tyX12_ok, nmX12, fun _ => ⟨rfl, rfl⟩, fun h => absurd h (by decide)⟩
theorem sf_fl12_48 (s : State) (args : Array Value) (hts : ∀ w ∈ sf_T, w.before args s = true) (hN : ∀ w ∈ sf_N, va_Nw w s) : sf_FF s args sf_T RX12 294 10 35 1 := ⟨RX12, TX12, 59, "StreamFuserModel", tyX12, rfl, by decide, sf_in12, Or.inl (hts _ wt_1227), fun _ h => h, tyX12_ok, nmX12, fun _ => ⟨rfl, rfl⟩, fun h => absurd h (by decide)⟩
theorem sf_fl12_49 (s : State) (args : Array Value) (hts : ∀ w ∈ sf_T, w.before args s = true) (hN : ∀ w ∈ sf_N, va_Nw w s) : sf_FF s args sf_T RX12 297 10 36 1 := ⟨RX12, TX12, 59, "StreamFuserModel", tyX12, rfl, by decide, sf_in12, Or.inl (hts _ wt_1228), fun _ h => h, tyX12_ok, nmX12, fun _ => ⟨rfl, rfl⟩, fun h => absurd h (by decide)⟩
theorem sf_fl12_50 (s : State) (args : Array Value) (hts : ∀ w ∈ sf_T, w.before args s = true) (hN : ∀ w ∈ sf_N, va_Nw w s) : sf_FF s args sf_T RX12 300 10 44 1 := ⟨RX12, TX12, 59, "StreamFuserModel", tyX12, rfl, by decide, sf_in12, Or.inl (hts _ wt_1236), fun _ h => h, tyX12_ok, nmX12, fun _ => ⟨rfl, rfl⟩, fun h => absurd h (by decide)⟩
theorem sf_fl12_51 (s : State) (args : Array Value) (hts : ∀ w ∈ sf_T, w.before args s = true) (hN : ∀ w ∈ sf_N, va_Nw w s) : sf_FF s args sf_T RX12 303 10 37 1 := ⟨RX12, TX12, 59, "StreamFuserModel", tyX12, rfl, by decide, sf_in12, Or.inl (hts _ wt_1229), fun _ h => h, tyX12_ok, nmX12, fun _ => ⟨rfl, rfl⟩, fun h => absurd h (by decide)⟩
theorem sf_fl12_52 (s : State) (args : Array Value) (hts : ∀ w ∈ sf_T, w.before args s = true) (hN : ∀ w ∈ sf_N, va_Nw w s) : sf_FF s args sf_T RX12 309 10 45 2 := ⟨RX12, TX12, 59, "StreamFuserModel", tyX12, rfl, by decide, sf_in12, Or.inl (hts _ wt_1237), fun _ h => h, tyX12_ok, nmX12, fun h => absurd h (by decide), fun _ => ⟨rfl, rfl⟩⟩
theorem sf_fl12_53 (s : State) (args : Array Value) (hts : ∀ w ∈ sf_T, w.before args s = true) (hN : ∀ w ∈ sf_N, va_Nw w s) : sf_FF s args sf_T RX12 312 10 46 1 := ⟨RX12, TX12, 59, "StreamFuserModel", tyX12, rfl, by decide, sf_in12, Or.inl (hts _ wt_1238), fun _ h => h, tyX12_ok, nmX12, fun _ => ⟨rfl, rfl⟩, fun h => absurd h (by decide)⟩
theorem sf_fl12_54 (s : State) (args : Array Value) (hts : ∀ w ∈ sf_T, w.before args s = true) (hN : ∀ w ∈ sf_N, va_Nw w s) : sf_FF s args sf_T RX12 325 10 38 1 := ⟨RX12, TX12, 59, "StreamFuserModel", tyX12, rfl, by decide, sf_in12, Or.inl (hts _ wt_1230), fun _ h => h, tyX12_ok, nmX12, fun _ => ⟨rfl, rfl⟩, fun h => absurd h (by decide)⟩
theorem sf_fl12_55 (s : State) (args : Array Value) (hts : ∀ w ∈ sf_T, w.before args s = true) (hN : ∀ w ∈ sf_N, va_Nw w s) : sf_FF s args sf_T RX12 349 10 48 1 := ⟨RX12, TX12, 59, "StreamFuserModel", tyX12, rfl, by decide, sf_in12, Or.inl (hts _ wt_1240), fun _ h => h, tyX12_ok, nmX12, fun _ => ⟨rfl, rfl⟩, fun h => absurd h (by decide)⟩
theorem sf_fl12_56 (s : State) (args : Array Value) (hts : ∀ w ∈ sf_T, w.before args s = true) (hN : ∀ w ∈ sf_N, va_Nw w s) : sf_FF s args sf_T RX12 385 10 39 1 := ⟨RX12, TX12, 59, "StreamFuserModel", tyX12, rfl, by decide, sf_in12, Or.inl (hts _ wt_1231), fun _ h => h, tyX12_ok, nmX12, fun _ => ⟨rfl, rfl⟩, fun h => absurd h (by decide)⟩
theorem sf_fl12_57 (s : State) (args : Array Value) (hts : ∀ w ∈ sf_T, w.before args s = true) (hN : ∀ w ∈ sf_N, va_Nw w s) : sf_FF s args sf_T RX12 388 10 41 1 := ⟨RX12, TX12, 59, "StreamFuserModel", tyX12, rfl, by decide, sf_in12, Or.inl (hts _ wt_1233), fun _ h => h, tyX12_ok, nmX12, fun _ => ⟨rfl, rfl⟩, fun h => absurd h (by decide)⟩
theorem sf_fl12_58 (s : State) (args : Array Value) (hts : ∀ w ∈ sf_T, w.before args s = true) (hN : ∀ w ∈ sf_N, va_Nw w s) : sf_FF s args sf_T RX12 408 10 55 1 := ⟨RX12, TX12, 59, "StreamFuserModel", tyX12, rfl, by decide, sf_in12, Or.inl (hts _ wt_1247), fun _ h => h, tyX12_ok, nmX12, fun _ => ⟨rfl, rfl⟩, fun h => absurd h (by decide)⟩
theorem sf_fl12_ok (s : State) (args : Array Value) (hts : ∀ w ∈ sf_T, w.before args s = true) (hN : ∀ w ∈ sf_N, va_Nw w s) : ∀ q ∈ sf_fl12, sf_FF s args sf_T RX12 q.1 q.2.1 q.2.2.1 q.2.2.2 := List.forall_mem_cons.mpr ⟨sf_fl12_0 s args hts hN, List.forall_mem_cons.mpr ⟨sf_fl12_1 s args hts hN, List.forall_mem_cons.mpr ⟨sf_fl12_2 s args hts hN, List.forall_mem_cons.mpr ⟨sf_fl12_3 s args hts hN, List.forall_mem_cons.mpr ⟨sf_fl12_4 s args hts hN, List.forall_mem_cons.mpr ⟨sf_fl12_5 s args hts hN, List.forall_mem_cons.mpr ⟨sf_fl12_6 s args hts hN, List.forall_mem_cons.mpr ⟨sf_fl12_7 s args hts hN, List.forall_mem_cons.mpr ⟨sf_fl12_8 s args hts hN, List.forall_mem_cons.mpr ⟨sf_fl12_9 s args hts hN, List.forall_mem_cons.mpr ⟨sf_fl12_10 s args hts hN, List.forall_mem_cons.mpr ⟨sf_fl12_11 s args hts hN, List.forall_mem_cons.mpr ⟨sf_fl12_12 s args hts hN, List.forall_mem_cons.mpr ⟨sf_fl12_13 s args hts hN, List.forall_mem_cons.mpr ⟨sf_fl12_14 s args hts hN, List.forall_mem_cons.mpr ⟨sf_fl12_15 s args hts hN, List.forall_mem_cons.mpr ⟨sf_fl12_16 s args hts hN, List.forall_mem_cons.mpr ⟨sf_fl12_17 s args hts hN, List.forall_mem_cons.mpr ⟨sf_fl12_18 s args hts hN, List.forall_mem_cons.mpr ⟨sf_fl12_19 s args hts hN, List.forall_mem_cons.mpr ⟨sf_fl12_20 s args hts hN, List.forall_mem_cons.mpr ⟨sf_fl12_21 s args hts hN, List.forall_mem_cons.mpr ⟨sf_fl12_22 s args hts hN, List.forall_mem_cons.mpr ⟨sf_fl12_23 s args hts hN, List.forall_mem_cons.mpr ⟨sf_fl12_24 s args hts hN, List.forall_mem_cons.mpr ⟨sf_fl12_25 s args hts hN, List.forall_mem_cons.mpr ⟨sf_fl12_26 s args hts hN, List.forall_mem_cons.mpr ⟨sf_fl12_27 s args hts hN, List.forall_mem_cons.mpr ⟨sf_fl12_28 s args hts hN, List.forall_mem_cons.mpr ⟨sf_fl12_29 s args hts hN, List.forall_mem_cons.mpr ⟨sf_fl12_30 s args hts hN, List.forall_mem_cons.mpr ⟨sf_fl12_31 s args hts hN, List.forall_mem_cons.mpr ⟨sf_fl12_32 s args hts hN, List.forall_mem_cons.mpr ⟨sf_fl12_33 s args hts hN, List.forall_mem_cons.mpr ⟨sf_fl12_34 s args hts hN, List.forall_mem_cons.mpr ⟨sf_fl12_35 s args hts hN, List.forall_mem_cons.mpr ⟨sf_fl12_36 s args hts hN, List.forall_mem_cons.mpr ⟨sf_fl12_37 s args hts hN, List.forall_mem_cons.mpr ⟨sf_fl12_38 s args hts hN, List.forall_mem_cons.mpr ⟨sf_fl12_39 s args hts hN, List.forall_mem_cons.mpr ⟨sf_fl12_40 s args hts hN, List.forall_mem_cons.mpr ⟨sf_fl12_41 s args hts hN, List.forall_mem_cons.mpr ⟨sf_fl12_42 s args hts hN, List.forall_mem_cons.mpr ⟨sf_fl12_43 s args hts hN, List.forall_mem_cons.mpr ⟨sf_fl12_44 s args hts hN, List.forall_mem_cons.mpr ⟨sf_fl12_45 s args hts hN, List.forall_mem_cons.mpr ⟨sf_fl12_46 s args hts hN, List.forall_mem_cons.mpr ⟨sf_fl12_47 s args hts hN, List.forall_mem_cons.mpr ⟨sf_fl12_48 s args hts hN, List.forall_mem_cons.mpr ⟨sf_fl12_49 s args hts hN, List.forall_mem_cons.mpr ⟨sf_fl12_50 s args hts hN, List.forall_mem_cons.mpr ⟨sf_fl12_51 s args hts hN, List.forall_mem_cons.mpr ⟨sf_fl12_52 s args hts hN, List.forall_mem_cons.mpr ⟨sf_fl12_53 s args hts hN, List.forall_mem_cons.mpr ⟨sf_fl12_54 s args hts hN, List.forall_mem_cons.mpr ⟨sf_fl12_55 s args hts hN, List.forall_mem_cons.mpr ⟨sf_fl12_56 s args hts hN, List.forall_mem_cons.mpr ⟨sf_fl12_57 s args hts hN, List.forall_mem_cons.mpr ⟨sf_fl12_58 s args hts hN, fun _ h => absurd h List.not_mem_nil⟩⟩⟩⟩⟩⟩⟩⟩⟩⟩⟩⟩⟩⟩⟩⟩⟩⟩⟩⟩⟩⟩⟩⟩⟩⟩⟩⟩⟩⟩⟩⟩⟩⟩⟩⟩⟩⟩⟩⟩⟩⟩⟩⟩⟩⟩⟩⟩⟩⟩⟩⟩⟩⟩⟩⟩⟩⟩⟩
def sf_cl12 : List (Nat × Value) := [(154, .int (-2147483648)), (282, .int 1000000), (352, .int 100000000), (415, .int 2147483647), (124, .long (-9223372036854775808)), (130, .long 3), (140, .long 2), (155, .long 255), (176, .long 48), (178, .long 57), (190, .long 51), (219, .long 5), (230, .long 10), (292, .long 12), (365, .long 60), (400, .long 40), (436, .long 31), (438, .long 17)]
theorem sf_cl12_ok (s : State) (args : Array Value) (hts : ∀ w ∈ sf_T, w.before args s = true) : ∀ q ∈ sf_cl12, sf_CC s args RX12 q.1 q.2 := List.forall_mem_cons.mpr ⟨hts _ wt_1405, List.forall_mem_cons.mpr ⟨hts _ wt_1510, List.forall_mem_cons.mpr ⟨hts _ wt_1586, List.forall_mem_cons.mpr ⟨hts _ wt_1692, List.forall_mem_cons.mpr ⟨hts _ wt_1683, List.forall_mem_cons.mpr ⟨hts _ wt_1377, List.forall_mem_cons.mpr ⟨hts _ wt_1381, List.forall_mem_cons.mpr ⟨hts _ wt_1414, List.forall_mem_cons.mpr ⟨hts _ wt_1446, List.forall_mem_cons.mpr ⟨hts _ wt_1447, List.forall_mem_cons.mpr ⟨hts _ wt_1452, List.forall_mem_cons.mpr ⟨hts _ wt_1469, List.forall_mem_cons.mpr ⟨hts _ wt_1497, List.forall_mem_cons.mpr ⟨hts _ wt_1564, List.forall_mem_cons.mpr ⟨hts _ wt_1607, List.forall_mem_cons.mpr ⟨hts _ wt_1569, List.forall_mem_cons.mpr ⟨hts _ wt_1742, List.forall_mem_cons.mpr ⟨hts _ wt_1741, fun _ h => absurd h List.not_mem_nil⟩⟩⟩⟩⟩⟩⟩⟩⟩⟩⟩⟩⟩⟩⟩⟩⟩⟩
theorem mwJ9_abs_067f4 : sf_MW yJ9_abs_067f4 cJ9_abs_067f4 2 (some .long) := ⟨wt_653, wt_157, by decide, by decide⟩
theorem mwJ9_floorMod_7cf53 : sf_MW yJ9_floorMod_7cf53 cJ9_floorMod_7cf53 3 (some .int) := ⟨wt_799, wt_157, by decide, by decide⟩
theorem mwJ9_max_7cf53 : sf_MW yJ9_max_7cf53 cJ9_max_7cf53 2 (some .int) := ⟨wt_631, wt_157, by decide, by decide⟩
theorem mwJ9_max_f86c9 : sf_MW yJ9_max_f86c9 cJ9_max_f86c9 4 (some .long) := ⟨wt_889, wt_157, by decide, by decide⟩
theorem mwJ9_min_7cf53 : sf_MW yJ9_min_7cf53 cJ9_min_7cf53 2 (some .int) := ⟨wt_749, wt_157, by decide, by decide⟩
theorem mwX0_ask : sf_MW yX0_ask cX0_ask 3 (some .boolean) := ⟨wt_777, wt_152, by decide, by decide⟩
theorem mwX0_askChain : sf_MW yX0_askChain cX0_askChain 3 (some .boolean) := ⟨wt_831, wt_152, by decide, by decide⟩
theorem mwX0_askDrop : sf_MW yX0_askDrop cX0_askDrop 5 (some .boolean) := ⟨wt_826, wt_152, by decide, by decide⟩
theorem mwX0_askFilter : sf_MW yX0_askFilter cX0_askFilter 4 (some .boolean) := ⟨wt_807, wt_152, by decide, by decide⟩
theorem mwX0_askOpener : sf_MW yX0_askOpener cX0_askOpener 4 (some .boolean) := ⟨wt_851, wt_152, by decide, by decide⟩
theorem mwX0_askTake : sf_MW yX0_askTake cX0_askTake 3 (some .boolean) := ⟨wt_822, wt_152, by decide, by decide⟩
theorem mwX0_askWhile : sf_MW yX0_askWhile cX0_askWhile 3 (some .boolean) := ⟨wt_818, wt_152, by decide, by decide⟩
theorem mwX0_askZip : sf_MW yX0_askZip cX0_askZip 4 (some .boolean) := ⟨wt_840, wt_152, by decide, by decide⟩
theorem mwX0_play : sf_MW yX0_play cX0_play 3 none := ⟨wt_762, wt_152, by decide, by decide⟩
theorem mwX1_add : sf_MW yX1_add cX1_add 3 none := ⟨wt_1013, wt_154, by decide, by decide⟩
theorem mwX1_addRow : sf_MW yX1_addRow cX1_addRow 3 (some .boolean) := ⟨wt_1026, wt_154, by decide, by decide⟩
theorem mwX1_element : sf_MW yX1_element cX1_element 3 (some .int) := ⟨wt_1022, wt_154, by decide, by decide⟩
theorem mwX1_fill : sf_MW yX1_fill cX1_fill 5 (some .boolean) := ⟨wt_992, wt_154, by decide, by decide⟩
theorem mwX1_fillByOpening : sf_MW yX1_fillByOpening cX1_fillByOpening 5 (some .boolean) := ⟨wt_1018, wt_154, by decide, by decide⟩
theorem mwX1_fillFromInput : sf_MW yX1_fillFromInput cX1_fillFromInput 5 (some .boolean) := ⟨wt_1033, wt_154, by decide, by decide⟩
theorem mwX1_fillFromProducer : sf_MW yX1_fillFromProducer cX1_fillFromProducer 5 (some .boolean) := ⟨wt_997, wt_154, by decide, by decide⟩
theorem mwX1_make : sf_MW yX1_make cX1_make 3 (some .boolean) := ⟨wt_987, wt_154, by decide, by decide⟩
theorem mwX1_play : sf_MW yX1_play cX1_play 3 none := ⟨wt_982, wt_154, by decide, by decide⟩
theorem mwX1_zip : sf_MW yX1_zip cX1_zip 6 none := ⟨wt_1044, wt_154, by decide, by decide⟩
theorem mwX10_change : sf_MW yX10_change cX10_change 4 (some .boolean) := ⟨wt_784, wt_150, by decide, by decide⟩
theorem mwX10_divide : sf_MW yX10_divide cX10_divide 4 (some .boolean) := ⟨wt_789, wt_150, by decide, by decide⟩
theorem mwX10_isReady : sf_MW yX10_isReady cX10_isReady 2 (some .boolean) := ⟨wt_874, wt_150, by decide, by decide⟩
theorem mwX10_join : sf_MW yX10_join cX10_join 4 (some .int) := ⟨wt_846, wt_150, by decide, by decide⟩
theorem mwX10_modulo : sf_MW yX10_modulo cX10_modulo 2 (some .int) := ⟨wt_796, wt_150, by decide, by decide⟩
theorem mwX10_openedFor : sf_MW yX10_openedFor cX10_openedFor 3 (some .int) := ⟨wt_900, wt_150, by decide, by decide⟩
theorem mwX10_passes : sf_MW yX10_passes cX10_passes 4 (some .boolean) := ⟨wt_814, wt_150, by decide, by decide⟩
theorem mwX10_supplied : sf_MW yX10_supplied cX10_supplied 3 (some .int) := ⟨wt_913, wt_150, by decide, by decide⟩
theorem mwX10_supply : sf_MW yX10_supply cX10_supply 2 (some .long) := ⟨wt_886, wt_150, by decide, by decide⟩
theorem mwX11_copy : sf_MW yX11_copy cX11_copy 6 (some .int) := ⟨wt_1141, wt_144, by decide, by decide⟩
theorem mwX11_count : sf_MW yX11_count cX11_count 2 (some .int) := ⟨wt_1160, wt_144, by decide, by decide⟩
theorem mwX11_digest : sf_MW yX11_digest cX11_digest 4 (some .long) := ⟨wt_1164, wt_144, by decide, by decide⟩
theorem mwX11_elementError : sf_MW yX11_elementError cX11_elementError 4 (some .int) := ⟨wt_1120, wt_144, by decide, by decide⟩
theorem mwX11_failure : sf_MW yX11_failure cX11_failure 2 (some .int) := ⟨wt_1079, wt_144, by decide, by decide⟩
theorem mwX11_fault : sf_MW yX11_fault cX11_fault 1 (some .int) := ⟨wt_549, wt_144, by decide, by decide⟩
theorem mwX11_find : sf_MW yX11_find cX11_find 2 (some .int) := ⟨wt_1103, wt_144, by decide, by decide⟩
theorem mwX11_fold : sf_MW yX11_fold cX11_fold 2 (some .long) := ⟨wt_1058, wt_144, by decide, by decide⟩
theorem mwX11_get : sf_MW yX11_get cX11_get 5 (some .int) := ⟨wt_1136, wt_144, by decide, by decide⟩
theorem mwX11_isForm : sf_MW yX11_isForm cX11_isForm 1 (some .boolean) := ⟨wt_1099, wt_144, by decide, by decide⟩
theorem mwX11_isSheet : sf_MW yX11_isSheet cX11_isSheet 1 (some .boolean) := ⟨wt_893, wt_144, by decide, by decide⟩
theorem mwX11_lay : sf_MW yX11_lay cX11_lay 6 (some .int) := ⟨wt_1116, wt_144, by decide, by decide⟩
theorem mwX11_lose : sf_MW yX11_lose cX11_lose 3 (some .int) := ⟨wt_1111, wt_144, by decide, by decide⟩
theorem mwX11_mixPlan : sf_MW yX11_mixPlan cX11_mixPlan 7 (some .long) := ⟨wt_1172, wt_144, by decide, by decide⟩
theorem mwX11_mixRun : sf_MW yX11_mixRun cX11_mixRun 7 (some .long) := ⟨wt_1179, wt_144, by decide, by decide⟩
theorem mwX11_node : sf_MW yX11_node cX11_node 3 (some .int) := ⟨wt_658, wt_144, by decide, by decide⟩
theorem mwX11_plan : sf_MW yX11_plan cX11_plan 2 (some .int) := ⟨wt_610, wt_144, by decide, by decide⟩
theorem mwX11_result : sf_MW yX11_result cX11_result 2 (some .long) := ⟨wt_1053, wt_144, by decide, by decide⟩
theorem mwX11_rules : sf_MW yX11_rules cX11_rules 2 (some .int) := ⟨wt_754, wt_144, by decide, by decide⟩
theorem mwX11_run : sf_MW yX11_run cX11_run 3 (some .int) := ⟨wt_925, wt_144, by decide, by decide⟩
theorem mwX11_saves : sf_MW yX11_saves cX11_saves 3 (some .int) := ⟨wt_758, wt_144, by decide, by decide⟩
theorem mwX11_sheet : sf_MW yX11_sheet cX11_sheet 4 (some .int) := ⟨wt_1095, wt_144, by decide, by decide⟩
theorem mwX11_text : sf_MW yX11_text cX11_text 2 (some .int) := ⟨wt_667, wt_144, by decide, by decide⟩
theorem mwX11_tidy : sf_MW yX11_tidy cX11_tidy 2 (some .int) := ⟨wt_671, wt_144, by decide, by decide⟩
theorem mwX11_told : sf_MW yX11_told cX11_told 2 (some .int) := ⟨wt_1083, wt_144, by decide, by decide⟩
theorem mwX11_type : sf_MW yX11_type cX11_type 2 (some .int) := ⟨wt_537, wt_144, by decide, by decide⟩
theorem mwX11_wipe : sf_MW yX11_wipe cX11_wipe 2 (some .int) := ⟨wt_545, wt_144, by decide, by decide⟩
theorem mwX11_write : sf_MW yX11_write cX11_write 4 (some .int) := ⟨wt_1155, wt_144, by decide, by decide⟩
theorem mwX11_written : sf_MW yX11_written cX11_written 3 (some .long) := ⟨wt_1087, wt_144, by decide, by decide⟩
theorem mwX12_adds : sf_MW yX12_adds cX12_adds 3 none := ⟨wt_1602, wt_156, by decide, by decide⟩
theorem mwX12_after : sf_MW yX12_after cX12_after 4 (some .int) := ⟨wt_1647, wt_156, by decide, by decide⟩
theorem mwX12_afterOne : sf_MW yX12_afterOne cX12_afterOne 3 (some .int) := ⟨wt_1651, wt_156, by decide, by decide⟩
theorem mwX12_asks : sf_MW yX12_asks cX12_asks 5 (some .boolean) := ⟨wt_1659, wt_156, by decide, by decide⟩
theorem mwX12_asksNext : sf_MW yX12_asksNext cX12_asksNext 3 (some .int) := ⟨wt_1663, wt_156, by decide, by decide⟩
theorem mwX12_becomes : sf_MW yX12_becomes cX12_becomes 5 none := ⟨wt_1537, wt_156, by decide, by decide⟩
theorem mwX12_begins : sf_MW yX12_begins cX12_begins 5 none := ⟨wt_1581, wt_156, by decide, by decide⟩
theorem mwX12_changes : sf_MW yX12_changes cX12_changes 1 (some .boolean) := ⟨wt_1529, wt_156, by decide, by decide⟩
theorem mwX12_changesRow : sf_MW yX12_changesRow cX12_changesRow 9 none := ⟨wt_1615, wt_156, by decide, by decide⟩
theorem mwX12_copy : sf_MW yX12_copy cX12_copy 7 (some .int) := ⟨wt_1409, wt_156, by decide, by decide⟩
theorem mwX12_count : sf_MW yX12_count cX12_count 2 (some .int) := ⟨wt_1732, wt_156, by decide, by decide⟩
theorem mwX12_cut : sf_MW yX12_cut cX12_cut 2 (some .int) := ⟨wt_1400, wt_156, by decide, by decide⟩
theorem mwX12_cuts : sf_MW yX12_cuts cX12_cuts 4 none := ⟨wt_1544, wt_156, by decide, by decide⟩
theorem mwX12_deepest : sf_MW yX12_deepest cX12_deepest 3 (some .int) := ⟨wt_1736, wt_156, by decide, by decide⟩
theorem mwX12_digest : sf_MW yX12_digest cX12_digest 4 (some .long) := ⟨wt_1740, wt_156, by decide, by decide⟩
theorem mwX12_draws : sf_MW yX12_draws cX12_draws 1 (some .boolean) := ⟨wt_1611, wt_156, by decide, by decide⟩
theorem mwX12_fails : sf_MW yX12_fails cX12_fails 3 none := ⟨wt_1598, wt_156, by decide, by decide⟩
theorem mwX12_failure : sf_MW yX12_failure cX12_failure 2 (some .int) := ⟨wt_1696, wt_156, by decide, by decide⟩
theorem mwX12_fault : sf_MW yX12_fault cX12_fault 1 (some .int) := ⟨wt_1422, wt_156, by decide, by decide⟩
theorem mwX12_faultNow : sf_MW yX12_faultNow cX12_faultNow 4 (some .int) := ⟨wt_1426, wt_156, by decide, by decide⟩
theorem mwX12_fills : sf_MW yX12_fills cX12_fills 7 none := ⟨wt_1606, wt_156, by decide, by decide⟩
theorem mwX12_finds : sf_MW yX12_finds cX12_finds 2 (some .int) := ⟨wt_1385, wt_156, by decide, by decide⟩
theorem mwX12_fold : sf_MW yX12_fold cX12_fold 2 (some .long) := ⟨wt_1687, wt_156, by decide, by decide⟩
theorem mwX12_foldBy : sf_MW yX12_foldBy cX12_foldBy 7 (some .long) := ⟨wt_1691, wt_156, by decide, by decide⟩
theorem mwX12_get : sf_MW yX12_get cX12_get 4 (some .int) := ⟨wt_1404, wt_156, by decide, by decide⟩
theorem mwX12_gives : sf_MW yX12_gives cX12_gives 3 none := ⟨wt_1643, wt_156, by decide, by decide⟩
theorem mwX12_greater : sf_MW yX12_greater cX12_greater 2 (some .int) := ⟨wt_1551, wt_156, by decide, by decide⟩
theorem mwX12_hangs : sf_MW yX12_hangs cX12_hangs 4 none := ⟨wt_1464, wt_156, by decide, by decide⟩
theorem mwX12_hasEndless : sf_MW yX12_hasEndless cX12_hasEndless 2 (some .boolean) := ⟨wt_1573, wt_156, by decide, by decide⟩
theorem mwX12_hears : sf_MW yX12_hears cX12_hears 2 (some .int) := ⟨wt_1667, wt_156, by decide, by decide⟩
theorem mwX12_hearsOne : sf_MW yX12_hearsOne cX12_hearsOne 2 (some .int) := ⟨wt_1671, wt_156, by decide, by decide⟩
theorem mwX12_hearsOpen : sf_MW yX12_hearsOpen cX12_hearsOpen 2 (some .int) := ⟨wt_1675, wt_156, by decide, by decide⟩
theorem mwX12_in : sf_MW yX12_in cX12_in 6 (some .boolean) := ⟨wt_1380, wt_156, by decide, by decide⟩
theorem mwX12_isNil : sf_MW yX12_isNil cX12_isNil 2 (some .boolean) := ⟨wt_1522, wt_156, by decide, by decide⟩
theorem mwX12_isPure : sf_MW yX12_isPure cX12_isPure 3 (some .boolean) := ⟨wt_1477, wt_156, by decide, by decide⟩
theorem mwX12_isSheet : sf_MW yX12_isSheet cX12_isSheet 1 (some .boolean) := ⟨wt_1376, wt_156, by decide, by decide⟩
theorem mwX12_joined : sf_MW yX12_joined cX12_joined 4 (some .int) := ⟨wt_1635, wt_156, by decide, by decide⟩
theorem mwX12_joinsRows : sf_MW yX12_joinsRows cX12_joinsRows 5 none := ⟨wt_1631, wt_156, by decide, by decide⟩
theorem mwX12_keptDown : sf_MW yX12_keptDown cX12_keptDown 1 (some .int) := ⟨wt_1708, wt_156, by decide, by decide⟩
theorem mwX12_lacks : sf_MW yX12_lacks cX12_lacks 4 (some .int) := ⟨wt_1397, wt_156, by decide, by decide⟩
theorem mwX12_lay : sf_MW yX12_lay cX12_lay 6 (some .int) := ⟨wt_1393, wt_156, by decide, by decide⟩
theorem mwX12_lays : sf_MW yX12_lays cX12_lays 4 none := ⟨wt_1728, wt_156, by decide, by decide⟩
theorem mwX12_lesser : sf_MW yX12_lesser cX12_lesser 2 (some .int) := ⟨wt_1540, wt_156, by decide, by decide⟩
theorem mwX12_lose : sf_MW yX12_lose cX12_lose 2 (some .int) := ⟨wt_1389, wt_156, by decide, by decide⟩
theorem mwX12_made : sf_MW yX12_made cX12_made 5 (some .int) := ⟨wt_1623, wt_156, by decide, by decide⟩
theorem mwX12_makesRows : sf_MW yX12_makesRows cX12_makesRows 4 none := ⟨wt_1585, wt_156, by decide, by decide⟩
theorem mwX12_nil : sf_MW yX12_nil cX12_nil 3 none := ⟨wt_1559, wt_156, by decide, by decide⟩
theorem mwX12_no : sf_MW yX12_no cX12_no 1 (some .long) := ⟨wt_1682, wt_156, by decide, by decide⟩
theorem mwX12_node : sf_MW yX12_node cX12_node 3 (some .int) := ⟨wt_1468, wt_156, by decide, by decide⟩
theorem mwX12_nodeBy : sf_MW yX12_nodeBy cX12_nodeBy 3 (some .int) := ⟨wt_1473, wt_156, by decide, by decide⟩
theorem mwX12_numbersOf : sf_MW yX12_numbersOf cX12_numbersOf 1 (some .int) := ⟨wt_1492, wt_156, by decide, by decide⟩
theorem mwX12_opensFor : sf_MW yX12_opensFor cX12_opensFor 3 none := ⟨wt_1655, wt_156, by decide, by decide⟩
theorem mwX12_opensRow : sf_MW yX12_opensRow cX12_opensRow 4 (some .int) := ⟨wt_1594, wt_156, by decide, by decide⟩
theorem mwX12_partsOf : sf_MW yX12_partsOf cX12_partsOf 1 (some .int) := ⟨wt_1433, wt_156, by decide, by decide⟩
theorem mwX12_passes : sf_MW yX12_passes cX12_passes 4 (some .boolean) := ⟨wt_1619, wt_156, by decide, by decide⟩
theorem mwX12_places : sf_MW yX12_places cX12_places 6 none := ⟨wt_1460, wt_156, by decide, by decide⟩
theorem mwX12_plan : sf_MW yX12_plan cX12_plan 3 (some .int) := ⟨wt_1456, wt_156, by decide, by decide⟩
theorem mwX12_planTells : sf_MW yX12_planTells cX12_planTells 7 (some .long) := ⟨wt_1747, wt_156, by decide, by decide⟩
theorem mwX12_result : sf_MW yX12_result cX12_result 2 (some .long) := ⟨wt_1679, wt_156, by decide, by decide⟩
theorem mwX12_ruleAt : sf_MW yX12_ruleAt cX12_ruleAt 3 (some .int) := ⟨wt_1518, wt_156, by decide, by decide⟩
theorem mwX12_ruleOfCut : sf_MW yX12_ruleOfCut cX12_ruleOfCut 4 (some .int) := ⟨wt_1526, wt_156, by decide, by decide⟩
theorem mwX12_rules : sf_MW yX12_rules cX12_rules 2 (some .int) := ⟨wt_1563, wt_156, by decide, by decide⟩
theorem mwX12_run : sf_MW yX12_run cX12_run 4 (some .int) := ⟨wt_1568, wt_156, by decide, by decide⟩
theorem mwX12_runs : sf_MW yX12_runs cX12_runs 6 none := ⟨wt_1577, wt_156, by decide, by decide⟩
theorem mwX12_saves : sf_MW yX12_saves cX12_saves 2 (some .int) := ⟨wt_1720, wt_156, by decide, by decide⟩
theorem mwX12_savesBy : sf_MW yX12_savesBy cX12_savesBy 4 (some .int) := ⟨wt_1724, wt_156, by decide, by decide⟩
theorem mwX12_sheet : sf_MW yX12_sheet cX12_sheet 5 (some .int) := ⟨wt_1373, wt_156, by decide, by decide⟩
theorem mwX12_steps : sf_MW yX12_steps cX12_steps 5 (some .int) := ⟨wt_1639, wt_156, by decide, by decide⟩
theorem mwX12_takesLetter : sf_MW yX12_takesLetter cX12_takesLetter 3 (some .boolean) := ⟨wt_1430, wt_156, by decide, by decide⟩
theorem mwX12_takesNumber : sf_MW yX12_takesNumber cX12_takesNumber 5 (some .boolean) := ⟨wt_1445, wt_156, by decide, by decide⟩
theorem mwX12_takesSign : sf_MW yX12_takesSign cX12_takesSign 4 (some .boolean) := ⟨wt_1451, wt_156, by decide, by decide⟩
theorem mwX12_tells : sf_MW yX12_tells cX12_tells 2 none := ⟨wt_1489, wt_156, by decide, by decide⟩
theorem mwX12_tellsNumber : sf_MW yX12_tellsNumber cX12_tellsNumber 7 none := ⟨wt_1496, wt_156, by decide, by decide⟩
theorem mwX12_text : sf_MW yX12_text cX12_text 2 (some .int) := ⟨wt_1481, wt_156, by decide, by decide⟩
theorem mwX12_textBy : sf_MW yX12_textBy cX12_textBy 2 (some .int) := ⟨wt_1501, wt_156, by decide, by decide⟩
theorem mwX12_tidies : sf_MW yX12_tidies cX12_tidies 5 (some .int) := ⟨wt_1509, wt_156, by decide, by decide⟩
theorem mwX12_tidiesOnce : sf_MW yX12_tidiesOnce cX12_tidiesOnce 5 (some .boolean) := ⟨wt_1514, wt_156, by decide, by decide⟩
theorem mwX12_tidy : sf_MW yX12_tidy cX12_tidy 3 (some .int) := ⟨wt_1505, wt_156, by decide, by decide⟩
theorem mwX12_told : sf_MW yX12_told cX12_told 2 (some .int) := ⟨wt_1700, wt_156, by decide, by decide⟩
theorem mwX12_turns : sf_MW yX12_turns cX12_turns 5 none := ⟨wt_1548, wt_156, by decide, by decide⟩
theorem mwX12_type : sf_MW yX12_type cX12_type 2 (some .int) := ⟨wt_1413, wt_156, by decide, by decide⟩
theorem mwX12_uses : sf_MW yX12_uses cX12_uses 4 none := ⟨wt_1533, wt_156, by decide, by decide⟩
theorem mwX12_usesMore : sf_MW yX12_usesMore cX12_usesMore 4 none := ⟨wt_1555, wt_156, by decide, by decide⟩
theorem mwX12_wants : sf_MW yX12_wants cX12_wants 2 none := ⟨wt_1441, wt_156, by decide, by decide⟩
theorem mwX12_wantsBehind : sf_MW yX12_wantsBehind cX12_wantsBehind 5 none := ⟨wt_1437, wt_156, by decide, by decide⟩
theorem mwX12_wantsRow : sf_MW yX12_wantsRow cX12_wantsRow 4 (some .int) := ⟨wt_1590, wt_156, by decide, by decide⟩
theorem mwX12_wipe : sf_MW yX12_wipe cX12_wipe 2 (some .int) := ⟨wt_1418, wt_156, by decide, by decide⟩
theorem mwX12_write : sf_MW yX12_write cX12_write 4 (some .int) := ⟨wt_1716, wt_156, by decide, by decide⟩
theorem mwX12_writesDown : sf_MW yX12_writesDown cX12_writesDown 3 none := ⟨wt_1627, wt_156, by decide, by decide⟩
theorem mwX12_writesPlan : sf_MW yX12_writesPlan cX12_writesPlan 2 none := ⟨wt_1485, wt_156, by decide, by decide⟩
theorem mwX12_written : sf_MW yX12_written cX12_written 3 (some .long) := ⟨wt_1704, wt_156, by decide, by decide⟩
theorem mwX12_writtenBy : sf_MW yX12_writtenBy cX12_writtenBy 3 (some .long) := ⟨wt_1712, wt_156, by decide, by decide⟩
theorem mwX2_add : sf_MW yX2_add cX2_add 5 none := ⟨wt_602, wt_145, by decide, by decide⟩
theorem mwX2_cut : sf_MW yX2_cut cX2_cut 4 none := ⟨wt_724, wt_145, by decide, by decide⟩
theorem mwX2_has : sf_MW yX2_has cX2_has 2 (some .boolean) := ⟨wt_662, wt_145, by decide, by decide⟩
theorem mwX2_input : sf_MW yX2_input cX2_input 2 (some .int) := ⟨wt_710, wt_145, by decide, by decide⟩
theorem mwX2_isNil : sf_MW yX2_isNil cX2_isNil 2 (some .boolean) := ⟨wt_689, wt_145, by decide, by decide⟩
theorem mwX2_letterAt : sf_MW yX2_letterAt cX2_letterAt 2 (some .int) := ⟨wt_698, wt_145, by decide, by decide⟩
theorem mwX2_makeNil : sf_MW yX2_makeNil cX2_makeNil 2 none := ⟨wt_720, wt_145, by decide, by decide⟩
theorem mwX2_measure : sf_MW yX2_measure cX2_measure 2 none := ⟨wt_619, wt_145, by decide, by decide⟩
theorem mwX2_measureFromParts : sf_MW yX2_measureFromParts cX2_measureFromParts 6 none := ⟨wt_623, wt_145, by decide, by decide⟩
theorem mwX2_measureParts : sf_MW yX2_measureParts cX2_measureParts 6 none := ⟨wt_628, wt_145, by decide, by decide⟩
theorem mwX2_moveNode : sf_MW yX2_moveNode cX2_moveNode 3 none := ⟨wt_728, wt_145, by decide, by decide⟩
theorem mwX2_numbersOf : sf_MW yX2_numbersOf cX2_numbersOf 1 (some .int) := ⟨wt_574, wt_145, by decide, by decide⟩
theorem mwX2_partsOf : sf_MW yX2_partsOf cX2_partsOf 1 (some .int) := ⟨wt_571, wt_145, by decide, by decide⟩
theorem mwX2_secondPart : sf_MW yX2_secondPart cX2_secondPart 2 (some .int) := ⟨wt_706, wt_145, by decide, by decide⟩
theorem mwX2_swapWithNext : sf_MW yX2_swapWithNext cX2_swapWithNext 6 none := ⟨wt_732, wt_145, by decide, by decide⟩
theorem mwX2_takeFrom : sf_MW yX2_takeFrom cX2_takeFrom 3 none := ⟨wt_614, wt_145, by decide, by decide⟩
theorem mwX3_print : sf_MW yX3_print cX3_print 2 none := ⟨wt_635, wt_146, by decide, by decide⟩
theorem mwX3_printNode : sf_MW yX3_printNode cX3_printNode 4 none := ⟨wt_639, wt_146, by decide, by decide⟩
theorem mwX3_put : sf_MW yX3_put cX3_put 2 none := ⟨wt_644, wt_146, by decide, by decide⟩
theorem mwX3_putNumber : sf_MW yX3_putNumber cX3_putNumber 7 none := ⟨wt_650, wt_146, by decide, by decide⟩
theorem mwX4_accept : sf_MW yX4_accept cX4_accept 2 none := ⟨wt_578, wt_155, by decide, by decide⟩
theorem mwX4_append : sf_MW yX4_append cX4_append 2 (some .boolean) := ⟨wt_541, wt_155, by decide, by decide⟩
theorem mwX4_expect : sf_MW yX4_expect cX4_expect 2 none := ⟨wt_557, wt_155, by decide, by decide⟩
theorem mwX4_expectParts : sf_MW yX4_expectParts cX4_expectParts 4 none := ⟨wt_606, wt_155, by decide, by decide⟩
theorem mwX4_fitsMark : sf_MW yX4_fitsMark cX4_fitsMark 2 (some .boolean) := ⟨wt_591, wt_155, by decide, by decide⟩
theorem mwX4_hasDigit : sf_MW yX4_hasDigit cX4_hasDigit 1 (some .boolean) := ⟨wt_584, wt_155, by decide, by decide⟩
theorem mwX4_hasMark : sf_MW yX4_hasMark cX4_hasMark 1 (some .boolean) := ⟨wt_581, wt_155, by decide, by decide⟩
theorem mwX4_isDigit : sf_MW yX4_isDigit cX4_isDigit 1 (some .boolean) := ⟨wt_594, wt_155, by decide, by decide⟩
theorem mwX4_isLetter : sf_MW yX4_isLetter cX4_isLetter 2 (some .boolean) := ⟨wt_568, wt_155, by decide, by decide⟩
theorem mwX4_peek : sf_MW yX4_peek cX4_peek 1 (some .int) := ⟨wt_565, wt_155, by decide, by decide⟩
theorem mwX4_read : sf_MW yX4_read cX4_read 2 (some .int) := ⟨wt_553, wt_155, by decide, by decide⟩
theorem mwX4_readMark : sf_MW yX4_readMark cX4_readMark 3 (some .int) := ⟨wt_588, wt_155, by decide, by decide⟩
theorem mwX4_readNode : sf_MW yX4_readNode cX4_readNode 7 none := ⟨wt_561, wt_155, by decide, by decide⟩
theorem mwX4_readNumber : sf_MW yX4_readNumber cX4_readNumber 9 (some .int) := ⟨wt_598, wt_155, by decide, by decide⟩
theorem mwX5_apply : sf_MW yX5_apply cX5_apply 3 none := ⟨wt_716, wt_147, by decide, by decide⟩
theorem mwX5_keepOnePart : sf_MW yX5_keepOnePart cX5_keepOnePart 3 none := ⟨wt_742, wt_147, by decide, by decide⟩
theorem mwX5_mergeWithNext : sf_MW yX5_mergeWithNext cX5_mergeWithNext 7 none := ⟨wt_746, wt_147, by decide, by decide⟩
theorem mwX5_place : sf_MW yX5_place cX5_place 5 (some .int) := ⟨wt_680, wt_147, by decide, by decide⟩
theorem mwX5_ruleFor : sf_MW yX5_ruleFor cX5_ruleFor 2 (some .int) := ⟨wt_684, wt_147, by decide, by decide⟩
theorem mwX5_ruleForDrop : sf_MW yX5_ruleForDrop cX5_ruleForDrop 3 (some .int) := ⟨wt_702, wt_147, by decide, by decide⟩
theorem mwX5_ruleForTake : sf_MW yX5_ruleForTake cX5_ruleForTake 2 (some .int) := ⟨wt_694, wt_147, by decide, by decide⟩
theorem mwX5_simplify : sf_MW yX5_simplify cX5_simplify 5 none := ⟨wt_675, wt_147, by decide, by decide⟩
theorem mwX5_swapDropWithTake : sf_MW yX5_swapDropWithTake cX5_swapDropWithTake 3 none := ⟨wt_736, wt_147, by decide, by decide⟩
theorem mwX6_begin : sf_MW yX6_begin cX6_begin 1 none := ⟨wt_766, wt_149, by decide, by decide⟩
theorem mwX6_draw : sf_MW yX6_draw cX6_draw 2 (some .boolean) := ⟨wt_905, wt_149, by decide, by decide⟩
theorem mwX6_fail : sf_MW yX6_fail cX6_fail 3 none := ⟨wt_793, wt_149, by decide, by decide⟩
theorem mwX6_failed : sf_MW yX6_failed cX6_failed 1 (some .boolean) := ⟨wt_835, wt_149, by decide, by decide⟩
theorem mwX6_give : sf_MW yX6_give cX6_give 2 none := ⟨wt_921, wt_149, by decide, by decide⟩
theorem mwX6_greatest : sf_MW yX6_greatest cX6_greatest 3 (some .int) := ⟨wt_1067, wt_149, by decide, by decide⟩
theorem mwX6_kept : sf_MW yX6_kept cX6_kept 1 (some .int) := ⟨wt_1091, wt_149, by decide, by decide⟩
theorem mwX6_note : sf_MW yX6_note cX6_note 3 none := ⟨wt_803, wt_149, by decide, by decide⟩
theorem mwX6_smallest : sf_MW yX6_smallest cX6_smallest 3 (some .int) := ⟨wt_1073, wt_149, by decide, by decide⟩
theorem mwX6_sum : sf_MW yX6_sum cX6_sum 4 (some .long) := ⟨wt_1062, wt_149, by decide, by decide⟩
theorem mwX7_at : sf_MW yX7_at cX7_at 3 (some .int) := ⟨wt_917, wt_148, by decide, by decide⟩
theorem mwX7_cast : sf_MW yX7_cast cX7_cast 2 (some .int) := ⟨wt_1132, wt_148, by decide, by decide⟩
theorem mwX7_hasElement : sf_MW yX7_hasElement cX7_hasElement 3 (some .boolean) := ⟨wt_1124, wt_148, by decide, by decide⟩
theorem mwX7_hasPart : sf_MW yX7_hasPart cX7_hasPart 4 (some .boolean) := ⟨wt_1145, wt_148, by decide, by decide⟩
theorem mwX7_isLost : sf_MW yX7_isLost cX7_isLost 2 (some .boolean) := ⟨wt_879, wt_148, by decide, by decide⟩
theorem mwX7_move : sf_MW yX7_move cX7_move 6 none := ⟨wt_1149, wt_148, by decide, by decide⟩
theorem mwX7_renew : sf_MW yX7_renew cX7_renew 5 none := ⟨wt_1107, wt_148, by decide, by decide⟩
theorem mwX7_store : sf_MW yX7_store cX7_store 4 none := ⟨wt_1128, wt_148, by decide, by decide⟩
theorem mwX8_given : sf_MW yX8_given cX8_given 2 (some .int) := ⟨wt_966, wt_153, by decide, by decide⟩
theorem mwX8_play : sf_MW yX8_play cX8_play 4 none := ⟨wt_929, wt_153, by decide, by decide⟩
theorem mwX8_step : sf_MW yX8_step cX8_step 3 (some .int) := ⟨wt_938, wt_153, by decide, by decide⟩
theorem mwX8_stepChain : sf_MW yX8_stepChain cX8_stepChain 4 (some .int) := ⟨wt_943, wt_153, by decide, by decide⟩
theorem mwX8_stepOne : sf_MW yX8_stepOne cX8_stepOne 4 (some .int) := ⟨wt_971, wt_153, by decide, by decide⟩
theorem mwX8_stepOpener : sf_MW yX8_stepOpener cX8_stepOpener 4 (some .int) := ⟨wt_955, wt_153, by decide, by decide⟩
theorem mwX8_stepZip : sf_MW yX8_stepZip cX8_stepZip 4 (some .int) := ⟨wt_948, wt_153, by decide, by decide⟩
theorem mwX9_open : sf_MW yX9_open cX9_open 3 none := ⟨wt_858, wt_151, by decide, by decide⟩
theorem mwX9_produce : sf_MW yX9_produce cX9_produce 2 (some .boolean) := ⟨wt_867, wt_151, by decide, by decide⟩
theorem mwX9_restart : sf_MW yX9_restart cX9_restart 4 none := ⟨wt_772, wt_151, by decide, by decide⟩
/-! places where functions take over -/
def sf_CK {ρ : Type} (Wt : Nat → sf_L → List Value → sf_S → Prop) (Post : ρ → Prop) (pc : Nat) (f : sf_M ρ) : Prop := ∀ L st σ u, f L st σ = some u → Post u → Wt pc L st σ
theorem sf_sm_nil {ρ : Type} {Wt : Nat → sf_L → List Value → sf_S → Prop} {Post : ρ → Prop} : ∀ pc f L st σ r, sf_as (α := sf_M ρ) [] pc = some f → f L st σ = some r → Post r → Wt pc L st σ := fun _ _ _ _ _ _ h => by cases h
theorem sf_sm_cons {ρ : Type} {Wt : Nat → sf_L → List Value → sf_S → Prop} {Post : ρ → Prop} {pc0 : Nat} {f0 : sf_M ρ} {sm : List (Nat × sf_M ρ)} (h : sf_CK Wt Post pc0 f0) (h2 : ∀ pc f L st σ r, sf_as sm pc = some f → f L st σ = some r → Post r → Wt pc L st σ) : ∀ pc f L st σ r, sf_as ((pc0, f0) :: sm) pc = some f → f L st σ = some r → Post r → Wt pc L st σ := by
  intro pc f L st σ r hs hf hp
  simp only [sf_as] at hs
  split at hs
  · rename_i hk
    cases hs
    rw [← Nat.eq_of_beq_eq_true hk]
    exact h _ _ _ _ hf hp
  · exact h2 _ _ _ _ _ _ hs hf hp
abbrev sf_nil {ρ : Type} (st : List Value) (f : Option ρ) : Option ρ := match st with
  | [] => f
  | _ => none
theorem sf_nil_inv {ρ : Type} {st : List Value} {f : Option ρ} {r : ρ} (h : sf_nil st f = some r) : st = [] ∧ f = some r := by
  unfold sf_nil at h
  split at h
  · exact ⟨rfl, h⟩
  · cases h
abbrev sf_a1 {ρ : Type} (st : List Value) (f : Nat → List Value → Option ρ) : Option ρ := match st with
  | .ref x :: r => f x r
  | _ => none
theorem sf_a1_inv {ρ : Type} {st : List Value} {f : Nat → List Value → Option ρ} {r : ρ} (h : sf_a1 st f = some r) : ∃ x q, st = .ref x :: q ∧ f x q = some r := by
  unfold sf_a1 at h
  split at h
  · exact ⟨_, _, rfl, h⟩
  · cases h
abbrev sf_eq {ρ : Type} (a b : Nat) (f : Option ρ) : Option ρ := match Nat.beq a b with
  | true => f
  | false => none
theorem sf_eq_inv {ρ : Type} {a b : Nat} {f : Option ρ} {r : ρ} (h : sf_eq a b f = some r) : a = b ∧ f = some r := by
  unfold sf_eq at h
  split at h
  · rename_i hk
    exact ⟨Nat.eq_of_beq_eq_true hk, h⟩
  · cases h
def sf_le : sf_L → (Nat → Option Value) → Prop
  | [], _ => True
  | (i, some v) :: l, g => g i = some v ∧ sf_le l g
  | (_, none) :: l, g => sf_le l g
theorem sf_le_ok : ∀ {L0 L : sf_L}, sf_le L0 (sf_get L) → ∀ i v, sf_get L0 i = some v → sf_get L i = some v
  | [], _, _, _, _, h => by simp [sf_get] at h
  | (k, o) :: l, L, hle, i, v, h => by
    rcases sf_get_put h with ⟨h1, h2⟩ | ⟨-, h2, -⟩
    · subst h1
      subst h2
      exact hle.1
    · cases o with
      | none => exact sf_le_ok (L0 := l) hle i v h2
      | some w => exact sf_le_ok (L0 := l) hle.2 i v h2
end
section
/-! rooms; receivers -/
def sf_rm (f o : Nat) : Room := { frames := f, cells := 0, slots := 0, locals := o }
theorem sf_RM_of {f o f2 o2 nL2 : Nat} (h1 : f2 + 1 ≤ f) (h2 : 8 + (nL2 + 11) + o2 ≤ o) : sf_RM (sf_rm f o) (sf_rm f2 o2) nL2 := ⟨h1, h2, rfl, rfl⟩
theorem sf_RB_of {f o : Nat} (h1 : 1 ≤ f) (h2 : 63 ≤ o) : sf_RB (sf_rm f o) := ⟨h1, h2, rfl, rfl⟩
abbrev sf_rv (l : List Nat) (q : Nat) : Bool := l.any fun x => Nat.beq x q
theorem sf_rv_mem {l : List Nat} {q : Nat} (h : sf_rv l q = true) : q ∈ l := by
  obtain ⟨x, h1, h2⟩ := List.any_eq_true.mp h
  rw [← Nat.eq_of_beq_eq_true h2]
  exact h1
abbrev sf_rv2 (l : List (Nat × Nat)) (q r : Nat) : Bool := l.any fun x => Nat.beq x.1 q && Nat.beq x.2 r
theorem sf_rv2_mem {l : List (Nat × Nat)} {q r : Nat} (h : sf_rv2 l q r = true) : (q, r) ∈ l := by
  obtain ⟨⟨x, y⟩, h1, h2⟩ := List.any_eq_true.mp h
  simp only [Bool.and_eq_true] at h2
  have e1 : x = q := Nat.eq_of_beq_eq_true h2.1
  have e2 : y = r := Nat.eq_of_beq_eq_true h2.2
  subst e1; subst e2
  exact h1
/-- a call whose answer is a number, a long, nothing -/
theorem sf_jI_eq {ρ : Type} (lay : sf_Lay) (cs : List Nat) (n : Nat) (g : List Value → sf_S → Option (Int32 × sf_S)) : (sf_jI lay cs n g : sf_J ρ) = sf_jG lay cs n g sf_vI := rfl
theorem sf_jL_eq {ρ : Type} (lay : sf_Lay) (cs : List Nat) (n : Nat) (g : List Value → sf_S → Option (Int64 × sf_S)) : (sf_jL lay cs n g : sf_J ρ) = sf_jG lay cs n g sf_vL := rfl
theorem sf_jV_eq {ρ : Type} (lay : sf_Lay) (cs : List Nat) (n : Nat) (g : List Value → sf_S → Option sf_S) : (sf_jV lay cs n g : sf_J ρ) = sf_jG lay cs n g sf_vV := rfl
theorem sf_C_none {l : Launch} {lay : sf_Lay} {y : MethodName} {cc : ByteArray} {nL : Nat} {ret : Option FieldType} {f o : Nat} {F : List Value → sf_S → Option sf_Q} (h : ∀ av σ, F av σ = none) : sf_C l lay y cc nL ret (sf_rm f o) F := ⟨rfl, rfl, fun D cy ad sz av σ r _ hr => by rw [h av σ] at hr; cases hr⟩
end
section
/-! ===== 10.X2 ===== -/
-- ===== StreamFuser$Plan.partsOf(I)I =====
abbrev tX2_partsOf : List (Nat × sf_E) := [(0, (.iload_n 0, 1, 0, .null, [], [])), (1, (.lookupswitch 119 #[(37, 115), (42, 115), (43, 115), (47, 115), (63, 115), (99, 117), (100, 115), (107, 115), (108, 115), (116, 115), (119, 115), (120, 117), (122, 117)], 116, 120, .null, [((37), 116), ((42), 116), ((43), 116), ((47), 116), ((63), 116), ((99), 118), ((100), 116), ((107), 116), ((108), 116), ((116), 116), ((119), 116), ((120), 118), ((122), 118)], [])), (116, (.iconst 1, 117, 0, .int (1), [], [])), (117, (.ireturn, 118, 0, .null, [], [])), (118, (.iconst 2, 119, 0, .int (2), [], [])), (119, (.ireturn, 120, 0, .null, [], [])), (120, (.iconst 0, 121, 0, .int (0), [], [])), (121, (.ireturn, 122, 0, .null, [], []))]
noncomputable abbrev jX2_partsOf : List (Nat × sf_J (Int32 × sf_S)) := []
noncomputable def dX2_partsOf (x0 : Int32) (σ : sf_S) : Option (Int32 × sf_S) :=
  if x0 = (37 : Int32) then
    some ((1 : Int32), σ)
  else
  if x0 = (42 : Int32) then
    some ((1 : Int32), σ)
  else
  if x0 = (43 : Int32) then
    some ((1 : Int32), σ)
  else
  if x0 = (47 : Int32) then
    some ((1 : Int32), σ)
  else
  if x0 = (63 : Int32) then
    some ((1 : Int32), σ)
  else
  if x0 = (99 : Int32) then
    some ((2 : Int32), σ)
  else
  if x0 = (100 : Int32) then
    some ((1 : Int32), σ)
  else
  if x0 = (107 : Int32) then
    some ((1 : Int32), σ)
  else
  if x0 = (108 : Int32) then
    some ((1 : Int32), σ)
  else
  if x0 = (116 : Int32) then
    some ((1 : Int32), σ)
  else
  if x0 = (119 : Int32) then
    some ((1 : Int32), σ)
  else
  if x0 = (120 : Int32) then
    some ((2 : Int32), σ)
  else
  if x0 = (122 : Int32) then
    some ((2 : Int32), σ)
  else
    some ((0 : Int32), σ)
noncomputable abbrev gX2_partsOf (av : List Value) (σ : sf_S) : Option (Int32 × sf_S) := match av with
  | [.int x0] => dX2_partsOf x0 σ
  | _ => none
set_option maxRecDepth 100000 in
set_option maxHeartbeats 4000000 in
theorem rX2_partsOf {Wt : Nat → sf_L → List Value → sf_S → Prop} {Post : (Int32 × sf_S) → Prop} (hs : sf_Snd Wt sf_layC sf_hI jX2_partsOf tX2_partsOf Post) (hm : sf_mono Wt) : ∀ av σ u, gX2_partsOf av σ = some u → Post u → (∀ ad, (lg_sl (av.map (sf_v ad))).length ≤ 1) ∧ Wt 0 (sf_ent 0 av) [] σ := by
  intro av σ u h hp
  unfold gX2_partsOf at h
  split at h
  · rename_i x0
    refine ⟨fun ad => Nat.le_of_ble_eq_true rfl, ?_⟩
    exact sf_run_ok hs sf_sm_nil 13 0 _ _ σ u h hp
  · cases h
theorem kX2_partsOf (l : Launch) : sf_C l sf_layC yX2_partsOf cX2_partsOf 1 (some .int) (sf_rm 1 100) (fun av σ => (gX2_partsOf av σ).map sf_vI) :=
  sf_met (tab := tX2_partsOf) (J := jX2_partsOf) (fl := sf_fl2) (cl := sf_cl2) (by decide +kernel) ⟨rfl, rfl⟩ sf_RH_I (by decide +kernel) sf_fl2_ok sf_cl2_ok
    (sf_JO_nil)
    (fun Wt Post hs hm => rX2_partsOf hs hm)
-- ===== StreamFuser$Plan.numbersOf(I)I =====
abbrev tX2_numbersOf : List (Nat × sf_E) := [(0, (.iload_n 0, 1, 0, .null, [], [])), (1, (.lookupswitch 103 #[(37, 99), (42, 99), (43, 99), (47, 99), (63, 99), (100, 99), (105, 101), (107, 99), (114, 101), (116, 99), (119, 99)], 100, 104, .null, [((37), 100), ((42), 100), ((43), 100), ((47), 100), ((63), 100), ((100), 100), ((105), 102), ((107), 100), ((114), 102), ((116), 100), ((119), 100)], [])), (100, (.iconst 1, 101, 0, .int (1), [], [])), (101, (.ireturn, 102, 0, .null, [], [])), (102, (.iconst 2, 103, 0, .int (2), [], [])), (103, (.ireturn, 104, 0, .null, [], [])), (104, (.iconst 0, 105, 0, .int (0), [], [])), (105, (.ireturn, 106, 0, .null, [], []))]
noncomputable abbrev jX2_numbersOf : List (Nat × sf_J (Int32 × sf_S)) := []
noncomputable def dX2_numbersOf (x0 : Int32) (σ : sf_S) : Option (Int32 × sf_S) :=
  if x0 = (37 : Int32) then
    some ((1 : Int32), σ)
  else
  if x0 = (42 : Int32) then
    some ((1 : Int32), σ)
  else
  if x0 = (43 : Int32) then
    some ((1 : Int32), σ)
  else
  if x0 = (47 : Int32) then
    some ((1 : Int32), σ)
  else
  if x0 = (63 : Int32) then
    some ((1 : Int32), σ)
  else
  if x0 = (100 : Int32) then
    some ((1 : Int32), σ)
  else
  if x0 = (105 : Int32) then
    some ((2 : Int32), σ)
  else
  if x0 = (107 : Int32) then
    some ((1 : Int32), σ)
  else
  if x0 = (114 : Int32) then
    some ((2 : Int32), σ)
  else
  if x0 = (116 : Int32) then
    some ((1 : Int32), σ)
  else
  if x0 = (119 : Int32) then
    some ((1 : Int32), σ)
  else
    some ((0 : Int32), σ)
noncomputable abbrev gX2_numbersOf (av : List Value) (σ : sf_S) : Option (Int32 × sf_S) := match av with
  | [.int x0] => dX2_numbersOf x0 σ
  | _ => none
set_option maxRecDepth 100000 in
set_option maxHeartbeats 4000000 in
theorem rX2_numbersOf {Wt : Nat → sf_L → List Value → sf_S → Prop} {Post : (Int32 × sf_S) → Prop} (hs : sf_Snd Wt sf_layC sf_hI jX2_numbersOf tX2_numbersOf Post) (hm : sf_mono Wt) : ∀ av σ u, gX2_numbersOf av σ = some u → Post u → (∀ ad, (lg_sl (av.map (sf_v ad))).length ≤ 1) ∧ Wt 0 (sf_ent 0 av) [] σ := by
  intro av σ u h hp
  unfold gX2_numbersOf at h
  split at h
  · rename_i x0
    refine ⟨fun ad => Nat.le_of_ble_eq_true rfl, ?_⟩
    exact sf_run_ok hs sf_sm_nil 13 0 _ _ σ u h hp
  · cases h
theorem kX2_numbersOf (l : Launch) : sf_C l sf_layC yX2_numbersOf cX2_numbersOf 1 (some .int) (sf_rm 1 100) (fun av σ => (gX2_numbersOf av σ).map sf_vI) :=
  sf_met (tab := tX2_numbersOf) (J := jX2_numbersOf) (fl := sf_fl2) (cl := sf_cl2) (by decide +kernel) ⟨rfl, rfl⟩ sf_RH_I (by decide +kernel) sf_fl2_ok sf_cl2_ok
    (sf_JO_nil)
    (fun Wt Post hs hm => rX2_numbersOf hs hm)
-- ===== StreamFuser$Plan.has(I)Z =====
abbrev tX2_has : List (Nat × sf_E) := [(0, (.iload_n 1, 1, 0, .null, [], [])), (1, (.ifCond .lt 15, 4, 16, .null, [], [])), (4, (.iload_n 1, 5, 0, .null, [], [])), (5, (.aload_n 0, 6, 0, .null, [], [])), (6, (.getfield 44, 9, 0, .null, [], [(2, 4)])), (9, (.if_icmp .ge 7, 12, 16, .null, [], [])), (12, (.iconst 1, 13, 0, .int (1), [], [])), (13, (.goto 4, 16, 17, .null, [], [])), (16, (.iconst 0, 17, 0, .int (0), [], [])), (17, (.ireturn, 18, 0, .null, [], []))]
noncomputable abbrev jX2_has : List (Nat × sf_J (Int32 × sf_S)) := []
noncomputable def dX2_has (q : Nat) (x1 : Int32) (σ : sf_S) : Option (Int32 × sf_S) :=
  if x1 < 0 then
    some ((0 : Int32), σ)
  else
    if (σ q 4) ≤ x1 then
      some ((0 : Int32), σ)
    else
      some ((1 : Int32), σ)
noncomputable abbrev gX2_has (av : List Value) (σ : sf_S) : Option (Int32 × sf_S) := match av with
  | [.ref q, .int x1] => (match sf_rv [1, 36] q with | true => dX2_has q x1 σ | false => none)
  | _ => none
set_option maxRecDepth 100000 in
set_option maxHeartbeats 4000000 in
theorem rX2_has {Wt : Nat → sf_L → List Value → sf_S → Prop} {Post : (Int32 × sf_S) → Prop} (hs : sf_Snd Wt sf_layC sf_hZ jX2_has tX2_has Post) (hm : sf_mono Wt) : ∀ av σ u, gX2_has av σ = some u → Post u → (∀ ad, (lg_sl (av.map (sf_v ad))).length ≤ 2) ∧ Wt 0 (sf_ent 0 av) [] σ := by
  intro av σ u h hp
  unfold gX2_has at h
  split at h
  · rename_i q x1
    split at h
    · rename_i hq
      have hq : q = 1 ∨ q = 36 := by simpa using sf_rv_mem hq
      refine ⟨fun ad => Nat.le_of_ble_eq_true rfl, ?_⟩
      rcases hq with rfl | rfl
      · exact sf_run_ok hs sf_sm_nil 15 0 _ _ σ u h hp
      · exact sf_run_ok hs sf_sm_nil 15 0 _ _ σ u h hp
    · cases h
  · cases h
theorem kX2_has (l : Launch) : sf_C l sf_layC yX2_has cX2_has 2 (some .boolean) (sf_rm 1 100) (fun av σ => (gX2_has av σ).map sf_vI) :=
  sf_met (tab := tX2_has) (J := jX2_has) (fl := sf_fl2) (cl := sf_cl2) (by decide +kernel) ⟨rfl, rfl⟩ sf_RH_Z (by decide +kernel) sf_fl2_ok sf_cl2_ok
    (sf_JO_nil)
    (fun Wt Post hs hm => rX2_has hs hm)
-- ===== StreamFuser$Plan.letterAt(I)I =====
abbrev tX2_letterAt : List (Nat × sf_E) := [(0, (.iload_n 1, 1, 0, .null, [], [])), (1, (.ifCond .lt 20, 4, 21, .null, [], [])), (4, (.iload_n 1, 5, 0, .null, [], [])), (5, (.aload_n 0, 6, 0, .null, [], [])), (6, (.getfield 44, 9, 0, .null, [], [(2, 4)])), (9, (.if_icmp .ge 12, 12, 21, .null, [], [])), (12, (.aload_n 0, 13, 0, .null, [], [])), (13, (.getfield 9, 16, 0, .null, [], [(2, 0)])), (16, (.iload_n 1, 17, 0, .null, [], [])), (17, (.iaload, 18, 0, .null, [], [])), (18, (.goto 4, 21, 22, .null, [], [])), (21, (.iconst (-1), 22, 0, .int (-1), [], [])), (22, (.ireturn, 23, 0, .null, [], []))]
noncomputable abbrev jX2_letterAt : List (Nat × sf_J (Int32 × sf_S)) := []
noncomputable def dX2_letterAt (q : Nat) (x1 : Int32) (σ : sf_S) : Option (Int32 × sf_S) :=
  if x1 < 0 then
    some ((-1 : Int32), σ)
  else
    if (σ q 4) ≤ x1 then
      some ((-1 : Int32), σ)
    else
      if sf_in x1 40 then
        some ((σ (q + 1) x1.toNatClampNeg), σ)
      else
        none
noncomputable abbrev gX2_letterAt (av : List Value) (σ : sf_S) : Option (Int32 × sf_S) := match av with
  | [.ref q, .int x1] => (match sf_rv [1, 36] q with | true => dX2_letterAt q x1 σ | false => none)
  | _ => none
set_option maxRecDepth 100000 in
set_option maxHeartbeats 4000000 in
theorem rX2_letterAt {Wt : Nat → sf_L → List Value → sf_S → Prop} {Post : (Int32 × sf_S) → Prop} (hs : sf_Snd Wt sf_layC sf_hI jX2_letterAt tX2_letterAt Post) (hm : sf_mono Wt) : ∀ av σ u, gX2_letterAt av σ = some u → Post u → (∀ ad, (lg_sl (av.map (sf_v ad))).length ≤ 2) ∧ Wt 0 (sf_ent 0 av) [] σ := by
  intro av σ u h hp
  unfold gX2_letterAt at h
  split at h
  · rename_i q x1
    split at h
    · rename_i hq
      have hq : q = 1 ∨ q = 36 := by simpa using sf_rv_mem hq
      refine ⟨fun ad => Nat.le_of_ble_eq_true rfl, ?_⟩
      rcases hq with rfl | rfl
      · exact sf_run_ok hs sf_sm_nil 18 0 _ _ σ u h hp
      · exact sf_run_ok hs sf_sm_nil 18 0 _ _ σ u h hp
    · cases h
  · cases h
theorem kX2_letterAt (l : Launch) : sf_C l sf_layC yX2_letterAt cX2_letterAt 2 (some .int) (sf_rm 1 100) (fun av σ => (gX2_letterAt av σ).map sf_vI) :=
  sf_met (tab := tX2_letterAt) (J := jX2_letterAt) (fl := sf_fl2) (cl := sf_cl2) (by decide +kernel) ⟨rfl, rfl⟩ sf_RH_I (by decide +kernel) sf_fl2_ok sf_cl2_ok
    (sf_JO_nil)
    (fun Wt Post hs hm => rX2_letterAt hs hm)
-- ===== StreamFuser$Plan.isNil(I)Z =====
abbrev tX2_isNil : List (Nat × sf_E) := [(0, (.aload_n 0, 1, 0, .null, [], [])), (1, (.iload_n 1, 2, 0, .null, [], [])), (2, (.invokevirtual 47, 5, 0, .null, [], [])), (5, (.ifCond .eq 36, 8, 41, .null, [], [])), (8, (.aload_n 0, 9, 0, .null, [], [])), (9, (.getfield 9, 12, 0, .null, [], [(2, 0)])), (12, (.iload_n 1, 13, 0, .null, [], [])), (13, (.iaload, 14, 0, .null, [], [])), (14, (.bipush 114, 16, 0, .int (114), [], [])), (16, (.if_icmp .ne 25, 19, 41, .null, [], [])), (19, (.aload_n 0, 20, 0, .null, [], [])), (20, (.getfield 18, 23, 0, .null, [], [(2, 2)])), (23, (.iload_n 1, 24, 0, .null, [], [])), (24, (.iaload, 25, 0, .null, [], [])), (25, (.ifCond .ne 16, 28, 41, .null, [], [])), (28, (.aload_n 0, 29, 0, .null, [], [])), (29, (.getfield 21, 32, 0, .null, [], [(2, 3)])), (32, (.iload_n 1, 33, 0, .null, [], [])), (33, (.iaload, 34, 0, .null, [], [])), (34, (.ifCond .ne 7, 37, 41, .null, [], [])), (37, (.iconst 1, 38, 0, .int (1), [], [])), (38, (.goto 4, 41, 42, .null, [], [])), (41, (.iconst 0, 42, 0, .int (0), [], [])), (42, (.ireturn, 43, 0, .null, [], []))]
noncomputable abbrev jX2_isNil : List (Nat × sf_J (Int32 × sf_S)) := [(2, sf_jI sf_layC [2] 2 gX2_has)]
noncomputable def dX2_isNil (q : Nat) (x1 : Int32) (σ : sf_S) : Option (Int32 × sf_S) :=
  (dX2_has q x1 σ).bind fun u1 =>
  if u1.1 = 0 then
    some ((0 : Int32), u1.2)
  else
    if sf_in x1 40 then
      if ¬ (u1.2 (q + 1) x1.toNatClampNeg) = (114 : Int32) then
        some ((0 : Int32), u1.2)
      else
        if sf_in x1 40 then
          if ¬ (u1.2 (q + 3) x1.toNatClampNeg) = 0 then
            some ((0 : Int32), u1.2)
          else
            if sf_in x1 40 then
              if ¬ (u1.2 (q + 4) x1.toNatClampNeg) = 0 then
                some ((0 : Int32), u1.2)
              else
                some ((1 : Int32), u1.2)
            else
              none
        else
          none
    else
      none
noncomputable abbrev gX2_isNil (av : List Value) (σ : sf_S) : Option (Int32 × sf_S) := match av with
  | [.ref q, .int x1] => (match sf_rv [1, 36] q with | true => dX2_isNil q x1 σ | false => none)
  | _ => none
set_option maxRecDepth 100000 in
set_option maxHeartbeats 4000000 in
theorem rX2_isNil {Wt : Nat → sf_L → List Value → sf_S → Prop} {Post : (Int32 × sf_S) → Prop} (hs : sf_Snd Wt sf_layC sf_hZ jX2_isNil tX2_isNil Post) (hm : sf_mono Wt) : ∀ av σ u, gX2_isNil av σ = some u → Post u → (∀ ad, (lg_sl (av.map (sf_v ad))).length ≤ 2) ∧ Wt 0 (sf_ent 0 av) [] σ := by
  intro av σ u h hp
  unfold gX2_isNil at h
  split at h
  · rename_i q x1
    split at h
    · rename_i hq
      have hq : q = 1 ∨ q = 36 := by simpa using sf_rv_mem hq
      refine ⟨fun ad => Nat.le_of_ble_eq_true rfl, ?_⟩
      rcases hq with rfl | rfl
      · exact sf_run_ok hs sf_sm_nil 29 0 _ _ σ u h hp
      · exact sf_run_ok hs sf_sm_nil 29 0 _ _ σ u h hp
    · cases h
  · cases h
theorem kX2_isNil (l : Launch) : sf_C l sf_layC yX2_isNil cX2_isNil 2 (some .boolean) (sf_rm 2 121) (fun av σ => (gX2_isNil av σ).map sf_vI) :=
  sf_met (tab := tX2_isNil) (J := jX2_isNil) (fl := sf_fl2) (cl := sf_cl2) (by decide +kernel) ⟨rfl, rfl⟩ sf_RH_Z (by decide +kernel) sf_fl2_ok sf_cl2_ok
    (sf_JO_cons (sf_je_V (n := 2) (cs := [2]) (tv := sf_vI) (kX2_has l) mwX2_has (by decide +kernel : decode cX2_isNil 2 = .ok (.invokevirtual 47, 3)) wt_690 wt_661 wt_18 (by decide +kernel) (by decide) (by decide) (List.forall_mem_cons.mpr ⟨⟨_, _, rfl⟩, fun _ h => absurd h List.not_mem_nil⟩) (sf_RM_of (by omega) (by omega))) (sf_JO_nil))
    (fun Wt Post hs hm => rX2_isNil hs hm)
-- ===== StreamFuser$Plan.secondPart(I)I =====
abbrev tX2_secondPart : List (Nat × sf_E) := [(0, (.iload_n 1, 1, 0, .null, [], [])), (1, (.ifCond .lt 24, 4, 25, .null, [], [])), (4, (.iload_n 1, 5, 0, .null, [], [])), (5, (.iconst 1, 6, 0, .int (1), [], [])), (6, (.iadd, 7, 0, .null, [], [])), (7, (.aload_n 0, 8, 0, .null, [], [])), (8, (.getfield 44, 11, 0, .null, [], [(2, 4)])), (11, (.if_icmp .ge 14, 14, 25, .null, [], [])), (14, (.aload_n 0, 15, 0, .null, [], [])), (15, (.getfield 24, 18, 0, .null, [], [(2, 5)])), (18, (.iload_n 1, 19, 0, .null, [], [])), (19, (.iconst 1, 20, 0, .int (1), [], [])), (20, (.iadd, 21, 0, .null, [], [])), (21, (.iaload, 22, 0, .null, [], [])), (22, (.goto 7, 25, 29, .null, [], [])), (25, (.aload_n 0, 26, 0, .null, [], [])), (26, (.getfield 44, 29, 0, .null, [], [(2, 4)])), (29, (.ireturn, 30, 0, .null, [], []))]
noncomputable abbrev jX2_secondPart : List (Nat × sf_J (Int32 × sf_S)) := []
noncomputable def dX2_secondPart (q : Nat) (x1 : Int32) (σ : sf_S) : Option (Int32 × sf_S) :=
  if x1 < 0 then
    some ((σ q 4), σ)
  else
    if (σ q 4) ≤ (x1 + (1 : Int32)) then
      some ((σ q 4), σ)
    else
      if sf_in (x1 + (1 : Int32)) 40 then
        some ((σ (q + 5) ((x1 + (1 : Int32))).toNatClampNeg), σ)
      else
        none
noncomputable abbrev gX2_secondPart (av : List Value) (σ : sf_S) : Option (Int32 × sf_S) := match av with
  | [.ref q, .int x1] => (match sf_rv [1, 36] q with | true => dX2_secondPart q x1 σ | false => none)
  | _ => none
set_option maxRecDepth 100000 in
set_option maxHeartbeats 4000000 in
theorem rX2_secondPart {Wt : Nat → sf_L → List Value → sf_S → Prop} {Post : (Int32 × sf_S) → Prop} (hs : sf_Snd Wt sf_layC sf_hI jX2_secondPart tX2_secondPart Post) (hm : sf_mono Wt) : ∀ av σ u, gX2_secondPart av σ = some u → Post u → (∀ ad, (lg_sl (av.map (sf_v ad))).length ≤ 2) ∧ Wt 0 (sf_ent 0 av) [] σ := by
  intro av σ u h hp
  unfold gX2_secondPart at h
  split at h
  · rename_i q x1
    split at h
    · rename_i hq
      have hq : q = 1 ∨ q = 36 := by simpa using sf_rv_mem hq
      refine ⟨fun ad => Nat.le_of_ble_eq_true rfl, ?_⟩
      rcases hq with rfl | rfl
      · exact sf_run_ok hs sf_sm_nil 23 0 _ _ σ u h hp
      · exact sf_run_ok hs sf_sm_nil 23 0 _ _ σ u h hp
    · cases h
  · cases h
theorem kX2_secondPart (l : Launch) : sf_C l sf_layC yX2_secondPart cX2_secondPart 2 (some .int) (sf_rm 1 100) (fun av σ => (gX2_secondPart av σ).map sf_vI) :=
  sf_met (tab := tX2_secondPart) (J := jX2_secondPart) (fl := sf_fl2) (cl := sf_cl2) (by decide +kernel) ⟨rfl, rfl⟩ sf_RH_I (by decide +kernel) sf_fl2_ok sf_cl2_ok
    (sf_JO_nil)
    (fun Wt Post hs hm => rX2_secondPart hs hm)
-- ===== StreamFuser$Plan.input(I)I =====
abbrev tX2_input : List (Nat × sf_E) := [(0, (.aload_n 0, 1, 0, .null, [], [])), (1, (.iload_n 1, 2, 0, .null, [], [])), (2, (.invokevirtual 51, 5, 0, .null, [], [])), (5, (.bipush 120, 7, 0, .int (120), [], [])), (7, (.if_icmp .ne 11, 10, 18, .null, [], [])), (10, (.aload_n 0, 11, 0, .null, [], [])), (11, (.iload_n 1, 12, 0, .null, [], [])), (12, (.invokevirtual 55, 15, 0, .null, [], [])), (15, (.goto 6, 18, 21, .null, [], [])), (18, (.iload_n 1, 19, 0, .null, [], [])), (19, (.iconst 1, 20, 0, .int (1), [], [])), (20, (.iadd, 21, 0, .null, [], [])), (21, (.ireturn, 22, 0, .null, [], []))]
noncomputable abbrev jX2_input : List (Nat × sf_J (Int32 × sf_S)) := [(2, sf_jI sf_layC [2] 2 gX2_letterAt), (12, sf_jI sf_layC [2] 2 gX2_secondPart)]
noncomputable def dX2_input (q : Nat) (x1 : Int32) (σ : sf_S) : Option (Int32 × sf_S) :=
  (dX2_letterAt q x1 σ).bind fun u1 =>
  if ¬ u1.1 = (120 : Int32) then
    some ((x1 + (1 : Int32)), u1.2)
  else
    (dX2_secondPart q x1 u1.2).bind fun u2 =>
    some (u2.1, u2.2)
noncomputable abbrev gX2_input (av : List Value) (σ : sf_S) : Option (Int32 × sf_S) := match av with
  | [.ref q, .int x1] => (match sf_rv [1, 36] q with | true => dX2_input q x1 σ | false => none)
  | _ => none
set_option maxRecDepth 100000 in
set_option maxHeartbeats 4000000 in
theorem rX2_input {Wt : Nat → sf_L → List Value → sf_S → Prop} {Post : (Int32 × sf_S) → Prop} (hs : sf_Snd Wt sf_layC sf_hI jX2_input tX2_input Post) (hm : sf_mono Wt) : ∀ av σ u, gX2_input av σ = some u → Post u → (∀ ad, (lg_sl (av.map (sf_v ad))).length ≤ 2) ∧ Wt 0 (sf_ent 0 av) [] σ := by
  intro av σ u h hp
  unfold gX2_input at h
  split at h
  · rename_i q x1
    split at h
    · rename_i hq
      have hq : q = 1 ∨ q = 36 := by simpa using sf_rv_mem hq
      refine ⟨fun ad => Nat.le_of_ble_eq_true rfl, ?_⟩
      rcases hq with rfl | rfl
      · exact sf_run_ok hs sf_sm_nil 18 0 _ _ σ u h hp
      · exact sf_run_ok hs sf_sm_nil 18 0 _ _ σ u h hp
    · cases h
  · cases h
theorem kX2_input (l : Launch) : sf_C l sf_layC yX2_input cX2_input 2 (some .int) (sf_rm 2 121) (fun av σ => (gX2_input av σ).map sf_vI) :=
  sf_met (tab := tX2_input) (J := jX2_input) (fl := sf_fl2) (cl := sf_cl2) (by decide +kernel) ⟨rfl, rfl⟩ sf_RH_I (by decide +kernel) sf_fl2_ok sf_cl2_ok
    (sf_JO_cons (sf_je_V (n := 2) (cs := [2]) (tv := sf_vI) (kX2_letterAt l) mwX2_letterAt (by decide +kernel : decode cX2_input 2 = .ok (.invokevirtual 51, 3)) wt_711 wt_697 wt_24 (by decide +kernel) (by decide) (by decide) (List.forall_mem_cons.mpr ⟨⟨_, _, rfl⟩, fun _ h => absurd h List.not_mem_nil⟩) (sf_RM_of (by omega) (by omega))) (sf_JO_cons (sf_je_V (n := 2) (cs := [2]) (tv := sf_vI) (kX2_secondPart l) mwX2_secondPart (by decide +kernel : decode cX2_input 12 = .ok (.invokevirtual 55, 3)) wt_712 wt_705 wt_26 (by decide +kernel) (by decide) (by decide) (List.forall_mem_cons.mpr ⟨⟨_, _, rfl⟩, fun _ h => absurd h List.not_mem_nil⟩) (sf_RM_of (by omega) (by omega))) (sf_JO_nil)))
    (fun Wt Post hs hm => rX2_input hs hm)
-- ===== StreamFuser$Plan.add(IIII)V =====
abbrev tX2_add : List (Nat × sf_E) := [(0, (.aload_n 0, 1, 0, .null, [], [])), (1, (.getfield 44, 4, 0, .null, [], [(2, 4)])), (4, (.bipush 40, 6, 0, .int (40), [], [])), (6, (.if_icmp .lt 4, 9, 10, .null, [], [])), (9, (.return_, 10, 0, .null, [], [])), (10, (.aload_n 0, 11, 0, .null, [], [])), (11, (.getfield 9, 14, 0, .null, [], [(2, 0)])), (14, (.aload_n 0, 15, 0, .null, [], [])), (15, (.getfield 44, 18, 0, .null, [], [(2, 4)])), (18, (.iload_n 1, 19, 0, .null, [], [])), (19, (.iastore, 20, 0, .null, [], [])), (20, (.aload_n 0, 21, 0, .null, [], [])), (21, (.getfield 15, 24, 0, .null, [], [(2, 1)])), (24, (.aload_n 0, 25, 0, .null, [], [])), (25, (.getfield 44, 28, 0, .null, [], [(2, 4)])), (28, (.iload_n 2, 29, 0, .null, [], [])), (29, (.iastore, 30, 0, .null, [], [])), (30, (.aload_n 0, 31, 0, .null, [], [])), (31, (.getfield 18, 34, 0, .null, [], [(2, 2)])), (34, (.aload_n 0, 35, 0, .null, [], [])), (35, (.getfield 44, 38, 0, .null, [], [(2, 4)])), (38, (.iload_n 3, 39, 0, .null, [], [])), (39, (.iastore, 40, 0, .null, [], [])), (40, (.aload_n 0, 41, 0, .null, [], [])), (41, (.getfield 21, 44, 0, .null, [], [(2, 3)])), (44, (.aload_n 0, 45, 0, .null, [], [])), (45, (.getfield 44, 48, 0, .null, [], [(2, 4)])), (48, (.iload 4, 50, 0, .null, [], [])), (50, (.iastore, 51, 0, .null, [], [])), (51, (.aload_n 0, 52, 0, .null, [], [])), (52, (.dup, 53, 0, .null, [], [])), (53, (.getfield 44, 56, 0, .null, [], [(2, 4)])), (56, (.iconst 1, 57, 0, .int (1), [], [])), (57, (.iadd, 58, 0, .null, [], [])), (58, (.putfield 44, 61, 0, .null, [], [(2, 4)])), (61, (.return_, 62, 0, .null, [], []))]
noncomputable abbrev jX2_add : List (Nat × sf_J sf_S) := []
noncomputable def dX2_add (q : Nat) (x1 : Int32) (x2 : Int32) (x3 : Int32) (x4 : Int32) (σ : sf_S) : Option sf_S :=
  if (σ q 4) < (40 : Int32) then
    let v1 := (σ q 4)
    if sf_in v1 40 then
      let s2 := sf_up σ (q + 1) v1.toNatClampNeg x1
      let v3 := (s2 q 4)
      if sf_in v3 40 then
        let s4 := sf_up s2 (q + 2) v3.toNatClampNeg x2
        let v5 := (s4 q 4)
        if sf_in v5 40 then
          let s6 := sf_up s4 (q + 3) v5.toNatClampNeg x3
          let v7 := (s6 q 4)
          if sf_in v7 40 then
            let s8 := sf_up s6 (q + 4) v7.toNatClampNeg x4
            let s9 := sf_up s8 q 4 ((s8 q 4) + (1 : Int32))
            some s9
          else
            none
        else
          none
      else
        none
    else
      none
  else
    some σ
noncomputable abbrev gX2_add (av : List Value) (σ : sf_S) : Option sf_S := match av with
  | [.ref q, .int x1, .int x2, .int x3, .int x4] => (match sf_rv [1, 36] q with | true => dX2_add q x1 x2 x3 x4 σ | false => none)
  | _ => none
set_option maxRecDepth 100000 in
set_option maxHeartbeats 4000000 in
theorem rX2_add {Wt : Nat → sf_L → List Value → sf_S → Prop} {Post : sf_S → Prop} (hs : sf_Snd Wt sf_layC sf_hV jX2_add tX2_add Post) (hm : sf_mono Wt) : ∀ av σ u, gX2_add av σ = some u → Post u → (∀ ad, (lg_sl (av.map (sf_v ad))).length ≤ 5) ∧ Wt 0 (sf_ent 0 av) [] σ := by
  intro av σ u h hp
  unfold gX2_add at h
  split at h
  · rename_i q x1 x2 x3 x4
    split at h
    · rename_i hq
      have hq : q = 1 ∨ q = 36 := by simpa using sf_rv_mem hq
      refine ⟨fun ad => Nat.le_of_ble_eq_true rfl, ?_⟩
      rcases hq with rfl | rfl
      · exact sf_run_ok hs sf_sm_nil 41 0 _ _ σ u h hp
      · exact sf_run_ok hs sf_sm_nil 41 0 _ _ σ u h hp
    · cases h
  · cases h
theorem kX2_add (l : Launch) : sf_C l sf_layC yX2_add cX2_add 5 none (sf_rm 1 100) (fun av σ => (gX2_add av σ).map sf_vV) :=
  sf_met (tab := tX2_add) (J := jX2_add) (fl := sf_fl2) (cl := sf_cl2) (by decide +kernel) ⟨rfl, rfl⟩ sf_RH_V (by decide +kernel) sf_fl2_ok sf_cl2_ok
    (sf_JO_nil)
    (fun Wt Post hs hm => rX2_add hs hm)
-- ===== StreamFuser$Plan.moveNode(II)V =====
abbrev tX2_moveNode : List (Nat × sf_E) := [(0, (.aload_n 0, 1, 0, .null, [], [])), (1, (.getfield 9, 4, 0, .null, [], [(2, 0)])), (4, (.iload_n 2, 5, 0, .null, [], [])), (5, (.aload_n 0, 6, 0, .null, [], [])), (6, (.getfield 9, 9, 0, .null, [], [(2, 0)])), (9, (.iload_n 1, 10, 0, .null, [], [])), (10, (.iaload, 11, 0, .null, [], [])), (11, (.iastore, 12, 0, .null, [], [])), (12, (.aload_n 0, 13, 0, .null, [], [])), (13, (.getfield 15, 16, 0, .null, [], [(2, 1)])), (16, (.iload_n 2, 17, 0, .null, [], [])), (17, (.aload_n 0, 18, 0, .null, [], [])), (18, (.getfield 15, 21, 0, .null, [], [(2, 1)])), (21, (.iload_n 1, 22, 0, .null, [], [])), (22, (.iaload, 23, 0, .null, [], [])), (23, (.iastore, 24, 0, .null, [], [])), (24, (.aload_n 0, 25, 0, .null, [], [])), (25, (.getfield 18, 28, 0, .null, [], [(2, 2)])), (28, (.iload_n 2, 29, 0, .null, [], [])), (29, (.aload_n 0, 30, 0, .null, [], [])), (30, (.getfield 18, 33, 0, .null, [], [(2, 2)])), (33, (.iload_n 1, 34, 0, .null, [], [])), (34, (.iaload, 35, 0, .null, [], [])), (35, (.iastore, 36, 0, .null, [], [])), (36, (.aload_n 0, 37, 0, .null, [], [])), (37, (.getfield 21, 40, 0, .null, [], [(2, 3)])), (40, (.iload_n 2, 41, 0, .null, [], [])), (41, (.aload_n 0, 42, 0, .null, [], [])), (42, (.getfield 21, 45, 0, .null, [], [(2, 3)])), (45, (.iload_n 1, 46, 0, .null, [], [])), (46, (.iaload, 47, 0, .null, [], [])), (47, (.iastore, 48, 0, .null, [], [])), (48, (.return_, 49, 0, .null, [], []))]
noncomputable abbrev jX2_moveNode : List (Nat × sf_J sf_S) := []
noncomputable def dX2_moveNode (q : Nat) (x1 : Int32) (x2 : Int32) (σ : sf_S) : Option sf_S :=
  if sf_in x1 40 then
    if sf_in x2 40 then
      let s1 := sf_up σ (q + 1) x2.toNatClampNeg (σ (q + 1) x1.toNatClampNeg)
      if sf_in x1 40 then
        if sf_in x2 40 then
          let s2 := sf_up s1 (q + 2) x2.toNatClampNeg (s1 (q + 2) x1.toNatClampNeg)
          if sf_in x1 40 then
            if sf_in x2 40 then
              let s3 := sf_up s2 (q + 3) x2.toNatClampNeg (s2 (q + 3) x1.toNatClampNeg)
              if sf_in x1 40 then
                if sf_in x2 40 then
                  let s4 := sf_up s3 (q + 4) x2.toNatClampNeg (s3 (q + 4) x1.toNatClampNeg)
                  some s4
                else
                  none
              else
                none
            else
              none
          else
            none
        else
          none
      else
        none
    else
      none
  else
    none
noncomputable abbrev gX2_moveNode (av : List Value) (σ : sf_S) : Option sf_S := match av with
  | [.ref q, .int x1, .int x2] => (match sf_rv [1, 36] q with | true => dX2_moveNode q x1 x2 σ | false => none)
  | _ => none
set_option maxRecDepth 100000 in
set_option maxHeartbeats 4000000 in
theorem rX2_moveNode {Wt : Nat → sf_L → List Value → sf_S → Prop} {Post : sf_S → Prop} (hs : sf_Snd Wt sf_layC sf_hV jX2_moveNode tX2_moveNode Post) (hm : sf_mono Wt) : ∀ av σ u, gX2_moveNode av σ = some u → Post u → (∀ ad, (lg_sl (av.map (sf_v ad))).length ≤ 3) ∧ Wt 0 (sf_ent 0 av) [] σ := by
  intro av σ u h hp
  unfold gX2_moveNode at h
  split at h
  · rename_i q x1 x2
    split at h
    · rename_i hq
      have hq : q = 1 ∨ q = 36 := by simpa using sf_rv_mem hq
      refine ⟨fun ad => Nat.le_of_ble_eq_true rfl, ?_⟩
      rcases hq with rfl | rfl
      · exact sf_run_ok hs sf_sm_nil 38 0 _ _ σ u h hp
      · exact sf_run_ok hs sf_sm_nil 38 0 _ _ σ u h hp
    · cases h
  · cases h
theorem kX2_moveNode (l : Launch) : sf_C l sf_layC yX2_moveNode cX2_moveNode 3 none (sf_rm 1 100) (fun av σ => (gX2_moveNode av σ).map sf_vV) :=
  sf_met (tab := tX2_moveNode) (J := jX2_moveNode) (fl := sf_fl2) (cl := sf_cl2) (by decide +kernel) ⟨rfl, rfl⟩ sf_RH_V (by decide +kernel) sf_fl2_ok sf_cl2_ok
    (sf_JO_nil)
    (fun Wt Post hs hm => rX2_moveNode hs hm)
-- ===== StreamFuser$Plan.swapWithNext(I)V =====
abbrev tX2_swapWithNext : List (Nat × sf_E) := [(0, (.aload_n 0, 1, 0, .null, [], [])), (1, (.iload_n 1, 2, 0, .null, [], [])), (2, (.invokevirtual 47, 5, 0, .null, [], [])), (5, (.ifCond .eq 13, 8, 18, .null, [], [])), (8, (.aload_n 0, 9, 0, .null, [], [])), (9, (.iload_n 1, 10, 0, .null, [], [])), (10, (.iconst 1, 11, 0, .int (1), [], [])), (11, (.iadd, 12, 0, .null, [], [])), (12, (.invokevirtual 47, 15, 0, .null, [], [])), (15, (.ifCond .ne 4, 18, 19, .null, [], [])), (18, (.return_, 19, 0, .null, [], [])), (19, (.aload_n 0, 20, 0, .null, [], [])), (20, (.getfield 9, 23, 0, .null, [], [(2, 0)])), (23, (.iload_n 1, 24, 0, .null, [], [])), (24, (.iaload, 25, 0, .null, [], [])), (25, (.istore_n 2, 26, 0, .null, [], [])), (26, (.aload_n 0, 27, 0, .null, [], [])), (27, (.getfield 15, 30, 0, .null, [], [(2, 1)])), (30, (.iload_n 1, 31, 0, .null, [], [])), (31, (.iaload, 32, 0, .null, [], [])), (32, (.istore_n 3, 33, 0, .null, [], [])), (33, (.aload_n 0, 34, 0, .null, [], [])), (34, (.getfield 18, 37, 0, .null, [], [(2, 2)])), (37, (.iload_n 1, 38, 0, .null, [], [])), (38, (.iaload, 39, 0, .null, [], [])), (39, (.istore 4, 41, 0, .null, [], [])), (41, (.aload_n 0, 42, 0, .null, [], [])), (42, (.getfield 21, 45, 0, .null, [], [(2, 3)])), (45, (.iload_n 1, 46, 0, .null, [], [])), (46, (.iaload, 47, 0, .null, [], [])), (47, (.istore 5, 49, 0, .null, [], [])), (49, (.aload_n 0, 50, 0, .null, [], [])), (50, (.iload_n 1, 51, 0, .null, [], [])), (51, (.iconst 1, 52, 0, .int (1), [], [])), (52, (.iadd, 53, 0, .null, [], [])), (53, (.iload_n 1, 54, 0, .null, [], [])), (54, (.invokevirtual 65, 57, 0, .null, [], [])), (57, (.aload_n 0, 58, 0, .null, [], [])), (58, (.getfield 9, 61, 0, .null, [], [(2, 0)])), (61, (.iload_n 1, 62, 0, .null, [], [])), (62, (.iconst 1, 63, 0, .int (1), [], [])), (63, (.iadd, 64, 0, .null, [], [])), (64, (.iload_n 2, 65, 0, .null, [], [])), (65, (.iastore, 66, 0, .null, [], [])), (66, (.aload_n 0, 67, 0, .null, [], [])), (67, (.getfield 15, 70, 0, .null, [], [(2, 1)])), (70, (.iload_n 1, 71, 0, .null, [], [])), (71, (.iconst 1, 72, 0, .int (1), [], [])), (72, (.iadd, 73, 0, .null, [], [])), (73, (.iload_n 3, 74, 0, .null, [], [])), (74, (.iastore, 75, 0, .null, [], [])), (75, (.aload_n 0, 76, 0, .null, [], [])), (76, (.getfield 18, 79, 0, .null, [], [(2, 2)])), (79, (.iload_n 1, 80, 0, .null, [], [])), (80, (.iconst 1, 81, 0, .int (1), [], [])), (81, (.iadd, 82, 0, .null, [], [])), (82, (.iload 4, 84, 0, .null, [], [])), (84, (.iastore, 85, 0, .null, [], [])), (85, (.aload_n 0, 86, 0, .null, [], [])), (86, (.getfield 21, 89, 0, .null, [], [(2, 3)])), (89, (.iload_n 1, 90, 0, .null, [], [])), (90, (.iconst 1, 91, 0, .int (1), [], [])), (91, (.iadd, 92, 0, .null, [], [])), (92, (.iload 5, 94, 0, .null, [], [])), (94, (.iastore, 95, 0, .null, [], [])), (95, (.return_, 96, 0, .null, [], []))]
noncomputable abbrev jX2_swapWithNext : List (Nat × sf_J sf_S) := [(2, sf_jI sf_layC [2] 2 gX2_has), (12, sf_jI sf_layC [2] 2 gX2_has), (54, sf_jV sf_layC [2] 3 gX2_moveNode)]
noncomputable def dX2_swapWithNext (q : Nat) (x1 : Int32) (σ : sf_S) : Option sf_S :=
  (dX2_has q x1 σ).bind fun u1 =>
  if u1.1 = 0 then
    some u1.2
  else
    (dX2_has q (x1 + (1 : Int32)) u1.2).bind fun u2 =>
    if ¬ u2.1 = 0 then
      if sf_in x1 40 then
        let v3 := (u2.2 (q + 1) x1.toNatClampNeg)
        if sf_in x1 40 then
          let v4 := (u2.2 (q + 2) x1.toNatClampNeg)
          if sf_in x1 40 then
            let v5 := (u2.2 (q + 3) x1.toNatClampNeg)
            if sf_in x1 40 then
              let v6 := (u2.2 (q + 4) x1.toNatClampNeg)
              (dX2_moveNode q (x1 + (1 : Int32)) x1 u2.2).bind fun u7 =>
              if sf_in (x1 + (1 : Int32)) 40 then
                let s8 := sf_up u7 (q + 1) ((x1 + (1 : Int32))).toNatClampNeg v3
                if sf_in (x1 + (1 : Int32)) 40 then
                  let s9 := sf_up s8 (q + 2) ((x1 + (1 : Int32))).toNatClampNeg v4
                  if sf_in (x1 + (1 : Int32)) 40 then
                    let s10 := sf_up s9 (q + 3) ((x1 + (1 : Int32))).toNatClampNeg v5
                    if sf_in (x1 + (1 : Int32)) 40 then
                      let s11 := sf_up s10 (q + 4) ((x1 + (1 : Int32))).toNatClampNeg v6
                      some s11
                    else
                      none
                  else
                    none
                else
                  none
              else
                none
            else
              none
          else
            none
        else
          none
      else
        none
    else
      some u2.2
noncomputable abbrev gX2_swapWithNext (av : List Value) (σ : sf_S) : Option sf_S := match av with
  | [.ref q, .int x1] => (match sf_rv [1, 36] q with | true => dX2_swapWithNext q x1 σ | false => none)
  | _ => none
set_option maxRecDepth 100000 in
set_option maxHeartbeats 4000000 in
theorem rX2_swapWithNext {Wt : Nat → sf_L → List Value → sf_S → Prop} {Post : sf_S → Prop} (hs : sf_Snd Wt sf_layC sf_hV jX2_swapWithNext tX2_swapWithNext Post) (hm : sf_mono Wt) : ∀ av σ u, gX2_swapWithNext av σ = some u → Post u → (∀ ad, (lg_sl (av.map (sf_v ad))).length ≤ 6) ∧ Wt 0 (sf_ent 0 av) [] σ := by
  intro av σ u h hp
  unfold gX2_swapWithNext at h
  split at h
  · rename_i q x1
    split at h
    · rename_i hq
      have hq : q = 1 ∨ q = 36 := by simpa using sf_rv_mem hq
      refine ⟨fun ad => Nat.le_of_ble_eq_true rfl, ?_⟩
      rcases hq with rfl | rfl
      · exact sf_run_ok hs sf_sm_nil 71 0 _ _ σ u h hp
      · exact sf_run_ok hs sf_sm_nil 71 0 _ _ σ u h hp
    · cases h
  · cases h
theorem kX2_swapWithNext (l : Launch) : sf_C l sf_layC yX2_swapWithNext cX2_swapWithNext 6 none (sf_rm 2 122) (fun av σ => (gX2_swapWithNext av σ).map sf_vV) :=
  sf_met (tab := tX2_swapWithNext) (J := jX2_swapWithNext) (fl := sf_fl2) (cl := sf_cl2) (by decide +kernel) ⟨rfl, rfl⟩ sf_RH_V (by decide +kernel) sf_fl2_ok sf_cl2_ok
    (sf_JO_cons (sf_je_V (n := 2) (cs := [2]) (tv := sf_vI) (kX2_has l) mwX2_has (by decide +kernel : decode cX2_swapWithNext 2 = .ok (.invokevirtual 47, 3)) wt_690 wt_661 wt_18 (by decide +kernel) (by decide) (by decide) (List.forall_mem_cons.mpr ⟨⟨_, _, rfl⟩, fun _ h => absurd h List.not_mem_nil⟩) (sf_RM_of (by omega) (by omega))) (sf_JO_cons (sf_je_V (n := 2) (cs := [2]) (tv := sf_vI) (kX2_has l) mwX2_has (by decide +kernel : decode cX2_swapWithNext 12 = .ok (.invokevirtual 47, 3)) wt_690 wt_661 wt_18 (by decide +kernel) (by decide) (by decide) (List.forall_mem_cons.mpr ⟨⟨_, _, rfl⟩, fun _ h => absurd h List.not_mem_nil⟩) (sf_RM_of (by omega) (by omega))) (sf_JO_cons (sf_je_V (n := 3) (cs := [2]) (tv := sf_vV) (kX2_moveNode l) mwX2_moveNode (by decide +kernel : decode cX2_swapWithNext 54 = .ok (.invokevirtual 65, 3)) wt_725 wt_727 wt_31 (by decide +kernel) (by decide) (by decide) (List.forall_mem_cons.mpr ⟨⟨_, _, rfl⟩, fun _ h => absurd h List.not_mem_nil⟩) (sf_RM_of (by omega) (by omega))) (sf_JO_nil))))
    (fun Wt Post hs hm => rX2_swapWithNext hs hm)
-- ===== StreamFuser$Plan.cut(II)V =====
abbrev tX2_cut : List (Nat × sf_E) := [(0, (.iload_n 1, 1, 0, .null, [], [])), (1, (.ifCond .lt 16, 4, 17, .null, [], [])), (4, (.iload_n 2, 5, 0, .null, [], [])), (5, (.iload_n 1, 6, 0, .null, [], [])), (6, (.if_icmp .lt 11, 9, 17, .null, [], [])), (9, (.iload_n 2, 10, 0, .null, [], [])), (10, (.aload_n 0, 11, 0, .null, [], [])), (11, (.getfield 44, 14, 0, .null, [], [(2, 4)])), (14, (.if_icmp .le 4, 17, 18, .null, [], [])), (17, (.return_, 18, 0, .null, [], [])), (18, (.iload_n 2, 19, 0, .null, [], [])), (19, (.istore_n 3, 20, 0, .null, [], [])), (20, (.iload_n 3, 21, 0, .null, [], [])), (21, (.aload_n 0, 22, 0, .null, [], [])), (22, (.getfield 44, 25, 0, .null, [], [(2, 4)])), (25, (.if_icmp .ge 19, 28, 44, .null, [], [])), (28, (.aload_n 0, 29, 0, .null, [], [])), (29, (.iload_n 3, 30, 0, .null, [], [])), (30, (.iload_n 1, 31, 0, .null, [], [])), (31, (.iload_n 3, 32, 0, .null, [], [])), (32, (.iadd, 33, 0, .null, [], [])), (33, (.iload_n 2, 34, 0, .null, [], [])), (34, (.isub, 35, 0, .null, [], [])), (35, (.invokevirtual 65, 38, 0, .null, [], [])), (38, (.iinc 3 1, 41, 0, .int (1), [], [])), (41, (.goto (-21), 44, 20, .null, [], [])), (44, (.aload_n 0, 45, 0, .null, [], [])), (45, (.dup, 46, 0, .null, [], [])), (46, (.getfield 44, 49, 0, .null, [], [(2, 4)])), (49, (.iload_n 2, 50, 0, .null, [], [])), (50, (.iload_n 1, 51, 0, .null, [], [])), (51, (.isub, 52, 0, .null, [], [])), (52, (.isub, 53, 0, .null, [], [])), (53, (.putfield 44, 56, 0, .null, [], [(2, 4)])), (56, (.return_, 57, 0, .null, [], []))]
noncomputable abbrev jX2_cut : List (Nat × sf_J sf_S) := [(35, sf_jV sf_layC [2] 3 gX2_moveNode)]
abbrev wX2_cut_20 {ρ : Type} (q : Nat) (k : Int32 → Int32 → Int32 → sf_S → Option ρ) : sf_M ρ := fun L st σ => sf_lda L 0 fun a0 => sf_eq a0 q (sf_ldi L 1 fun x1 => sf_ldi L 2 fun x2 => sf_ldi L 3 fun x3 => sf_nil st (k x1 x2 x3 σ))
theorem wX2_cut_20_ok {ρ : Type} {Wt : Nat → sf_L → List Value → sf_S → Prop} {Post : ρ → Prop} (hm : sf_mono Wt) {q : Nat} {k : Int32 → Int32 → Int32 → sf_S → Option ρ} (h : ∀ (x1 : Int32) (x2 : Int32) (x3 : Int32) (σ : sf_S) (u : ρ), k x1 x2 x3 σ = some u → Post u → Wt 20 [(0, some (.ref q)), (1, some (.int x1)), (2, some (.int x2)), (3, some (.int x3))] [] σ) : sf_CK Wt Post 20 (wX2_cut_20 q k) := by
  intro L st σ u hf hp
  unfold wX2_cut_20 at hf
  have hf0 := hf
  obtain ⟨a0, e0, hf1⟩ := sf_lda_inv hf0
  obtain ⟨rfl, hf2⟩ := sf_eq_inv hf1
  obtain ⟨x1, e1, hf3⟩ := sf_ldi_inv hf2
  obtain ⟨x2, e2, hf4⟩ := sf_ldi_inv hf3
  obtain ⟨x3, e3, hf5⟩ := sf_ldi_inv hf4
  obtain ⟨rfl, hz⟩ := sf_nil_inv hf5
  exact hm _ [(0, some (.ref _)), (1, some (.int x1)), (2, some (.int x2)), (3, some (.int x3))] _ _ _ (sf_le_ok (And.intro e0 (And.intro e1 (And.intro e2 (And.intro e3 trivial))))) (h _ _ _ _ _ hz hp)
noncomputable def dX2_cut_20 (q : Nat) : Nat → Int32 → Int32 → Int32 → sf_S → Option sf_S
  | 0 => fun _ _ _ _ => none
  | n + 1 => fun x1 x2 x3 σ =>
    if (σ q 4) ≤ x3 then
      let s1 := sf_up σ q 4 ((σ q 4) - (x2 - x1))
      some s1
    else
      (dX2_moveNode q x3 ((x1 + x3) - x2) σ).bind fun u2 =>
      dX2_cut_20 q n x1 x2 (x3 + (1 : Int32)) u2
set_option maxRecDepth 100000 in
set_option maxHeartbeats 4000000 in
theorem rX2_cut_20 {Wt : Nat → sf_L → List Value → sf_S → Prop} {Post : sf_S → Prop} (hs : sf_Snd Wt sf_layC sf_hV jX2_cut tX2_cut Post) (hm : sf_mono Wt) {q : Nat} (hq : q = 1 ∨ q = 36) : ∀ n : Nat, sf_CK Wt Post 20 (wX2_cut_20 q (dX2_cut_20 q n)) := by
  intro n
  induction n with
  | zero => exact wX2_cut_20_ok hm (fun x1 x2 x3 σ u h _ => by simp [dX2_cut_20] at h)
  | succ n ih =>
    refine wX2_cut_20_ok hm ?_
    intro x1 x2 x3 σ u h hp
    rcases hq with rfl | rfl
    · exact sf_run_ok hs (sf_sm_cons ih sf_sm_nil) 40 20 _ _ σ u h hp
    · exact sf_run_ok hs (sf_sm_cons ih sf_sm_nil) 40 20 _ _ σ u h hp
noncomputable def dX2_cut (q : Nat) (x1 : Int32) (x2 : Int32) (σ : sf_S) : Option sf_S :=
  if x1 < 0 then
    some σ
  else
    if x2 < x1 then
      some σ
    else
      if x2 ≤ (σ q 4) then
        dX2_cut_20 q sf_F x1 x2 x2 σ
      else
        some σ
noncomputable abbrev gX2_cut (av : List Value) (σ : sf_S) : Option sf_S := match av with
  | [.ref q, .int x1, .int x2] => (match sf_rv [1, 36] q with | true => dX2_cut q x1 x2 σ | false => none)
  | _ => none
set_option maxRecDepth 100000 in
set_option maxHeartbeats 4000000 in
theorem rX2_cut {Wt : Nat → sf_L → List Value → sf_S → Prop} {Post : sf_S → Prop} (hs : sf_Snd Wt sf_layC sf_hV jX2_cut tX2_cut Post) (hm : sf_mono Wt) : ∀ av σ u, gX2_cut av σ = some u → Post u → (∀ ad, (lg_sl (av.map (sf_v ad))).length ≤ 4) ∧ Wt 0 (sf_ent 0 av) [] σ := by
  intro av σ u h hp
  unfold gX2_cut at h
  split at h
  · rename_i q x1 x2
    split at h
    · rename_i hq
      have hq : q = 1 ∨ q = 36 := by simpa using sf_rv_mem hq
      refine ⟨fun ad => Nat.le_of_ble_eq_true rfl, ?_⟩
      rcases hq with rfl | rfl
      · exact sf_run_ok hs (sf_sm_cons (rX2_cut_20 hs hm (Or.inl rfl) sf_F) sf_sm_nil) 40 0 _ _ σ u h hp
      · exact sf_run_ok hs (sf_sm_cons (rX2_cut_20 hs hm (Or.inr rfl) sf_F) sf_sm_nil) 40 0 _ _ σ u h hp
    · cases h
  · cases h
theorem kX2_cut (l : Launch) : sf_C l sf_layC yX2_cut cX2_cut 4 none (sf_rm 2 122) (fun av σ => (gX2_cut av σ).map sf_vV) :=
  sf_met (tab := tX2_cut) (J := jX2_cut) (fl := sf_fl2) (cl := sf_cl2) (by decide +kernel) ⟨rfl, rfl⟩ sf_RH_V (by decide +kernel) sf_fl2_ok sf_cl2_ok
    (sf_JO_cons (sf_je_V (n := 3) (cs := [2]) (tv := sf_vV) (kX2_moveNode l) mwX2_moveNode (by decide +kernel : decode cX2_cut 35 = .ok (.invokevirtual 65, 3)) wt_725 wt_727 wt_31 (by decide +kernel) (by decide) (by decide) (List.forall_mem_cons.mpr ⟨⟨_, _, rfl⟩, fun _ h => absurd h List.not_mem_nil⟩) (sf_RM_of (by omega) (by omega))) (sf_JO_nil))
    (fun Wt Post hs hm => rX2_cut hs hm)
-- ===== StreamFuser$Plan.makeNil(I)V =====
abbrev tX2_makeNil : List (Nat × sf_E) := [(0, (.aload_n 0, 1, 0, .null, [], [])), (1, (.iload_n 1, 2, 0, .null, [], [])), (2, (.invokevirtual 47, 5, 0, .null, [], [])), (5, (.ifCond .ne 4, 8, 9, .null, [], [])), (8, (.return_, 9, 0, .null, [], [])), (9, (.aload_n 0, 10, 0, .null, [], [])), (10, (.getfield 9, 13, 0, .null, [], [(2, 0)])), (13, (.iload_n 1, 14, 0, .null, [], [])), (14, (.bipush 114, 16, 0, .int (114), [], [])), (16, (.iastore, 17, 0, .null, [], [])), (17, (.aload_n 0, 18, 0, .null, [], [])), (18, (.getfield 15, 21, 0, .null, [], [(2, 1)])), (21, (.iload_n 1, 22, 0, .null, [], [])), (22, (.iconst (-1), 23, 0, .int (-1), [], [])), (23, (.iastore, 24, 0, .null, [], [])), (24, (.aload_n 0, 25, 0, .null, [], [])), (25, (.getfield 18, 28, 0, .null, [], [(2, 2)])), (28, (.iload_n 1, 29, 0, .null, [], [])), (29, (.iconst 0, 30, 0, .int (0), [], [])), (30, (.iastore, 31, 0, .null, [], [])), (31, (.aload_n 0, 32, 0, .null, [], [])), (32, (.getfield 21, 35, 0, .null, [], [(2, 3)])), (35, (.iload_n 1, 36, 0, .null, [], [])), (36, (.iconst 0, 37, 0, .int (0), [], [])), (37, (.iastore, 38, 0, .null, [], [])), (38, (.aload_n 0, 39, 0, .null, [], [])), (39, (.iload_n 1, 40, 0, .null, [], [])), (40, (.iconst 1, 41, 0, .int (1), [], [])), (41, (.iadd, 42, 0, .null, [], [])), (42, (.aload_n 0, 43, 0, .null, [], [])), (43, (.getfield 24, 46, 0, .null, [], [(2, 5)])), (46, (.iload_n 1, 47, 0, .null, [], [])), (47, (.iaload, 48, 0, .null, [], [])), (48, (.invokevirtual 69, 51, 0, .null, [], [])), (51, (.return_, 52, 0, .null, [], []))]
noncomputable abbrev jX2_makeNil : List (Nat × sf_J sf_S) := [(2, sf_jI sf_layC [2] 2 gX2_has), (48, sf_jV sf_layC [2] 3 gX2_cut)]
noncomputable def dX2_makeNil (q : Nat) (x1 : Int32) (σ : sf_S) : Option sf_S :=
  (dX2_has q x1 σ).bind fun u1 =>
  if ¬ u1.1 = 0 then
    if sf_in x1 40 then
      let s2 := sf_up u1.2 (q + 1) x1.toNatClampNeg (114 : Int32)
      if sf_in x1 40 then
        let s3 := sf_up s2 (q + 2) x1.toNatClampNeg (-1 : Int32)
        if sf_in x1 40 then
          let s4 := sf_up s3 (q + 3) x1.toNatClampNeg (0 : Int32)
          if sf_in x1 40 then
            let s5 := sf_up s4 (q + 4) x1.toNatClampNeg (0 : Int32)
            if sf_in x1 40 then
              (dX2_cut q (x1 + (1 : Int32)) (s5 (q + 5) x1.toNatClampNeg) s5).bind fun u6 =>
              some u6
            else
              none
          else
            none
        else
          none
      else
        none
    else
      none
  else
    some u1.2
noncomputable abbrev gX2_makeNil (av : List Value) (σ : sf_S) : Option sf_S := match av with
  | [.ref q, .int x1] => (match sf_rv [1, 36] q with | true => dX2_makeNil q x1 σ | false => none)
  | _ => none
set_option maxRecDepth 100000 in
set_option maxHeartbeats 4000000 in
theorem rX2_makeNil {Wt : Nat → sf_L → List Value → sf_S → Prop} {Post : sf_S → Prop} (hs : sf_Snd Wt sf_layC sf_hV jX2_makeNil tX2_makeNil Post) (hm : sf_mono Wt) : ∀ av σ u, gX2_makeNil av σ = some u → Post u → (∀ ad, (lg_sl (av.map (sf_v ad))).length ≤ 2) ∧ Wt 0 (sf_ent 0 av) [] σ := by
  intro av σ u h hp
  unfold gX2_makeNil at h
  split at h
  · rename_i q x1
    split at h
    · rename_i hq
      have hq : q = 1 ∨ q = 36 := by simpa using sf_rv_mem hq
      refine ⟨fun ad => Nat.le_of_ble_eq_true rfl, ?_⟩
      rcases hq with rfl | rfl
      · exact sf_run_ok hs sf_sm_nil 40 0 _ _ σ u h hp
      · exact sf_run_ok hs sf_sm_nil 40 0 _ _ σ u h hp
    · cases h
  · cases h
theorem kX2_makeNil (l : Launch) : sf_C l sf_layC yX2_makeNil cX2_makeNil 2 none (sf_rm 3 145) (fun av σ => (gX2_makeNil av σ).map sf_vV) :=
  sf_met (tab := tX2_makeNil) (J := jX2_makeNil) (fl := sf_fl2) (cl := sf_cl2) (by decide +kernel) ⟨rfl, rfl⟩ sf_RH_V (by decide +kernel) sf_fl2_ok sf_cl2_ok
    (sf_JO_cons (sf_je_V (n := 2) (cs := [2]) (tv := sf_vI) (kX2_has l) mwX2_has (by decide +kernel : decode cX2_makeNil 2 = .ok (.invokevirtual 47, 3)) wt_690 wt_661 wt_18 (by decide +kernel) (by decide) (by decide) (List.forall_mem_cons.mpr ⟨⟨_, _, rfl⟩, fun _ h => absurd h List.not_mem_nil⟩) (sf_RM_of (by omega) (by omega))) (sf_JO_cons (sf_je_V (n := 3) (cs := [2]) (tv := sf_vV) (kX2_cut l) mwX2_cut (by decide +kernel : decode cX2_makeNil 48 = .ok (.invokevirtual 69, 3)) wt_721 wt_723 wt_30 (by decide +kernel) (by decide) (by decide) (List.forall_mem_cons.mpr ⟨⟨_, _, rfl⟩, fun _ h => absurd h List.not_mem_nil⟩) (sf_RM_of (by omega) (by omega))) (sf_JO_nil)))
    (fun Wt Post hs hm => rX2_makeNil hs hm)
-- ===== StreamFuser$Plan.measureFromParts(I)V =====
abbrev tX2_measureFromParts : List (Nat × sf_E) := [(0, (.aload_n 0, 1, 0, .null, [], [])), (1, (.getfield 9, 4, 0, .null, [], [(2, 0)])), (4, (.iload_n 1, 5, 0, .null, [], [])), (5, (.iaload, 6, 0, .null, [], [])), (6, (.invokestatic 89, 9, 0, .null, [], [])), (9, (.istore_n 2, 10, 0, .null, [], [])), (10, (.iload_n 1, 11, 0, .null, [], [])), (11, (.iconst 1, 12, 0, .int (1), [], [])), (12, (.iadd, 13, 0, .null, [], [])), (13, (.istore_n 3, 14, 0, .null, [], [])), (14, (.aload_n 0, 15, 0, .null, [], [])), (15, (.getfield 9, 18, 0, .null, [], [(2, 0)])), (18, (.iload_n 1, 19, 0, .null, [], [])), (19, (.iaload, 20, 0, .null, [], [])), (20, (.bipush 47, 22, 0, .int (47), [], [])), (22, (.if_icmp .eq 29, 25, 51, .null, [], [])), (25, (.aload_n 0, 26, 0, .null, [], [])), (26, (.getfield 9, 29, 0, .null, [], [(2, 0)])), (29, (.iload_n 1, 30, 0, .null, [], [])), (30, (.iaload, 31, 0, .null, [], [])), (31, (.bipush 108, 33, 0, .int (108), [], [])), (33, (.if_icmp .eq 18, 36, 51, .null, [], [])), (36, (.aload_n 0, 37, 0, .null, [], [])), (37, (.getfield 9, 40, 0, .null, [], [(2, 0)])), (40, (.iload_n 1, 41, 0, .null, [], [])), (41, (.iaload, 42, 0, .null, [], [])), (42, (.bipush 115, 44, 0, .int (115), [], [])), (44, (.if_icmp .eq 7, 47, 51, .null, [], [])), (47, (.iconst 1, 48, 0, .int (1), [], [])), (48, (.goto 4, 51, 52, .null, [], [])), (51, (.iconst 0, 52, 0, .int (0), [], [])), (52, (.istore 4, 54, 0, .null, [], [])), (54, (.iconst 0, 55, 0, .int (0), [], [])), (55, (.istore 5, 57, 0, .null, [], [])), (57, (.iload 5, 59, 0, .null, [], [])), (59, (.iload_n 2, 60, 0, .null, [], [])), (60, (.if_icmp .ge 45, 63, 105, .null, [], [])), (63, (.iload_n 3, 64, 0, .null, [], [])), (64, (.aload_n 0, 65, 0, .null, [], [])), (65, (.getfield 44, 68, 0, .null, [], [(2, 4)])), (68, (.if_icmp .ge 37, 71, 105, .null, [], [])), (71, (.iload 4, 73, 0, .null, [], [])), (73, (.ifCond .eq 16, 76, 89, .null, [], [])), (76, (.aload_n 0, 77, 0, .null, [], [])), (77, (.getfield 36, 80, 0, .null, [], [(2, 9)])), (80, (.iload_n 3, 81, 0, .null, [], [])), (81, (.baload, 82, 0, .null, [], [])), (82, (.ifCond .eq 7, 85, 89, .null, [], [])), (85, (.iconst 1, 86, 0, .int (1), [], [])), (86, (.goto 4, 89, 90, .null, [], [])), (89, (.iconst 0, 90, 0, .int (0), [], [])), (90, (.istore 4, 92, 0, .null, [], [])), (92, (.aload_n 0, 93, 0, .null, [], [])), (93, (.getfield 24, 96, 0, .null, [], [(2, 5)])), (96, (.iload_n 3, 97, 0, .null, [], [])), (97, (.iaload, 98, 0, .null, [], [])), (98, (.istore_n 3, 99, 0, .null, [], [])), (99, (.iinc 5 1, 102, 0, .int (1), [], [])), (102, (.goto (-45), 105, 57, .null, [], [])), (105, (.aload_n 0, 106, 0, .null, [], [])), (106, (.getfield 24, 109, 0, .null, [], [(2, 5)])), (109, (.iload_n 1, 110, 0, .null, [], [])), (110, (.iload_n 3, 111, 0, .null, [], [])), (111, (.iastore, 112, 0, .null, [], [])), (112, (.aload_n 0, 113, 0, .null, [], [])), (113, (.getfield 36, 116, 0, .null, [], [(2, 9)])), (116, (.iload_n 1, 117, 0, .null, [], [])), (117, (.iload 4, 119, 0, .null, [], [])), (119, (.bastore, 120, 0, .null, [], [])), (120, (.return_, 121, 0, .null, [], []))]
noncomputable abbrev jX2_measureFromParts : List (Nat × sf_J sf_S) := [(6, sf_jI sf_layC [] 1 gX2_partsOf)]
abbrev wX2_measureFromParts_105 {ρ : Type} (q : Nat) (k : Int32 → Int32 → Int32 → sf_S → Option ρ) : sf_M ρ := fun L st σ => sf_lda L 0 fun a0 => sf_eq a0 q (sf_ldi L 1 fun x1 => sf_ldi L 3 fun x3 => sf_ldi L 4 fun x4 => sf_nil st (k x1 x3 x4 σ))
theorem wX2_measureFromParts_105_ok {ρ : Type} {Wt : Nat → sf_L → List Value → sf_S → Prop} {Post : ρ → Prop} (hm : sf_mono Wt) {q : Nat} {k : Int32 → Int32 → Int32 → sf_S → Option ρ} (h : ∀ (x1 : Int32) (x3 : Int32) (x4 : Int32) (σ : sf_S) (u : ρ), k x1 x3 x4 σ = some u → Post u → Wt 105 [(0, some (.ref q)), (1, some (.int x1)), (3, some (.int x3)), (4, some (.int x4))] [] σ) : sf_CK Wt Post 105 (wX2_measureFromParts_105 q k) := by
  intro L st σ u hf hp
  unfold wX2_measureFromParts_105 at hf
  have hf0 := hf
  obtain ⟨a0, e0, hf1⟩ := sf_lda_inv hf0
  obtain ⟨rfl, hf2⟩ := sf_eq_inv hf1
  obtain ⟨x1, e1, hf3⟩ := sf_ldi_inv hf2
  obtain ⟨x3, e3, hf4⟩ := sf_ldi_inv hf3
  obtain ⟨x4, e4, hf5⟩ := sf_ldi_inv hf4
  obtain ⟨rfl, hz⟩ := sf_nil_inv hf5
  exact hm _ [(0, some (.ref _)), (1, some (.int x1)), (3, some (.int x3)), (4, some (.int x4))] _ _ _ (sf_le_ok (And.intro e0 (And.intro e1 (And.intro e3 (And.intro e4 trivial))))) (h _ _ _ _ _ hz hp)
abbrev wX2_measureFromParts_89 {ρ : Type} (q : Nat) (k : Int32 → Int32 → Int32 → Int32 → sf_S → Option ρ) : sf_M ρ := fun L st σ => sf_lda L 0 fun a0 => sf_eq a0 q (sf_ldi L 1 fun x1 => sf_ldi L 2 fun x2 => sf_ldi L 3 fun x3 => sf_ldi L 5 fun x5 => sf_nil st (k x1 x2 x3 x5 σ))
theorem wX2_measureFromParts_89_ok {ρ : Type} {Wt : Nat → sf_L → List Value → sf_S → Prop} {Post : ρ → Prop} (hm : sf_mono Wt) {q : Nat} {k : Int32 → Int32 → Int32 → Int32 → sf_S → Option ρ} (h : ∀ (x1 : Int32) (x2 : Int32) (x3 : Int32) (x5 : Int32) (σ : sf_S) (u : ρ), k x1 x2 x3 x5 σ = some u → Post u → Wt 89 [(0, some (.ref q)), (1, some (.int x1)), (2, some (.int x2)), (3, some (.int x3)), (5, some (.int x5))] [] σ) : sf_CK Wt Post 89 (wX2_measureFromParts_89 q k) := by
  intro L st σ u hf hp
  unfold wX2_measureFromParts_89 at hf
  have hf0 := hf
  obtain ⟨a0, e0, hf1⟩ := sf_lda_inv hf0
  obtain ⟨rfl, hf2⟩ := sf_eq_inv hf1
  obtain ⟨x1, e1, hf3⟩ := sf_ldi_inv hf2
  obtain ⟨x2, e2, hf4⟩ := sf_ldi_inv hf3
  obtain ⟨x3, e3, hf5⟩ := sf_ldi_inv hf4
  obtain ⟨x5, e5, hf6⟩ := sf_ldi_inv hf5
  obtain ⟨rfl, hz⟩ := sf_nil_inv hf6
  exact hm _ [(0, some (.ref _)), (1, some (.int x1)), (2, some (.int x2)), (3, some (.int x3)), (5, some (.int x5))] _ _ _ (sf_le_ok (And.intro e0 (And.intro e1 (And.intro e2 (And.intro e3 (And.intro e5 trivial)))))) (h _ _ _ _ _ _ hz hp)
abbrev wX2_measureFromParts_57 {ρ : Type} (q : Nat) (k : Int32 → Int32 → Int32 → Int32 → Int32 → sf_S → Option ρ) : sf_M ρ := fun L st σ => sf_lda L 0 fun a0 => sf_eq a0 q (sf_ldi L 1 fun x1 => sf_ldi L 2 fun x2 => sf_ldi L 3 fun x3 => sf_ldi L 4 fun x4 => sf_ldi L 5 fun x5 => sf_nil st (k x1 x2 x3 x4 x5 σ))
theorem wX2_measureFromParts_57_ok {ρ : Type} {Wt : Nat → sf_L → List Value → sf_S → Prop} {Post : ρ → Prop} (hm : sf_mono Wt) {q : Nat} {k : Int32 → Int32 → Int32 → Int32 → Int32 → sf_S → Option ρ} (h : ∀ (x1 : Int32) (x2 : Int32) (x3 : Int32) (x4 : Int32) (x5 : Int32) (σ : sf_S) (u : ρ), k x1 x2 x3 x4 x5 σ = some u → Post u → Wt 57 [(0, some (.ref q)), (1, some (.int x1)), (2, some (.int x2)), (3, some (.int x3)), (4, some (.int x4)), (5, some (.int x5))] [] σ) : sf_CK Wt Post 57 (wX2_measureFromParts_57 q k) := by
  intro L st σ u hf hp
  unfold wX2_measureFromParts_57 at hf
  have hf0 := hf
  obtain ⟨a0, e0, hf1⟩ := sf_lda_inv hf0
  obtain ⟨rfl, hf2⟩ := sf_eq_inv hf1
  obtain ⟨x1, e1, hf3⟩ := sf_ldi_inv hf2
  obtain ⟨x2, e2, hf4⟩ := sf_ldi_inv hf3
  obtain ⟨x3, e3, hf5⟩ := sf_ldi_inv hf4
  obtain ⟨x4, e4, hf6⟩ := sf_ldi_inv hf5
  obtain ⟨x5, e5, hf7⟩ := sf_ldi_inv hf6
  obtain ⟨rfl, hz⟩ := sf_nil_inv hf7
  exact hm _ [(0, some (.ref _)), (1, some (.int x1)), (2, some (.int x2)), (3, some (.int x3)), (4, some (.int x4)), (5, some (.int x5))] _ _ _ (sf_le_ok (And.intro e0 (And.intro e1 (And.intro e2 (And.intro e3 (And.intro e4 (And.intro e5 trivial))))))) (h _ _ _ _ _ _ _ hz hp)
noncomputable def dX2_measureFromParts_105 (q : Nat) (x1 : Int32) (x3 : Int32) (x4 : Int32) (σ : sf_S) : Option sf_S :=
  if sf_in x1 40 then
    let s1 := sf_up σ (q + 5) x1.toNatClampNeg x3
    if sf_in x1 40 then
      let s2 := sf_up s1 (q + 9) x1.toNatClampNeg (vp_nar .boolean x4)
      some s2
    else
      none
  else
    none
set_option maxRecDepth 100000 in
set_option maxHeartbeats 4000000 in
theorem rX2_measureFromParts_105 {Wt : Nat → sf_L → List Value → sf_S → Prop} {Post : sf_S → Prop} (hs : sf_Snd Wt sf_layC sf_hV jX2_measureFromParts tX2_measureFromParts Post) (hm : sf_mono Wt) {q : Nat} (hq : q = 1 ∨ q = 36) : sf_CK Wt Post 105 (wX2_measureFromParts_105 q (dX2_measureFromParts_105 q)) := by
  refine wX2_measureFromParts_105_ok hm ?_
  intro x1 x3 x4 σ u h hp
  rcases hq with rfl | rfl
  · exact sf_run_ok hs sf_sm_nil 75 105 _ _ σ u h hp
  · exact sf_run_ok hs sf_sm_nil 75 105 _ _ σ u h hp
noncomputable def dX2_measureFromParts_89 (q : Nat) (K57 : Int32 → Int32 → Int32 → Int32 → Int32 → sf_S → Option sf_S) (x1 : Int32) (x2 : Int32) (x3 : Int32) (x5 : Int32) (σ : sf_S) : Option sf_S :=
  if sf_in x3 40 then
    let v1 := (σ (q + 5) x3.toNatClampNeg)
    K57 x1 x2 v1 (0 : Int32) (x5 + (1 : Int32)) σ
  else
    none
set_option maxRecDepth 100000 in
set_option maxHeartbeats 4000000 in
theorem rX2_measureFromParts_89 {Wt : Nat → sf_L → List Value → sf_S → Prop} {Post : sf_S → Prop} (hs : sf_Snd Wt sf_layC sf_hV jX2_measureFromParts tX2_measureFromParts Post) (hm : sf_mono Wt) {q : Nat} (hq : q = 1 ∨ q = 36) {K57 : Int32 → Int32 → Int32 → Int32 → Int32 → sf_S → Option sf_S} (hK57 : sf_CK Wt Post 57 (wX2_measureFromParts_57 q K57)) : sf_CK Wt Post 89 (wX2_measureFromParts_89 q (dX2_measureFromParts_89 q K57)) := by
  refine wX2_measureFromParts_89_ok hm ?_
  intro x1 x2 x3 x5 σ u h hp
  rcases hq with rfl | rfl
  · exact sf_run_ok hs (sf_sm_cons hK57 sf_sm_nil) 75 89 _ _ σ u h hp
  · exact sf_run_ok hs (sf_sm_cons hK57 sf_sm_nil) 75 89 _ _ σ u h hp
noncomputable def dX2_measureFromParts_57 (q : Nat) : Nat → Int32 → Int32 → Int32 → Int32 → Int32 → sf_S → Option sf_S
  | 0 => fun _ _ _ _ _ _ => none
  | n + 1 => fun x1 x2 x3 x4 x5 σ =>
    if x2 ≤ x5 then
      dX2_measureFromParts_105 q x1 x3 x4 σ
    else
      if (σ q 4) ≤ x3 then
        dX2_measureFromParts_105 q x1 x3 x4 σ
      else
        if x4 = 0 then
          dX2_measureFromParts_89 q (dX2_measureFromParts_57 q n) x1 x2 x3 x5 σ
        else
          if sf_in x3 40 then
            if (σ (q + 9) x3.toNatClampNeg) = 0 then
              dX2_measureFromParts_89 q (dX2_measureFromParts_57 q n) x1 x2 x3 x5 σ
            else
              if sf_in x3 40 then
                let v1 := (σ (q + 5) x3.toNatClampNeg)
                dX2_measureFromParts_57 q n x1 x2 v1 (1 : Int32) (x5 + (1 : Int32)) σ
              else
                none
          else
            none
set_option maxRecDepth 100000 in
set_option maxHeartbeats 4000000 in
theorem rX2_measureFromParts_57 {Wt : Nat → sf_L → List Value → sf_S → Prop} {Post : sf_S → Prop} (hs : sf_Snd Wt sf_layC sf_hV jX2_measureFromParts tX2_measureFromParts Post) (hm : sf_mono Wt) {q : Nat} (hq : q = 1 ∨ q = 36) : ∀ n : Nat, sf_CK Wt Post 57 (wX2_measureFromParts_57 q (dX2_measureFromParts_57 q n)) := by
  intro n
  induction n with
  | zero => exact wX2_measureFromParts_57_ok hm (fun x1 x2 x3 x4 x5 σ u h _ => by simp [dX2_measureFromParts_57] at h)
  | succ n ih =>
    refine wX2_measureFromParts_57_ok hm ?_
    intro x1 x2 x3 x4 x5 σ u h hp
    rcases hq with rfl | rfl
    · exact sf_run_ok hs (sf_sm_cons ih (sf_sm_cons (rX2_measureFromParts_89 hs hm (Or.inl rfl) ih) (sf_sm_cons (rX2_measureFromParts_105 hs hm (Or.inl rfl)) sf_sm_nil))) 75 57 _ _ σ u h hp
    · exact sf_run_ok hs (sf_sm_cons ih (sf_sm_cons (rX2_measureFromParts_89 hs hm (Or.inr rfl) ih) (sf_sm_cons (rX2_measureFromParts_105 hs hm (Or.inr rfl)) sf_sm_nil))) 75 57 _ _ σ u h hp
noncomputable def dX2_measureFromParts (q : Nat) (x1 : Int32) (σ : sf_S) : Option sf_S :=
  if sf_in x1 40 then
    (dX2_partsOf (σ (q + 1) x1.toNatClampNeg) σ).bind fun u1 =>
    if sf_in x1 40 then
      if (u1.2 (q + 1) x1.toNatClampNeg) = (47 : Int32) then
        dX2_measureFromParts_57 q sf_F x1 u1.1 (x1 + (1 : Int32)) (0 : Int32) (0 : Int32) u1.2
      else
        if sf_in x1 40 then
          if (u1.2 (q + 1) x1.toNatClampNeg) = (108 : Int32) then
            dX2_measureFromParts_57 q sf_F x1 u1.1 (x1 + (1 : Int32)) (0 : Int32) (0 : Int32) u1.2
          else
            if sf_in x1 40 then
              if (u1.2 (q + 1) x1.toNatClampNeg) = (115 : Int32) then
                dX2_measureFromParts_57 q sf_F x1 u1.1 (x1 + (1 : Int32)) (0 : Int32) (0 : Int32) u1.2
              else
                dX2_measureFromParts_57 q sf_F x1 u1.1 (x1 + (1 : Int32)) (1 : Int32) (0 : Int32) u1.2
            else
              none
        else
          none
    else
      none
  else
    none
noncomputable abbrev gX2_measureFromParts (av : List Value) (σ : sf_S) : Option sf_S := match av with
  | [.ref q, .int x1] => (match sf_rv [1, 36] q with | true => dX2_measureFromParts q x1 σ | false => none)
  | _ => none
set_option maxRecDepth 100000 in
set_option maxHeartbeats 4000000 in
theorem rX2_measureFromParts {Wt : Nat → sf_L → List Value → sf_S → Prop} {Post : sf_S → Prop} (hs : sf_Snd Wt sf_layC sf_hV jX2_measureFromParts tX2_measureFromParts Post) (hm : sf_mono Wt) : ∀ av σ u, gX2_measureFromParts av σ = some u → Post u → (∀ ad, (lg_sl (av.map (sf_v ad))).length ≤ 6) ∧ Wt 0 (sf_ent 0 av) [] σ := by
  intro av σ u h hp
  unfold gX2_measureFromParts at h
  split at h
  · rename_i q x1
    split at h
    · rename_i hq
      have hq : q = 1 ∨ q = 36 := by simpa using sf_rv_mem hq
      refine ⟨fun ad => Nat.le_of_ble_eq_true rfl, ?_⟩
      rcases hq with rfl | rfl
      · exact sf_run_ok hs (sf_sm_cons (rX2_measureFromParts_57 hs hm (Or.inl rfl) sf_F) sf_sm_nil) 75 0 _ _ σ u h hp
      · exact sf_run_ok hs (sf_sm_cons (rX2_measureFromParts_57 hs hm (Or.inr rfl) sf_F) sf_sm_nil) 75 0 _ _ σ u h hp
    · cases h
  · cases h
theorem kX2_measureFromParts (l : Launch) : sf_C l sf_layC yX2_measureFromParts cX2_measureFromParts 6 none (sf_rm 2 120) (fun av σ => (gX2_measureFromParts av σ).map sf_vV) :=
  sf_met (tab := tX2_measureFromParts) (J := jX2_measureFromParts) (fl := sf_fl2) (cl := sf_cl2) (by decide +kernel) ⟨rfl, rfl⟩ sf_RH_V (by decide +kernel) sf_fl2_ok sf_cl2_ok
    (sf_JO_cons (sf_je_S (n := 1) (tv := sf_vI) (kX2_partsOf l) mwX2_partsOf (by decide +kernel : decode cX2_measureFromParts 6 = .ok (.invokestatic 89, 3)) wt_624 wt_570 (by decide +kernel) (sf_RM_of (by omega) (by omega))) (sf_JO_nil))
    (fun Wt Post hs hm => rX2_measureFromParts hs hm)
-- ===== StreamFuser$Plan.measureParts(I)V =====
abbrev tX2_measureParts : List (Nat × sf_E) := [(0, (.aload_n 0, 1, 0, .null, [], [])), (1, (.getfield 9, 4, 0, .null, [], [(2, 0)])), (4, (.iload_n 1, 5, 0, .null, [], [])), (5, (.iaload, 6, 0, .null, [], [])), (6, (.invokestatic 89, 9, 0, .null, [], [])), (9, (.istore_n 2, 10, 0, .null, [], [])), (10, (.iload_n 1, 11, 0, .null, [], [])), (11, (.iconst 1, 12, 0, .int (1), [], [])), (12, (.iadd, 13, 0, .null, [], [])), (13, (.istore_n 3, 14, 0, .null, [], [])), (14, (.iconst 0, 15, 0, .int (0), [], [])), (15, (.istore 4, 17, 0, .null, [], [])), (17, (.iload 4, 19, 0, .null, [], [])), (19, (.iload_n 2, 20, 0, .null, [], [])), (20, (.if_icmp .ge 110, 23, 130, .null, [], [])), (23, (.iload_n 3, 24, 0, .null, [], [])), (24, (.aload_n 0, 25, 0, .null, [], [])), (25, (.getfield 44, 28, 0, .null, [], [(2, 4)])), (28, (.if_icmp .ge 102, 31, 130, .null, [], [])), (31, (.aload_n 0, 32, 0, .null, [], [])), (32, (.getfield 9, 35, 0, .null, [], [(2, 0)])), (35, (.iload_n 1, 36, 0, .null, [], [])), (36, (.iaload, 37, 0, .null, [], [])), (37, (.bipush 120, 39, 0, .int (120), [], [])), (39, (.if_icmp .ne 12, 42, 51, .null, [], [])), (42, (.iload 4, 44, 0, .null, [], [])), (44, (.ifCond .ne 7, 47, 51, .null, [], [])), (47, (.iconst 1, 48, 0, .int (1), [], [])), (48, (.goto 4, 51, 52, .null, [], [])), (51, (.iconst 0, 52, 0, .int (0), [], [])), (52, (.istore 5, 54, 0, .null, [], [])), (54, (.aload_n 0, 55, 0, .null, [], [])), (55, (.getfield 27, 58, 0, .null, [], [(2, 6)])), (58, (.iload_n 3, 59, 0, .null, [], [])), (59, (.aload_n 0, 60, 0, .null, [], [])), (60, (.getfield 27, 63, 0, .null, [], [(2, 6)])), (63, (.iload_n 1, 64, 0, .null, [], [])), (64, (.iaload, 65, 0, .null, [], [])), (65, (.iconst 1, 66, 0, .int (1), [], [])), (66, (.iadd, 67, 0, .null, [], [])), (67, (.iastore, 68, 0, .null, [], [])), (68, (.aload_n 0, 69, 0, .null, [], [])), (69, (.getfield 30, 72, 0, .null, [], [(2, 7)])), (72, (.iload_n 3, 73, 0, .null, [], [])), (73, (.iload 5, 75, 0, .null, [], [])), (75, (.ifCond .eq 14, 78, 89, .null, [], [])), (78, (.aload_n 0, 79, 0, .null, [], [])), (79, (.getfield 30, 82, 0, .null, [], [(2, 7)])), (82, (.iload_n 1, 83, 0, .null, [], [])), (83, (.iaload, 84, 0, .null, [], [])), (84, (.iconst 1, 85, 0, .int (1), [], [])), (85, (.iadd, 86, 0, .null, [], [])), (86, (.goto 9, 89, 95, .null, [], [])), (89, (.aload_n 0, 90, 0, .null, [], [])), (90, (.getfield 30, 93, 0, .null, [], [(2, 7)])), (93, (.iload_n 1, 94, 0, .null, [], [])), (94, (.iaload, 95, 0, .null, [], [])), (95, (.iastore, 96, 0, .null, [], [])), (96, (.aload_n 0, 97, 0, .null, [], [])), (97, (.getfield 33, 100, 0, .null, [], [(2, 8)])), (100, (.iload_n 3, 101, 0, .null, [], [])), (101, (.iload 5, 103, 0, .null, [], [])), (103, (.ifCond .eq 7, 106, 110, .null, [], [])), (106, (.iload_n 1, 107, 0, .null, [], [])), (107, (.goto 9, 110, 116, .null, [], [])), (110, (.aload_n 0, 111, 0, .null, [], [])), (111, (.getfield 33, 114, 0, .null, [], [(2, 8)])), (114, (.iload_n 1, 115, 0, .null, [], [])), (115, (.iaload, 116, 0, .null, [], [])), (116, (.iastore, 117, 0, .null, [], [])), (117, (.aload_n 0, 118, 0, .null, [], [])), (118, (.getfield 24, 121, 0, .null, [], [(2, 5)])), (121, (.iload_n 3, 122, 0, .null, [], [])), (122, (.iaload, 123, 0, .null, [], [])), (123, (.istore_n 3, 124, 0, .null, [], [])), (124, (.iinc 4 1, 127, 0, .int (1), [], [])), (127, (.goto (-110), 130, 17, .null, [], [])), (130, (.return_, 131, 0, .null, [], []))]
noncomputable abbrev jX2_measureParts : List (Nat × sf_J sf_S) := [(6, sf_jI sf_layC [] 1 gX2_partsOf)]
abbrev wX2_measureParts_95 {ρ : Type} (q : Nat) (k : Int32 → Int32 → Int32 → Int32 → Int32 → Int32 → Int32 → sf_S → Option ρ) : sf_M ρ := fun L st σ => sf_lda L 0 fun a0 => sf_eq a0 q (sf_ldi L 1 fun x1 => sf_ldi L 2 fun x2 => sf_ldi L 3 fun x3 => sf_ldi L 4 fun x4 => sf_ldi L 5 fun x5 => sf_i1 st fun y0 st => sf_i1 st fun y1 st => sf_a1 st fun b2 st => sf_eq b2 (q + 7) (sf_nil st (k x1 x2 x3 x4 x5 y0 y1 σ)))
theorem wX2_measureParts_95_ok {ρ : Type} {Wt : Nat → sf_L → List Value → sf_S → Prop} {Post : ρ → Prop} (hm : sf_mono Wt) {q : Nat} {k : Int32 → Int32 → Int32 → Int32 → Int32 → Int32 → Int32 → sf_S → Option ρ} (h : ∀ (x1 : Int32) (x2 : Int32) (x3 : Int32) (x4 : Int32) (x5 : Int32) (y0 : Int32) (y1 : Int32) (σ : sf_S) (u : ρ), k x1 x2 x3 x4 x5 y0 y1 σ = some u → Post u → Wt 95 [(0, some (.ref q)), (1, some (.int x1)), (2, some (.int x2)), (3, some (.int x3)), (4, some (.int x4)), (5, some (.int x5))] [.int y0, .int y1, .ref (q + 7)] σ) : sf_CK Wt Post 95 (wX2_measureParts_95 q k) := by
  intro L st σ u hf hp
  unfold wX2_measureParts_95 at hf
  have hf0 := hf
  obtain ⟨a0, e0, hf1⟩ := sf_lda_inv hf0
  obtain ⟨rfl, hf2⟩ := sf_eq_inv hf1
  obtain ⟨x1, e1, hf3⟩ := sf_ldi_inv hf2
  obtain ⟨x2, e2, hf4⟩ := sf_ldi_inv hf3
  obtain ⟨x3, e3, hf5⟩ := sf_ldi_inv hf4
  obtain ⟨x4, e4, hf6⟩ := sf_ldi_inv hf5
  obtain ⟨x5, e5, hf7⟩ := sf_ldi_inv hf6
  obtain ⟨y0, st, rfl, hf8⟩ := sf_i1_inv hf7
  obtain ⟨y1, st, rfl, hf9⟩ := sf_i1_inv hf8
  obtain ⟨b2, st, rfl, hf10⟩ := sf_a1_inv hf9
  obtain ⟨rfl, hf11⟩ := sf_eq_inv hf10
  obtain ⟨rfl, hz⟩ := sf_nil_inv hf11
  exact hm _ [(0, some (.ref _)), (1, some (.int x1)), (2, some (.int x2)), (3, some (.int x3)), (4, some (.int x4)), (5, some (.int x5))] _ _ _ (sf_le_ok (And.intro e0 (And.intro e1 (And.intro e2 (And.intro e3 (And.intro e4 (And.intro e5 trivial))))))) (h _ _ _ _ _ _ _ _ _ hz hp)
abbrev wX2_measureParts_52 {ρ : Type} (q : Nat) (k : Int32 → Int32 → Int32 → Int32 → Int32 → sf_S → Option ρ) : sf_M ρ := fun L st σ => sf_lda L 0 fun a0 => sf_eq a0 q (sf_ldi L 1 fun x1 => sf_ldi L 2 fun x2 => sf_ldi L 3 fun x3 => sf_ldi L 4 fun x4 => sf_i1 st fun y0 st => sf_nil st (k x1 x2 x3 x4 y0 σ))
theorem wX2_measureParts_52_ok {ρ : Type} {Wt : Nat → sf_L → List Value → sf_S → Prop} {Post : ρ → Prop} (hm : sf_mono Wt) {q : Nat} {k : Int32 → Int32 → Int32 → Int32 → Int32 → sf_S → Option ρ} (h : ∀ (x1 : Int32) (x2 : Int32) (x3 : Int32) (x4 : Int32) (y0 : Int32) (σ : sf_S) (u : ρ), k x1 x2 x3 x4 y0 σ = some u → Post u → Wt 52 [(0, some (.ref q)), (1, some (.int x1)), (2, some (.int x2)), (3, some (.int x3)), (4, some (.int x4))] [.int y0] σ) : sf_CK Wt Post 52 (wX2_measureParts_52 q k) := by
  intro L st σ u hf hp
  unfold wX2_measureParts_52 at hf
  have hf0 := hf
  obtain ⟨a0, e0, hf1⟩ := sf_lda_inv hf0
  obtain ⟨rfl, hf2⟩ := sf_eq_inv hf1
  obtain ⟨x1, e1, hf3⟩ := sf_ldi_inv hf2
  obtain ⟨x2, e2, hf4⟩ := sf_ldi_inv hf3
  obtain ⟨x3, e3, hf5⟩ := sf_ldi_inv hf4
  obtain ⟨x4, e4, hf6⟩ := sf_ldi_inv hf5
  obtain ⟨y0, st, rfl, hf7⟩ := sf_i1_inv hf6
  obtain ⟨rfl, hz⟩ := sf_nil_inv hf7
  exact hm _ [(0, some (.ref _)), (1, some (.int x1)), (2, some (.int x2)), (3, some (.int x3)), (4, some (.int x4))] _ _ _ (sf_le_ok (And.intro e0 (And.intro e1 (And.intro e2 (And.intro e3 (And.intro e4 trivial)))))) (h _ _ _ _ _ _ _ hz hp)
abbrev wX2_measureParts_17 {ρ : Type} (q : Nat) (k : Int32 → Int32 → Int32 → Int32 → sf_S → Option ρ) : sf_M ρ := fun L st σ => sf_lda L 0 fun a0 => sf_eq a0 q (sf_ldi L 1 fun x1 => sf_ldi L 2 fun x2 => sf_ldi L 3 fun x3 => sf_ldi L 4 fun x4 => sf_nil st (k x1 x2 x3 x4 σ))
theorem wX2_measureParts_17_ok {ρ : Type} {Wt : Nat → sf_L → List Value → sf_S → Prop} {Post : ρ → Prop} (hm : sf_mono Wt) {q : Nat} {k : Int32 → Int32 → Int32 → Int32 → sf_S → Option ρ} (h : ∀ (x1 : Int32) (x2 : Int32) (x3 : Int32) (x4 : Int32) (σ : sf_S) (u : ρ), k x1 x2 x3 x4 σ = some u → Post u → Wt 17 [(0, some (.ref q)), (1, some (.int x1)), (2, some (.int x2)), (3, some (.int x3)), (4, some (.int x4))] [] σ) : sf_CK Wt Post 17 (wX2_measureParts_17 q k) := by
  intro L st σ u hf hp
  unfold wX2_measureParts_17 at hf
  have hf0 := hf
  obtain ⟨a0, e0, hf1⟩ := sf_lda_inv hf0
  obtain ⟨rfl, hf2⟩ := sf_eq_inv hf1
  obtain ⟨x1, e1, hf3⟩ := sf_ldi_inv hf2
  obtain ⟨x2, e2, hf4⟩ := sf_ldi_inv hf3
  obtain ⟨x3, e3, hf5⟩ := sf_ldi_inv hf4
  obtain ⟨x4, e4, hf6⟩ := sf_ldi_inv hf5
  obtain ⟨rfl, hz⟩ := sf_nil_inv hf6
  exact hm _ [(0, some (.ref _)), (1, some (.int x1)), (2, some (.int x2)), (3, some (.int x3)), (4, some (.int x4))] _ _ _ (sf_le_ok (And.intro e0 (And.intro e1 (And.intro e2 (And.intro e3 (And.intro e4 trivial)))))) (h _ _ _ _ _ _ hz hp)
noncomputable def dX2_measureParts_95 (q : Nat) (K17 : Int32 → Int32 → Int32 → Int32 → sf_S → Option sf_S) (x1 : Int32) (x2 : Int32) (x3 : Int32) (x4 : Int32) (x5 : Int32) (y0 : Int32) (y1 : Int32) (σ : sf_S) : Option sf_S :=
  if sf_in y1 40 then
    let s1 := sf_up σ (q + 7) y1.toNatClampNeg y0
    if x5 = 0 then
      if sf_in x1 40 then
        if sf_in x3 40 then
          let s2 := sf_up s1 (q + 8) x3.toNatClampNeg (s1 (q + 8) x1.toNatClampNeg)
          if sf_in x3 40 then
            let v3 := (s2 (q + 5) x3.toNatClampNeg)
            K17 x1 x2 v3 (x4 + (1 : Int32)) s2
          else
            none
        else
          none
      else
        none
    else
      if sf_in x3 40 then
        let s4 := sf_up s1 (q + 8) x3.toNatClampNeg x1
        if sf_in x3 40 then
          let v5 := (s4 (q + 5) x3.toNatClampNeg)
          K17 x1 x2 v5 (x4 + (1 : Int32)) s4
        else
          none
      else
        none
  else
    none
set_option maxRecDepth 100000 in
set_option maxHeartbeats 4000000 in
theorem rX2_measureParts_95 {Wt : Nat → sf_L → List Value → sf_S → Prop} {Post : sf_S → Prop} (hs : sf_Snd Wt sf_layC sf_hV jX2_measureParts tX2_measureParts Post) (hm : sf_mono Wt) {q : Nat} (hq : q = 1 ∨ q = 36) {K17 : Int32 → Int32 → Int32 → Int32 → sf_S → Option sf_S} (hK17 : sf_CK Wt Post 17 (wX2_measureParts_17 q K17)) : sf_CK Wt Post 95 (wX2_measureParts_95 q (dX2_measureParts_95 q K17)) := by
  refine wX2_measureParts_95_ok hm ?_
  intro x1 x2 x3 x4 x5 y0 y1 σ u h hp
  rcases hq with rfl | rfl
  · exact sf_run_ok hs (sf_sm_cons hK17 sf_sm_nil) 83 95 _ _ σ u h hp
  · exact sf_run_ok hs (sf_sm_cons hK17 sf_sm_nil) 83 95 _ _ σ u h hp
noncomputable def dX2_measureParts_52 (q : Nat) (K17 : Int32 → Int32 → Int32 → Int32 → sf_S → Option sf_S) (x1 : Int32) (x2 : Int32) (x3 : Int32) (x4 : Int32) (y0 : Int32) (σ : sf_S) : Option sf_S :=
  if sf_in x1 40 then
    if sf_in x3 40 then
      let s1 := sf_up σ (q + 6) x3.toNatClampNeg ((σ (q + 6) x1.toNatClampNeg) + (1 : Int32))
      if y0 = 0 then
        if sf_in x1 40 then
          dX2_measureParts_95 q K17 x1 x2 x3 x4 y0 (s1 (q + 7) x1.toNatClampNeg) x3 s1
        else
          none
      else
        if sf_in x1 40 then
          dX2_measureParts_95 q K17 x1 x2 x3 x4 y0 ((s1 (q + 7) x1.toNatClampNeg) + (1 : Int32)) x3 s1
        else
          none
    else
      none
  else
    none
set_option maxRecDepth 100000 in
set_option maxHeartbeats 4000000 in
theorem rX2_measureParts_52 {Wt : Nat → sf_L → List Value → sf_S → Prop} {Post : sf_S → Prop} (hs : sf_Snd Wt sf_layC sf_hV jX2_measureParts tX2_measureParts Post) (hm : sf_mono Wt) {q : Nat} (hq : q = 1 ∨ q = 36) {K17 : Int32 → Int32 → Int32 → Int32 → sf_S → Option sf_S} (hK17 : sf_CK Wt Post 17 (wX2_measureParts_17 q K17)) : sf_CK Wt Post 52 (wX2_measureParts_52 q (dX2_measureParts_52 q K17)) := by
  refine wX2_measureParts_52_ok hm ?_
  intro x1 x2 x3 x4 y0 σ u h hp
  rcases hq with rfl | rfl
  · exact sf_run_ok hs (sf_sm_cons (rX2_measureParts_95 hs hm (Or.inl rfl) hK17) sf_sm_nil) 83 52 _ _ σ u h hp
  · exact sf_run_ok hs (sf_sm_cons (rX2_measureParts_95 hs hm (Or.inr rfl) hK17) sf_sm_nil) 83 52 _ _ σ u h hp
noncomputable def dX2_measureParts_17 (q : Nat) : Nat → Int32 → Int32 → Int32 → Int32 → sf_S → Option sf_S
  | 0 => fun _ _ _ _ _ => none
  | n + 1 => fun x1 x2 x3 x4 σ =>
    if x2 ≤ x4 then
      some σ
    else
      if (σ q 4) ≤ x3 then
        some σ
      else
        if sf_in x1 40 then
          if ¬ (σ (q + 1) x1.toNatClampNeg) = (120 : Int32) then
            dX2_measureParts_52 q (dX2_measureParts_17 q n) x1 x2 x3 x4 (0 : Int32) σ
          else
            if ¬ x4 = 0 then
              dX2_measureParts_52 q (dX2_measureParts_17 q n) x1 x2 x3 x4 (0 : Int32) σ
            else
              dX2_measureParts_52 q (dX2_measureParts_17 q n) x1 x2 x3 x4 (1 : Int32) σ
        else
          none
set_option maxRecDepth 100000 in
set_option maxHeartbeats 4000000 in
theorem rX2_measureParts_17 {Wt : Nat → sf_L → List Value → sf_S → Prop} {Post : sf_S → Prop} (hs : sf_Snd Wt sf_layC sf_hV jX2_measureParts tX2_measureParts Post) (hm : sf_mono Wt) {q : Nat} (hq : q = 1 ∨ q = 36) : ∀ n : Nat, sf_CK Wt Post 17 (wX2_measureParts_17 q (dX2_measureParts_17 q n)) := by
  intro n
  induction n with
  | zero => exact wX2_measureParts_17_ok hm (fun x1 x2 x3 x4 σ u h _ => by simp [dX2_measureParts_17] at h)
  | succ n ih =>
    refine wX2_measureParts_17_ok hm ?_
    intro x1 x2 x3 x4 σ u h hp
    rcases hq with rfl | rfl
    · exact sf_run_ok hs (sf_sm_cons (rX2_measureParts_52 hs hm (Or.inl rfl) ih) sf_sm_nil) 83 17 _ _ σ u h hp
    · exact sf_run_ok hs (sf_sm_cons (rX2_measureParts_52 hs hm (Or.inr rfl) ih) sf_sm_nil) 83 17 _ _ σ u h hp
noncomputable def dX2_measureParts (q : Nat) (x1 : Int32) (σ : sf_S) : Option sf_S :=
  if sf_in x1 40 then
    (dX2_partsOf (σ (q + 1) x1.toNatClampNeg) σ).bind fun u1 =>
    dX2_measureParts_17 q sf_F x1 u1.1 (x1 + (1 : Int32)) (0 : Int32) u1.2
  else
    none
noncomputable abbrev gX2_measureParts (av : List Value) (σ : sf_S) : Option sf_S := match av with
  | [.ref q, .int x1] => (match sf_rv [1, 36] q with | true => dX2_measureParts q x1 σ | false => none)
  | _ => none
set_option maxRecDepth 100000 in
set_option maxHeartbeats 4000000 in
theorem rX2_measureParts {Wt : Nat → sf_L → List Value → sf_S → Prop} {Post : sf_S → Prop} (hs : sf_Snd Wt sf_layC sf_hV jX2_measureParts tX2_measureParts Post) (hm : sf_mono Wt) : ∀ av σ u, gX2_measureParts av σ = some u → Post u → (∀ ad, (lg_sl (av.map (sf_v ad))).length ≤ 6) ∧ Wt 0 (sf_ent 0 av) [] σ := by
  intro av σ u h hp
  unfold gX2_measureParts at h
  split at h
  · rename_i q x1
    split at h
    · rename_i hq
      have hq : q = 1 ∨ q = 36 := by simpa using sf_rv_mem hq
      refine ⟨fun ad => Nat.le_of_ble_eq_true rfl, ?_⟩
      rcases hq with rfl | rfl
      · exact sf_run_ok hs (sf_sm_cons (rX2_measureParts_17 hs hm (Or.inl rfl) sf_F) sf_sm_nil) 83 0 _ _ σ u h hp
      · exact sf_run_ok hs (sf_sm_cons (rX2_measureParts_17 hs hm (Or.inr rfl) sf_F) sf_sm_nil) 83 0 _ _ σ u h hp
    · cases h
  · cases h
theorem kX2_measureParts (l : Launch) : sf_C l sf_layC yX2_measureParts cX2_measureParts 6 none (sf_rm 2 120) (fun av σ => (gX2_measureParts av σ).map sf_vV) :=
  sf_met (tab := tX2_measureParts) (J := jX2_measureParts) (fl := sf_fl2) (cl := sf_cl2) (by decide +kernel) ⟨rfl, rfl⟩ sf_RH_V (by decide +kernel) sf_fl2_ok sf_cl2_ok
    (sf_JO_cons (sf_je_S (n := 1) (tv := sf_vI) (kX2_partsOf l) mwX2_partsOf (by decide +kernel : decode cX2_measureParts 6 = .ok (.invokestatic 89, 3)) wt_624 wt_570 (by decide +kernel) (sf_RM_of (by omega) (by omega))) (sf_JO_nil))
    (fun Wt Post hs hm => rX2_measureParts hs hm)
-- ===== StreamFuser$Plan.measure()V =====
abbrev tX2_measure : List (Nat × sf_E) := [(0, (.aload_n 0, 1, 0, .null, [], [])), (1, (.getfield 44, 4, 0, .null, [], [(2, 4)])), (4, (.iconst 1, 5, 0, .int (1), [], [])), (5, (.isub, 6, 0, .null, [], [])), (6, (.istore_n 1, 7, 0, .null, [], [])), (7, (.iload_n 1, 8, 0, .null, [], [])), (8, (.ifCond .lt 14, 11, 22, .null, [], [])), (11, (.aload_n 0, 12, 0, .null, [], [])), (12, (.iload_n 1, 13, 0, .null, [], [])), (13, (.invokevirtual 72, 16, 0, .null, [], [])), (16, (.iinc 1 (-1), 19, 0, .int (-1), [], [])), (19, (.goto (-12), 22, 7, .null, [], [])), (22, (.aload_n 0, 23, 0, .null, [], [])), (23, (.iconst (-1), 24, 0, .int (-1), [], [])), (24, (.putfield 40, 27, 0, .null, [], [(2, 10)])), (27, (.aload_n 0, 28, 0, .null, [], [])), (28, (.iconst 0, 29, 0, .int (0), [], [])), (29, (.putfield 76, 32, 0, .int 0, [], [(2, 11)])), (32, (.aload_n 0, 33, 0, .null, [], [])), (33, (.getfield 44, 36, 0, .null, [], [(2, 4)])), (36, (.ifCond .le 24, 39, 60, .null, [], [])), (39, (.aload_n 0, 40, 0, .null, [], [])), (40, (.getfield 27, 43, 0, .null, [], [(2, 6)])), (43, (.iconst 0, 44, 0, .int (0), [], [])), (44, (.iconst 0, 45, 0, .int (0), [], [])), (45, (.iastore, 46, 0, .null, [], [])), (46, (.aload_n 0, 47, 0, .null, [], [])), (47, (.getfield 30, 50, 0, .null, [], [(2, 7)])), (50, (.iconst 0, 51, 0, .int (0), [], [])), (51, (.iconst 0, 52, 0, .int (0), [], [])), (52, (.iastore, 53, 0, .null, [], [])), (53, (.aload_n 0, 54, 0, .null, [], [])), (54, (.getfield 33, 57, 0, .null, [], [(2, 8)])), (57, (.iconst 0, 58, 0, .int (0), [], [])), (58, (.iconst (-1), 59, 0, .int (-1), [], [])), (59, (.iastore, 60, 0, .null, [], [])), (60, (.iconst 0, 61, 0, .int (0), [], [])), (61, (.istore_n 1, 62, 0, .null, [], [])), (62, (.iload_n 1, 63, 0, .null, [], [])), (63, (.aload_n 0, 64, 0, .null, [], [])), (64, (.getfield 44, 67, 0, .null, [], [(2, 4)])), (67, (.if_icmp .ge 47, 70, 114, .null, [], [])), (70, (.aload_n 0, 71, 0, .null, [], [])), (71, (.iload_n 1, 72, 0, .null, [], [])), (72, (.invokevirtual 80, 75, 0, .null, [], [])), (75, (.aload_n 0, 76, 0, .null, [], [])), (76, (.aload_n 0, 77, 0, .null, [], [])), (77, (.getfield 40, 80, 0, .null, [], [(2, 10)])), (80, (.aload_n 0, 81, 0, .null, [], [])), (81, (.getfield 27, 84, 0, .null, [], [(2, 6)])), (84, (.iload_n 1, 85, 0, .null, [], [])), (85, (.iaload, 86, 0, .null, [], [])), (86, (.invokestatic 83, 89, 0, .null, [], [])), (89, (.putfield 40, 92, 0, .null, [], [(2, 10)])), (92, (.aload_n 0, 93, 0, .null, [], [])), (93, (.getfield 9, 96, 0, .null, [], [(2, 0)])), (96, (.iload_n 1, 97, 0, .null, [], [])), (97, (.iaload, 98, 0, .null, [], [])), (98, (.bipush 105, 100, 0, .int (105), [], [])), (100, (.if_icmp .ne 8, 103, 108, .null, [], [])), (103, (.aload_n 0, 104, 0, .null, [], [])), (104, (.iconst 1, 105, 0, .int (1), [], [])), (105, (.putfield 76, 108, 0, .int 0, [], [(2, 11)])), (108, (.iinc 1 1, 111, 0, .int (1), [], [])), (111, (.goto (-49), 114, 62, .null, [], [])), (114, (.return_, 115, 0, .null, [], []))]
noncomputable abbrev jX2_measure : List (Nat × sf_J sf_S) := [(13, sf_jV sf_layC [2] 2 gX2_measureFromParts), (72, sf_jV sf_layC [2] 2 gX2_measureParts), (86, sf_jmax)]
abbrev wX2_measure_62 {ρ : Type} (q : Nat) (k : Int32 → sf_S → Option ρ) : sf_M ρ := fun L st σ => sf_lda L 0 fun a0 => sf_eq a0 q (sf_ldi L 1 fun x1 => sf_nil st (k x1 σ))
theorem wX2_measure_62_ok {ρ : Type} {Wt : Nat → sf_L → List Value → sf_S → Prop} {Post : ρ → Prop} (hm : sf_mono Wt) {q : Nat} {k : Int32 → sf_S → Option ρ} (h : ∀ (x1 : Int32) (σ : sf_S) (u : ρ), k x1 σ = some u → Post u → Wt 62 [(0, some (.ref q)), (1, some (.int x1))] [] σ) : sf_CK Wt Post 62 (wX2_measure_62 q k) := by
  intro L st σ u hf hp
  unfold wX2_measure_62 at hf
  have hf0 := hf
  obtain ⟨a0, e0, hf1⟩ := sf_lda_inv hf0
  obtain ⟨rfl, hf2⟩ := sf_eq_inv hf1
  obtain ⟨x1, e1, hf3⟩ := sf_ldi_inv hf2
  obtain ⟨rfl, hz⟩ := sf_nil_inv hf3
  exact hm _ [(0, some (.ref _)), (1, some (.int x1))] _ _ _ (sf_le_ok (And.intro e0 (And.intro e1 trivial))) (h _ _ _ hz hp)
abbrev wX2_measure_7 {ρ : Type} (q : Nat) (k : Int32 → sf_S → Option ρ) : sf_M ρ := fun L st σ => sf_lda L 0 fun a0 => sf_eq a0 q (sf_ldi L 1 fun x1 => sf_nil st (k x1 σ))
theorem wX2_measure_7_ok {ρ : Type} {Wt : Nat → sf_L → List Value → sf_S → Prop} {Post : ρ → Prop} (hm : sf_mono Wt) {q : Nat} {k : Int32 → sf_S → Option ρ} (h : ∀ (x1 : Int32) (σ : sf_S) (u : ρ), k x1 σ = some u → Post u → Wt 7 [(0, some (.ref q)), (1, some (.int x1))] [] σ) : sf_CK Wt Post 7 (wX2_measure_7 q k) := by
  intro L st σ u hf hp
  unfold wX2_measure_7 at hf
  have hf0 := hf
  obtain ⟨a0, e0, hf1⟩ := sf_lda_inv hf0
  obtain ⟨rfl, hf2⟩ := sf_eq_inv hf1
  obtain ⟨x1, e1, hf3⟩ := sf_ldi_inv hf2
  obtain ⟨rfl, hz⟩ := sf_nil_inv hf3
  exact hm _ [(0, some (.ref _)), (1, some (.int x1))] _ _ _ (sf_le_ok (And.intro e0 (And.intro e1 trivial))) (h _ _ _ hz hp)
noncomputable def dX2_measure_62 (q : Nat) : Nat → Int32 → sf_S → Option sf_S
  | 0 => fun _ _ => none
  | n + 1 => fun x1 σ =>
    if (σ q 4) ≤ x1 then
      some σ
    else
      (dX2_measureParts q x1 σ).bind fun u1 =>
      if sf_in x1 40 then
        let v2 := (u1 q 10)
        let v3 := (u1 (q + 6) x1.toNatClampNeg)
        let s4 := sf_up u1 q 10 (if v2 < v3 then v3 else v2)
        if sf_in x1 40 then
          if ¬ (s4 (q + 1) x1.toNatClampNeg) = (105 : Int32) then
            dX2_measure_62 q n (x1 + (1 : Int32)) s4
          else
            let s5 := sf_up s4 q 11 (1 : Int32)
            dX2_measure_62 q n (x1 + (1 : Int32)) s5
        else
          none
      else
        none
set_option maxRecDepth 100000 in
set_option maxHeartbeats 4000000 in
theorem rX2_measure_62 {Wt : Nat → sf_L → List Value → sf_S → Prop} {Post : sf_S → Prop} (hs : sf_Snd Wt sf_layC sf_hV jX2_measure tX2_measure Post) (hm : sf_mono Wt) {q : Nat} (hq : q = 1 ∨ q = 36) : ∀ n : Nat, sf_CK Wt Post 62 (wX2_measure_62 q (dX2_measure_62 q n)) := by
  intro n
  induction n with
  | zero => exact wX2_measure_62_ok hm (fun x1 σ u h _ => by simp [dX2_measure_62] at h)
  | succ n ih =>
    refine wX2_measure_62_ok hm ?_
    intro x1 σ u h hp
    rcases hq with rfl | rfl
    · exact sf_run_ok hs (sf_sm_cons ih sf_sm_nil) 71 62 _ _ σ u h hp
    · exact sf_run_ok hs (sf_sm_cons ih sf_sm_nil) 71 62 _ _ σ u h hp
noncomputable def dX2_measure_7 (q : Nat) : Nat → Int32 → sf_S → Option sf_S
  | 0 => fun _ _ => none
  | n + 1 => fun x1 σ =>
    if x1 < 0 then
      let s1 := sf_up σ q 10 (-1 : Int32)
      let s2 := sf_up s1 q 11 (0 : Int32)
      if (s2 q 4) ≤ 0 then
        dX2_measure_62 q sf_F (0 : Int32) s2
      else
        if sf_in (0 : Int32) 40 then
          let s3 := sf_up s2 (q + 6) ((0 : Int32)).toNatClampNeg (0 : Int32)
          if sf_in (0 : Int32) 40 then
            let s4 := sf_up s3 (q + 7) ((0 : Int32)).toNatClampNeg (0 : Int32)
            if sf_in (0 : Int32) 40 then
              let s5 := sf_up s4 (q + 8) ((0 : Int32)).toNatClampNeg (-1 : Int32)
              dX2_measure_62 q sf_F (0 : Int32) s5
            else
              none
          else
            none
        else
          none
    else
      (dX2_measureFromParts q x1 σ).bind fun u6 =>
      dX2_measure_7 q n (x1 + (-1 : Int32)) u6
set_option maxRecDepth 100000 in
set_option maxHeartbeats 4000000 in
theorem rX2_measure_7 {Wt : Nat → sf_L → List Value → sf_S → Prop} {Post : sf_S → Prop} (hs : sf_Snd Wt sf_layC sf_hV jX2_measure tX2_measure Post) (hm : sf_mono Wt) {q : Nat} (hq : q = 1 ∨ q = 36) : ∀ n : Nat, sf_CK Wt Post 7 (wX2_measure_7 q (dX2_measure_7 q n)) := by
  intro n
  induction n with
  | zero => exact wX2_measure_7_ok hm (fun x1 σ u h _ => by simp [dX2_measure_7] at h)
  | succ n ih =>
    refine wX2_measure_7_ok hm ?_
    intro x1 σ u h hp
    rcases hq with rfl | rfl
    · exact sf_run_ok hs (sf_sm_cons ih (sf_sm_cons (rX2_measure_62 hs hm (Or.inl rfl) sf_F) sf_sm_nil)) 71 7 _ _ σ u h hp
    · exact sf_run_ok hs (sf_sm_cons ih (sf_sm_cons (rX2_measure_62 hs hm (Or.inr rfl) sf_F) sf_sm_nil)) 71 7 _ _ σ u h hp
noncomputable def dX2_measure (q : Nat) (σ : sf_S) : Option sf_S :=
  let v1 := ((σ q 4) - (1 : Int32))
  dX2_measure_7 q sf_F v1 σ
noncomputable abbrev gX2_measure (av : List Value) (σ : sf_S) : Option sf_S := match av with
  | [.ref q] => (match sf_rv [1, 36] q with | true => dX2_measure q σ | false => none)
  | _ => none
set_option maxRecDepth 100000 in
set_option maxHeartbeats 4000000 in
theorem rX2_measure {Wt : Nat → sf_L → List Value → sf_S → Prop} {Post : sf_S → Prop} (hs : sf_Snd Wt sf_layC sf_hV jX2_measure tX2_measure Post) (hm : sf_mono Wt) : ∀ av σ u, gX2_measure av σ = some u → Post u → (∀ ad, (lg_sl (av.map (sf_v ad))).length ≤ 2) ∧ Wt 0 (sf_ent 0 av) [] σ := by
  intro av σ u h hp
  unfold gX2_measure at h
  split at h
  · rename_i q
    split at h
    · rename_i hq
      have hq : q = 1 ∨ q = 36 := by simpa using sf_rv_mem hq
      refine ⟨fun ad => Nat.le_of_ble_eq_true rfl, ?_⟩
      rcases hq with rfl | rfl
      · exact sf_run_ok hs (sf_sm_cons (rX2_measure_7 hs hm (Or.inl rfl) sf_F) sf_sm_nil) 71 0 _ _ σ u h hp
      · exact sf_run_ok hs (sf_sm_cons (rX2_measure_7 hs hm (Or.inr rfl) sf_F) sf_sm_nil) 71 0 _ _ σ u h hp
    · cases h
  · cases h
theorem kX2_measure (l : Launch) : sf_C l sf_layC yX2_measure cX2_measure 2 none (sf_rm 3 145) (fun av σ => (gX2_measure av σ).map sf_vV) :=
  sf_met (tab := tX2_measure) (J := jX2_measure) (fl := sf_fl2) (cl := sf_cl2) (by decide +kernel) ⟨rfl, rfl⟩ sf_RH_V (by decide +kernel) sf_fl2_ok sf_cl2_ok
    (sf_JO_cons (sf_je_V (n := 2) (cs := [2]) (tv := sf_vV) (kX2_measureFromParts l) mwX2_measureFromParts (by decide +kernel : decode cX2_measure 13 = .ok (.invokevirtual 72, 3)) wt_620 wt_622 wt_12 (by decide +kernel) (by decide) (by decide) (List.forall_mem_cons.mpr ⟨⟨_, _, rfl⟩, fun _ h => absurd h List.not_mem_nil⟩) (sf_RM_of (by omega) (by omega))) (sf_JO_cons (sf_je_V (n := 2) (cs := [2]) (tv := sf_vV) (kX2_measureParts l) mwX2_measureParts (by decide +kernel : decode cX2_measure 72 = .ok (.invokevirtual 80, 3)) wt_625 wt_627 wt_13 (by decide +kernel) (by decide) (by decide) (List.forall_mem_cons.mpr ⟨⟨_, _, rfl⟩, fun _ h => absurd h List.not_mem_nil⟩) (sf_RM_of (by omega) (by omega))) (sf_JO_cons (sf_je_max (by decide +kernel : decode cX2_measure 86 = .ok (.invokestatic 83, 3)) wt_629 wt_630 wt_157 wt_631 (sf_RB_of (by omega) (by omega))) (sf_JO_nil))))
    (fun Wt Post hs hm => rX2_measure hs hm)
-- ===== StreamFuser$Plan.takeFrom(LStreamFuser$Plan;)V =====
abbrev tX2_takeFrom : List (Nat × sf_E) := [(0, (.aload_n 0, 1, 0, .null, [], [])), (1, (.iconst 0, 2, 0, .int (0), [], [])), (2, (.putfield 44, 5, 0, .null, [], [(2, 4)])), (5, (.iconst 0, 6, 0, .int (0), [], [])), (6, (.istore_n 2, 7, 0, .null, [], [])), (7, (.iload_n 2, 8, 0, .null, [], [])), (8, (.aload_n 1, 9, 0, .null, [], [])), (9, (.getfield 44, 12, 0, .null, [], [(2, 4)])), (12, (.if_icmp .ge 37, 15, 49, .null, [], [])), (15, (.aload_n 0, 16, 0, .null, [], [])), (16, (.aload_n 1, 17, 0, .null, [], [])), (17, (.getfield 9, 20, 0, .null, [], [(2, 0)])), (20, (.iload_n 2, 21, 0, .null, [], [])), (21, (.iaload, 22, 0, .null, [], [])), (22, (.aload_n 1, 23, 0, .null, [], [])), (23, (.getfield 15, 26, 0, .null, [], [(2, 1)])), (26, (.iload_n 2, 27, 0, .null, [], [])), (27, (.iaload, 28, 0, .null, [], [])), (28, (.aload_n 1, 29, 0, .null, [], [])), (29, (.getfield 18, 32, 0, .null, [], [(2, 2)])), (32, (.iload_n 2, 33, 0, .null, [], [])), (33, (.iaload, 34, 0, .null, [], [])), (34, (.aload_n 1, 35, 0, .null, [], [])), (35, (.getfield 21, 38, 0, .null, [], [(2, 3)])), (38, (.iload_n 2, 39, 0, .null, [], [])), (39, (.iaload, 40, 0, .null, [], [])), (40, (.invokevirtual 58, 43, 0, .null, [], [])), (43, (.iinc 2 1, 46, 0, .int (1), [], [])), (46, (.goto (-39), 49, 7, .null, [], [])), (49, (.aload_n 0, 50, 0, .null, [], [])), (50, (.invokevirtual 62, 53, 0, .null, [], [])), (53, (.return_, 54, 0, .null, [], []))]
noncomputable abbrev jX2_takeFrom : List (Nat × sf_J sf_S) := [(40, sf_jV sf_layC [2] 5 gX2_add), (50, sf_jV sf_layC [2] 1 gX2_measure)]
abbrev wX2_takeFrom_7 {ρ : Type} (q : Nat) (r1 : Nat) (k : Int32 → sf_S → Option ρ) : sf_M ρ := fun L st σ => sf_lda L 0 fun a0 => sf_eq a0 q (sf_lda L 1 fun a1 => sf_eq a1 r1 (sf_ldi L 2 fun x2 => sf_nil st (k x2 σ)))
theorem wX2_takeFrom_7_ok {ρ : Type} {Wt : Nat → sf_L → List Value → sf_S → Prop} {Post : ρ → Prop} (hm : sf_mono Wt) {q : Nat} {r1 : Nat} {k : Int32 → sf_S → Option ρ} (h : ∀ (x2 : Int32) (σ : sf_S) (u : ρ), k x2 σ = some u → Post u → Wt 7 [(0, some (.ref q)), (1, some (.ref r1)), (2, some (.int x2))] [] σ) : sf_CK Wt Post 7 (wX2_takeFrom_7 q r1 k) := by
  intro L st σ u hf hp
  unfold wX2_takeFrom_7 at hf
  have hf0 := hf
  obtain ⟨a0, e0, hf1⟩ := sf_lda_inv hf0
  obtain ⟨rfl, hf2⟩ := sf_eq_inv hf1
  obtain ⟨a1, e1, hf3⟩ := sf_lda_inv hf2
  obtain ⟨rfl, hf4⟩ := sf_eq_inv hf3
  obtain ⟨x2, e2, hf5⟩ := sf_ldi_inv hf4
  obtain ⟨rfl, hz⟩ := sf_nil_inv hf5
  exact hm _ [(0, some (.ref _)), (1, some (.ref _)), (2, some (.int x2))] _ _ _ (sf_le_ok (And.intro e0 (And.intro e1 (And.intro e2 trivial)))) (h _ _ _ hz hp)
noncomputable def dX2_takeFrom_7 (q : Nat) (r1 : Nat) : Nat → Int32 → sf_S → Option sf_S
  | 0 => fun _ _ => none
  | n + 1 => fun x2 σ =>
    if (σ r1 4) ≤ x2 then
      (dX2_measure q σ).bind fun u1 =>
      some u1
    else
      if sf_in x2 40 then
        if sf_in x2 40 then
          if sf_in x2 40 then
            if sf_in x2 40 then
              (dX2_add q (σ (r1 + 1) x2.toNatClampNeg) (σ (r1 + 2) x2.toNatClampNeg) (σ (r1 + 3) x2.toNatClampNeg) (σ (r1 + 4) x2.toNatClampNeg) σ).bind fun u2 =>
              dX2_takeFrom_7 q r1 n (x2 + (1 : Int32)) u2
            else
              none
          else
            none
        else
          none
      else
        none
set_option maxRecDepth 100000 in
set_option maxHeartbeats 4000000 in
theorem rX2_takeFrom_7 {Wt : Nat → sf_L → List Value → sf_S → Prop} {Post : sf_S → Prop} (hs : sf_Snd Wt sf_layC sf_hV jX2_takeFrom tX2_takeFrom Post) (hm : sf_mono Wt) {q r1 : Nat} (hq : (q = 1 ∧ r1 = 36) ∨ (q = 36 ∧ r1 = 1)) : ∀ n : Nat, sf_CK Wt Post 7 (wX2_takeFrom_7 q r1 (dX2_takeFrom_7 q r1 n)) := by
  intro n
  induction n with
  | zero => exact wX2_takeFrom_7_ok hm (fun x2 σ u h _ => by simp [dX2_takeFrom_7] at h)
  | succ n ih =>
    refine wX2_takeFrom_7_ok hm ?_
    intro x2 σ u h hp
    rcases hq with ⟨rfl, rfl⟩ | ⟨rfl, rfl⟩
    · exact sf_run_ok hs (sf_sm_cons ih sf_sm_nil) 37 7 _ _ σ u h hp
    · exact sf_run_ok hs (sf_sm_cons ih sf_sm_nil) 37 7 _ _ σ u h hp
noncomputable def dX2_takeFrom (q : Nat) (r1 : Nat) (σ : sf_S) : Option sf_S :=
  let s1 := sf_up σ q 4 (0 : Int32)
  dX2_takeFrom_7 q r1 sf_F (0 : Int32) s1
noncomputable abbrev gX2_takeFrom (av : List Value) (σ : sf_S) : Option sf_S := match av with
  | [.ref q, .ref r1] => (match sf_rv2 [(1, 36), (36, 1)] q r1 with | true => dX2_takeFrom q r1 σ | false => none)
  | _ => none
set_option maxRecDepth 100000 in
set_option maxHeartbeats 4000000 in
theorem rX2_takeFrom {Wt : Nat → sf_L → List Value → sf_S → Prop} {Post : sf_S → Prop} (hs : sf_Snd Wt sf_layC sf_hV jX2_takeFrom tX2_takeFrom Post) (hm : sf_mono Wt) : ∀ av σ u, gX2_takeFrom av σ = some u → Post u → (∀ ad, (lg_sl (av.map (sf_v ad))).length ≤ 3) ∧ Wt 0 (sf_ent 0 av) [] σ := by
  intro av σ u h hp
  unfold gX2_takeFrom at h
  split at h
  · rename_i q r1
    split at h
    · rename_i hq
      have hq : (q = 1 ∧ r1 = 36) ∨ (q = 36 ∧ r1 = 1) := by simpa using sf_rv2_mem hq
      refine ⟨fun ad => Nat.le_of_ble_eq_true rfl, ?_⟩
      rcases hq with ⟨rfl, rfl⟩ | ⟨rfl, rfl⟩
      · exact sf_run_ok hs (sf_sm_cons (rX2_takeFrom_7 hs hm (Or.inl ⟨rfl, rfl⟩) sf_F) sf_sm_nil) 37 0 _ _ σ u h hp
      · exact sf_run_ok hs (sf_sm_cons (rX2_takeFrom_7 hs hm (Or.inr ⟨rfl, rfl⟩) sf_F) sf_sm_nil) 37 0 _ _ σ u h hp
    · cases h
  · cases h
theorem kX2_takeFrom (l : Launch) : sf_C l sf_layC yX2_takeFrom cX2_takeFrom 3 none (sf_rm 4 166) (fun av σ => (gX2_takeFrom av σ).map sf_vV) :=
  sf_met (tab := tX2_takeFrom) (J := jX2_takeFrom) (fl := sf_fl2) (cl := sf_cl2) (by decide +kernel) ⟨rfl, rfl⟩ sf_RH_V (by decide +kernel) sf_fl2_ok sf_cl2_ok
    (sf_JO_cons (sf_je_V (n := 5) (cs := [2]) (tv := sf_vV) (kX2_add l) mwX2_add (by decide +kernel : decode cX2_takeFrom 40 = .ok (.invokevirtual 58, 3)) wt_615 wt_601 wt_8 (by decide +kernel) (by decide) (by decide) (List.forall_mem_cons.mpr ⟨⟨_, _, rfl⟩, fun _ h => absurd h List.not_mem_nil⟩) (sf_RM_of (by omega) (by omega))) (sf_JO_cons (sf_je_V (n := 1) (cs := [2]) (tv := sf_vV) (kX2_measure l) mwX2_measure (by decide +kernel : decode cX2_takeFrom 50 = .ok (.invokevirtual 62, 3)) wt_616 wt_618 wt_11 (by decide +kernel) (by decide) (by decide) (List.forall_mem_cons.mpr ⟨⟨_, _, rfl⟩, fun _ h => absurd h List.not_mem_nil⟩) (sf_RM_of (by omega) (by omega))) (sf_JO_nil)))
    (fun Wt Post hs hm => rX2_takeFrom hs hm)
end
section
/-! ===== 11.X6 ===== -/
-- ===== StreamFuser$Run.begin()V =====
abbrev tX6_begin : List (Nat × sf_E) := [(0, (.aload_n 0, 1, 0, .null, [], [])), (1, (.iconst 0, 2, 0, .int (0), [], [])), (2, (.putfield 21, 5, 0, .null, [], [(6, 1)])), (5, (.aload_n 0, 6, 0, .null, [], [])), (6, (.iconst 0, 7, 0, .int (0), [], [])), (7, (.putfield 25, 10, 0, .null, [], [(6, 2)])), (10, (.aload_n 0, 11, 0, .null, [], [])), (11, (.iconst 0, 12, 0, .int (0), [], [])), (12, (.putfield 28, 15, 0, .null, [], [(6, 3)])), (15, (.aload_n 0, 16, 0, .null, [], [])), (16, (.iconst 0, 17, 0, .int (0), [], [])), (17, (.putfield 31, 20, 0, .null, [], [(6, 4)])), (20, (.aload_n 0, 21, 0, .null, [], [])), (21, (.iconst 0, 22, 0, .int (0), [], [])), (22, (.putfield 34, 25, 0, .null, [], [(6, 5)])), (25, (.aload_n 0, 26, 0, .null, [], [])), (26, (.iconst 0, 27, 0, .int (0), [], [])), (27, (.putfield 37, 30, 0, .null, [], [(6, 6)])), (30, (.aload_n 0, 31, 0, .null, [], [])), (31, (.iconst 0, 32, 0, .int (0), [], [])), (32, (.putfield 40, 35, 0, .null, [], [(6, 9)])), (35, (.return_, 36, 0, .null, [], []))]
noncomputable abbrev jX6_begin : List (Nat × sf_J sf_S) := []
noncomputable def dX6_begin (q : Nat) (σ : sf_S) : Option sf_S :=
  let s1 := sf_up σ q 1 (0 : Int32)
  let s2 := sf_up s1 q 2 (0 : Int32)
  let s3 := sf_up s2 q 3 (0 : Int32)
  let s4 := sf_up s3 q 4 (0 : Int32)
  let s5 := sf_up s4 q 5 (0 : Int32)
  let s6 := sf_up s5 q 6 (0 : Int32)
  let s7 := sf_up s6 q 9 (0 : Int32)
  some s7
noncomputable abbrev gX6_begin (av : List Value) (σ : sf_S) : Option sf_S := match av with
  | [.ref q] => (match sf_rv [19, 51] q with | true => dX6_begin q σ | false => none)
  | _ => none
set_option maxRecDepth 100000 in
set_option maxHeartbeats 4000000 in
theorem rX6_begin {Wt : Nat → sf_L → List Value → sf_S → Prop} {Post : sf_S → Prop} (hs : sf_Snd Wt sf_layC sf_hV jX6_begin tX6_begin Post) (hm : sf_mono Wt) : ∀ av σ u, gX6_begin av σ = some u → Post u → (∀ ad, (lg_sl (av.map (sf_v ad))).length ≤ 1) ∧ Wt 0 (sf_ent 0 av) [] σ := by
  intro av σ u h hp
  unfold gX6_begin at h
  split at h
  · rename_i q
    split at h
    · rename_i hq
      have hq : q = 19 ∨ q = 51 := by simpa using sf_rv_mem hq
      refine ⟨fun ad => Nat.le_of_ble_eq_true rfl, ?_⟩
      rcases hq with rfl | rfl
      · exact sf_run_ok hs sf_sm_nil 27 0 _ _ σ u h hp
      · exact sf_run_ok hs sf_sm_nil 27 0 _ _ σ u h hp
    · cases h
  · cases h
theorem kX6_begin (l : Launch) : sf_C l sf_layC yX6_begin cX6_begin 1 none (sf_rm 1 100) (fun av σ => (gX6_begin av σ).map sf_vV) :=
  sf_met (tab := tX6_begin) (J := jX6_begin) (fl := sf_fl6) (cl := sf_cl6) (by decide +kernel) ⟨rfl, rfl⟩ sf_RH_V (by decide +kernel) sf_fl6_ok sf_cl6_ok
    (sf_JO_nil)
    (fun Wt Post hs hm => rX6_begin hs hm)
-- ===== StreamFuser$Run.give(I)V =====
abbrev tX6_give : List (Nat × sf_E) := [(0, (.aload_n 0, 1, 0, .null, [], [])), (1, (.getfield 21, 4, 0, .null, [], [(6, 1)])), (4, (.bipush 40, 6, 0, .int (40), [], [])), (6, (.if_icmp .lt 4, 9, 10, .null, [], [])), (9, (.return_, 10, 0, .null, [], [])), (10, (.aload_n 0, 11, 0, .null, [], [])), (11, (.getfield 9, 14, 0, .null, [], [(6, 0)])), (14, (.aload_n 0, 15, 0, .null, [], [])), (15, (.getfield 21, 18, 0, .null, [], [(6, 1)])), (18, (.iload_n 1, 19, 0, .null, [], [])), (19, (.iastore, 20, 0, .null, [], [])), (20, (.aload_n 0, 21, 0, .null, [], [])), (21, (.dup, 22, 0, .null, [], [])), (22, (.getfield 21, 25, 0, .null, [], [(6, 1)])), (25, (.iconst 1, 26, 0, .int (1), [], [])), (26, (.iadd, 27, 0, .null, [], [])), (27, (.putfield 21, 30, 0, .null, [], [(6, 1)])), (30, (.return_, 31, 0, .null, [], []))]
noncomputable abbrev jX6_give : List (Nat × sf_J sf_S) := []
noncomputable def dX6_give (q : Nat) (x1 : Int32) (σ : sf_S) : Option sf_S :=
  if (σ q 1) < (40 : Int32) then
    let v1 := (σ q 1)
    if sf_in v1 40 then
      let s2 := sf_up σ (q + 1) v1.toNatClampNeg x1
      let s3 := sf_up s2 q 1 ((s2 q 1) + (1 : Int32))
      some s3
    else
      none
  else
    some σ
noncomputable abbrev gX6_give (av : List Value) (σ : sf_S) : Option sf_S := match av with
  | [.ref q, .int x1] => (match sf_rv [19, 51] q with | true => dX6_give q x1 σ | false => none)
  | _ => none
set_option maxRecDepth 100000 in
set_option maxHeartbeats 4000000 in
theorem rX6_give {Wt : Nat → sf_L → List Value → sf_S → Prop} {Post : sf_S → Prop} (hs : sf_Snd Wt sf_layC sf_hV jX6_give tX6_give Post) (hm : sf_mono Wt) : ∀ av σ u, gX6_give av σ = some u → Post u → (∀ ad, (lg_sl (av.map (sf_v ad))).length ≤ 2) ∧ Wt 0 (sf_ent 0 av) [] σ := by
  intro av σ u h hp
  unfold gX6_give at h
  split at h
  · rename_i q x1
    split at h
    · rename_i hq
      have hq : q = 19 ∨ q = 51 := by simpa using sf_rv_mem hq
      refine ⟨fun ad => Nat.le_of_ble_eq_true rfl, ?_⟩
      rcases hq with rfl | rfl
      · exact sf_run_ok hs sf_sm_nil 23 0 _ _ σ u h hp
      · exact sf_run_ok hs sf_sm_nil 23 0 _ _ σ u h hp
    · cases h
  · cases h
theorem kX6_give (l : Launch) : sf_C l sf_layC yX6_give cX6_give 2 none (sf_rm 1 100) (fun av σ => (gX6_give av σ).map sf_vV) :=
  sf_met (tab := tX6_give) (J := jX6_give) (fl := sf_fl6) (cl := sf_cl6) (by decide +kernel) ⟨rfl, rfl⟩ sf_RH_V (by decide +kernel) sf_fl6_ok sf_cl6_ok
    (sf_JO_nil)
    (fun Wt Post hs hm => rX6_give hs hm)
-- ===== StreamFuser$Run.fail(II)V =====
abbrev tX6_fail : List (Nat × sf_E) := [(0, (.aload_n 0, 1, 0, .null, [], [])), (1, (.iload_n 1, 2, 0, .null, [], [])), (2, (.putfield 34, 5, 0, .null, [], [(6, 5)])), (5, (.aload_n 0, 6, 0, .null, [], [])), (6, (.iload_n 2, 7, 0, .null, [], [])), (7, (.putfield 37, 10, 0, .null, [], [(6, 6)])), (10, (.return_, 11, 0, .null, [], []))]
noncomputable abbrev jX6_fail : List (Nat × sf_J sf_S) := []
noncomputable def dX6_fail (q : Nat) (x1 : Int32) (x2 : Int32) (σ : sf_S) : Option sf_S :=
  let s1 := sf_up σ q 5 x1
  let s2 := sf_up s1 q 6 x2
  some s2
noncomputable abbrev gX6_fail (av : List Value) (σ : sf_S) : Option sf_S := match av with
  | [.ref q, .int x1, .int x2] => (match sf_rv [19, 51] q with | true => dX6_fail q x1 x2 σ | false => none)
  | _ => none
set_option maxRecDepth 100000 in
set_option maxHeartbeats 4000000 in
theorem rX6_fail {Wt : Nat → sf_L → List Value → sf_S → Prop} {Post : sf_S → Prop} (hs : sf_Snd Wt sf_layC sf_hV jX6_fail tX6_fail Post) (hm : sf_mono Wt) : ∀ av σ u, gX6_fail av σ = some u → Post u → (∀ ad, (lg_sl (av.map (sf_v ad))).length ≤ 3) ∧ Wt 0 (sf_ent 0 av) [] σ := by
  intro av σ u h hp
  unfold gX6_fail at h
  split at h
  · rename_i q x1 x2
    split at h
    · rename_i hq
      have hq : q = 19 ∨ q = 51 := by simpa using sf_rv_mem hq
      refine ⟨fun ad => Nat.le_of_ble_eq_true rfl, ?_⟩
      rcases hq with rfl | rfl
      · exact sf_run_ok hs sf_sm_nil 12 0 _ _ σ u h hp
      · exact sf_run_ok hs sf_sm_nil 12 0 _ _ σ u h hp
    · cases h
  · cases h
theorem kX6_fail (l : Launch) : sf_C l sf_layC yX6_fail cX6_fail 3 none (sf_rm 1 100) (fun av σ => (gX6_fail av σ).map sf_vV) :=
  sf_met (tab := tX6_fail) (J := jX6_fail) (fl := sf_fl6) (cl := sf_cl6) (by decide +kernel) ⟨rfl, rfl⟩ sf_RH_V (by decide +kernel) sf_fl6_ok sf_cl6_ok
    (sf_JO_nil)
    (fun Wt Post hs hm => rX6_fail hs hm)
-- ===== StreamFuser$Run.draw(I)Z =====
abbrev tX6_draw : List (Nat × sf_E) := [(0, (.iload_n 1, 1, 0, .null, [], [])), (1, (.sipush 500, 4, 0, .int (500), [], [])), (4, (.aload_n 0, 5, 0, .null, [], [])), (5, (.getfield 25, 8, 0, .null, [], [(6, 2)])), (8, (.isub, 9, 0, .null, [], [])), (9, (.if_icmp .le 18, 12, 27, .null, [], [])), (12, (.aload_n 0, 13, 0, .null, [], [])), (13, (.sipush 500, 16, 0, .int (500), [], [])), (16, (.putfield 25, 19, 0, .null, [], [(6, 2)])), (19, (.aload_n 0, 20, 0, .null, [], [])), (20, (.iconst 3, 21, 0, .int (3), [], [])), (21, (.iconst 0, 22, 0, .int (0), [], [])), (22, (.invokevirtual 43, 25, 0, .null, [], [])), (25, (.iconst 0, 26, 0, .int (0), [], [])), (26, (.ireturn, 27, 0, .null, [], [])), (27, (.aload_n 0, 28, 0, .null, [], [])), (28, (.dup, 29, 0, .null, [], [])), (29, (.getfield 25, 32, 0, .null, [], [(6, 2)])), (32, (.iload_n 1, 33, 0, .null, [], [])), (33, (.iadd, 34, 0, .null, [], [])), (34, (.putfield 25, 37, 0, .null, [], [(6, 2)])), (37, (.iconst 1, 38, 0, .int (1), [], [])), (38, (.ireturn, 39, 0, .null, [], []))]
noncomputable abbrev jX6_draw : List (Nat × sf_J (Int32 × sf_S)) := [(22, sf_jV sf_layC [6] 3 gX6_fail)]
noncomputable def dX6_draw (q : Nat) (x1 : Int32) (σ : sf_S) : Option (Int32 × sf_S) :=
  if x1 ≤ ((500 : Int32) - (σ q 2)) then
    let s1 := sf_up σ q 2 ((σ q 2) + x1)
    some ((1 : Int32), s1)
  else
    let s2 := sf_up σ q 2 (500 : Int32)
    (dX6_fail q (3 : Int32) (0 : Int32) s2).bind fun u3 =>
    some ((0 : Int32), u3)
noncomputable abbrev gX6_draw (av : List Value) (σ : sf_S) : Option (Int32 × sf_S) := match av with
  | [.ref q, .int x1] => (match sf_rv [19, 51] q with | true => dX6_draw q x1 σ | false => none)
  | _ => none
set_option maxRecDepth 100000 in
set_option maxHeartbeats 4000000 in
theorem rX6_draw {Wt : Nat → sf_L → List Value → sf_S → Prop} {Post : (Int32 × sf_S) → Prop} (hs : sf_Snd Wt sf_layC sf_hZ jX6_draw tX6_draw Post) (hm : sf_mono Wt) : ∀ av σ u, gX6_draw av σ = some u → Post u → (∀ ad, (lg_sl (av.map (sf_v ad))).length ≤ 2) ∧ Wt 0 (sf_ent 0 av) [] σ := by
  intro av σ u h hp
  unfold gX6_draw at h
  split at h
  · rename_i q x1
    split at h
    · rename_i hq
      have hq : q = 19 ∨ q = 51 := by simpa using sf_rv_mem hq
      refine ⟨fun ad => Nat.le_of_ble_eq_true rfl, ?_⟩
      rcases hq with rfl | rfl
      · exact sf_run_ok hs sf_sm_nil 28 0 _ _ σ u h hp
      · exact sf_run_ok hs sf_sm_nil 28 0 _ _ σ u h hp
    · cases h
  · cases h
theorem kX6_draw (l : Launch) : sf_C l sf_layC yX6_draw cX6_draw 2 (some .boolean) (sf_rm 2 122) (fun av σ => (gX6_draw av σ).map sf_vI) :=
  sf_met (tab := tX6_draw) (J := jX6_draw) (fl := sf_fl6) (cl := sf_cl6) (by decide +kernel) ⟨rfl, rfl⟩ sf_RH_Z (by decide +kernel) sf_fl6_ok sf_cl6_ok
    (sf_JO_cons (sf_je_V (n := 3) (cs := [6]) (tv := sf_vV) (kX6_fail l) mwX6_fail (by decide +kernel : decode cX6_draw 22 = .ok (.invokevirtual 43, 3)) wt_906 wt_792 wt_39 (by decide +kernel) (by decide) (by decide) (List.forall_mem_cons.mpr ⟨⟨_, _, rfl⟩, fun _ h => absurd h List.not_mem_nil⟩) (sf_RM_of (by omega) (by omega))) (sf_JO_nil))
    (fun Wt Post hs hm => rX6_draw hs hm)
-- ===== StreamFuser$Run.failed()Z =====
abbrev tX6_failed : List (Nat × sf_E) := [(0, (.aload_n 0, 1, 0, .null, [], [])), (1, (.getfield 34, 4, 0, .null, [], [(6, 5)])), (4, (.ifCond .eq 7, 7, 11, .null, [], [])), (7, (.iconst 1, 8, 0, .int (1), [], [])), (8, (.goto 4, 11, 12, .null, [], [])), (11, (.iconst 0, 12, 0, .int (0), [], [])), (12, (.ireturn, 13, 0, .null, [], []))]
noncomputable abbrev jX6_failed : List (Nat × sf_J (Int32 × sf_S)) := []
noncomputable def dX6_failed (q : Nat) (σ : sf_S) : Option (Int32 × sf_S) :=
  if (σ q 5) = 0 then
    some ((0 : Int32), σ)
  else
    some ((1 : Int32), σ)
noncomputable abbrev gX6_failed (av : List Value) (σ : sf_S) : Option (Int32 × sf_S) := match av with
  | [.ref q] => (match sf_rv [19, 51] q with | true => dX6_failed q σ | false => none)
  | _ => none
set_option maxRecDepth 100000 in
set_option maxHeartbeats 4000000 in
theorem rX6_failed {Wt : Nat → sf_L → List Value → sf_S → Prop} {Post : (Int32 × sf_S) → Prop} (hs : sf_Snd Wt sf_layC sf_hZ jX6_failed tX6_failed Post) (hm : sf_mono Wt) : ∀ av σ u, gX6_failed av σ = some u → Post u → (∀ ad, (lg_sl (av.map (sf_v ad))).length ≤ 1) ∧ Wt 0 (sf_ent 0 av) [] σ := by
  intro av σ u h hp
  unfold gX6_failed at h
  split at h
  · rename_i q
    split at h
    · rename_i hq
      have hq : q = 19 ∨ q = 51 := by simpa using sf_rv_mem hq
      refine ⟨fun ad => Nat.le_of_ble_eq_true rfl, ?_⟩
      rcases hq with rfl | rfl
      · exact sf_run_ok hs sf_sm_nil 12 0 _ _ σ u h hp
      · exact sf_run_ok hs sf_sm_nil 12 0 _ _ σ u h hp
    · cases h
  · cases h
theorem kX6_failed (l : Launch) : sf_C l sf_layC yX6_failed cX6_failed 1 (some .boolean) (sf_rm 1 100) (fun av σ => (gX6_failed av σ).map sf_vI) :=
  sf_met (tab := tX6_failed) (J := jX6_failed) (fl := sf_fl6) (cl := sf_cl6) (by decide +kernel) ⟨rfl, rfl⟩ sf_RH_Z (by decide +kernel) sf_fl6_ok sf_cl6_ok
    (sf_JO_nil)
    (fun Wt Post hs hm => rX6_failed hs hm)
-- ===== StreamFuser$Run.note(II)V =====
abbrev tX6_note : List (Nat × sf_E) := [(0, (.aload_n 0, 1, 0, .null, [], [])), (1, (.getfield 40, 4, 0, .null, [], [(6, 9)])), (4, (.bipush 40, 6, 0, .int (40), [], [])), (6, (.if_icmp .ge 23, 9, 29, .null, [], [])), (9, (.aload_n 0, 10, 0, .null, [], [])), (10, (.getfield 15, 13, 0, .null, [], [(6, 7)])), (13, (.aload_n 0, 14, 0, .null, [], [])), (14, (.getfield 40, 17, 0, .null, [], [(6, 9)])), (17, (.iload_n 1, 18, 0, .null, [], [])), (18, (.iastore, 19, 0, .null, [], [])), (19, (.aload_n 0, 20, 0, .null, [], [])), (20, (.getfield 18, 23, 0, .null, [], [(6, 8)])), (23, (.aload_n 0, 24, 0, .null, [], [])), (24, (.getfield 40, 27, 0, .null, [], [(6, 9)])), (27, (.iload_n 2, 28, 0, .null, [], [])), (28, (.iastore, 29, 0, .null, [], [])), (29, (.aload_n 0, 30, 0, .null, [], [])), (30, (.dup, 31, 0, .null, [], [])), (31, (.getfield 40, 34, 0, .null, [], [(6, 9)])), (34, (.iconst 1, 35, 0, .int (1), [], [])), (35, (.iadd, 36, 0, .null, [], [])), (36, (.putfield 40, 39, 0, .null, [], [(6, 9)])), (39, (.return_, 40, 0, .null, [], []))]
noncomputable abbrev jX6_note : List (Nat × sf_J sf_S) := []
noncomputable def dX6_note (q : Nat) (x1 : Int32) (x2 : Int32) (σ : sf_S) : Option sf_S :=
  if (40 : Int32) ≤ (σ q 9) then
    let s1 := sf_up σ q 9 ((σ q 9) + (1 : Int32))
    some s1
  else
    let v2 := (σ q 9)
    if sf_in v2 40 then
      let s3 := sf_up σ (q + 2) v2.toNatClampNeg x1
      let v4 := (s3 q 9)
      if sf_in v4 40 then
        let s5 := sf_up s3 (q + 3) v4.toNatClampNeg x2
        let s6 := sf_up s5 q 9 ((s5 q 9) + (1 : Int32))
        some s6
      else
        none
    else
      none
noncomputable abbrev gX6_note (av : List Value) (σ : sf_S) : Option sf_S := match av with
  | [.ref q, .int x1, .int x2] => (match sf_rv [19, 51] q with | true => dX6_note q x1 x2 σ | false => none)
  | _ => none
set_option maxRecDepth 100000 in
set_option maxHeartbeats 4000000 in
theorem rX6_note {Wt : Nat → sf_L → List Value → sf_S → Prop} {Post : sf_S → Prop} (hs : sf_Snd Wt sf_layC sf_hV jX6_note tX6_note Post) (hm : sf_mono Wt) : ∀ av σ u, gX6_note av σ = some u → Post u → (∀ ad, (lg_sl (av.map (sf_v ad))).length ≤ 3) ∧ Wt 0 (sf_ent 0 av) [] σ := by
  intro av σ u h hp
  unfold gX6_note at h
  split at h
  · rename_i q x1 x2
    split at h
    · rename_i hq
      have hq : q = 19 ∨ q = 51 := by simpa using sf_rv_mem hq
      refine ⟨fun ad => Nat.le_of_ble_eq_true rfl, ?_⟩
      rcases hq with rfl | rfl
      · exact sf_run_ok hs sf_sm_nil 28 0 _ _ σ u h hp
      · exact sf_run_ok hs sf_sm_nil 28 0 _ _ σ u h hp
    · cases h
  · cases h
theorem kX6_note (l : Launch) : sf_C l sf_layC yX6_note cX6_note 3 none (sf_rm 1 100) (fun av σ => (gX6_note av σ).map sf_vV) :=
  sf_met (tab := tX6_note) (J := jX6_note) (fl := sf_fl6) (cl := sf_cl6) (by decide +kernel) ⟨rfl, rfl⟩ sf_RH_V (by decide +kernel) sf_fl6_ok sf_cl6_ok
    (sf_JO_nil)
    (fun Wt Post hs hm => rX6_note hs hm)
-- ===== StreamFuser$Run.kept()I =====
abbrev tX6_kept : List (Nat × sf_E) := [(0, (.aload_n 0, 1, 0, .null, [], [])), (1, (.getfield 40, 4, 0, .null, [], [(6, 9)])), (4, (.bipush 40, 6, 0, .int (40), [], [])), (6, (.invokestatic 47, 9, 0, .null, [], [])), (9, (.ireturn, 10, 0, .null, [], []))]
noncomputable abbrev jX6_kept : List (Nat × sf_J (Int32 × sf_S)) := [(6, sf_jmin)]
noncomputable def dX6_kept (q : Nat) (σ : sf_S) : Option (Int32 × sf_S) :=
  let v1 := (σ q 9)
  some ((if (40 : Int32) < v1 then (40 : Int32) else v1), σ)
noncomputable abbrev gX6_kept (av : List Value) (σ : sf_S) : Option (Int32 × sf_S) := match av with
  | [.ref q] => (match sf_rv [19, 51] q with | true => dX6_kept q σ | false => none)
  | _ => none
set_option maxRecDepth 100000 in
set_option maxHeartbeats 4000000 in
theorem rX6_kept {Wt : Nat → sf_L → List Value → sf_S → Prop} {Post : (Int32 × sf_S) → Prop} (hs : sf_Snd Wt sf_layC sf_hI jX6_kept tX6_kept Post) (hm : sf_mono Wt) : ∀ av σ u, gX6_kept av σ = some u → Post u → (∀ ad, (lg_sl (av.map (sf_v ad))).length ≤ 1) ∧ Wt 0 (sf_ent 0 av) [] σ := by
  intro av σ u h hp
  unfold gX6_kept at h
  split at h
  · rename_i q
    split at h
    · rename_i hq
      have hq : q = 19 ∨ q = 51 := by simpa using sf_rv_mem hq
      refine ⟨fun ad => Nat.le_of_ble_eq_true rfl, ?_⟩
      rcases hq with rfl | rfl
      · exact sf_run_ok hs sf_sm_nil 10 0 _ _ σ u h hp
      · exact sf_run_ok hs sf_sm_nil 10 0 _ _ σ u h hp
    · cases h
  · cases h
theorem kX6_kept (l : Launch) : sf_C l sf_layC yX6_kept cX6_kept 1 (some .int) (sf_rm 1 100) (fun av σ => (gX6_kept av σ).map sf_vI) :=
  sf_met (tab := tX6_kept) (J := jX6_kept) (fl := sf_fl6) (cl := sf_cl6) (by decide +kernel) ⟨rfl, rfl⟩ sf_RH_I (by decide +kernel) sf_fl6_ok sf_cl6_ok
    (sf_JO_cons (sf_je_min (by decide +kernel : decode cX6_kept 6 = .ok (.invokestatic 47, 3)) wt_1075 wt_748 wt_157 wt_749 (sf_RB_of (by omega) (by omega))) (sf_JO_nil))
    (fun Wt Post hs hm => rX6_kept hs hm)
-- ===== StreamFuser$Run.sum()J =====
abbrev tX6_sum : List (Nat × sf_E) := [(0, (.lconst 0, 1, 0, .long 0, [], [])), (1, (.lstore_n 1, 2, 0, .null, [], [])), (2, (.iconst 0, 3, 0, .int (0), [], [])), (3, (.istore_n 3, 4, 0, .null, [], [])), (4, (.iload_n 3, 5, 0, .null, [], [])), (5, (.aload_n 0, 6, 0, .null, [], [])), (6, (.getfield 21, 9, 0, .null, [], [(6, 1)])), (9, (.if_icmp .ge 19, 12, 28, .null, [], [])), (12, (.lload_n 1, 13, 0, .null, [], [])), (13, (.aload_n 0, 14, 0, .null, [], [])), (14, (.getfield 9, 17, 0, .null, [], [(6, 0)])), (17, (.iload_n 3, 18, 0, .null, [], [])), (18, (.iaload, 19, 0, .null, [], [])), (19, (.i2l, 20, 0, .null, [], [])), (20, (.ladd, 21, 0, .null, [], [])), (21, (.lstore_n 1, 22, 0, .null, [], [])), (22, (.iinc 3 1, 25, 0, .int (1), [], [])), (25, (.goto (-21), 28, 4, .null, [], [])), (28, (.lload_n 1, 29, 0, .null, [], [])), (29, (.lreturn, 30, 0, .null, [], []))]
noncomputable abbrev jX6_sum : List (Nat × sf_J (Int64 × sf_S)) := []
abbrev wX6_sum_4 {ρ : Type} (q : Nat) (k : Int64 → Int32 → sf_S → Option ρ) : sf_M ρ := fun L st σ => sf_lda L 0 fun a0 => sf_eq a0 q (sf_ldl L 1 fun x1 => sf_ldi L 3 fun x3 => sf_nil st (k x1 x3 σ))
theorem wX6_sum_4_ok {ρ : Type} {Wt : Nat → sf_L → List Value → sf_S → Prop} {Post : ρ → Prop} (hm : sf_mono Wt) {q : Nat} {k : Int64 → Int32 → sf_S → Option ρ} (h : ∀ (x1 : Int64) (x3 : Int32) (σ : sf_S) (u : ρ), k x1 x3 σ = some u → Post u → Wt 4 [(0, some (.ref q)), (1, some (.long x1)), (3, some (.int x3))] [] σ) : sf_CK Wt Post 4 (wX6_sum_4 q k) := by
  intro L st σ u hf hp
  unfold wX6_sum_4 at hf
  have hf0 := hf
  obtain ⟨a0, e0, hf1⟩ := sf_lda_inv hf0
  obtain ⟨rfl, hf2⟩ := sf_eq_inv hf1
  obtain ⟨x1, e1, hf3⟩ := sf_ldl_inv hf2
  obtain ⟨x3, e3, hf4⟩ := sf_ldi_inv hf3
  obtain ⟨rfl, hz⟩ := sf_nil_inv hf4
  exact hm _ [(0, some (.ref _)), (1, some (.long x1)), (3, some (.int x3))] _ _ _ (sf_le_ok (And.intro e0 (And.intro e1 (And.intro e3 trivial)))) (h _ _ _ _ hz hp)
noncomputable def dX6_sum_4 (q : Nat) : Nat → Int64 → Int32 → sf_S → Option (Int64 × sf_S)
  | 0 => fun _ _ _ => none
  | n + 1 => fun x1 x3 σ =>
    if (σ q 1) ≤ x3 then
      some (x1, σ)
    else
      if sf_in x3 40 then
        let v1 := (x1 + ((σ (q + 1) x3.toNatClampNeg)).toInt64)
        dX6_sum_4 q n v1 (x3 + (1 : Int32)) σ
      else
        none
set_option maxRecDepth 100000 in
set_option maxHeartbeats 4000000 in
theorem rX6_sum_4 {Wt : Nat → sf_L → List Value → sf_S → Prop} {Post : (Int64 × sf_S) → Prop} (hs : sf_Snd Wt sf_layC sf_hL jX6_sum tX6_sum Post) (hm : sf_mono Wt) {q : Nat} (hq : q = 19 ∨ q = 51) : ∀ n : Nat, sf_CK Wt Post 4 (wX6_sum_4 q (dX6_sum_4 q n)) := by
  intro n
  induction n with
  | zero => exact wX6_sum_4_ok hm (fun x1 x3 σ u h _ => by simp [dX6_sum_4] at h)
  | succ n ih =>
    refine wX6_sum_4_ok hm ?_
    intro x1 x3 σ u h hp
    rcases hq with rfl | rfl
    · exact sf_run_ok hs (sf_sm_cons ih sf_sm_nil) 25 4 _ _ σ u h hp
    · exact sf_run_ok hs (sf_sm_cons ih sf_sm_nil) 25 4 _ _ σ u h hp
noncomputable def dX6_sum (q : Nat) (σ : sf_S) : Option (Int64 × sf_S) :=
  dX6_sum_4 q sf_F (0 : Int64) (0 : Int32) σ
noncomputable abbrev gX6_sum (av : List Value) (σ : sf_S) : Option (Int64 × sf_S) := match av with
  | [.ref q] => (match sf_rv [19, 51] q with | true => dX6_sum q σ | false => none)
  | _ => none
set_option maxRecDepth 100000 in
set_option maxHeartbeats 4000000 in
theorem rX6_sum {Wt : Nat → sf_L → List Value → sf_S → Prop} {Post : (Int64 × sf_S) → Prop} (hs : sf_Snd Wt sf_layC sf_hL jX6_sum tX6_sum Post) (hm : sf_mono Wt) : ∀ av σ u, gX6_sum av σ = some u → Post u → (∀ ad, (lg_sl (av.map (sf_v ad))).length ≤ 4) ∧ Wt 0 (sf_ent 0 av) [] σ := by
  intro av σ u h hp
  unfold gX6_sum at h
  split at h
  · rename_i q
    split at h
    · rename_i hq
      have hq : q = 19 ∨ q = 51 := by simpa using sf_rv_mem hq
      refine ⟨fun ad => Nat.le_of_ble_eq_true rfl, ?_⟩
      rcases hq with rfl | rfl
      · exact sf_run_ok hs (sf_sm_cons (rX6_sum_4 hs hm (Or.inl rfl) sf_F) sf_sm_nil) 25 0 _ _ σ u h hp
      · exact sf_run_ok hs (sf_sm_cons (rX6_sum_4 hs hm (Or.inr rfl) sf_F) sf_sm_nil) 25 0 _ _ σ u h hp
    · cases h
  · cases h
theorem kX6_sum (l : Launch) : sf_C l sf_layC yX6_sum cX6_sum 4 (some .long) (sf_rm 1 100) (fun av σ => (gX6_sum av σ).map sf_vL) :=
  sf_met (tab := tX6_sum) (J := jX6_sum) (fl := sf_fl6) (cl := sf_cl6) (by decide +kernel) ⟨rfl, rfl⟩ sf_RH_L (by decide +kernel) sf_fl6_ok sf_cl6_ok
    (sf_JO_nil)
    (fun Wt Post hs hm => rX6_sum hs hm)
-- ===== StreamFuser$Run.greatest()I =====
abbrev tX6_greatest : List (Nat × sf_E) := [(0, (.ldc 55, 2, 0, .int (-2147483648), [], [])), (2, (.istore_n 1, 3, 0, .null, [], [])), (3, (.iconst 0, 4, 0, .int (0), [], [])), (4, (.istore_n 2, 5, 0, .null, [], [])), (5, (.iload_n 2, 6, 0, .null, [], [])), (6, (.aload_n 0, 7, 0, .null, [], [])), (7, (.getfield 21, 10, 0, .null, [], [(6, 1)])), (10, (.if_icmp .ge 20, 13, 30, .null, [], [])), (13, (.iload_n 1, 14, 0, .null, [], [])), (14, (.aload_n 0, 15, 0, .null, [], [])), (15, (.getfield 9, 18, 0, .null, [], [(6, 0)])), (18, (.iload_n 2, 19, 0, .null, [], [])), (19, (.iaload, 20, 0, .null, [], [])), (20, (.invokestatic 56, 23, 0, .null, [], [])), (23, (.istore_n 1, 24, 0, .null, [], [])), (24, (.iinc 2 1, 27, 0, .int (1), [], [])), (27, (.goto (-22), 30, 5, .null, [], [])), (30, (.iload_n 1, 31, 0, .null, [], [])), (31, (.ireturn, 32, 0, .null, [], []))]
noncomputable abbrev jX6_greatest : List (Nat × sf_J (Int32 × sf_S)) := [(20, sf_jmax)]
abbrev wX6_greatest_5 {ρ : Type} (q : Nat) (k : Int32 → Int32 → sf_S → Option ρ) : sf_M ρ := fun L st σ => sf_lda L 0 fun a0 => sf_eq a0 q (sf_ldi L 1 fun x1 => sf_ldi L 2 fun x2 => sf_nil st (k x1 x2 σ))
theorem wX6_greatest_5_ok {ρ : Type} {Wt : Nat → sf_L → List Value → sf_S → Prop} {Post : ρ → Prop} (hm : sf_mono Wt) {q : Nat} {k : Int32 → Int32 → sf_S → Option ρ} (h : ∀ (x1 : Int32) (x2 : Int32) (σ : sf_S) (u : ρ), k x1 x2 σ = some u → Post u → Wt 5 [(0, some (.ref q)), (1, some (.int x1)), (2, some (.int x2))] [] σ) : sf_CK Wt Post 5 (wX6_greatest_5 q k) := by
  intro L st σ u hf hp
  unfold wX6_greatest_5 at hf
  have hf0 := hf
  obtain ⟨a0, e0, hf1⟩ := sf_lda_inv hf0
  obtain ⟨rfl, hf2⟩ := sf_eq_inv hf1
  obtain ⟨x1, e1, hf3⟩ := sf_ldi_inv hf2
  obtain ⟨x2, e2, hf4⟩ := sf_ldi_inv hf3
  obtain ⟨rfl, hz⟩ := sf_nil_inv hf4
  exact hm _ [(0, some (.ref _)), (1, some (.int x1)), (2, some (.int x2))] _ _ _ (sf_le_ok (And.intro e0 (And.intro e1 (And.intro e2 trivial)))) (h _ _ _ _ hz hp)
noncomputable def dX6_greatest_5 (q : Nat) : Nat → Int32 → Int32 → sf_S → Option (Int32 × sf_S)
  | 0 => fun _ _ _ => none
  | n + 1 => fun x1 x2 σ =>
    if (σ q 1) ≤ x2 then
      some (x1, σ)
    else
      if sf_in x2 40 then
        let v1 := (σ (q + 1) x2.toNatClampNeg)
        let v2 := (if x1 < v1 then v1 else x1)
        dX6_greatest_5 q n v2 (x2 + (1 : Int32)) σ
      else
        none
set_option maxRecDepth 100000 in
set_option maxHeartbeats 4000000 in
theorem rX6_greatest_5 {Wt : Nat → sf_L → List Value → sf_S → Prop} {Post : (Int32 × sf_S) → Prop} (hs : sf_Snd Wt sf_layC sf_hI jX6_greatest tX6_greatest Post) (hm : sf_mono Wt) {q : Nat} (hq : q = 19 ∨ q = 51) : ∀ n : Nat, sf_CK Wt Post 5 (wX6_greatest_5 q (dX6_greatest_5 q n)) := by
  intro n
  induction n with
  | zero => exact wX6_greatest_5_ok hm (fun x1 x2 σ u h _ => by simp [dX6_greatest_5] at h)
  | succ n ih =>
    refine wX6_greatest_5_ok hm ?_
    intro x1 x2 σ u h hp
    rcases hq with rfl | rfl
    · exact sf_run_ok hs (sf_sm_cons ih sf_sm_nil) 24 5 _ _ σ u h hp
    · exact sf_run_ok hs (sf_sm_cons ih sf_sm_nil) 24 5 _ _ σ u h hp
noncomputable def dX6_greatest (q : Nat) (σ : sf_S) : Option (Int32 × sf_S) :=
  dX6_greatest_5 q sf_F (-2147483648 : Int32) (0 : Int32) σ
noncomputable abbrev gX6_greatest (av : List Value) (σ : sf_S) : Option (Int32 × sf_S) := match av with
  | [.ref q] => (match sf_rv [19, 51] q with | true => dX6_greatest q σ | false => none)
  | _ => none
set_option maxRecDepth 100000 in
set_option maxHeartbeats 4000000 in
theorem rX6_greatest {Wt : Nat → sf_L → List Value → sf_S → Prop} {Post : (Int32 × sf_S) → Prop} (hs : sf_Snd Wt sf_layC sf_hI jX6_greatest tX6_greatest Post) (hm : sf_mono Wt) : ∀ av σ u, gX6_greatest av σ = some u → Post u → (∀ ad, (lg_sl (av.map (sf_v ad))).length ≤ 3) ∧ Wt 0 (sf_ent 0 av) [] σ := by
  intro av σ u h hp
  unfold gX6_greatest at h
  split at h
  · rename_i q
    split at h
    · rename_i hq
      have hq : q = 19 ∨ q = 51 := by simpa using sf_rv_mem hq
      refine ⟨fun ad => Nat.le_of_ble_eq_true rfl, ?_⟩
      rcases hq with rfl | rfl
      · exact sf_run_ok hs (sf_sm_cons (rX6_greatest_5 hs hm (Or.inl rfl) sf_F) sf_sm_nil) 24 0 _ _ σ u h hp
      · exact sf_run_ok hs (sf_sm_cons (rX6_greatest_5 hs hm (Or.inr rfl) sf_F) sf_sm_nil) 24 0 _ _ σ u h hp
    · cases h
  · cases h
theorem kX6_greatest (l : Launch) : sf_C l sf_layC yX6_greatest cX6_greatest 3 (some .int) (sf_rm 1 100) (fun av σ => (gX6_greatest av σ).map sf_vI) :=
  sf_met (tab := tX6_greatest) (J := jX6_greatest) (fl := sf_fl6) (cl := sf_cl6) (by decide +kernel) ⟨rfl, rfl⟩ sf_RH_I (by decide +kernel) sf_fl6_ok sf_cl6_ok
    (sf_JO_cons (sf_je_max (by decide +kernel : decode cX6_greatest 20 = .ok (.invokestatic 56, 3)) wt_1069 wt_630 wt_157 wt_631 (sf_RB_of (by omega) (by omega))) (sf_JO_nil))
    (fun Wt Post hs hm => rX6_greatest hs hm)
-- ===== StreamFuser$Run.smallest()I =====
abbrev tX6_smallest : List (Nat × sf_E) := [(0, (.ldc 59, 2, 0, .int (2147483647), [], [])), (2, (.istore_n 1, 3, 0, .null, [], [])), (3, (.iconst 0, 4, 0, .int (0), [], [])), (4, (.istore_n 2, 5, 0, .null, [], [])), (5, (.iload_n 2, 6, 0, .null, [], [])), (6, (.aload_n 0, 7, 0, .null, [], [])), (7, (.getfield 21, 10, 0, .null, [], [(6, 1)])), (10, (.if_icmp .ge 20, 13, 30, .null, [], [])), (13, (.iload_n 1, 14, 0, .null, [], [])), (14, (.aload_n 0, 15, 0, .null, [], [])), (15, (.getfield 9, 18, 0, .null, [], [(6, 0)])), (18, (.iload_n 2, 19, 0, .null, [], [])), (19, (.iaload, 20, 0, .null, [], [])), (20, (.invokestatic 47, 23, 0, .null, [], [])), (23, (.istore_n 1, 24, 0, .null, [], [])), (24, (.iinc 2 1, 27, 0, .int (1), [], [])), (27, (.goto (-22), 30, 5, .null, [], [])), (30, (.iload_n 1, 31, 0, .null, [], [])), (31, (.ireturn, 32, 0, .null, [], []))]
noncomputable abbrev jX6_smallest : List (Nat × sf_J (Int32 × sf_S)) := [(20, sf_jmin)]
abbrev wX6_smallest_5 {ρ : Type} (q : Nat) (k : Int32 → Int32 → sf_S → Option ρ) : sf_M ρ := fun L st σ => sf_lda L 0 fun a0 => sf_eq a0 q (sf_ldi L 1 fun x1 => sf_ldi L 2 fun x2 => sf_nil st (k x1 x2 σ))
theorem wX6_smallest_5_ok {ρ : Type} {Wt : Nat → sf_L → List Value → sf_S → Prop} {Post : ρ → Prop} (hm : sf_mono Wt) {q : Nat} {k : Int32 → Int32 → sf_S → Option ρ} (h : ∀ (x1 : Int32) (x2 : Int32) (σ : sf_S) (u : ρ), k x1 x2 σ = some u → Post u → Wt 5 [(0, some (.ref q)), (1, some (.int x1)), (2, some (.int x2))] [] σ) : sf_CK Wt Post 5 (wX6_smallest_5 q k) := by
  intro L st σ u hf hp
  unfold wX6_smallest_5 at hf
  have hf0 := hf
  obtain ⟨a0, e0, hf1⟩ := sf_lda_inv hf0
  obtain ⟨rfl, hf2⟩ := sf_eq_inv hf1
  obtain ⟨x1, e1, hf3⟩ := sf_ldi_inv hf2
  obtain ⟨x2, e2, hf4⟩ := sf_ldi_inv hf3
  obtain ⟨rfl, hz⟩ := sf_nil_inv hf4
  exact hm _ [(0, some (.ref _)), (1, some (.int x1)), (2, some (.int x2))] _ _ _ (sf_le_ok (And.intro e0 (And.intro e1 (And.intro e2 trivial)))) (h _ _ _ _ hz hp)
noncomputable def dX6_smallest_5 (q : Nat) : Nat → Int32 → Int32 → sf_S → Option (Int32 × sf_S)
  | 0 => fun _ _ _ => none
  | n + 1 => fun x1 x2 σ =>
    if (σ q 1) ≤ x2 then
      some (x1, σ)
    else
      if sf_in x2 40 then
        let v1 := (σ (q + 1) x2.toNatClampNeg)
        let v2 := (if v1 < x1 then v1 else x1)
        dX6_smallest_5 q n v2 (x2 + (1 : Int32)) σ
      else
        none
set_option maxRecDepth 100000 in
set_option maxHeartbeats 4000000 in
theorem rX6_smallest_5 {Wt : Nat → sf_L → List Value → sf_S → Prop} {Post : (Int32 × sf_S) → Prop} (hs : sf_Snd Wt sf_layC sf_hI jX6_smallest tX6_smallest Post) (hm : sf_mono Wt) {q : Nat} (hq : q = 19 ∨ q = 51) : ∀ n : Nat, sf_CK Wt Post 5 (wX6_smallest_5 q (dX6_smallest_5 q n)) := by
  intro n
  induction n with
  | zero => exact wX6_smallest_5_ok hm (fun x1 x2 σ u h _ => by simp [dX6_smallest_5] at h)
  | succ n ih =>
    refine wX6_smallest_5_ok hm ?_
    intro x1 x2 σ u h hp
    rcases hq with rfl | rfl
    · exact sf_run_ok hs (sf_sm_cons ih sf_sm_nil) 24 5 _ _ σ u h hp
    · exact sf_run_ok hs (sf_sm_cons ih sf_sm_nil) 24 5 _ _ σ u h hp
noncomputable def dX6_smallest (q : Nat) (σ : sf_S) : Option (Int32 × sf_S) :=
  dX6_smallest_5 q sf_F (2147483647 : Int32) (0 : Int32) σ
noncomputable abbrev gX6_smallest (av : List Value) (σ : sf_S) : Option (Int32 × sf_S) := match av with
  | [.ref q] => (match sf_rv [19, 51] q with | true => dX6_smallest q σ | false => none)
  | _ => none
set_option maxRecDepth 100000 in
set_option maxHeartbeats 4000000 in
theorem rX6_smallest {Wt : Nat → sf_L → List Value → sf_S → Prop} {Post : (Int32 × sf_S) → Prop} (hs : sf_Snd Wt sf_layC sf_hI jX6_smallest tX6_smallest Post) (hm : sf_mono Wt) : ∀ av σ u, gX6_smallest av σ = some u → Post u → (∀ ad, (lg_sl (av.map (sf_v ad))).length ≤ 3) ∧ Wt 0 (sf_ent 0 av) [] σ := by
  intro av σ u h hp
  unfold gX6_smallest at h
  split at h
  · rename_i q
    split at h
    · rename_i hq
      have hq : q = 19 ∨ q = 51 := by simpa using sf_rv_mem hq
      refine ⟨fun ad => Nat.le_of_ble_eq_true rfl, ?_⟩
      rcases hq with rfl | rfl
      · exact sf_run_ok hs (sf_sm_cons (rX6_smallest_5 hs hm (Or.inl rfl) sf_F) sf_sm_nil) 24 0 _ _ σ u h hp
      · exact sf_run_ok hs (sf_sm_cons (rX6_smallest_5 hs hm (Or.inr rfl) sf_F) sf_sm_nil) 24 0 _ _ σ u h hp
    · cases h
  · cases h
theorem kX6_smallest (l : Launch) : sf_C l sf_layC yX6_smallest cX6_smallest 3 (some .int) (sf_rm 1 100) (fun av σ => (gX6_smallest av σ).map sf_vI) :=
  sf_met (tab := tX6_smallest) (J := jX6_smallest) (fl := sf_fl6) (cl := sf_cl6) (by decide +kernel) ⟨rfl, rfl⟩ sf_RH_I (by decide +kernel) sf_fl6_ok sf_cl6_ok
    (sf_JO_cons (sf_je_min (by decide +kernel : decode cX6_smallest 20 = .ok (.invokestatic 47, 3)) wt_1075 wt_748 wt_157 wt_749 (sf_RB_of (by omega) (by omega))) (sf_JO_nil))
    (fun Wt Post hs hm => rX6_smallest hs hm)
end
section
/-! ===== 12.X7 ===== -/
-- ===== StreamFuser$Sheets.isLost(I)Z =====
abbrev tX7_isLost : List (Nat × sf_E) := [(0, (.iload_n 1, 1, 0, .null, [], [])), (1, (.ifCond .lt 18, 4, 19, .null, [], [])), (4, (.iload_n 1, 5, 0, .null, [], [])), (5, (.iconst 4, 6, 0, .int (4), [], [])), (6, (.if_icmp .ge 13, 9, 19, .null, [], [])), (9, (.aload_n 0, 10, 0, .null, [], [])), (10, (.getfield 15, 13, 0, .null, [], [(7, 1)])), (13, (.iload_n 1, 14, 0, .null, [], [])), (14, (.iaload, 15, 0, .null, [], [])), (15, (.iconst (-1), 16, 0, .int (-1), [], [])), (16, (.if_icmp .ne 7, 19, 23, .null, [], [])), (19, (.iconst 1, 20, 0, .int (1), [], [])), (20, (.goto 4, 23, 24, .null, [], [])), (23, (.iconst 0, 24, 0, .int (0), [], [])), (24, (.ireturn, 25, 0, .null, [], []))]
noncomputable abbrev jX7_isLost : List (Nat × sf_J (Int32 × sf_S)) := []
noncomputable def dX7_isLost (x1 : Int32) (σ : sf_S) : Option (Int32 × sf_S) :=
  if x1 < 0 then
    some ((1 : Int32), σ)
  else
    if (4 : Int32) ≤ x1 then
      some ((1 : Int32), σ)
    else
      if sf_in x1 4 then
        if ¬ (σ 17 x1.toNatClampNeg) = (-1 : Int32) then
          some ((0 : Int32), σ)
        else
          some ((1 : Int32), σ)
      else
        none
noncomputable abbrev gX7_isLost (av : List Value) (σ : sf_S) : Option (Int32 × sf_S) := match av with
  | [.ref q, .int x1] => (match sf_rv [15] q with | true => dX7_isLost x1 σ | false => none)
  | _ => none
set_option maxRecDepth 100000 in
set_option maxHeartbeats 4000000 in
theorem rX7_isLost {Wt : Nat → sf_L → List Value → sf_S → Prop} {Post : (Int32 × sf_S) → Prop} (hs : sf_Snd Wt sf_layC sf_hZ jX7_isLost tX7_isLost Post) (hm : sf_mono Wt) : ∀ av σ u, gX7_isLost av σ = some u → Post u → (∀ ad, (lg_sl (av.map (sf_v ad))).length ≤ 2) ∧ Wt 0 (sf_ent 0 av) [] σ := by
  intro av σ u h hp
  unfold gX7_isLost at h
  split at h
  · rename_i q x1
    split at h
    · rename_i hq
      have hq : q = 15 := by simpa using sf_rv_mem hq
      subst hq
      refine ⟨fun ad => Nat.le_of_ble_eq_true rfl, ?_⟩
      exact sf_run_ok hs sf_sm_nil 20 0 _ _ σ u h hp
    · cases h
  · cases h
theorem kX7_isLost (l : Launch) : sf_C l sf_layC yX7_isLost cX7_isLost 2 (some .boolean) (sf_rm 1 100) (fun av σ => (gX7_isLost av σ).map sf_vI) :=
  sf_met (tab := tX7_isLost) (J := jX7_isLost) (fl := sf_fl7) (cl := sf_cl7) (by decide +kernel) ⟨rfl, rfl⟩ sf_RH_Z (by decide +kernel) sf_fl7_ok sf_cl7_ok
    (sf_JO_nil)
    (fun Wt Post hs hm => rX7_isLost hs hm)
-- ===== StreamFuser$Sheets.hasElement(II)Z =====
abbrev tX7_hasElement : List (Nat × sf_E) := [(0, (.iload_n 1, 1, 0, .null, [], [])), (1, (.ifCond .lt 26, 4, 27, .null, [], [])), (4, (.iload_n 1, 5, 0, .null, [], [])), (5, (.iconst 4, 6, 0, .int (4), [], [])), (6, (.if_icmp .ge 21, 9, 27, .null, [], [])), (9, (.iload_n 2, 10, 0, .null, [], [])), (10, (.ifCond .lt 17, 13, 27, .null, [], [])), (13, (.iload_n 2, 14, 0, .null, [], [])), (14, (.aload_n 0, 15, 0, .null, [], [])), (15, (.getfield 15, 18, 0, .null, [], [(7, 1)])), (18, (.iload_n 1, 19, 0, .null, [], [])), (19, (.iaload, 20, 0, .null, [], [])), (20, (.if_icmp .ge 7, 23, 27, .null, [], [])), (23, (.iconst 1, 24, 0, .int (1), [], [])), (24, (.goto 4, 27, 28, .null, [], [])), (27, (.iconst 0, 28, 0, .int (0), [], [])), (28, (.ireturn, 29, 0, .null, [], []))]
noncomputable abbrev jX7_hasElement : List (Nat × sf_J (Int32 × sf_S)) := []
noncomputable def dX7_hasElement (x1 : Int32) (x2 : Int32) (σ : sf_S) : Option (Int32 × sf_S) :=
  if x1 < 0 then
    some ((0 : Int32), σ)
  else
    if (4 : Int32) ≤ x1 then
      some ((0 : Int32), σ)
    else
      if x2 < 0 then
        some ((0 : Int32), σ)
      else
        if sf_in x1 4 then
          if (σ 17 x1.toNatClampNeg) ≤ x2 then
            some ((0 : Int32), σ)
          else
            some ((1 : Int32), σ)
        else
          none
noncomputable abbrev gX7_hasElement (av : List Value) (σ : sf_S) : Option (Int32 × sf_S) := match av with
  | [.ref q, .int x1, .int x2] => (match sf_rv [15] q with | true => dX7_hasElement x1 x2 σ | false => none)
  | _ => none
set_option maxRecDepth 100000 in
set_option maxHeartbeats 4000000 in
theorem rX7_hasElement {Wt : Nat → sf_L → List Value → sf_S → Prop} {Post : (Int32 × sf_S) → Prop} (hs : sf_Snd Wt sf_layC sf_hZ jX7_hasElement tX7_hasElement Post) (hm : sf_mono Wt) : ∀ av σ u, gX7_hasElement av σ = some u → Post u → (∀ ad, (lg_sl (av.map (sf_v ad))).length ≤ 3) ∧ Wt 0 (sf_ent 0 av) [] σ := by
  intro av σ u h hp
  unfold gX7_hasElement at h
  split at h
  · rename_i q x1 x2
    split at h
    · rename_i hq
      have hq : q = 15 := by simpa using sf_rv_mem hq
      subst hq
      refine ⟨fun ad => Nat.le_of_ble_eq_true rfl, ?_⟩
      exact sf_run_ok hs sf_sm_nil 22 0 _ _ σ u h hp
    · cases h
  · cases h
theorem kX7_hasElement (l : Launch) : sf_C l sf_layC yX7_hasElement cX7_hasElement 3 (some .boolean) (sf_rm 1 100) (fun av σ => (gX7_hasElement av σ).map sf_vI) :=
  sf_met (tab := tX7_hasElement) (J := jX7_hasElement) (fl := sf_fl7) (cl := sf_cl7) (by decide +kernel) ⟨rfl, rfl⟩ sf_RH_Z (by decide +kernel) sf_fl7_ok sf_cl7_ok
    (sf_JO_nil)
    (fun Wt Post hs hm => rX7_hasElement hs hm)
-- ===== StreamFuser$Sheets.hasPart(III)Z =====
abbrev tX7_hasPart : List (Nat × sf_E) := [(0, (.iload_n 1, 1, 0, .null, [], [])), (1, (.ifCond .lt 36, 4, 37, .null, [], [])), (4, (.iload_n 1, 5, 0, .null, [], [])), (5, (.iconst 4, 6, 0, .int (4), [], [])), (6, (.if_icmp .ge 31, 9, 37, .null, [], [])), (9, (.iload_n 2, 10, 0, .null, [], [])), (10, (.ifCond .lt 27, 13, 37, .null, [], [])), (13, (.iload_n 3, 14, 0, .null, [], [])), (14, (.ifCond .lt 23, 17, 37, .null, [], [])), (17, (.iload_n 2, 18, 0, .null, [], [])), (18, (.i2l, 19, 0, .null, [], [])), (19, (.iload_n 3, 20, 0, .null, [], [])), (20, (.i2l, 21, 0, .null, [], [])), (21, (.ladd, 22, 0, .null, [], [])), (22, (.aload_n 0, 23, 0, .null, [], [])), (23, (.getfield 15, 26, 0, .null, [], [(7, 1)])), (26, (.iload_n 1, 27, 0, .null, [], [])), (27, (.iaload, 28, 0, .null, [], [])), (28, (.i2l, 29, 0, .null, [], [])), (29, (.lcmp, 30, 0, .null, [], [])), (30, (.ifCond .gt 7, 33, 37, .null, [], [])), (33, (.iconst 1, 34, 0, .int (1), [], [])), (34, (.goto 4, 37, 38, .null, [], [])), (37, (.iconst 0, 38, 0, .int (0), [], [])), (38, (.ireturn, 39, 0, .null, [], []))]
noncomputable abbrev jX7_hasPart : List (Nat × sf_J (Int32 × sf_S)) := []
noncomputable def dX7_hasPart (x1 : Int32) (x2 : Int32) (x3 : Int32) (σ : sf_S) : Option (Int32 × sf_S) :=
  if x1 < 0 then
    some ((0 : Int32), σ)
  else
    if (4 : Int32) ≤ x1 then
      some ((0 : Int32), σ)
    else
      if x2 < 0 then
        some ((0 : Int32), σ)
      else
        if x3 < 0 then
          some ((0 : Int32), σ)
        else
          if sf_in x1 4 then
            if 0 < (lg_cmp (x2.toInt64 + x3.toInt64) ((σ 17 x1.toNatClampNeg)).toInt64) then
              some ((0 : Int32), σ)
            else
              some ((1 : Int32), σ)
          else
            none
noncomputable abbrev gX7_hasPart (av : List Value) (σ : sf_S) : Option (Int32 × sf_S) := match av with
  | [.ref q, .int x1, .int x2, .int x3] => (match sf_rv [15] q with | true => dX7_hasPart x1 x2 x3 σ | false => none)
  | _ => none
set_option maxRecDepth 100000 in
set_option maxHeartbeats 4000000 in
theorem rX7_hasPart {Wt : Nat → sf_L → List Value → sf_S → Prop} {Post : (Int32 × sf_S) → Prop} (hs : sf_Snd Wt sf_layC sf_hZ jX7_hasPart tX7_hasPart Post) (hm : sf_mono Wt) : ∀ av σ u, gX7_hasPart av σ = some u → Post u → (∀ ad, (lg_sl (av.map (sf_v ad))).length ≤ 4) ∧ Wt 0 (sf_ent 0 av) [] σ := by
  intro av σ u h hp
  unfold gX7_hasPart at h
  split at h
  · rename_i q x1 x2 x3
    split at h
    · rename_i hq
      have hq : q = 15 := by simpa using sf_rv_mem hq
      subst hq
      refine ⟨fun ad => Nat.le_of_ble_eq_true rfl, ?_⟩
      exact sf_run_ok hs sf_sm_nil 30 0 _ _ σ u h hp
    · cases h
  · cases h
theorem kX7_hasPart (l : Launch) : sf_C l sf_layC yX7_hasPart cX7_hasPart 4 (some .boolean) (sf_rm 1 100) (fun av σ => (gX7_hasPart av σ).map sf_vI) :=
  sf_met (tab := tX7_hasPart) (J := jX7_hasPart) (fl := sf_fl7) (cl := sf_cl7) (by decide +kernel) ⟨rfl, rfl⟩ sf_RH_Z (by decide +kernel) sf_fl7_ok sf_cl7_ok
    (sf_JO_nil)
    (fun Wt Post hs hm => rX7_hasPart hs hm)
-- ===== StreamFuser$Sheets.renew(III)V =====
abbrev tX7_renew : List (Nat × sf_E) := [(0, (.iload_n 1, 1, 0, .null, [], [])), (1, (.ifCond .lt 18, 4, 19, .null, [], [])), (4, (.iload_n 1, 5, 0, .null, [], [])), (5, (.iconst 4, 6, 0, .int (4), [], [])), (6, (.if_icmp .ge 13, 9, 19, .null, [], [])), (9, (.iload_n 3, 10, 0, .null, [], [])), (10, (.ifCond .lt 9, 13, 19, .null, [], [])), (13, (.iload_n 3, 14, 0, .null, [], [])), (14, (.bipush 60, 16, 0, .int (60), [], [])), (16, (.if_icmp .le 4, 19, 20, .null, [], [])), (19, (.return_, 20, 0, .null, [], [])), (20, (.aload_n 0, 21, 0, .null, [], [])), (21, (.getfield 9, 24, 0, .null, [], [(7, 0)])), (24, (.iload_n 1, 25, 0, .null, [], [])), (25, (.iload_n 2, 26, 0, .null, [], [])), (26, (.iastore, 27, 0, .null, [], [])), (27, (.aload_n 0, 28, 0, .null, [], [])), (28, (.getfield 15, 31, 0, .null, [], [(7, 1)])), (31, (.iload_n 1, 32, 0, .null, [], [])), (32, (.iload_n 3, 33, 0, .null, [], [])), (33, (.iastore, 34, 0, .null, [], [])), (34, (.iconst 0, 35, 0, .int (0), [], [])), (35, (.istore 4, 37, 0, .null, [], [])), (37, (.iload 4, 39, 0, .null, [], [])), (39, (.iload_n 3, 40, 0, .null, [], [])), (40, (.if_icmp .ge 22, 43, 62, .null, [], [])), (43, (.aload_n 0, 44, 0, .null, [], [])), (44, (.getfield 18, 47, 0, .null, [], [(7, 2)])), (47, (.iload_n 1, 48, 0, .null, [], [])), (48, (.bipush 60, 50, 0, .int (60), [], [])), (50, (.imul, 51, 0, .null, [], [])), (51, (.iload 4, 53, 0, .null, [], [])), (53, (.iadd, 54, 0, .null, [], [])), (54, (.iconst 0, 55, 0, .int (0), [], [])), (55, (.iastore, 56, 0, .null, [], [])), (56, (.iinc 4 1, 59, 0, .int (1), [], [])), (59, (.goto (-22), 62, 37, .null, [], [])), (62, (.return_, 63, 0, .null, [], []))]
noncomputable abbrev jX7_renew : List (Nat × sf_J sf_S) := []
abbrev wX7_renew_37 {ρ : Type} (k : Int32 → Int32 → Int32 → sf_S → Option ρ) : sf_M ρ := fun L st σ => sf_lda L 0 fun a0 => sf_eq a0 15 (sf_ldi L 1 fun x1 => sf_ldi L 3 fun x3 => sf_ldi L 4 fun x4 => sf_nil st (k x1 x3 x4 σ))
theorem wX7_renew_37_ok {ρ : Type} {Wt : Nat → sf_L → List Value → sf_S → Prop} {Post : ρ → Prop} (hm : sf_mono Wt) {k : Int32 → Int32 → Int32 → sf_S → Option ρ} (h : ∀ (x1 : Int32) (x3 : Int32) (x4 : Int32) (σ : sf_S) (u : ρ), k x1 x3 x4 σ = some u → Post u → Wt 37 [(0, some (.ref 15)), (1, some (.int x1)), (3, some (.int x3)), (4, some (.int x4))] [] σ) : sf_CK Wt Post 37 (wX7_renew_37 k) := by
  intro L st σ u hf hp
  unfold wX7_renew_37 at hf
  have hf0 := hf
  obtain ⟨a0, e0, hf1⟩ := sf_lda_inv hf0
  obtain ⟨rfl, hf2⟩ := sf_eq_inv hf1
  obtain ⟨x1, e1, hf3⟩ := sf_ldi_inv hf2
  obtain ⟨x3, e3, hf4⟩ := sf_ldi_inv hf3
  obtain ⟨x4, e4, hf5⟩ := sf_ldi_inv hf4
  obtain ⟨rfl, hz⟩ := sf_nil_inv hf5
  exact hm _ [(0, some (.ref _)), (1, some (.int x1)), (3, some (.int x3)), (4, some (.int x4))] _ _ _ (sf_le_ok (And.intro e0 (And.intro e1 (And.intro e3 (And.intro e4 trivial))))) (h _ _ _ _ _ hz hp)
noncomputable def dX7_renew_37 : Nat → Int32 → Int32 → Int32 → sf_S → Option sf_S
  | 0 => fun _ _ _ _ => none
  | n + 1 => fun x1 x3 x4 σ =>
    if x3 ≤ x4 then
      some σ
    else
      let v1 := ((x1 * (60 : Int32)) + x4)
      if sf_in v1 240 then
        let s2 := sf_up σ 18 v1.toNatClampNeg (0 : Int32)
        dX7_renew_37 n x1 x3 (x4 + (1 : Int32)) s2
      else
        none
set_option maxRecDepth 100000 in
set_option maxHeartbeats 4000000 in
theorem rX7_renew_37 {Wt : Nat → sf_L → List Value → sf_S → Prop} {Post : sf_S → Prop} (hs : sf_Snd Wt sf_layC sf_hV jX7_renew tX7_renew Post) (hm : sf_mono Wt) : ∀ n : Nat, sf_CK Wt Post 37 (wX7_renew_37 (dX7_renew_37 n)) := by
  intro n
  induction n with
  | zero => exact wX7_renew_37_ok hm (fun x1 x3 x4 σ u h _ => by simp [dX7_renew_37] at h)
  | succ n ih =>
    refine wX7_renew_37_ok hm ?_
    intro x1 x3 x4 σ u h hp
    exact sf_run_ok hs (sf_sm_cons ih sf_sm_nil) 43 37 _ _ σ u h hp
noncomputable def dX7_renew (x1 : Int32) (x2 : Int32) (x3 : Int32) (σ : sf_S) : Option sf_S :=
  if x1 < 0 then
    some σ
  else
    if (4 : Int32) ≤ x1 then
      some σ
    else
      if x3 < 0 then
        some σ
      else
        if x3 ≤ (60 : Int32) then
          if sf_in x1 4 then
            let s1 := sf_up σ 16 x1.toNatClampNeg x2
            if sf_in x1 4 then
              let s2 := sf_up s1 17 x1.toNatClampNeg x3
              dX7_renew_37 sf_F x1 x3 (0 : Int32) s2
            else
              none
          else
            none
        else
          some σ
noncomputable abbrev gX7_renew (av : List Value) (σ : sf_S) : Option sf_S := match av with
  | [.ref q, .int x1, .int x2, .int x3] => (match sf_rv [15] q with | true => dX7_renew x1 x2 x3 σ | false => none)
  | _ => none
set_option maxRecDepth 100000 in
set_option maxHeartbeats 4000000 in
theorem rX7_renew {Wt : Nat → sf_L → List Value → sf_S → Prop} {Post : sf_S → Prop} (hs : sf_Snd Wt sf_layC sf_hV jX7_renew tX7_renew Post) (hm : sf_mono Wt) : ∀ av σ u, gX7_renew av σ = some u → Post u → (∀ ad, (lg_sl (av.map (sf_v ad))).length ≤ 5) ∧ Wt 0 (sf_ent 0 av) [] σ := by
  intro av σ u h hp
  unfold gX7_renew at h
  split at h
  · rename_i q x1 x2 x3
    split at h
    · rename_i hq
      have hq : q = 15 := by simpa using sf_rv_mem hq
      subst hq
      refine ⟨fun ad => Nat.le_of_ble_eq_true rfl, ?_⟩
      exact sf_run_ok hs (sf_sm_cons (rX7_renew_37 hs hm sf_F) sf_sm_nil) 43 0 _ _ σ u h hp
    · cases h
  · cases h
theorem kX7_renew (l : Launch) : sf_C l sf_layC yX7_renew cX7_renew 5 none (sf_rm 1 100) (fun av σ => (gX7_renew av σ).map sf_vV) :=
  sf_met (tab := tX7_renew) (J := jX7_renew) (fl := sf_fl7) (cl := sf_cl7) (by decide +kernel) ⟨rfl, rfl⟩ sf_RH_V (by decide +kernel) sf_fl7_ok sf_cl7_ok
    (sf_JO_nil)
    (fun Wt Post hs hm => rX7_renew hs hm)
-- ===== StreamFuser$Sheets.cast(II)I =====
abbrev tX7_cast : List (Nat × sf_E) := [(0, (.iload_n 0, 1, 0, .null, [], [])), (1, (.ifCond .ne 6, 4, 7, .null, [], [])), (4, (.iload_n 1, 5, 0, .null, [], [])), (5, (.i2b, 6, 0, .null, [], [])), (6, (.ireturn, 7, 0, .null, [], [])), (7, (.iload_n 0, 8, 0, .null, [], [])), (8, (.iconst 1, 9, 0, .int (1), [], [])), (9, (.if_icmp .ne 8, 12, 17, .null, [], [])), (12, (.iload_n 1, 13, 0, .null, [], [])), (13, (.i2s, 14, 0, .null, [], [])), (14, (.goto 4, 17, 18, .null, [], [])), (17, (.iload_n 1, 18, 0, .null, [], [])), (18, (.ireturn, 19, 0, .null, [], []))]
noncomputable abbrev jX7_cast : List (Nat × sf_J (Int32 × sf_S)) := []
noncomputable def dX7_cast (x0 : Int32) (x1 : Int32) (σ : sf_S) : Option (Int32 × sf_S) :=
  if ¬ x0 = 0 then
    if ¬ x0 = (1 : Int32) then
      some (x1, σ)
    else
      some ((x1).toInt16.toInt32, σ)
  else
    some ((x1).toInt8.toInt32, σ)
noncomputable abbrev gX7_cast (av : List Value) (σ : sf_S) : Option (Int32 × sf_S) := match av with
  | [.int x0, .int x1] => dX7_cast x0 x1 σ
  | _ => none
set_option maxRecDepth 100000 in
set_option maxHeartbeats 4000000 in
theorem rX7_cast {Wt : Nat → sf_L → List Value → sf_S → Prop} {Post : (Int32 × sf_S) → Prop} (hs : sf_Snd Wt sf_layC sf_hI jX7_cast tX7_cast Post) (hm : sf_mono Wt) : ∀ av σ u, gX7_cast av σ = some u → Post u → (∀ ad, (lg_sl (av.map (sf_v ad))).length ≤ 2) ∧ Wt 0 (sf_ent 0 av) [] σ := by
  intro av σ u h hp
  unfold gX7_cast at h
  split at h
  · rename_i x0 x1
    refine ⟨fun ad => Nat.le_of_ble_eq_true rfl, ?_⟩
    exact sf_run_ok hs sf_sm_nil 18 0 _ _ σ u h hp
  · cases h
theorem kX7_cast (l : Launch) : sf_C l sf_layC yX7_cast cX7_cast 2 (some .int) (sf_rm 1 100) (fun av σ => (gX7_cast av σ).map sf_vI) :=
  sf_met (tab := tX7_cast) (J := jX7_cast) (fl := sf_fl7) (cl := sf_cl7) (by decide +kernel) ⟨rfl, rfl⟩ sf_RH_I (by decide +kernel) sf_fl7_ok sf_cl7_ok
    (sf_JO_nil)
    (fun Wt Post hs hm => rX7_cast hs hm)
-- ===== StreamFuser$Sheets.store(III)V =====
abbrev tX7_store : List (Nat × sf_E) := [(0, (.aload_n 0, 1, 0, .null, [], [])), (1, (.iload_n 1, 2, 0, .null, [], [])), (2, (.iload_n 2, 3, 0, .null, [], [])), (3, (.invokevirtual 21, 6, 0, .null, [], [])), (6, (.ifCond .ne 4, 9, 10, .null, [], [])), (9, (.return_, 10, 0, .null, [], [])), (10, (.aload_n 0, 11, 0, .null, [], [])), (11, (.getfield 18, 14, 0, .null, [], [(7, 2)])), (14, (.iload_n 1, 15, 0, .null, [], [])), (15, (.bipush 60, 17, 0, .int (60), [], [])), (17, (.imul, 18, 0, .null, [], [])), (18, (.iload_n 2, 19, 0, .null, [], [])), (19, (.iadd, 20, 0, .null, [], [])), (20, (.aload_n 0, 21, 0, .null, [], [])), (21, (.getfield 9, 24, 0, .null, [], [(7, 0)])), (24, (.iload_n 1, 25, 0, .null, [], [])), (25, (.iaload, 26, 0, .null, [], [])), (26, (.iload_n 3, 27, 0, .null, [], [])), (27, (.invokestatic 25, 30, 0, .null, [], [])), (30, (.iastore, 31, 0, .null, [], [])), (31, (.return_, 32, 0, .null, [], []))]
noncomputable abbrev jX7_store : List (Nat × sf_J sf_S) := [(3, sf_jI sf_layC [7] 3 gX7_hasElement), (27, sf_jI sf_layC [] 2 gX7_cast)]
noncomputable def dX7_store (x1 : Int32) (x2 : Int32) (x3 : Int32) (σ : sf_S) : Option sf_S :=
  (dX7_hasElement x1 x2 σ).bind fun u1 =>
  if ¬ u1.1 = 0 then
    if sf_in x1 4 then
      (dX7_cast (u1.2 16 x1.toNatClampNeg) x3 u1.2).bind fun u2 =>
      let v3 := ((x1 * (60 : Int32)) + x2)
      if sf_in v3 240 then
        let s4 := sf_up u2.2 18 v3.toNatClampNeg u2.1
        some s4
      else
        none
    else
      none
  else
    some u1.2
noncomputable abbrev gX7_store (av : List Value) (σ : sf_S) : Option sf_S := match av with
  | [.ref q, .int x1, .int x2, .int x3] => (match sf_rv [15] q with | true => dX7_store x1 x2 x3 σ | false => none)
  | _ => none
set_option maxRecDepth 100000 in
set_option maxHeartbeats 4000000 in
theorem rX7_store {Wt : Nat → sf_L → List Value → sf_S → Prop} {Post : sf_S → Prop} (hs : sf_Snd Wt sf_layC sf_hV jX7_store tX7_store Post) (hm : sf_mono Wt) : ∀ av σ u, gX7_store av σ = some u → Post u → (∀ ad, (lg_sl (av.map (sf_v ad))).length ≤ 4) ∧ Wt 0 (sf_ent 0 av) [] σ := by
  intro av σ u h hp
  unfold gX7_store at h
  split at h
  · rename_i q x1 x2 x3
    split at h
    · rename_i hq
      have hq : q = 15 := by simpa using sf_rv_mem hq
      subst hq
      refine ⟨fun ad => Nat.le_of_ble_eq_true rfl, ?_⟩
      exact sf_run_ok hs sf_sm_nil 26 0 _ _ σ u h hp
    · cases h
  · cases h
theorem kX7_store (l : Launch) : sf_C l sf_layC yX7_store cX7_store 4 none (sf_rm 2 122) (fun av σ => (gX7_store av σ).map sf_vV) :=
  sf_met (tab := tX7_store) (J := jX7_store) (fl := sf_fl7) (cl := sf_cl7) (by decide +kernel) ⟨rfl, rfl⟩ sf_RH_V (by decide +kernel) sf_fl7_ok sf_cl7_ok
    (sf_JO_cons (sf_je_V (n := 3) (cs := [7]) (tv := sf_vI) (kX7_hasElement l) mwX7_hasElement (by decide +kernel : decode cX7_store 3 = .ok (.invokevirtual 21, 3)) wt_1129 wt_1123 wt_77 (by decide +kernel) (by decide) (by decide) (List.forall_mem_cons.mpr ⟨⟨_, _, rfl⟩, fun _ h => absurd h List.not_mem_nil⟩) (sf_RM_of (by omega) (by omega))) (sf_JO_cons (sf_je_S (n := 2) (tv := sf_vI) (kX7_cast l) mwX7_cast (by decide +kernel : decode cX7_store 27 = .ok (.invokestatic 25, 3)) wt_1130 wt_1131 (by decide +kernel) (sf_RM_of (by omega) (by omega))) (sf_JO_nil)))
    (fun Wt Post hs hm => rX7_store hs hm)
-- ===== StreamFuser$Sheets.at(II)I =====
abbrev tX7_at : List (Nat × sf_E) := [(0, (.iload_n 1, 1, 0, .null, [], [])), (1, (.ifCond .lt 22, 4, 23, .null, [], [])), (4, (.iload_n 1, 5, 0, .null, [], [])), (5, (.iconst 4, 6, 0, .int (4), [], [])), (6, (.if_icmp .ge 17, 9, 23, .null, [], [])), (9, (.iload_n 2, 10, 0, .null, [], [])), (10, (.ifCond .lt 13, 13, 23, .null, [], [])), (13, (.iload_n 2, 14, 0, .null, [], [])), (14, (.aload_n 0, 15, 0, .null, [], [])), (15, (.getfield 15, 18, 0, .null, [], [(7, 1)])), (18, (.iload_n 1, 19, 0, .null, [], [])), (19, (.iaload, 20, 0, .null, [], [])), (20, (.if_icmp .lt 5, 23, 25, .null, [], [])), (23, (.iconst 0, 24, 0, .int (0), [], [])), (24, (.ireturn, 25, 0, .null, [], [])), (25, (.aload_n 0, 26, 0, .null, [], [])), (26, (.getfield 18, 29, 0, .null, [], [(7, 2)])), (29, (.iload_n 1, 30, 0, .null, [], [])), (30, (.bipush 60, 32, 0, .int (60), [], [])), (32, (.imul, 33, 0, .null, [], [])), (33, (.iload_n 2, 34, 0, .null, [], [])), (34, (.iadd, 35, 0, .null, [], [])), (35, (.iaload, 36, 0, .null, [], [])), (36, (.ireturn, 37, 0, .null, [], []))]
noncomputable abbrev jX7_at : List (Nat × sf_J (Int32 × sf_S)) := []
noncomputable def dX7_at (x1 : Int32) (x2 : Int32) (σ : sf_S) : Option (Int32 × sf_S) :=
  if x1 < 0 then
    some ((0 : Int32), σ)
  else
    if (4 : Int32) ≤ x1 then
      some ((0 : Int32), σ)
    else
      if x2 < 0 then
        some ((0 : Int32), σ)
      else
        if sf_in x1 4 then
          if x2 < (σ 17 x1.toNatClampNeg) then
            let v1 := ((x1 * (60 : Int32)) + x2)
            if sf_in v1 240 then
              some ((σ 18 v1.toNatClampNeg), σ)
            else
              none
          else
            some ((0 : Int32), σ)
        else
          none
noncomputable abbrev gX7_at (av : List Value) (σ : sf_S) : Option (Int32 × sf_S) := match av with
  | [.ref q, .int x1, .int x2] => (match sf_rv [15] q with | true => dX7_at x1 x2 σ | false => none)
  | _ => none
set_option maxRecDepth 100000 in
set_option maxHeartbeats 4000000 in
theorem rX7_at {Wt : Nat → sf_L → List Value → sf_S → Prop} {Post : (Int32 × sf_S) → Prop} (hs : sf_Snd Wt sf_layC sf_hI jX7_at tX7_at Post) (hm : sf_mono Wt) : ∀ av σ u, gX7_at av σ = some u → Post u → (∀ ad, (lg_sl (av.map (sf_v ad))).length ≤ 3) ∧ Wt 0 (sf_ent 0 av) [] σ := by
  intro av σ u h hp
  unfold gX7_at at h
  split at h
  · rename_i q x1 x2
    split at h
    · rename_i hq
      have hq : q = 15 := by simpa using sf_rv_mem hq
      subst hq
      refine ⟨fun ad => Nat.le_of_ble_eq_true rfl, ?_⟩
      exact sf_run_ok hs sf_sm_nil 29 0 _ _ σ u h hp
    · cases h
  · cases h
theorem kX7_at (l : Launch) : sf_C l sf_layC yX7_at cX7_at 3 (some .int) (sf_rm 1 100) (fun av σ => (gX7_at av σ).map sf_vI) :=
  sf_met (tab := tX7_at) (J := jX7_at) (fl := sf_fl7) (cl := sf_cl7) (by decide +kernel) ⟨rfl, rfl⟩ sf_RH_I (by decide +kernel) sf_fl7_ok sf_cl7_ok
    (sf_JO_nil)
    (fun Wt Post hs hm => rX7_at hs hm)
-- ===== StreamFuser$Sheets.move(IIIII)V =====
abbrev tX7_move : List (Nat × sf_E) := [(0, (.aload_n 0, 1, 0, .null, [], [])), (1, (.iload_n 1, 2, 0, .null, [], [])), (2, (.iload_n 2, 3, 0, .null, [], [])), (3, (.iload 5, 5, 0, .null, [], [])), (5, (.invokevirtual 29, 8, 0, .null, [], [])), (8, (.ifCond .eq 15, 11, 23, .null, [], [])), (11, (.aload_n 0, 12, 0, .null, [], [])), (12, (.iload_n 3, 13, 0, .null, [], [])), (13, (.iload 4, 15, 0, .null, [], [])), (15, (.iload 5, 17, 0, .null, [], [])), (17, (.invokevirtual 29, 20, 0, .null, [], [])), (20, (.ifCond .ne 4, 23, 24, .null, [], [])), (23, (.return_, 24, 0, .null, [], [])), (24, (.aload_n 0, 25, 0, .null, [], [])), (25, (.getfield 18, 28, 0, .null, [], [(7, 2)])), (28, (.iload_n 1, 29, 0, .null, [], [])), (29, (.bipush 60, 31, 0, .int (60), [], [])), (31, (.imul, 32, 0, .null, [], [])), (32, (.iload_n 2, 33, 0, .null, [], [])), (33, (.iadd, 34, 0, .null, [], [])), (34, (.aload_n 0, 35, 0, .null, [], [])), (35, (.getfield 18, 38, 0, .null, [], [(7, 2)])), (38, (.iload_n 3, 39, 0, .null, [], [])), (39, (.bipush 60, 41, 0, .int (60), [], [])), (41, (.imul, 42, 0, .null, [], [])), (42, (.iload 4, 44, 0, .null, [], [])), (44, (.iadd, 45, 0, .null, [], [])), (45, (.iload 5, 47, 0, .null, [], [])), (47, (.invokestatic 33, 50, 0, .null, [], [])), (50, (.return_, 51, 0, .null, [], []))]
noncomputable abbrev jX7_move : List (Nat × sf_J sf_S) := [(5, sf_jI sf_layC [7] 4 gX7_hasPart), (17, sf_jI sf_layC [7] 4 gX7_hasPart), (47, sf_jcpy sf_layC)]
noncomputable def dX7_move (x1 : Int32) (x2 : Int32) (x3 : Int32) (x4 : Int32) (x5 : Int32) (σ : sf_S) : Option sf_S :=
  (dX7_hasPart x1 x2 x5 σ).bind fun u1 =>
  if u1.1 = 0 then
    some u1.2
  else
    (dX7_hasPart x3 x4 x5 u1.2).bind fun u2 =>
    if ¬ u2.1 = 0 then
      let v3 := ((x1 * (60 : Int32)) + x2)
      let v4 := ((x3 * (60 : Int32)) + x4)
      if !(decide (v3 < 0)) && !(decide (v4 < 0)) && !(decide (x5 < 0)) && Nat.ble (v3.toNatClampNeg + x5.toNatClampNeg) 240 && Nat.ble (v4.toNatClampNeg + x5.toNatClampNeg) 240 then
        let s5 := sf_cpy u2.2 18 v3 v4 x5
        some s5
      else
        none
    else
      some u2.2
noncomputable abbrev gX7_move (av : List Value) (σ : sf_S) : Option sf_S := match av with
  | [.ref q, .int x1, .int x2, .int x3, .int x4, .int x5] => (match sf_rv [15] q with | true => dX7_move x1 x2 x3 x4 x5 σ | false => none)
  | _ => none
set_option maxRecDepth 100000 in
set_option maxHeartbeats 4000000 in
theorem rX7_move {Wt : Nat → sf_L → List Value → sf_S → Prop} {Post : sf_S → Prop} (hs : sf_Snd Wt sf_layC sf_hV jX7_move tX7_move Post) (hm : sf_mono Wt) : ∀ av σ u, gX7_move av σ = some u → Post u → (∀ ad, (lg_sl (av.map (sf_v ad))).length ≤ 6) ∧ Wt 0 (sf_ent 0 av) [] σ := by
  intro av σ u h hp
  unfold gX7_move at h
  split at h
  · rename_i q x1 x2 x3 x4 x5
    split at h
    · rename_i hq
      have hq : q = 15 := by simpa using sf_rv_mem hq
      subst hq
      refine ⟨fun ad => Nat.le_of_ble_eq_true rfl, ?_⟩
      exact sf_run_ok hs sf_sm_nil 35 0 _ _ σ u h hp
    · cases h
  · cases h
theorem kX7_move (l : Launch) : sf_C l sf_layC yX7_move cX7_move 6 none (sf_rm 2 123) (fun av σ => (gX7_move av σ).map sf_vV) :=
  sf_met (tab := tX7_move) (J := jX7_move) (fl := sf_fl7) (cl := sf_cl7) (by decide +kernel) ⟨rfl, rfl⟩ sf_RH_V (by decide +kernel) sf_fl7_ok sf_cl7_ok
    (sf_JO_cons (sf_je_V (n := 4) (cs := [7]) (tv := sf_vI) (kX7_hasPart l) mwX7_hasPart (by decide +kernel : decode cX7_move 5 = .ok (.invokevirtual 29, 3)) wt_1150 wt_1144 wt_79 (by decide +kernel) (by decide) (by decide) (List.forall_mem_cons.mpr ⟨⟨_, _, rfl⟩, fun _ h => absurd h List.not_mem_nil⟩) (sf_RM_of (by omega) (by omega))) (sf_JO_cons (sf_je_V (n := 4) (cs := [7]) (tv := sf_vI) (kX7_hasPart l) mwX7_hasPart (by decide +kernel : decode cX7_move 17 = .ok (.invokevirtual 29, 3)) wt_1150 wt_1144 wt_79 (by decide +kernel) (by decide) (by decide) (List.forall_mem_cons.mpr ⟨⟨_, _, rfl⟩, fun _ h => absurd h List.not_mem_nil⟩) (sf_RM_of (by omega) (by omega))) (sf_JO_cons (sf_je_cpy (by decide +kernel : decode cX7_move 47 = .ok (.invokestatic 33, 3)) wt_1151 wt_1029 wt_1028 wt_158 (sf_RB_of (by omega) (by omega)) (by decide +kernel)) (sf_JO_nil))))
    (fun Wt Post hs hm => rX7_move hs hm)
-- ===== StreamFuser.isSheet(I)Z =====
abbrev tX11_isSheet : List (Nat × sf_E) := [(0, (.iload_n 0, 1, 0, .null, [], [])), (1, (.ifCond .lt 12, 4, 13, .null, [], [])), (4, (.iload_n 0, 5, 0, .null, [], [])), (5, (.iconst 4, 6, 0, .int (4), [], [])), (6, (.if_icmp .ge 7, 9, 13, .null, [], [])), (9, (.iconst 1, 10, 0, .int (1), [], [])), (10, (.goto 4, 13, 14, .null, [], [])), (13, (.iconst 0, 14, 0, .int (0), [], [])), (14, (.ireturn, 15, 0, .null, [], []))]
noncomputable abbrev jX11_isSheet : List (Nat × sf_J (Int32 × sf_S)) := []
noncomputable def dX11_isSheet (x0 : Int32) (σ : sf_S) : Option (Int32 × sf_S) :=
  if x0 < 0 then
    some ((0 : Int32), σ)
  else
    if (4 : Int32) ≤ x0 then
      some ((0 : Int32), σ)
    else
      some ((1 : Int32), σ)
noncomputable abbrev gX11_isSheet (av : List Value) (σ : sf_S) : Option (Int32 × sf_S) := match av with
  | [.int x0] => dX11_isSheet x0 σ
  | _ => none
set_option maxRecDepth 100000 in
set_option maxHeartbeats 4000000 in
theorem rX11_isSheet {Wt : Nat → sf_L → List Value → sf_S → Prop} {Post : (Int32 × sf_S) → Prop} (hs : sf_Snd Wt sf_layC sf_hZ jX11_isSheet tX11_isSheet Post) (hm : sf_mono Wt) : ∀ av σ u, gX11_isSheet av σ = some u → Post u → (∀ ad, (lg_sl (av.map (sf_v ad))).length ≤ 1) ∧ Wt 0 (sf_ent 0 av) [] σ := by
  intro av σ u h hp
  unfold gX11_isSheet at h
  split at h
  · rename_i x0
    refine ⟨fun ad => Nat.le_of_ble_eq_true rfl, ?_⟩
    exact sf_run_ok hs sf_sm_nil 14 0 _ _ σ u h hp
  · cases h
theorem kX11_isSheet (l : Launch) : sf_C l sf_layC yX11_isSheet cX11_isSheet 1 (some .boolean) (sf_rm 1 100) (fun av σ => (gX11_isSheet av σ).map sf_vI) :=
  sf_met (tab := tX11_isSheet) (J := jX11_isSheet) (fl := sf_fl11) (cl := sf_cl11) (by decide +kernel) ⟨rfl, rfl⟩ sf_RH_Z (by decide +kernel) sf_fl11_ok sf_cl11_ok
    (sf_JO_nil)
    (fun Wt Post hs hm => rX11_isSheet hs hm)
-- ===== StreamFuser.isForm(I)Z =====
abbrev tX11_isForm : List (Nat × sf_E) := [(0, (.iload_n 0, 1, 0, .null, [], [])), (1, (.ifCond .lt 12, 4, 13, .null, [], [])), (4, (.iload_n 0, 5, 0, .null, [], [])), (5, (.iconst 3, 6, 0, .int (3), [], [])), (6, (.if_icmp .ge 7, 9, 13, .null, [], [])), (9, (.iconst 1, 10, 0, .int (1), [], [])), (10, (.goto 4, 13, 14, .null, [], [])), (13, (.iconst 0, 14, 0, .int (0), [], [])), (14, (.ireturn, 15, 0, .null, [], []))]
noncomputable abbrev jX11_isForm : List (Nat × sf_J (Int32 × sf_S)) := []
noncomputable def dX11_isForm (x0 : Int32) (σ : sf_S) : Option (Int32 × sf_S) :=
  if x0 < 0 then
    some ((0 : Int32), σ)
  else
    if (3 : Int32) ≤ x0 then
      some ((0 : Int32), σ)
    else
      some ((1 : Int32), σ)
noncomputable abbrev gX11_isForm (av : List Value) (σ : sf_S) : Option (Int32 × sf_S) := match av with
  | [.int x0] => dX11_isForm x0 σ
  | _ => none
set_option maxRecDepth 100000 in
set_option maxHeartbeats 4000000 in
theorem rX11_isForm {Wt : Nat → sf_L → List Value → sf_S → Prop} {Post : (Int32 × sf_S) → Prop} (hs : sf_Snd Wt sf_layC sf_hZ jX11_isForm tX11_isForm Post) (hm : sf_mono Wt) : ∀ av σ u, gX11_isForm av σ = some u → Post u → (∀ ad, (lg_sl (av.map (sf_v ad))).length ≤ 1) ∧ Wt 0 (sf_ent 0 av) [] σ := by
  intro av σ u h hp
  unfold gX11_isForm at h
  split at h
  · rename_i x0
    refine ⟨fun ad => Nat.le_of_ble_eq_true rfl, ?_⟩
    exact sf_run_ok hs sf_sm_nil 14 0 _ _ σ u h hp
  · cases h
theorem kX11_isForm (l : Launch) : sf_C l sf_layC yX11_isForm cX11_isForm 1 (some .boolean) (sf_rm 1 100) (fun av σ => (gX11_isForm av σ).map sf_vI) :=
  sf_met (tab := tX11_isForm) (J := jX11_isForm) (fl := sf_fl11) (cl := sf_cl11) (by decide +kernel) ⟨rfl, rfl⟩ sf_RH_Z (by decide +kernel) sf_fl11_ok sf_cl11_ok
    (sf_JO_nil)
    (fun Wt Post hs hm => rX11_isForm hs hm)
end
section
/-! ===== 13.X4 ===== -/
-- ===== StreamFuser$Reader.append(I)Z =====
abbrev tX4_append : List (Nat × sf_E) := [(0, (.aload_n 0, 1, 0, .null, [], [])), (1, (.getfield 22, 4, 0, .null, [], [(4, 2)])), (4, (.bipush 40, 6, 0, .int (40), [], [])), (6, (.if_icmp .lt 5, 9, 11, .null, [], [])), (9, (.iconst 0, 10, 0, .int (0), [], [])), (10, (.ireturn, 11, 0, .null, [], [])), (11, (.aload_n 0, 12, 0, .null, [], [])), (12, (.getfield 9, 15, 0, .null, [], [(4, 1)])), (15, (.aload_n 0, 16, 0, .null, [], [])), (16, (.getfield 22, 19, 0, .null, [], [(4, 2)])), (19, (.iload_n 1, 20, 0, .null, [], [])), (20, (.iastore, 21, 0, .null, [], [])), (21, (.aload_n 0, 22, 0, .null, [], [])), (22, (.dup, 23, 0, .null, [], [])), (23, (.getfield 22, 26, 0, .null, [], [(4, 2)])), (26, (.iconst 1, 27, 0, .int (1), [], [])), (27, (.iadd, 28, 0, .null, [], [])), (28, (.putfield 22, 31, 0, .null, [], [(4, 2)])), (31, (.iconst 1, 32, 0, .int (1), [], [])), (32, (.ireturn, 33, 0, .null, [], []))]
noncomputable abbrev jX4_append : List (Nat × sf_J (Int32 × sf_S)) := []
noncomputable def dX4_append (x1 : Int32) (σ : sf_S) : Option (Int32 × sf_S) :=
  if (σ 46 2) < (40 : Int32) then
    let v1 := (σ 46 2)
    if sf_in v1 40 then
      let s2 := sf_up σ 47 v1.toNatClampNeg x1
      let s3 := sf_up s2 46 2 ((s2 46 2) + (1 : Int32))
      some ((1 : Int32), s3)
    else
      none
  else
    some ((0 : Int32), σ)
noncomputable abbrev gX4_append (av : List Value) (σ : sf_S) : Option (Int32 × sf_S) := match av with
  | [.ref q, .int x1] => (match sf_rv [46] q with | true => dX4_append x1 σ | false => none)
  | _ => none
set_option maxRecDepth 100000 in
set_option maxHeartbeats 4000000 in
theorem rX4_append {Wt : Nat → sf_L → List Value → sf_S → Prop} {Post : (Int32 × sf_S) → Prop} (hs : sf_Snd Wt sf_layC sf_hZ jX4_append tX4_append Post) (hm : sf_mono Wt) : ∀ av σ u, gX4_append av σ = some u → Post u → (∀ ad, (lg_sl (av.map (sf_v ad))).length ≤ 2) ∧ Wt 0 (sf_ent 0 av) [] σ := by
  intro av σ u h hp
  unfold gX4_append at h
  split at h
  · rename_i q x1
    split at h
    · rename_i hq
      have hq : q = 46 := by simpa using sf_rv_mem hq
      subst hq
      refine ⟨fun ad => Nat.le_of_ble_eq_true rfl, ?_⟩
      exact sf_run_ok hs sf_sm_nil 25 0 _ _ σ u h hp
    · cases h
  · cases h
theorem kX4_append (l : Launch) : sf_C l sf_layC yX4_append cX4_append 2 (some .boolean) (sf_rm 1 100) (fun av σ => (gX4_append av σ).map sf_vI) :=
  sf_met (tab := tX4_append) (J := jX4_append) (fl := sf_fl4) (cl := sf_cl4) (by decide +kernel) ⟨rfl, rfl⟩ sf_RH_Z (by decide +kernel) sf_fl4_ok sf_cl4_ok
    (sf_JO_nil)
    (fun Wt Post hs hm => rX4_append hs hm)
-- ===== StreamFuser$Reader.expect(I)V =====
abbrev tX4_expect : List (Nat × sf_E) := [(0, (.aload_n 0, 1, 0, .null, [], [])), (1, (.getfield 37, 4, 0, .null, [], [(4, 4)])), (4, (.bipush 40, 6, 0, .int (40), [], [])), (6, (.if_icmp .le 4, 9, 10, .null, [], [])), (9, (.return_, 10, 0, .null, [], [])), (10, (.aload_n 0, 11, 0, .null, [], [])), (11, (.getfield 15, 14, 0, .null, [], [(4, 3)])), (14, (.aload_n 0, 15, 0, .null, [], [])), (15, (.getfield 37, 18, 0, .null, [], [(4, 4)])), (18, (.iload_n 1, 19, 0, .null, [], [])), (19, (.iastore, 20, 0, .null, [], [])), (20, (.aload_n 0, 21, 0, .null, [], [])), (21, (.dup, 22, 0, .null, [], [])), (22, (.getfield 37, 25, 0, .null, [], [(4, 4)])), (25, (.iconst 1, 26, 0, .int (1), [], [])), (26, (.iadd, 27, 0, .null, [], [])), (27, (.putfield 37, 30, 0, .null, [], [(4, 4)])), (30, (.return_, 31, 0, .null, [], []))]
noncomputable abbrev jX4_expect : List (Nat × sf_J sf_S) := []
noncomputable def dX4_expect (x1 : Int32) (σ : sf_S) : Option sf_S :=
  if (σ 46 4) ≤ (40 : Int32) then
    let v1 := (σ 46 4)
    if sf_in v1 41 then
      let s2 := sf_up σ 48 v1.toNatClampNeg x1
      let s3 := sf_up s2 46 4 ((s2 46 4) + (1 : Int32))
      some s3
    else
      none
  else
    some σ
noncomputable abbrev gX4_expect (av : List Value) (σ : sf_S) : Option sf_S := match av with
  | [.ref q, .int x1] => (match sf_rv [46] q with | true => dX4_expect x1 σ | false => none)
  | _ => none
set_option maxRecDepth 100000 in
set_option maxHeartbeats 4000000 in
theorem rX4_expect {Wt : Nat → sf_L → List Value → sf_S → Prop} {Post : sf_S → Prop} (hs : sf_Snd Wt sf_layC sf_hV jX4_expect tX4_expect Post) (hm : sf_mono Wt) : ∀ av σ u, gX4_expect av σ = some u → Post u → (∀ ad, (lg_sl (av.map (sf_v ad))).length ≤ 2) ∧ Wt 0 (sf_ent 0 av) [] σ := by
  intro av σ u h hp
  unfold gX4_expect at h
  split at h
  · rename_i q x1
    split at h
    · rename_i hq
      have hq : q = 46 := by simpa using sf_rv_mem hq
      subst hq
      refine ⟨fun ad => Nat.le_of_ble_eq_true rfl, ?_⟩
      exact sf_run_ok hs sf_sm_nil 23 0 _ _ σ u h hp
    · cases h
  · cases h
theorem kX4_expect (l : Launch) : sf_C l sf_layC yX4_expect cX4_expect 2 none (sf_rm 1 100) (fun av σ => (gX4_expect av σ).map sf_vV) :=
  sf_met (tab := tX4_expect) (J := jX4_expect) (fl := sf_fl4) (cl := sf_cl4) (by decide +kernel) ⟨rfl, rfl⟩ sf_RH_V (by decide +kernel) sf_fl4_ok sf_cl4_ok
    (sf_JO_nil)
    (fun Wt Post hs hm => rX4_expect hs hm)
-- ===== StreamFuser$Reader.expectParts(II)V =====
abbrev tX4_expectParts : List (Nat × sf_E) := [(0, (.iload_n 1, 1, 0, .null, [], [])), (1, (.invokestatic 81, 4, 0, .null, [], [])), (4, (.istore_n 3, 5, 0, .null, [], [])), (5, (.iload_n 3, 6, 0, .null, [], [])), (6, (.iconst 1, 7, 0, .int (1), [], [])), (7, (.if_icmp .le 8, 10, 15, .null, [], [])), (10, (.aload_n 0, 11, 0, .null, [], [])), (11, (.iload_n 2, 12, 0, .null, [], [])), (12, (.invokevirtual 40, 15, 0, .null, [], [])), (15, (.iload_n 3, 16, 0, .null, [], [])), (16, (.ifCond .le 20, 19, 36, .null, [], [])), (19, (.aload_n 0, 20, 0, .null, [], [])), (20, (.iload_n 1, 21, 0, .null, [], [])), (21, (.bipush 120, 23, 0, .int (120), [], [])), (23, (.if_icmp .ne 9, 26, 32, .null, [], [])), (26, (.iload_n 2, 27, 0, .null, [], [])), (27, (.iconst 1, 28, 0, .int (1), [], [])), (28, (.iadd, 29, 0, .null, [], [])), (29, (.goto 4, 32, 33, .null, [], [])), (32, (.iload_n 2, 33, 0, .null, [], [])), (33, (.invokevirtual 40, 36, 0, .null, [], [])), (36, (.return_, 37, 0, .null, [], []))]
noncomputable abbrev jX4_expectParts : List (Nat × sf_J sf_S) := [(1, sf_jI sf_layC [] 1 gX2_partsOf), (12, sf_jV sf_layC [4] 2 gX4_expect), (33, sf_jV sf_layC [4] 2 gX4_expect)]
abbrev wX4_expectParts_15 {ρ : Type} (k : Int32 → Int32 → Int32 → sf_S → Option ρ) : sf_M ρ := fun L st σ => sf_lda L 0 fun a0 => sf_eq a0 46 (sf_ldi L 1 fun x1 => sf_ldi L 2 fun x2 => sf_ldi L 3 fun x3 => sf_nil st (k x1 x2 x3 σ))
theorem wX4_expectParts_15_ok {ρ : Type} {Wt : Nat → sf_L → List Value → sf_S → Prop} {Post : ρ → Prop} (hm : sf_mono Wt) {k : Int32 → Int32 → Int32 → sf_S → Option ρ} (h : ∀ (x1 : Int32) (x2 : Int32) (x3 : Int32) (σ : sf_S) (u : ρ), k x1 x2 x3 σ = some u → Post u → Wt 15 [(0, some (.ref 46)), (1, some (.int x1)), (2, some (.int x2)), (3, some (.int x3))] [] σ) : sf_CK Wt Post 15 (wX4_expectParts_15 k) := by
  intro L st σ u hf hp
  unfold wX4_expectParts_15 at hf
  have hf0 := hf
  obtain ⟨a0, e0, hf1⟩ := sf_lda_inv hf0
  obtain ⟨rfl, hf2⟩ := sf_eq_inv hf1
  obtain ⟨x1, e1, hf3⟩ := sf_ldi_inv hf2
  obtain ⟨x2, e2, hf4⟩ := sf_ldi_inv hf3
  obtain ⟨x3, e3, hf5⟩ := sf_ldi_inv hf4
  obtain ⟨rfl, hz⟩ := sf_nil_inv hf5
  exact hm _ [(0, some (.ref _)), (1, some (.int x1)), (2, some (.int x2)), (3, some (.int x3))] _ _ _ (sf_le_ok (And.intro e0 (And.intro e1 (And.intro e2 (And.intro e3 trivial))))) (h _ _ _ _ _ hz hp)
noncomputable def dX4_expectParts_15 (x1 : Int32) (x2 : Int32) (x3 : Int32) (σ : sf_S) : Option sf_S :=
  if x3 ≤ 0 then
    some σ
  else
    if ¬ x1 = (120 : Int32) then
      (dX4_expect x2 σ).bind fun u1 =>
      some u1
    else
      (dX4_expect (x2 + (1 : Int32)) σ).bind fun u2 =>
      some u2
set_option maxRecDepth 100000 in
set_option maxHeartbeats 4000000 in
theorem rX4_expectParts_15 {Wt : Nat → sf_L → List Value → sf_S → Prop} {Post : sf_S → Prop} (hs : sf_Snd Wt sf_layC sf_hV jX4_expectParts tX4_expectParts Post) (hm : sf_mono Wt) : sf_CK Wt Post 15 (wX4_expectParts_15 (dX4_expectParts_15)) := by
  refine wX4_expectParts_15_ok hm ?_
  intro x1 x2 x3 σ u h hp
  exact sf_run_ok hs sf_sm_nil 27 15 _ _ σ u h hp
noncomputable def dX4_expectParts (x1 : Int32) (x2 : Int32) (σ : sf_S) : Option sf_S :=
  (dX2_partsOf x1 σ).bind fun u1 =>
  if u1.1 ≤ (1 : Int32) then
    dX4_expectParts_15 x1 x2 u1.1 u1.2
  else
    (dX4_expect x2 u1.2).bind fun u2 =>
    dX4_expectParts_15 x1 x2 u1.1 u2
noncomputable abbrev gX4_expectParts (av : List Value) (σ : sf_S) : Option sf_S := match av with
  | [.ref q, .int x1, .int x2] => (match sf_rv [46] q with | true => dX4_expectParts x1 x2 σ | false => none)
  | _ => none
set_option maxRecDepth 100000 in
set_option maxHeartbeats 4000000 in
theorem rX4_expectParts {Wt : Nat → sf_L → List Value → sf_S → Prop} {Post : sf_S → Prop} (hs : sf_Snd Wt sf_layC sf_hV jX4_expectParts tX4_expectParts Post) (hm : sf_mono Wt) : ∀ av σ u, gX4_expectParts av σ = some u → Post u → (∀ ad, (lg_sl (av.map (sf_v ad))).length ≤ 4) ∧ Wt 0 (sf_ent 0 av) [] σ := by
  intro av σ u h hp
  unfold gX4_expectParts at h
  split at h
  · rename_i q x1 x2
    split at h
    · rename_i hq
      have hq : q = 46 := by simpa using sf_rv_mem hq
      subst hq
      refine ⟨fun ad => Nat.le_of_ble_eq_true rfl, ?_⟩
      exact sf_run_ok hs (sf_sm_cons (rX4_expectParts_15 hs hm) sf_sm_nil) 27 0 _ _ σ u h hp
    · cases h
  · cases h
theorem kX4_expectParts (l : Launch) : sf_C l sf_layC yX4_expectParts cX4_expectParts 4 none (sf_rm 2 121) (fun av σ => (gX4_expectParts av σ).map sf_vV) :=
  sf_met (tab := tX4_expectParts) (J := jX4_expectParts) (fl := sf_fl4) (cl := sf_cl4) (by decide +kernel) ⟨rfl, rfl⟩ sf_RH_V (by decide +kernel) sf_fl4_ok sf_cl4_ok
    (sf_JO_cons (sf_je_SN (n := 1) (tv := sf_vI) "StreamFuser" (kX2_partsOf l) mwX2_partsOf (by decide +kernel : decode cX4_expectParts 1 = .ok (.invokestatic 81, 3)) wt_569 wt_570 (by decide +kernel) (sf_RM_of (by omega) (by omega))) (sf_JO_cons (sf_je_V (n := 2) (cs := [4]) (tv := sf_vV) (kX4_expect l) mwX4_expect (by decide +kernel : decode cX4_expectParts 12 = .ok (.invokevirtual 40, 3)) wt_554 wt_556 wt_2 (by decide +kernel) (by decide) (by decide) (List.forall_mem_cons.mpr ⟨⟨_, _, rfl⟩, fun _ h => absurd h List.not_mem_nil⟩) (sf_RM_of (by omega) (by omega))) (sf_JO_cons (sf_je_V (n := 2) (cs := [4]) (tv := sf_vV) (kX4_expect l) mwX4_expect (by decide +kernel : decode cX4_expectParts 33 = .ok (.invokevirtual 40, 3)) wt_554 wt_556 wt_2 (by decide +kernel) (by decide) (by decide) (List.forall_mem_cons.mpr ⟨⟨_, _, rfl⟩, fun _ h => absurd h List.not_mem_nil⟩) (sf_RM_of (by omega) (by omega))) (sf_JO_nil))))
    (fun Wt Post hs hm => rX4_expectParts hs hm)
-- ===== StreamFuser$Reader.peek()I =====
abbrev tX4_peek : List (Nat × sf_E) := [(0, (.aload_n 0, 1, 0, .null, [], [])), (1, (.getfield 31, 4, 0, .null, [], [(4, 5)])), (4, (.ifCond .lt 26, 7, 30, .null, [], [])), (7, (.aload_n 0, 8, 0, .null, [], [])), (8, (.getfield 31, 11, 0, .null, [], [(4, 5)])), (11, (.aload_n 0, 12, 0, .null, [], [])), (12, (.getfield 22, 15, 0, .null, [], [(4, 2)])), (15, (.if_icmp .ge 15, 18, 30, .null, [], [])), (18, (.aload_n 0, 19, 0, .null, [], [])), (19, (.getfield 9, 22, 0, .null, [], [(4, 1)])), (22, (.aload_n 0, 23, 0, .null, [], [])), (23, (.getfield 31, 26, 0, .null, [], [(4, 5)])), (26, (.iaload, 27, 0, .null, [], [])), (27, (.goto 4, 30, 31, .null, [], [])), (30, (.iconst (-1), 31, 0, .int (-1), [], [])), (31, (.ireturn, 32, 0, .null, [], []))]
noncomputable abbrev jX4_peek : List (Nat × sf_J (Int32 × sf_S)) := []
noncomputable def dX4_peek (σ : sf_S) : Option (Int32 × sf_S) :=
  if (σ 46 5) < 0 then
    some ((-1 : Int32), σ)
  else
    if (σ 46 2) ≤ (σ 46 5) then
      some ((-1 : Int32), σ)
    else
      let v1 := (σ 46 5)
      if sf_in v1 40 then
        some ((σ 47 v1.toNatClampNeg), σ)
      else
        none
noncomputable abbrev gX4_peek (av : List Value) (σ : sf_S) : Option (Int32 × sf_S) := match av with
  | [.ref q] => (match sf_rv [46] q with | true => dX4_peek σ | false => none)
  | _ => none
set_option maxRecDepth 100000 in
set_option maxHeartbeats 4000000 in
theorem rX4_peek {Wt : Nat → sf_L → List Value → sf_S → Prop} {Post : (Int32 × sf_S) → Prop} (hs : sf_Snd Wt sf_layC sf_hI jX4_peek tX4_peek Post) (hm : sf_mono Wt) : ∀ av σ u, gX4_peek av σ = some u → Post u → (∀ ad, (lg_sl (av.map (sf_v ad))).length ≤ 1) ∧ Wt 0 (sf_ent 0 av) [] σ := by
  intro av σ u h hp
  unfold gX4_peek at h
  split at h
  · rename_i q
    split at h
    · rename_i hq
      have hq : q = 46 := by simpa using sf_rv_mem hq
      subst hq
      refine ⟨fun ad => Nat.le_of_ble_eq_true rfl, ?_⟩
      exact sf_run_ok hs sf_sm_nil 21 0 _ _ σ u h hp
    · cases h
  · cases h
theorem kX4_peek (l : Launch) : sf_C l sf_layC yX4_peek cX4_peek 1 (some .int) (sf_rm 1 100) (fun av σ => (gX4_peek av σ).map sf_vI) :=
  sf_met (tab := tX4_peek) (J := jX4_peek) (fl := sf_fl4) (cl := sf_cl4) (by decide +kernel) ⟨rfl, rfl⟩ sf_RH_I (by decide +kernel) sf_fl4_ok sf_cl4_ok
    (sf_JO_nil)
    (fun Wt Post hs hm => rX4_peek hs hm)
-- ===== StreamFuser$Reader.accept(Z)V =====
abbrev tX4_accept : List (Nat × sf_E) := [(0, (.aload_n 0, 1, 0, .null, [], [])), (1, (.getfield 34, 4, 0, .null, [], [(4, 6)])), (4, (.iconst (-1), 5, 0, .int (-1), [], [])), (5, (.if_icmp .eq 4, 8, 9, .null, [], [])), (8, (.return_, 9, 0, .null, [], [])), (9, (.iload_n 1, 10, 0, .null, [], [])), (10, (.ifCond .eq 27, 13, 37, .null, [], [])), (13, (.aload_n 0, 14, 0, .null, [], [])), (14, (.getfield 31, 17, 0, .null, [], [(4, 5)])), (17, (.aload_n 0, 18, 0, .null, [], [])), (18, (.getfield 22, 21, 0, .null, [], [(4, 2)])), (21, (.if_icmp .ge 16, 24, 37, .null, [], [])), (24, (.aload_n 0, 25, 0, .null, [], [])), (25, (.dup, 26, 0, .null, [], [])), (26, (.getfield 31, 29, 0, .null, [], [(4, 5)])), (29, (.iconst 1, 30, 0, .int (1), [], [])), (30, (.iadd, 31, 0, .null, [], [])), (31, (.putfield 31, 34, 0, .null, [], [(4, 5)])), (34, (.goto 11, 37, 45, .null, [], [])), (37, (.aload_n 0, 38, 0, .null, [], [])), (38, (.aload_n 0, 39, 0, .null, [], [])), (39, (.getfield 31, 42, 0, .null, [], [(4, 5)])), (42, (.putfield 34, 45, 0, .null, [], [(4, 6)])), (45, (.return_, 46, 0, .null, [], []))]
noncomputable abbrev jX4_accept : List (Nat × sf_J sf_S) := []
noncomputable def dX4_accept (x1 : Int32) (σ : sf_S) : Option sf_S :=
  if (σ 46 6) = (-1 : Int32) then
    if x1 = 0 then
      let s1 := sf_up σ 46 6 (σ 46 5)
      some s1
    else
      if (σ 46 2) ≤ (σ 46 5) then
        let s2 := sf_up σ 46 6 (σ 46 5)
        some s2
      else
        let s3 := sf_up σ 46 5 ((σ 46 5) + (1 : Int32))
        some s3
  else
    some σ
noncomputable abbrev gX4_accept (av : List Value) (σ : sf_S) : Option sf_S := match av with
  | [.ref q, .int x1] => (match sf_rv [46] q with | true => dX4_accept x1 σ | false => none)
  | _ => none
set_option maxRecDepth 100000 in
set_option maxHeartbeats 4000000 in
theorem rX4_accept {Wt : Nat → sf_L → List Value → sf_S → Prop} {Post : sf_S → Prop} (hs : sf_Snd Wt sf_layC sf_hV jX4_accept tX4_accept Post) (hm : sf_mono Wt) : ∀ av σ u, gX4_accept av σ = some u → Post u → (∀ ad, (lg_sl (av.map (sf_v ad))).length ≤ 2) ∧ Wt 0 (sf_ent 0 av) [] σ := by
  intro av σ u h hp
  unfold gX4_accept at h
  split at h
  · rename_i q x1
    split at h
    · rename_i hq
      have hq : q = 46 := by simpa using sf_rv_mem hq
      subst hq
      refine ⟨fun ad => Nat.le_of_ble_eq_true rfl, ?_⟩
      exact sf_run_ok hs sf_sm_nil 29 0 _ _ σ u h hp
    · cases h
  · cases h
theorem kX4_accept (l : Launch) : sf_C l sf_layC yX4_accept cX4_accept 2 none (sf_rm 1 100) (fun av σ => (gX4_accept av σ).map sf_vV) :=
  sf_met (tab := tX4_accept) (J := jX4_accept) (fl := sf_fl4) (cl := sf_cl4) (by decide +kernel) ⟨rfl, rfl⟩ sf_RH_V (by decide +kernel) sf_fl4_ok sf_cl4_ok
    (sf_JO_nil)
    (fun Wt Post hs hm => rX4_accept hs hm)
-- ===== StreamFuser$Reader.isLetter(II)Z =====
abbrev tX4_isLetter : List (Nat × sf_E) := [(0, (.iload_n 0, 1, 0, .null, [], [])), (1, (.bipush 117, 3, 0, .int (117), [], [])), (3, (.if_icmp .eq 9, 6, 12, .null, [], [])), (6, (.iload_n 0, 7, 0, .null, [], [])), (7, (.bipush 118, 9, 0, .int (118), [], [])), (9, (.if_icmp .ne 13, 12, 22, .null, [], [])), (12, (.iload_n 1, 13, 0, .null, [], [])), (13, (.ifCond .le 7, 16, 20, .null, [], [])), (16, (.iconst 1, 17, 0, .int (1), [], [])), (17, (.goto 4, 20, 21, .null, [], [])), (20, (.iconst 0, 21, 0, .int (0), [], [])), (21, (.ireturn, 22, 0, .null, [], [])), (22, (.iload_n 0, 23, 0, .null, [], [])), (23, (.bipush 115, 25, 0, .int (115), [], [])), (25, (.if_icmp .eq 17, 28, 42, .null, [], [])), (28, (.iload_n 0, 29, 0, .null, [], [])), (29, (.invokestatic 81, 32, 0, .null, [], [])), (32, (.ifCond .gt 10, 35, 42, .null, [], [])), (35, (.iload_n 0, 36, 0, .null, [], [])), (36, (.invokestatic 67, 39, 0, .null, [], [])), (39, (.ifCond .le 7, 42, 46, .null, [], [])), (42, (.iconst 1, 43, 0, .int (1), [], [])), (43, (.goto 4, 46, 47, .null, [], [])), (46, (.iconst 0, 47, 0, .int (0), [], [])), (47, (.ireturn, 48, 0, .null, [], []))]
noncomputable abbrev jX4_isLetter : List (Nat × sf_J (Int32 × sf_S)) := [(29, sf_jI sf_layC [] 1 gX2_partsOf), (36, sf_jI sf_layC [] 1 gX2_numbersOf)]
noncomputable def dX4_isLetter (x0 : Int32) (x1 : Int32) (σ : sf_S) : Option (Int32 × sf_S) :=
  if x0 = (117 : Int32) then
    if x1 ≤ 0 then
      some ((0 : Int32), σ)
    else
      some ((1 : Int32), σ)
  else
    if ¬ x0 = (118 : Int32) then
      if x0 = (115 : Int32) then
        some ((1 : Int32), σ)
      else
        (dX2_partsOf x0 σ).bind fun u1 =>
        if 0 < u1.1 then
          some ((1 : Int32), u1.2)
        else
          (dX2_numbersOf x0 u1.2).bind fun u2 =>
          if u2.1 ≤ 0 then
            some ((0 : Int32), u2.2)
          else
            some ((1 : Int32), u2.2)
    else
      if x1 ≤ 0 then
        some ((0 : Int32), σ)
      else
        some ((1 : Int32), σ)
noncomputable abbrev gX4_isLetter (av : List Value) (σ : sf_S) : Option (Int32 × sf_S) := match av with
  | [.int x0, .int x1] => dX4_isLetter x0 x1 σ
  | _ => none
set_option maxRecDepth 100000 in
set_option maxHeartbeats 4000000 in
theorem rX4_isLetter {Wt : Nat → sf_L → List Value → sf_S → Prop} {Post : (Int32 × sf_S) → Prop} (hs : sf_Snd Wt sf_layC sf_hZ jX4_isLetter tX4_isLetter Post) (hm : sf_mono Wt) : ∀ av σ u, gX4_isLetter av σ = some u → Post u → (∀ ad, (lg_sl (av.map (sf_v ad))).length ≤ 2) ∧ Wt 0 (sf_ent 0 av) [] σ := by
  intro av σ u h hp
  unfold gX4_isLetter at h
  split at h
  · rename_i x0 x1
    refine ⟨fun ad => Nat.le_of_ble_eq_true rfl, ?_⟩
    exact sf_run_ok hs sf_sm_nil 30 0 _ _ σ u h hp
  · cases h
theorem kX4_isLetter (l : Launch) : sf_C l sf_layC yX4_isLetter cX4_isLetter 2 (some .boolean) (sf_rm 2 120) (fun av σ => (gX4_isLetter av σ).map sf_vI) :=
  sf_met (tab := tX4_isLetter) (J := jX4_isLetter) (fl := sf_fl4) (cl := sf_cl4) (by decide +kernel) ⟨rfl, rfl⟩ sf_RH_Z (by decide +kernel) sf_fl4_ok sf_cl4_ok
    (sf_JO_cons (sf_je_SN (n := 1) (tv := sf_vI) "StreamFuser" (kX2_partsOf l) mwX2_partsOf (by decide +kernel : decode cX4_isLetter 29 = .ok (.invokestatic 81, 3)) wt_569 wt_570 (by decide +kernel) (sf_RM_of (by omega) (by omega))) (sf_JO_cons (sf_je_SN (n := 1) (tv := sf_vI) "StreamFuser" (kX2_numbersOf l) mwX2_numbersOf (by decide +kernel : decode cX4_isLetter 36 = .ok (.invokestatic 67, 3)) wt_572 wt_573 (by decide +kernel) (sf_RM_of (by omega) (by omega))) (sf_JO_nil)))
    (fun Wt Post hs hm => rX4_isLetter hs hm)
-- ===== StreamFuser$Reader.hasDigit(I)Z =====
abbrev tX4_hasDigit : List (Nat × sf_E) := [(0, (.iload_n 0, 1, 0, .null, [], [])), (1, (.bipush 115, 3, 0, .int (115), [], [])), (3, (.if_icmp .eq 9, 6, 12, .null, [], [])), (6, (.iload_n 0, 7, 0, .null, [], [])), (7, (.bipush 108, 9, 0, .int (108), [], [])), (9, (.if_icmp .ne 7, 12, 16, .null, [], [])), (12, (.iconst 1, 13, 0, .int (1), [], [])), (13, (.goto 4, 16, 17, .null, [], [])), (16, (.iconst 0, 17, 0, .int (0), [], [])), (17, (.ireturn, 18, 0, .null, [], []))]
noncomputable abbrev jX4_hasDigit : List (Nat × sf_J (Int32 × sf_S)) := []
noncomputable def dX4_hasDigit (x0 : Int32) (σ : sf_S) : Option (Int32 × sf_S) :=
  if x0 = (115 : Int32) then
    some ((1 : Int32), σ)
  else
    if ¬ x0 = (108 : Int32) then
      some ((0 : Int32), σ)
    else
      some ((1 : Int32), σ)
noncomputable abbrev gX4_hasDigit (av : List Value) (σ : sf_S) : Option (Int32 × sf_S) := match av with
  | [.int x0] => dX4_hasDigit x0 σ
  | _ => none
set_option maxRecDepth 100000 in
set_option maxHeartbeats 4000000 in
theorem rX4_hasDigit {Wt : Nat → sf_L → List Value → sf_S → Prop} {Post : (Int32 × sf_S) → Prop} (hs : sf_Snd Wt sf_layC sf_hZ jX4_hasDigit tX4_hasDigit Post) (hm : sf_mono Wt) : ∀ av σ u, gX4_hasDigit av σ = some u → Post u → (∀ ad, (lg_sl (av.map (sf_v ad))).length ≤ 1) ∧ Wt 0 (sf_ent 0 av) [] σ := by
  intro av σ u h hp
  unfold gX4_hasDigit at h
  split at h
  · rename_i x0
    refine ⟨fun ad => Nat.le_of_ble_eq_true rfl, ?_⟩
    exact sf_run_ok hs sf_sm_nil 15 0 _ _ σ u h hp
  · cases h
theorem kX4_hasDigit (l : Launch) : sf_C l sf_layC yX4_hasDigit cX4_hasDigit 1 (some .boolean) (sf_rm 1 100) (fun av σ => (gX4_hasDigit av σ).map sf_vI) :=
  sf_met (tab := tX4_hasDigit) (J := jX4_hasDigit) (fl := sf_fl4) (cl := sf_cl4) (by decide +kernel) ⟨rfl, rfl⟩ sf_RH_Z (by decide +kernel) sf_fl4_ok sf_cl4_ok
    (sf_JO_nil)
    (fun Wt Post hs hm => rX4_hasDigit hs hm)
-- ===== StreamFuser$Reader.hasMark(I)Z =====
abbrev tX4_hasMark : List (Nat × sf_E) := [(0, (.iload_n 0, 1, 0, .null, [], [])), (1, (.bipush 63, 3, 0, .int (63), [], [])), (3, (.if_icmp .eq 22, 6, 25, .null, [], [])), (6, (.iload_n 0, 7, 0, .null, [], [])), (7, (.bipush 119, 9, 0, .int (119), [], [])), (9, (.if_icmp .eq 16, 12, 25, .null, [], [])), (12, (.iload_n 0, 13, 0, .null, [], [])), (13, (.bipush 122, 15, 0, .int (122), [], [])), (15, (.if_icmp .eq 10, 18, 25, .null, [], [])), (18, (.iload_n 0, 19, 0, .null, [], [])), (19, (.invokestatic 84, 22, 0, .null, [], [])), (22, (.ifCond .eq 7, 25, 29, .null, [], [])), (25, (.iconst 1, 26, 0, .int (1), [], [])), (26, (.goto 4, 29, 30, .null, [], [])), (29, (.iconst 0, 30, 0, .int (0), [], [])), (30, (.ireturn, 31, 0, .null, [], []))]
noncomputable abbrev jX4_hasMark : List (Nat × sf_J (Int32 × sf_S)) := [(19, sf_jI sf_layC [] 1 gX4_hasDigit)]
noncomputable def dX4_hasMark (x0 : Int32) (σ : sf_S) : Option (Int32 × sf_S) :=
  if x0 = (63 : Int32) then
    some ((1 : Int32), σ)
  else
    if x0 = (119 : Int32) then
      some ((1 : Int32), σ)
    else
      if x0 = (122 : Int32) then
        some ((1 : Int32), σ)
      else
        (dX4_hasDigit x0 σ).bind fun u1 =>
        if u1.1 = 0 then
          some ((0 : Int32), u1.2)
        else
          some ((1 : Int32), u1.2)
noncomputable abbrev gX4_hasMark (av : List Value) (σ : sf_S) : Option (Int32 × sf_S) := match av with
  | [.int x0] => dX4_hasMark x0 σ
  | _ => none
set_option maxRecDepth 100000 in
set_option maxHeartbeats 4000000 in
theorem rX4_hasMark {Wt : Nat → sf_L → List Value → sf_S → Prop} {Post : (Int32 × sf_S) → Prop} (hs : sf_Snd Wt sf_layC sf_hZ jX4_hasMark tX4_hasMark Post) (hm : sf_mono Wt) : ∀ av σ u, gX4_hasMark av σ = some u → Post u → (∀ ad, (lg_sl (av.map (sf_v ad))).length ≤ 1) ∧ Wt 0 (sf_ent 0 av) [] σ := by
  intro av σ u h hp
  unfold gX4_hasMark at h
  split at h
  · rename_i x0
    refine ⟨fun ad => Nat.le_of_ble_eq_true rfl, ?_⟩
    exact sf_run_ok hs sf_sm_nil 21 0 _ _ σ u h hp
  · cases h
theorem kX4_hasMark (l : Launch) : sf_C l sf_layC yX4_hasMark cX4_hasMark 1 (some .boolean) (sf_rm 2 120) (fun av σ => (gX4_hasMark av σ).map sf_vI) :=
  sf_met (tab := tX4_hasMark) (J := jX4_hasMark) (fl := sf_fl4) (cl := sf_cl4) (by decide +kernel) ⟨rfl, rfl⟩ sf_RH_Z (by decide +kernel) sf_fl4_ok sf_cl4_ok
    (sf_JO_cons (sf_je_S (n := 1) (tv := sf_vI) (kX4_hasDigit l) mwX4_hasDigit (by decide +kernel : decode cX4_hasMark 19 = .ok (.invokestatic 84, 3)) wt_582 wt_583 (by decide +kernel) (sf_RM_of (by omega) (by omega))) (sf_JO_nil))
    (fun Wt Post hs hm => rX4_hasMark hs hm)
-- ===== StreamFuser$Reader.isDigit(I)Z =====
abbrev tX4_isDigit : List (Nat × sf_E) := [(0, (.iload_n 0, 1, 0, .null, [], [])), (1, (.bipush 48, 3, 0, .int (48), [], [])), (3, (.if_icmp .lt 13, 6, 16, .null, [], [])), (6, (.iload_n 0, 7, 0, .null, [], [])), (7, (.bipush 57, 9, 0, .int (57), [], [])), (9, (.if_icmp .gt 7, 12, 16, .null, [], [])), (12, (.iconst 1, 13, 0, .int (1), [], [])), (13, (.goto 4, 16, 17, .null, [], [])), (16, (.iconst 0, 17, 0, .int (0), [], [])), (17, (.ireturn, 18, 0, .null, [], []))]
noncomputable abbrev jX4_isDigit : List (Nat × sf_J (Int32 × sf_S)) := []
noncomputable def dX4_isDigit (x0 : Int32) (σ : sf_S) : Option (Int32 × sf_S) :=
  if x0 < (48 : Int32) then
    some ((0 : Int32), σ)
  else
    if (57 : Int32) < x0 then
      some ((0 : Int32), σ)
    else
      some ((1 : Int32), σ)
noncomputable abbrev gX4_isDigit (av : List Value) (σ : sf_S) : Option (Int32 × sf_S) := match av with
  | [.int x0] => dX4_isDigit x0 σ
  | _ => none
set_option maxRecDepth 100000 in
set_option maxHeartbeats 4000000 in
theorem rX4_isDigit {Wt : Nat → sf_L → List Value → sf_S → Prop} {Post : (Int32 × sf_S) → Prop} (hs : sf_Snd Wt sf_layC sf_hZ jX4_isDigit tX4_isDigit Post) (hm : sf_mono Wt) : ∀ av σ u, gX4_isDigit av σ = some u → Post u → (∀ ad, (lg_sl (av.map (sf_v ad))).length ≤ 1) ∧ Wt 0 (sf_ent 0 av) [] σ := by
  intro av σ u h hp
  unfold gX4_isDigit at h
  split at h
  · rename_i x0
    refine ⟨fun ad => Nat.le_of_ble_eq_true rfl, ?_⟩
    exact sf_run_ok hs sf_sm_nil 15 0 _ _ σ u h hp
  · cases h
theorem kX4_isDigit (l : Launch) : sf_C l sf_layC yX4_isDigit cX4_isDigit 1 (some .boolean) (sf_rm 1 100) (fun av σ => (gX4_isDigit av σ).map sf_vI) :=
  sf_met (tab := tX4_isDigit) (J := jX4_isDigit) (fl := sf_fl4) (cl := sf_cl4) (by decide +kernel) ⟨rfl, rfl⟩ sf_RH_Z (by decide +kernel) sf_fl4_ok sf_cl4_ok
    (sf_JO_nil)
    (fun Wt Post hs hm => rX4_isDigit hs hm)
-- ===== StreamFuser$Reader.fitsMark(II)Z =====
abbrev tX4_fitsMark : List (Nat × sf_E) := [(0, (.iload_n 0, 1, 0, .null, [], [])), (1, (.lookupswitch 82 #[(108, 53), (115, 35), (122, 58)], 36, 83, .null, [((108), 54), ((115), 36), ((122), 59)], [])), (36, (.iload_n 1, 37, 0, .null, [], [])), (37, (.bipush 48, 39, 0, .int (48), [], [])), (39, (.if_icmp .lt 13, 42, 52, .null, [], [])), (42, (.iload_n 1, 43, 0, .null, [], [])), (43, (.bipush 51, 45, 0, .int (51), [], [])), (45, (.if_icmp .gt 7, 48, 52, .null, [], [])), (48, (.iconst 1, 49, 0, .int (1), [], [])), (49, (.goto 4, 52, 53, .null, [], [])), (52, (.iconst 0, 53, 0, .int (0), [], [])), (53, (.ireturn, 54, 0, .null, [], [])), (54, (.iload_n 1, 55, 0, .null, [], [])), (55, (.invokestatic 90, 58, 0, .null, [], [])), (58, (.ireturn, 59, 0, .null, [], [])), (59, (.iload_n 1, 60, 0, .null, [], [])), (60, (.bipush 43, 62, 0, .int (43), [], [])), (62, (.if_icmp .eq 15, 65, 77, .null, [], [])), (65, (.iload_n 1, 66, 0, .null, [], [])), (66, (.bipush 42, 68, 0, .int (42), [], [])), (68, (.if_icmp .eq 9, 71, 77, .null, [], [])), (71, (.iload_n 1, 72, 0, .null, [], [])), (72, (.bipush 60, 74, 0, .int (60), [], [])), (74, (.if_icmp .ne 7, 77, 81, .null, [], [])), (77, (.iconst 1, 78, 0, .int (1), [], [])), (78, (.goto 4, 81, 82, .null, [], [])), (81, (.iconst 0, 82, 0, .int (0), [], [])), (82, (.ireturn, 83, 0, .null, [], [])), (83, (.iload_n 1, 84, 0, .null, [], [])), (84, (.bipush 60, 86, 0, .int (60), [], [])), (86, (.if_icmp .eq 15, 89, 101, .null, [], [])), (89, (.iload_n 1, 90, 0, .null, [], [])), (90, (.bipush 62, 92, 0, .int (62), [], [])), (92, (.if_icmp .eq 9, 95, 101, .null, [], [])), (95, (.iload_n 1, 96, 0, .null, [], [])), (96, (.bipush 61, 98, 0, .int (61), [], [])), (98, (.if_icmp .ne 7, 101, 105, .null, [], [])), (101, (.iconst 1, 102, 0, .int (1), [], [])), (102, (.goto 4, 105, 106, .null, [], [])), (105, (.iconst 0, 106, 0, .int (0), [], [])), (106, (.ireturn, 107, 0, .null, [], []))]
noncomputable abbrev jX4_fitsMark : List (Nat × sf_J (Int32 × sf_S)) := [(55, sf_jI sf_layC [] 1 gX4_isDigit)]
noncomputable def dX4_fitsMark (x0 : Int32) (x1 : Int32) (σ : sf_S) : Option (Int32 × sf_S) :=
  if x0 = (108 : Int32) then
    (dX4_isDigit x1 σ).bind fun u1 =>
    if sf_01 u1.1 then some (u1.1, u1.2) else none
  else
  if x0 = (115 : Int32) then
    if x1 < (48 : Int32) then
      some ((0 : Int32), σ)
    else
      if (51 : Int32) < x1 then
        some ((0 : Int32), σ)
      else
        some ((1 : Int32), σ)
  else
  if x0 = (122 : Int32) then
    if x1 = (43 : Int32) then
      some ((1 : Int32), σ)
    else
      if x1 = (42 : Int32) then
        some ((1 : Int32), σ)
      else
        if ¬ x1 = (60 : Int32) then
          some ((0 : Int32), σ)
        else
          some ((1 : Int32), σ)
  else
    if x1 = (60 : Int32) then
      some ((1 : Int32), σ)
    else
      if x1 = (62 : Int32) then
        some ((1 : Int32), σ)
      else
        if ¬ x1 = (61 : Int32) then
          some ((0 : Int32), σ)
        else
          some ((1 : Int32), σ)
noncomputable abbrev gX4_fitsMark (av : List Value) (σ : sf_S) : Option (Int32 × sf_S) := match av with
  | [.int x0, .int x1] => dX4_fitsMark x0 x1 σ
  | _ => none
set_option maxRecDepth 100000 in
set_option maxHeartbeats 4000000 in
theorem rX4_fitsMark {Wt : Nat → sf_L → List Value → sf_S → Prop} {Post : (Int32 × sf_S) → Prop} (hs : sf_Snd Wt sf_layC sf_hZ jX4_fitsMark tX4_fitsMark Post) (hm : sf_mono Wt) : ∀ av σ u, gX4_fitsMark av σ = some u → Post u → (∀ ad, (lg_sl (av.map (sf_v ad))).length ≤ 2) ∧ Wt 0 (sf_ent 0 av) [] σ := by
  intro av σ u h hp
  unfold gX4_fitsMark at h
  split at h
  · rename_i x0 x1
    refine ⟨fun ad => Nat.le_of_ble_eq_true rfl, ?_⟩
    exact sf_run_ok hs sf_sm_nil 46 0 _ _ σ u h hp
  · cases h
theorem kX4_fitsMark (l : Launch) : sf_C l sf_layC yX4_fitsMark cX4_fitsMark 2 (some .boolean) (sf_rm 2 120) (fun av σ => (gX4_fitsMark av σ).map sf_vI) :=
  sf_met (tab := tX4_fitsMark) (J := jX4_fitsMark) (fl := sf_fl4) (cl := sf_cl4) (by decide +kernel) ⟨rfl, rfl⟩ sf_RH_Z (by decide +kernel) sf_fl4_ok sf_cl4_ok
    (sf_JO_cons (sf_je_S (n := 1) (tv := sf_vI) (kX4_isDigit l) mwX4_isDigit (by decide +kernel : decode cX4_fitsMark 55 = .ok (.invokestatic 90, 3)) wt_592 wt_593 (by decide +kernel) (sf_RM_of (by omega) (by omega))) (sf_JO_nil))
    (fun Wt Post hs hm => rX4_fitsMark hs hm)
-- ===== StreamFuser$Reader.readMark(I)I =====
abbrev tX4_readMark : List (Nat × sf_E) := [(0, (.aload_n 0, 1, 0, .null, [], [])), (1, (.invokevirtual 47, 4, 0, .null, [], [])), (4, (.istore_n 2, 5, 0, .null, [], [])), (5, (.aload_n 0, 6, 0, .null, [], [])), (6, (.iload_n 1, 7, 0, .null, [], [])), (7, (.iload_n 2, 8, 0, .null, [], [])), (8, (.invokestatic 87, 11, 0, .null, [], [])), (11, (.invokevirtual 55, 14, 0, .null, [], [])), (14, (.iload_n 1, 15, 0, .null, [], [])), (15, (.invokestatic 84, 18, 0, .null, [], [])), (18, (.ifCond .eq 10, 21, 28, .null, [], [])), (21, (.iload_n 2, 22, 0, .null, [], [])), (22, (.bipush 48, 24, 0, .int (48), [], [])), (24, (.isub, 25, 0, .null, [], [])), (25, (.goto 4, 28, 29, .null, [], [])), (28, (.iload_n 2, 29, 0, .null, [], [])), (29, (.ireturn, 30, 0, .null, [], []))]
noncomputable abbrev jX4_readMark : List (Nat × sf_J (Int32 × sf_S)) := [(1, sf_jI sf_layC [4] 1 gX4_peek), (8, sf_jI sf_layC [] 2 gX4_fitsMark), (11, sf_jV sf_layC [4] 2 gX4_accept), (15, sf_jI sf_layC [] 1 gX4_hasDigit)]
noncomputable def dX4_readMark (x1 : Int32) (σ : sf_S) : Option (Int32 × sf_S) :=
  (dX4_peek σ).bind fun u1 =>
  (dX4_fitsMark x1 u1.1 u1.2).bind fun u2 =>
  (dX4_accept u2.1 u2.2).bind fun u3 =>
  (dX4_hasDigit x1 u3).bind fun u4 =>
  if u4.1 = 0 then
    some (u1.1, u4.2)
  else
    some ((u1.1 - (48 : Int32)), u4.2)
noncomputable abbrev gX4_readMark (av : List Value) (σ : sf_S) : Option (Int32 × sf_S) := match av with
  | [.ref q, .int x1] => (match sf_rv [46] q with | true => dX4_readMark x1 σ | false => none)
  | _ => none
set_option maxRecDepth 100000 in
set_option maxHeartbeats 4000000 in
theorem rX4_readMark {Wt : Nat → sf_L → List Value → sf_S → Prop} {Post : (Int32 × sf_S) → Prop} (hs : sf_Snd Wt sf_layC sf_hI jX4_readMark tX4_readMark Post) (hm : sf_mono Wt) : ∀ av σ u, gX4_readMark av σ = some u → Post u → (∀ ad, (lg_sl (av.map (sf_v ad))).length ≤ 3) ∧ Wt 0 (sf_ent 0 av) [] σ := by
  intro av σ u h hp
  unfold gX4_readMark at h
  split at h
  · rename_i q x1
    split at h
    · rename_i hq
      have hq : q = 46 := by simpa using sf_rv_mem hq
      subst hq
      refine ⟨fun ad => Nat.le_of_ble_eq_true rfl, ?_⟩
      exact sf_run_ok hs sf_sm_nil 22 0 _ _ σ u h hp
    · cases h
  · cases h
theorem kX4_readMark (l : Launch) : sf_C l sf_layC yX4_readMark cX4_readMark 3 (some .int) (sf_rm 3 141) (fun av σ => (gX4_readMark av σ).map sf_vI) :=
  sf_met (tab := tX4_readMark) (J := jX4_readMark) (fl := sf_fl4) (cl := sf_cl4) (by decide +kernel) ⟨rfl, rfl⟩ sf_RH_I (by decide +kernel) sf_fl4_ok sf_cl4_ok
    (sf_JO_cons (sf_je_V (n := 1) (cs := [4]) (tv := sf_vI) (kX4_peek l) mwX4_peek (by decide +kernel : decode cX4_readMark 1 = .ok (.invokevirtual 47, 3)) wt_562 wt_564 wt_4 (by decide +kernel) (by decide) (by decide) (List.forall_mem_cons.mpr ⟨⟨_, _, rfl⟩, fun _ h => absurd h List.not_mem_nil⟩) (sf_RM_of (by omega) (by omega))) (sf_JO_cons (sf_je_S (n := 2) (tv := sf_vI) (kX4_fitsMark l) mwX4_fitsMark (by decide +kernel : decode cX4_readMark 8 = .ok (.invokestatic 87, 3)) wt_589 wt_590 (by decide +kernel) (sf_RM_of (by omega) (by omega))) (sf_JO_cons (sf_je_V (n := 2) (cs := [4]) (tv := sf_vV) (kX4_accept l) mwX4_accept (by decide +kernel : decode cX4_readMark 11 = .ok (.invokevirtual 55, 3)) wt_575 wt_577 wt_5 (by decide +kernel) (by decide) (by decide) (List.forall_mem_cons.mpr ⟨⟨_, _, rfl⟩, fun _ h => absurd h List.not_mem_nil⟩) (sf_RM_of (by omega) (by omega))) (sf_JO_cons (sf_je_S (n := 1) (tv := sf_vI) (kX4_hasDigit l) mwX4_hasDigit (by decide +kernel : decode cX4_readMark 15 = .ok (.invokestatic 84, 3)) wt_582 wt_583 (by decide +kernel) (sf_RM_of (by omega) (by omega))) (sf_JO_nil)))))
    (fun Wt Post hs hm => rX4_readMark hs hm)
-- ===== StreamFuser$Reader.readNumber(I)I =====
abbrev tX4_readNumber : List (Nat × sf_E) := [(0, (.iload_n 1, 1, 0, .null, [], [])), (1, (.bipush 116, 3, 0, .int (116), [], [])), (3, (.if_icmp .eq 9, 6, 12, .null, [], [])), (6, (.iload_n 1, 7, 0, .null, [], [])), (7, (.bipush 100, 9, 0, .int (100), [], [])), (9, (.if_icmp .ne 7, 12, 16, .null, [], [])), (12, (.iconst 1, 13, 0, .int (1), [], [])), (13, (.goto 4, 16, 17, .null, [], [])), (16, (.iconst 0, 17, 0, .int (0), [], [])), (17, (.istore_n 2, 18, 0, .null, [], [])), (18, (.iload_n 1, 19, 0, .null, [], [])), (19, (.bipush 37, 21, 0, .int (37), [], [])), (21, (.if_icmp .eq 9, 24, 30, .null, [], [])), (24, (.iload_n 1, 25, 0, .null, [], [])), (25, (.bipush 107, 27, 0, .int (107), [], [])), (27, (.if_icmp .ne 7, 30, 34, .null, [], [])), (30, (.iconst 1, 31, 0, .int (1), [], [])), (31, (.goto 4, 34, 35, .null, [], [])), (34, (.iconst 0, 35, 0, .int (0), [], [])), (35, (.istore_n 3, 36, 0, .null, [], [])), (36, (.iload_n 2, 37, 0, .null, [], [])), (37, (.ifCond .ne 20, 40, 57, .null, [], [])), (40, (.iload_n 3, 41, 0, .null, [], [])), (41, (.ifCond .ne 16, 44, 57, .null, [], [])), (44, (.aload_n 0, 45, 0, .null, [], [])), (45, (.invokevirtual 47, 48, 0, .null, [], [])), (48, (.bipush 45, 50, 0, .int (45), [], [])), (50, (.if_icmp .ne 7, 53, 57, .null, [], [])), (53, (.iconst 1, 54, 0, .int (1), [], [])), (54, (.goto 4, 57, 58, .null, [], [])), (57, (.iconst 0, 58, 0, .int (0), [], [])), (58, (.istore 4, 60, 0, .null, [], [])), (60, (.iload 4, 62, 0, .null, [], [])), (62, (.ifCond .eq 8, 65, 70, .null, [], [])), (65, (.aload_n 0, 66, 0, .null, [], [])), (66, (.iconst 1, 67, 0, .int (1), [], [])), (67, (.invokevirtual 55, 70, 0, .null, [], [])), (70, (.aload_n 0, 71, 0, .null, [], [])), (71, (.invokevirtual 47, 74, 0, .null, [], [])), (74, (.bipush 48, 76, 0, .int (48), [], [])), (76, (.isub, 77, 0, .null, [], [])), (77, (.istore 5, 79, 0, .null, [], [])), (79, (.aload_n 0, 80, 0, .null, [], [])), (80, (.aload_n 0, 81, 0, .null, [], [])), (81, (.invokevirtual 47, 84, 0, .null, [], [])), (84, (.invokestatic 90, 87, 0, .null, [], [])), (87, (.ifCond .eq 21, 90, 108, .null, [], [])), (90, (.iload 5, 92, 0, .null, [], [])), (92, (.ifCond .gt 12, 95, 104, .null, [], [])), (95, (.iload 4, 97, 0, .null, [], [])), (97, (.ifCond .ne 11, 100, 108, .null, [], [])), (100, (.iload_n 3, 101, 0, .null, [], [])), (101, (.ifCond .ne 7, 104, 108, .null, [], [])), (104, (.iconst 1, 105, 0, .int (1), [], [])), (105, (.goto 4, 108, 109, .null, [], [])), (108, (.iconst 0, 109, 0, .int (0), [], [])), (109, (.invokevirtual 55, 112, 0, .null, [], [])), (112, (.iload_n 2, 113, 0, .null, [], [])), (113, (.ifCond .eq 8, 116, 121, .null, [], [])), (116, (.bipush 99, 118, 0, .int (99), [], [])), (118, (.goto 6, 121, 124, .null, [], [])), (121, (.sipush 9999, 124, 0, .int (9999), [], [])), (124, (.istore 6, 126, 0, .null, [], [])), (126, (.iconst 0, 127, 0, .int (0), [], [])), (127, (.istore 7, 129, 0, .null, [], [])), (129, (.iload 7, 131, 0, .null, [], [])), (131, (.iconst 4, 132, 0, .int (4), [], [])), (132, (.if_icmp .ge 67, 135, 199, .null, [], [])), (135, (.aload_n 0, 136, 0, .null, [], [])), (136, (.getfield 34, 139, 0, .null, [], [(4, 6)])), (139, (.iconst (-1), 140, 0, .int (-1), [], [])), (140, (.if_icmp .ne 59, 143, 199, .null, [], [])), (143, (.aload_n 0, 144, 0, .null, [], [])), (144, (.invokevirtual 47, 147, 0, .null, [], [])), (147, (.invokestatic 90, 150, 0, .null, [], [])), (150, (.ifCond .eq 49, 153, 199, .null, [], [])), (153, (.iload 5, 155, 0, .null, [], [])), (155, (.bipush 10, 157, 0, .int (10), [], [])), (157, (.imul, 158, 0, .null, [], [])), (158, (.aload_n 0, 159, 0, .null, [], [])), (159, (.invokevirtual 47, 162, 0, .null, [], [])), (162, (.iadd, 163, 0, .null, [], [])), (163, (.bipush 48, 165, 0, .int (48), [], [])), (165, (.isub, 166, 0, .null, [], [])), (166, (.istore 8, 168, 0, .null, [], [])), (168, (.aload_n 0, 169, 0, .null, [], [])), (169, (.iload 5, 171, 0, .null, [], [])), (171, (.ifCond .le 14, 174, 185, .null, [], [])), (174, (.iload 8, 176, 0, .null, [], [])), (176, (.iload 6, 178, 0, .null, [], [])), (178, (.if_icmp .gt 7, 181, 185, .null, [], [])), (181, (.iconst 1, 182, 0, .int (1), [], [])), (182, (.goto 4, 185, 186, .null, [], [])), (185, (.iconst 0, 186, 0, .int (0), [], [])), (186, (.invokevirtual 55, 189, 0, .null, [], [])), (189, (.iload 8, 191, 0, .null, [], [])), (191, (.istore 5, 193, 0, .null, [], [])), (193, (.iinc 7 1, 196, 0, .int (1), [], [])), (196, (.goto (-67), 199, 129, .null, [], [])), (199, (.aload_n 0, 200, 0, .null, [], [])), (200, (.aload_n 0, 201, 0, .null, [], [])), (201, (.invokevirtual 47, 204, 0, .null, [], [])), (204, (.bipush 59, 206, 0, .int (59), [], [])), (206, (.if_icmp .ne 7, 209, 213, .null, [], [])), (209, (.iconst 1, 210, 0, .int (1), [], [])), (210, (.goto 4, 213, 214, .null, [], [])), (213, (.iconst 0, 214, 0, .int (0), [], [])), (214, (.invokevirtual 55, 217, 0, .null, [], [])), (217, (.iload 4, 219, 0, .null, [], [])), (219, (.ifCond .eq 9, 222, 228, .null, [], [])), (222, (.iload 5, 224, 0, .null, [], [])), (224, (.ineg, 225, 0, .null, [], [])), (225, (.goto 5, 228, 230, .null, [], [])), (228, (.iload 5, 230, 0, .null, [], [])), (230, (.ireturn, 231, 0, .null, [], []))]
noncomputable abbrev jX4_readNumber : List (Nat × sf_J (Int32 × sf_S)) := [(45, sf_jI sf_layC [4] 1 gX4_peek), (67, sf_jV sf_layC [4] 2 gX4_accept), (71, sf_jI sf_layC [4] 1 gX4_peek), (81, sf_jI sf_layC [4] 1 gX4_peek), (84, sf_jI sf_layC [] 1 gX4_isDigit), (109, sf_jV sf_layC [4] 2 gX4_accept), (144, sf_jI sf_layC [4] 1 gX4_peek), (147, sf_jI sf_layC [] 1 gX4_isDigit), (159, sf_jI sf_layC [4] 1 gX4_peek), (186, sf_jV sf_layC [4] 2 gX4_accept), (201, sf_jI sf_layC [4] 1 gX4_peek), (214, sf_jV sf_layC [4] 2 gX4_accept)]
abbrev wX4_readNumber_199 {ρ : Type} (k : Int32 → Int32 → sf_S → Option ρ) : sf_M ρ := fun L st σ => sf_lda L 0 fun a0 => sf_eq a0 46 (sf_ldi L 4 fun x4 => sf_ldi L 5 fun x5 => sf_nil st (k x4 x5 σ))
theorem wX4_readNumber_199_ok {ρ : Type} {Wt : Nat → sf_L → List Value → sf_S → Prop} {Post : ρ → Prop} (hm : sf_mono Wt) {k : Int32 → Int32 → sf_S → Option ρ} (h : ∀ (x4 : Int32) (x5 : Int32) (σ : sf_S) (u : ρ), k x4 x5 σ = some u → Post u → Wt 199 [(0, some (.ref 46)), (4, some (.int x4)), (5, some (.int x5))] [] σ) : sf_CK Wt Post 199 (wX4_readNumber_199 k) := by
  intro L st σ u hf hp
  unfold wX4_readNumber_199 at hf
  have hf0 := hf
  obtain ⟨a0, e0, hf1⟩ := sf_lda_inv hf0
  obtain ⟨rfl, hf2⟩ := sf_eq_inv hf1
  obtain ⟨x4, e4, hf3⟩ := sf_ldi_inv hf2
  obtain ⟨x5, e5, hf4⟩ := sf_ldi_inv hf3
  obtain ⟨rfl, hz⟩ := sf_nil_inv hf4
  exact hm _ [(0, some (.ref _)), (4, some (.int x4)), (5, some (.int x5))] _ _ _ (sf_le_ok (And.intro e0 (And.intro e4 (And.intro e5 trivial)))) (h _ _ _ _ hz hp)
abbrev wX4_readNumber_129 {ρ : Type} (k : Int32 → Int32 → Int32 → Int32 → sf_S → Option ρ) : sf_M ρ := fun L st σ => sf_lda L 0 fun a0 => sf_eq a0 46 (sf_ldi L 4 fun x4 => sf_ldi L 5 fun x5 => sf_ldi L 6 fun x6 => sf_ldi L 7 fun x7 => sf_nil st (k x4 x5 x6 x7 σ))
theorem wX4_readNumber_129_ok {ρ : Type} {Wt : Nat → sf_L → List Value → sf_S → Prop} {Post : ρ → Prop} (hm : sf_mono Wt) {k : Int32 → Int32 → Int32 → Int32 → sf_S → Option ρ} (h : ∀ (x4 : Int32) (x5 : Int32) (x6 : Int32) (x7 : Int32) (σ : sf_S) (u : ρ), k x4 x5 x6 x7 σ = some u → Post u → Wt 129 [(0, some (.ref 46)), (4, some (.int x4)), (5, some (.int x5)), (6, some (.int x6)), (7, some (.int x7))] [] σ) : sf_CK Wt Post 129 (wX4_readNumber_129 k) := by
  intro L st σ u hf hp
  unfold wX4_readNumber_129 at hf
  have hf0 := hf
  obtain ⟨a0, e0, hf1⟩ := sf_lda_inv hf0
  obtain ⟨rfl, hf2⟩ := sf_eq_inv hf1
  obtain ⟨x4, e4, hf3⟩ := sf_ldi_inv hf2
  obtain ⟨x5, e5, hf4⟩ := sf_ldi_inv hf3
  obtain ⟨x6, e6, hf5⟩ := sf_ldi_inv hf4
  obtain ⟨x7, e7, hf6⟩ := sf_ldi_inv hf5
  obtain ⟨rfl, hz⟩ := sf_nil_inv hf6
  exact hm _ [(0, some (.ref _)), (4, some (.int x4)), (5, some (.int x5)), (6, some (.int x6)), (7, some (.int x7))] _ _ _ (sf_le_ok (And.intro e0 (And.intro e4 (And.intro e5 (And.intro e6 (And.intro e7 trivial)))))) (h _ _ _ _ _ _ hz hp)
abbrev wX4_readNumber_109 {ρ : Type} (k : Int32 → Int32 → Int32 → Int32 → sf_S → Option ρ) : sf_M ρ := fun L st σ => sf_lda L 0 fun a0 => sf_eq a0 46 (sf_ldi L 2 fun x2 => sf_ldi L 4 fun x4 => sf_ldi L 5 fun x5 => sf_i1 st fun y0 st => sf_a1 st fun b1 st => sf_eq b1 46 (sf_nil st (k x2 x4 x5 y0 σ)))
theorem wX4_readNumber_109_ok {ρ : Type} {Wt : Nat → sf_L → List Value → sf_S → Prop} {Post : ρ → Prop} (hm : sf_mono Wt) {k : Int32 → Int32 → Int32 → Int32 → sf_S → Option ρ} (h : ∀ (x2 : Int32) (x4 : Int32) (x5 : Int32) (y0 : Int32) (σ : sf_S) (u : ρ), k x2 x4 x5 y0 σ = some u → Post u → Wt 109 [(0, some (.ref 46)), (2, some (.int x2)), (4, some (.int x4)), (5, some (.int x5))] [.int y0, .ref 46] σ) : sf_CK Wt Post 109 (wX4_readNumber_109 k) := by
  intro L st σ u hf hp
  unfold wX4_readNumber_109 at hf
  have hf0 := hf
  obtain ⟨a0, e0, hf1⟩ := sf_lda_inv hf0
  obtain ⟨rfl, hf2⟩ := sf_eq_inv hf1
  obtain ⟨x2, e2, hf3⟩ := sf_ldi_inv hf2
  obtain ⟨x4, e4, hf4⟩ := sf_ldi_inv hf3
  obtain ⟨x5, e5, hf5⟩ := sf_ldi_inv hf4
  obtain ⟨y0, st, rfl, hf6⟩ := sf_i1_inv hf5
  obtain ⟨b1, st, rfl, hf7⟩ := sf_a1_inv hf6
  obtain ⟨rfl, hf8⟩ := sf_eq_inv hf7
  obtain ⟨rfl, hz⟩ := sf_nil_inv hf8
  exact hm _ [(0, some (.ref _)), (2, some (.int x2)), (4, some (.int x4)), (5, some (.int x5))] _ _ _ (sf_le_ok (And.intro e0 (And.intro e2 (And.intro e4 (And.intro e5 trivial))))) (h _ _ _ _ _ _ hz hp)
abbrev wX4_readNumber_70 {ρ : Type} (k : Int32 → Int32 → Int32 → sf_S → Option ρ) : sf_M ρ := fun L st σ => sf_lda L 0 fun a0 => sf_eq a0 46 (sf_ldi L 2 fun x2 => sf_ldi L 3 fun x3 => sf_ldi L 4 fun x4 => sf_nil st (k x2 x3 x4 σ))
theorem wX4_readNumber_70_ok {ρ : Type} {Wt : Nat → sf_L → List Value → sf_S → Prop} {Post : ρ → Prop} (hm : sf_mono Wt) {k : Int32 → Int32 → Int32 → sf_S → Option ρ} (h : ∀ (x2 : Int32) (x3 : Int32) (x4 : Int32) (σ : sf_S) (u : ρ), k x2 x3 x4 σ = some u → Post u → Wt 70 [(0, some (.ref 46)), (2, some (.int x2)), (3, some (.int x3)), (4, some (.int x4))] [] σ) : sf_CK Wt Post 70 (wX4_readNumber_70 k) := by
  intro L st σ u hf hp
  unfold wX4_readNumber_70 at hf
  have hf0 := hf
  obtain ⟨a0, e0, hf1⟩ := sf_lda_inv hf0
  obtain ⟨rfl, hf2⟩ := sf_eq_inv hf1
  obtain ⟨x2, e2, hf3⟩ := sf_ldi_inv hf2
  obtain ⟨x3, e3, hf4⟩ := sf_ldi_inv hf3
  obtain ⟨x4, e4, hf5⟩ := sf_ldi_inv hf4
  obtain ⟨rfl, hz⟩ := sf_nil_inv hf5
  exact hm _ [(0, some (.ref _)), (2, some (.int x2)), (3, some (.int x3)), (4, some (.int x4))] _ _ _ (sf_le_ok (And.intro e0 (And.intro e2 (And.intro e3 (And.intro e4 trivial))))) (h _ _ _ _ _ hz hp)
abbrev wX4_readNumber_35 {ρ : Type} (k : Int32 → Int32 → sf_S → Option ρ) : sf_M ρ := fun L st σ => sf_lda L 0 fun a0 => sf_eq a0 46 (sf_ldi L 2 fun x2 => sf_i1 st fun y0 st => sf_nil st (k x2 y0 σ))
theorem wX4_readNumber_35_ok {ρ : Type} {Wt : Nat → sf_L → List Value → sf_S → Prop} {Post : ρ → Prop} (hm : sf_mono Wt) {k : Int32 → Int32 → sf_S → Option ρ} (h : ∀ (x2 : Int32) (y0 : Int32) (σ : sf_S) (u : ρ), k x2 y0 σ = some u → Post u → Wt 35 [(0, some (.ref 46)), (2, some (.int x2))] [.int y0] σ) : sf_CK Wt Post 35 (wX4_readNumber_35 k) := by
  intro L st σ u hf hp
  unfold wX4_readNumber_35 at hf
  have hf0 := hf
  obtain ⟨a0, e0, hf1⟩ := sf_lda_inv hf0
  obtain ⟨rfl, hf2⟩ := sf_eq_inv hf1
  obtain ⟨x2, e2, hf3⟩ := sf_ldi_inv hf2
  obtain ⟨y0, st, rfl, hf4⟩ := sf_i1_inv hf3
  obtain ⟨rfl, hz⟩ := sf_nil_inv hf4
  exact hm _ [(0, some (.ref _)), (2, some (.int x2))] _ _ _ (sf_le_ok (And.intro e0 (And.intro e2 trivial))) (h _ _ _ _ hz hp)
abbrev wX4_readNumber_17 {ρ : Type} (k : Int32 → Int32 → sf_S → Option ρ) : sf_M ρ := fun L st σ => sf_lda L 0 fun a0 => sf_eq a0 46 (sf_ldi L 1 fun x1 => sf_i1 st fun y0 st => sf_nil st (k x1 y0 σ))
theorem wX4_readNumber_17_ok {ρ : Type} {Wt : Nat → sf_L → List Value → sf_S → Prop} {Post : ρ → Prop} (hm : sf_mono Wt) {k : Int32 → Int32 → sf_S → Option ρ} (h : ∀ (x1 : Int32) (y0 : Int32) (σ : sf_S) (u : ρ), k x1 y0 σ = some u → Post u → Wt 17 [(0, some (.ref 46)), (1, some (.int x1))] [.int y0] σ) : sf_CK Wt Post 17 (wX4_readNumber_17 k) := by
  intro L st σ u hf hp
  unfold wX4_readNumber_17 at hf
  have hf0 := hf
  obtain ⟨a0, e0, hf1⟩ := sf_lda_inv hf0
  obtain ⟨rfl, hf2⟩ := sf_eq_inv hf1
  obtain ⟨x1, e1, hf3⟩ := sf_ldi_inv hf2
  obtain ⟨y0, st, rfl, hf4⟩ := sf_i1_inv hf3
  obtain ⟨rfl, hz⟩ := sf_nil_inv hf4
  exact hm _ [(0, some (.ref _)), (1, some (.int x1))] _ _ _ (sf_le_ok (And.intro e0 (And.intro e1 trivial))) (h _ _ _ _ hz hp)
noncomputable def dX4_readNumber_199 (x4 : Int32) (x5 : Int32) (σ : sf_S) : Option (Int32 × sf_S) :=
  (dX4_peek σ).bind fun u1 =>
  if ¬ u1.1 = (59 : Int32) then
    (dX4_accept (0 : Int32) u1.2).bind fun u2 =>
    if x4 = 0 then
      some (x5, u2)
    else
      some ((-x5), u2)
  else
    (dX4_accept (1 : Int32) u1.2).bind fun u3 =>
    if x4 = 0 then
      some (x5, u3)
    else
      some ((-x5), u3)
set_option maxRecDepth 100000 in
set_option maxHeartbeats 4000000 in
theorem rX4_readNumber_199 {Wt : Nat → sf_L → List Value → sf_S → Prop} {Post : (Int32 × sf_S) → Prop} (hs : sf_Snd Wt sf_layC sf_hI jX4_readNumber tX4_readNumber Post) (hm : sf_mono Wt) : sf_CK Wt Post 199 (wX4_readNumber_199 (dX4_readNumber_199)) := by
  refine wX4_readNumber_199_ok hm ?_
  intro x4 x5 σ u h hp
  exact sf_run_ok hs sf_sm_nil 120 199 _ _ σ u h hp
noncomputable def dX4_readNumber_129 : Nat → Int32 → Int32 → Int32 → Int32 → sf_S → Option (Int32 × sf_S)
  | 0 => fun _ _ _ _ _ => none
  | n + 1 => fun x4 x5 x6 x7 σ =>
    if (4 : Int32) ≤ x7 then
      dX4_readNumber_199 x4 x5 σ
    else
      if ¬ (σ 46 6) = (-1 : Int32) then
        dX4_readNumber_199 x4 x5 σ
      else
        (dX4_peek σ).bind fun u1 =>
        (dX4_isDigit u1.1 u1.2).bind fun u2 =>
        if u2.1 = 0 then
          dX4_readNumber_199 x4 x5 u2.2
        else
          (dX4_peek u2.2).bind fun u3 =>
          let v4 := (((x5 * (10 : Int32)) + u3.1) - (48 : Int32))
          if x5 ≤ 0 then
            (dX4_accept (0 : Int32) u3.2).bind fun u5 =>
            dX4_readNumber_129 n x4 v4 x6 (x7 + (1 : Int32)) u5
          else
            if x6 < v4 then
              (dX4_accept (0 : Int32) u3.2).bind fun u6 =>
              dX4_readNumber_129 n x4 v4 x6 (x7 + (1 : Int32)) u6
            else
              (dX4_accept (1 : Int32) u3.2).bind fun u7 =>
              dX4_readNumber_129 n x4 v4 x6 (x7 + (1 : Int32)) u7
set_option maxRecDepth 100000 in
set_option maxHeartbeats 4000000 in
theorem rX4_readNumber_129 {Wt : Nat → sf_L → List Value → sf_S → Prop} {Post : (Int32 × sf_S) → Prop} (hs : sf_Snd Wt sf_layC sf_hI jX4_readNumber tX4_readNumber Post) (hm : sf_mono Wt) : ∀ n : Nat, sf_CK Wt Post 129 (wX4_readNumber_129 (dX4_readNumber_129 n)) := by
  intro n
  induction n with
  | zero => exact wX4_readNumber_129_ok hm (fun x4 x5 x6 x7 σ u h _ => by simp [dX4_readNumber_129] at h)
  | succ n ih =>
    refine wX4_readNumber_129_ok hm ?_
    intro x4 x5 x6 x7 σ u h hp
    exact sf_run_ok hs (sf_sm_cons ih (sf_sm_cons (rX4_readNumber_199 hs hm) sf_sm_nil)) 120 129 _ _ σ u h hp
noncomputable def dX4_readNumber_109 (x2 : Int32) (x4 : Int32) (x5 : Int32) (y0 : Int32) (σ : sf_S) : Option (Int32 × sf_S) :=
  (dX4_accept y0 σ).bind fun u1 =>
  if x2 = 0 then
    dX4_readNumber_129 sf_F x4 x5 (9999 : Int32) (0 : Int32) u1
  else
    dX4_readNumber_129 sf_F x4 x5 (99 : Int32) (0 : Int32) u1
set_option maxRecDepth 100000 in
set_option maxHeartbeats 4000000 in
theorem rX4_readNumber_109 {Wt : Nat → sf_L → List Value → sf_S → Prop} {Post : (Int32 × sf_S) → Prop} (hs : sf_Snd Wt sf_layC sf_hI jX4_readNumber tX4_readNumber Post) (hm : sf_mono Wt) : sf_CK Wt Post 109 (wX4_readNumber_109 (dX4_readNumber_109)) := by
  refine wX4_readNumber_109_ok hm ?_
  intro x2 x4 x5 y0 σ u h hp
  exact sf_run_ok hs (sf_sm_cons (rX4_readNumber_129 hs hm sf_F) sf_sm_nil) 120 109 _ _ σ u h hp
noncomputable def dX4_readNumber_70 (x2 : Int32) (x3 : Int32) (x4 : Int32) (σ : sf_S) : Option (Int32 × sf_S) :=
  (dX4_peek σ).bind fun u1 =>
  (dX4_peek u1.2).bind fun u2 =>
  (dX4_isDigit u2.1 u2.2).bind fun u3 =>
  if u3.1 = 0 then
    dX4_readNumber_109 x2 x4 (u1.1 - (48 : Int32)) (0 : Int32) u3.2
  else
    if 0 < (u1.1 - (48 : Int32)) then
      dX4_readNumber_109 x2 x4 (u1.1 - (48 : Int32)) (1 : Int32) u3.2
    else
      if ¬ x4 = 0 then
        dX4_readNumber_109 x2 x4 (u1.1 - (48 : Int32)) (0 : Int32) u3.2
      else
        if ¬ x3 = 0 then
          dX4_readNumber_109 x2 x4 (u1.1 - (48 : Int32)) (0 : Int32) u3.2
        else
          dX4_readNumber_109 x2 x4 (u1.1 - (48 : Int32)) (1 : Int32) u3.2
set_option maxRecDepth 100000 in
set_option maxHeartbeats 4000000 in
theorem rX4_readNumber_70 {Wt : Nat → sf_L → List Value → sf_S → Prop} {Post : (Int32 × sf_S) → Prop} (hs : sf_Snd Wt sf_layC sf_hI jX4_readNumber tX4_readNumber Post) (hm : sf_mono Wt) : sf_CK Wt Post 70 (wX4_readNumber_70 (dX4_readNumber_70)) := by
  refine wX4_readNumber_70_ok hm ?_
  intro x2 x3 x4 σ u h hp
  exact sf_run_ok hs (sf_sm_cons (rX4_readNumber_109 hs hm) sf_sm_nil) 120 70 _ _ σ u h hp
noncomputable def dX4_readNumber_35 (x2 : Int32) (y0 : Int32) (σ : sf_S) : Option (Int32 × sf_S) :=
  if ¬ x2 = 0 then
    if (0 : Int32) = 0 then
      dX4_readNumber_70 x2 y0 (0 : Int32) σ
    else
      (dX4_accept (1 : Int32) σ).bind fun u1 =>
      dX4_readNumber_70 x2 y0 (0 : Int32) u1
  else
    if ¬ y0 = 0 then
      if (0 : Int32) = 0 then
        dX4_readNumber_70 x2 y0 (0 : Int32) σ
      else
        (dX4_accept (1 : Int32) σ).bind fun u2 =>
        dX4_readNumber_70 x2 y0 (0 : Int32) u2
    else
      (dX4_peek σ).bind fun u3 =>
      if ¬ u3.1 = (45 : Int32) then
        if (0 : Int32) = 0 then
          dX4_readNumber_70 x2 y0 (0 : Int32) u3.2
        else
          (dX4_accept (1 : Int32) u3.2).bind fun u4 =>
          dX4_readNumber_70 x2 y0 (0 : Int32) u4
      else
        if (1 : Int32) = 0 then
          dX4_readNumber_70 x2 y0 (1 : Int32) u3.2
        else
          (dX4_accept (1 : Int32) u3.2).bind fun u5 =>
          dX4_readNumber_70 x2 y0 (1 : Int32) u5
set_option maxRecDepth 100000 in
set_option maxHeartbeats 4000000 in
theorem rX4_readNumber_35 {Wt : Nat → sf_L → List Value → sf_S → Prop} {Post : (Int32 × sf_S) → Prop} (hs : sf_Snd Wt sf_layC sf_hI jX4_readNumber tX4_readNumber Post) (hm : sf_mono Wt) : sf_CK Wt Post 35 (wX4_readNumber_35 (dX4_readNumber_35)) := by
  refine wX4_readNumber_35_ok hm ?_
  intro x2 y0 σ u h hp
  exact sf_run_ok hs (sf_sm_cons (rX4_readNumber_70 hs hm) sf_sm_nil) 120 35 _ _ σ u h hp
noncomputable def dX4_readNumber_17 (x1 : Int32) (y0 : Int32) (σ : sf_S) : Option (Int32 × sf_S) :=
  if x1 = (37 : Int32) then
    dX4_readNumber_35 y0 (1 : Int32) σ
  else
    if ¬ x1 = (107 : Int32) then
      dX4_readNumber_35 y0 (0 : Int32) σ
    else
      dX4_readNumber_35 y0 (1 : Int32) σ
set_option maxRecDepth 100000 in
set_option maxHeartbeats 4000000 in
theorem rX4_readNumber_17 {Wt : Nat → sf_L → List Value → sf_S → Prop} {Post : (Int32 × sf_S) → Prop} (hs : sf_Snd Wt sf_layC sf_hI jX4_readNumber tX4_readNumber Post) (hm : sf_mono Wt) : sf_CK Wt Post 17 (wX4_readNumber_17 (dX4_readNumber_17)) := by
  refine wX4_readNumber_17_ok hm ?_
  intro x1 y0 σ u h hp
  exact sf_run_ok hs (sf_sm_cons (rX4_readNumber_35 hs hm) sf_sm_nil) 120 17 _ _ σ u h hp
noncomputable def dX4_readNumber (x1 : Int32) (σ : sf_S) : Option (Int32 × sf_S) :=
  if x1 = (116 : Int32) then
    dX4_readNumber_17 x1 (1 : Int32) σ
  else
    if ¬ x1 = (100 : Int32) then
      dX4_readNumber_17 x1 (0 : Int32) σ
    else
      dX4_readNumber_17 x1 (1 : Int32) σ
noncomputable abbrev gX4_readNumber (av : List Value) (σ : sf_S) : Option (Int32 × sf_S) := match av with
  | [.ref q, .int x1] => (match sf_rv [46] q with | true => dX4_readNumber x1 σ | false => none)
  | _ => none
set_option maxRecDepth 100000 in
set_option maxHeartbeats 4000000 in
theorem rX4_readNumber {Wt : Nat → sf_L → List Value → sf_S → Prop} {Post : (Int32 × sf_S) → Prop} (hs : sf_Snd Wt sf_layC sf_hI jX4_readNumber tX4_readNumber Post) (hm : sf_mono Wt) : ∀ av σ u, gX4_readNumber av σ = some u → Post u → (∀ ad, (lg_sl (av.map (sf_v ad))).length ≤ 9) ∧ Wt 0 (sf_ent 0 av) [] σ := by
  intro av σ u h hp
  unfold gX4_readNumber at h
  split at h
  · rename_i q x1
    split at h
    · rename_i hq
      have hq : q = 46 := by simpa using sf_rv_mem hq
      subst hq
      refine ⟨fun ad => Nat.le_of_ble_eq_true rfl, ?_⟩
      exact sf_run_ok hs (sf_sm_cons (rX4_readNumber_17 hs hm) sf_sm_nil) 120 0 _ _ σ u h hp
    · cases h
  · cases h
theorem kX4_readNumber (l : Launch) : sf_C l sf_layC yX4_readNumber cX4_readNumber 9 (some .int) (sf_rm 2 121) (fun av σ => (gX4_readNumber av σ).map sf_vI) :=
  sf_met (tab := tX4_readNumber) (J := jX4_readNumber) (fl := sf_fl4) (cl := sf_cl4) (by decide +kernel) ⟨rfl, rfl⟩ sf_RH_I (by decide +kernel) sf_fl4_ok sf_cl4_ok
    (sf_JO_cons (sf_je_V (n := 1) (cs := [4]) (tv := sf_vI) (kX4_peek l) mwX4_peek (by decide +kernel : decode cX4_readNumber 45 = .ok (.invokevirtual 47, 3)) wt_562 wt_564 wt_4 (by decide +kernel) (by decide) (by decide) (List.forall_mem_cons.mpr ⟨⟨_, _, rfl⟩, fun _ h => absurd h List.not_mem_nil⟩) (sf_RM_of (by omega) (by omega))) (sf_JO_cons (sf_je_V (n := 2) (cs := [4]) (tv := sf_vV) (kX4_accept l) mwX4_accept (by decide +kernel : decode cX4_readNumber 67 = .ok (.invokevirtual 55, 3)) wt_575 wt_577 wt_5 (by decide +kernel) (by decide) (by decide) (List.forall_mem_cons.mpr ⟨⟨_, _, rfl⟩, fun _ h => absurd h List.not_mem_nil⟩) (sf_RM_of (by omega) (by omega))) (sf_JO_cons (sf_je_V (n := 1) (cs := [4]) (tv := sf_vI) (kX4_peek l) mwX4_peek (by decide +kernel : decode cX4_readNumber 71 = .ok (.invokevirtual 47, 3)) wt_562 wt_564 wt_4 (by decide +kernel) (by decide) (by decide) (List.forall_mem_cons.mpr ⟨⟨_, _, rfl⟩, fun _ h => absurd h List.not_mem_nil⟩) (sf_RM_of (by omega) (by omega))) (sf_JO_cons (sf_je_V (n := 1) (cs := [4]) (tv := sf_vI) (kX4_peek l) mwX4_peek (by decide +kernel : decode cX4_readNumber 81 = .ok (.invokevirtual 47, 3)) wt_562 wt_564 wt_4 (by decide +kernel) (by decide) (by decide) (List.forall_mem_cons.mpr ⟨⟨_, _, rfl⟩, fun _ h => absurd h List.not_mem_nil⟩) (sf_RM_of (by omega) (by omega))) (sf_JO_cons (sf_je_S (n := 1) (tv := sf_vI) (kX4_isDigit l) mwX4_isDigit (by decide +kernel : decode cX4_readNumber 84 = .ok (.invokestatic 90, 3)) wt_592 wt_593 (by decide +kernel) (sf_RM_of (by omega) (by omega))) (sf_JO_cons (sf_je_V (n := 2) (cs := [4]) (tv := sf_vV) (kX4_accept l) mwX4_accept (by decide +kernel : decode cX4_readNumber 109 = .ok (.invokevirtual 55, 3)) wt_575 wt_577 wt_5 (by decide +kernel) (by decide) (by decide) (List.forall_mem_cons.mpr ⟨⟨_, _, rfl⟩, fun _ h => absurd h List.not_mem_nil⟩) (sf_RM_of (by omega) (by omega))) (sf_JO_cons (sf_je_V (n := 1) (cs := [4]) (tv := sf_vI) (kX4_peek l) mwX4_peek (by decide +kernel : decode cX4_readNumber 144 = .ok (.invokevirtual 47, 3)) wt_562 wt_564 wt_4 (by decide +kernel) (by decide) (by decide) (List.forall_mem_cons.mpr ⟨⟨_, _, rfl⟩, fun _ h => absurd h List.not_mem_nil⟩) (sf_RM_of (by omega) (by omega))) (sf_JO_cons (sf_je_S (n := 1) (tv := sf_vI) (kX4_isDigit l) mwX4_isDigit (by decide +kernel : decode cX4_readNumber 147 = .ok (.invokestatic 90, 3)) wt_592 wt_593 (by decide +kernel) (sf_RM_of (by omega) (by omega))) (sf_JO_cons (sf_je_V (n := 1) (cs := [4]) (tv := sf_vI) (kX4_peek l) mwX4_peek (by decide +kernel : decode cX4_readNumber 159 = .ok (.invokevirtual 47, 3)) wt_562 wt_564 wt_4 (by decide +kernel) (by decide) (by decide) (List.forall_mem_cons.mpr ⟨⟨_, _, rfl⟩, fun _ h => absurd h List.not_mem_nil⟩) (sf_RM_of (by omega) (by omega))) (sf_JO_cons (sf_je_V (n := 2) (cs := [4]) (tv := sf_vV) (kX4_accept l) mwX4_accept (by decide +kernel : decode cX4_readNumber 186 = .ok (.invokevirtual 55, 3)) wt_575 wt_577 wt_5 (by decide +kernel) (by decide) (by decide) (List.forall_mem_cons.mpr ⟨⟨_, _, rfl⟩, fun _ h => absurd h List.not_mem_nil⟩) (sf_RM_of (by omega) (by omega))) (sf_JO_cons (sf_je_V (n := 1) (cs := [4]) (tv := sf_vI) (kX4_peek l) mwX4_peek (by decide +kernel : decode cX4_readNumber 201 = .ok (.invokevirtual 47, 3)) wt_562 wt_564 wt_4 (by decide +kernel) (by decide) (by decide) (List.forall_mem_cons.mpr ⟨⟨_, _, rfl⟩, fun _ h => absurd h List.not_mem_nil⟩) (sf_RM_of (by omega) (by omega))) (sf_JO_cons (sf_je_V (n := 2) (cs := [4]) (tv := sf_vV) (kX4_accept l) mwX4_accept (by decide +kernel : decode cX4_readNumber 214 = .ok (.invokevirtual 55, 3)) wt_575 wt_577 wt_5 (by decide +kernel) (by decide) (by decide) (List.forall_mem_cons.mpr ⟨⟨_, _, rfl⟩, fun _ h => absurd h List.not_mem_nil⟩) (sf_RM_of (by omega) (by omega))) (sf_JO_nil)))))))))))))
    (fun Wt Post hs hm => rX4_readNumber hs hm)
-- ===== StreamFuser$Reader.readNode()V =====
abbrev tX4_readNode : List (Nat × sf_E) := [(0, (.aload_n 0, 1, 0, .null, [], [])), (1, (.getfield 37, 4, 0, .null, [], [(4, 4)])), (4, (.ifCond .gt 4, 7, 8, .null, [], [])), (7, (.return_, 8, 0, .null, [], [])), (8, (.aload_n 0, 9, 0, .null, [], [])), (9, (.dup, 10, 0, .null, [], [])), (10, (.getfield 37, 13, 0, .null, [], [(4, 4)])), (13, (.iconst 1, 14, 0, .int (1), [], [])), (14, (.isub, 15, 0, .null, [], [])), (15, (.putfield 37, 18, 0, .null, [], [(4, 4)])), (18, (.aload_n 0, 19, 0, .null, [], [])), (19, (.getfield 15, 22, 0, .null, [], [(4, 3)])), (22, (.aload_n 0, 23, 0, .null, [], [])), (23, (.getfield 37, 26, 0, .null, [], [(4, 4)])), (26, (.iaload, 27, 0, .null, [], [])), (27, (.istore_n 1, 28, 0, .null, [], [])), (28, (.aload_n 0, 29, 0, .null, [], [])), (29, (.invokevirtual 47, 32, 0, .null, [], [])), (32, (.istore_n 2, 33, 0, .null, [], [])), (33, (.aload_n 0, 34, 0, .null, [], [])), (34, (.iload_n 2, 35, 0, .null, [], [])), (35, (.iload_n 1, 36, 0, .null, [], [])), (36, (.invokestatic 51, 39, 0, .null, [], [])), (39, (.invokevirtual 55, 42, 0, .null, [], [])), (42, (.iload_n 2, 43, 0, .null, [], [])), (43, (.invokestatic 59, 46, 0, .null, [], [])), (46, (.ifCond .eq 11, 49, 57, .null, [], [])), (49, (.aload_n 0, 50, 0, .null, [], [])), (50, (.iload_n 2, 51, 0, .null, [], [])), (51, (.invokevirtual 63, 54, 0, .null, [], [])), (54, (.goto 4, 57, 58, .null, [], [])), (57, (.iconst (-1), 58, 0, .int (-1), [], [])), (58, (.istore_n 3, 59, 0, .null, [], [])), (59, (.iload_n 2, 60, 0, .null, [], [])), (60, (.invokestatic 67, 63, 0, .null, [], [])), (63, (.istore 4, 65, 0, .null, [], [])), (65, (.iload 4, 67, 0, .null, [], [])), (67, (.ifCond .le 11, 70, 78, .null, [], [])), (70, (.aload_n 0, 71, 0, .null, [], [])), (71, (.iload_n 2, 72, 0, .null, [], [])), (72, (.invokevirtual 70, 75, 0, .null, [], [])), (75, (.goto 4, 78, 79, .null, [], [])), (78, (.iconst 0, 79, 0, .int (0), [], [])), (79, (.istore 5, 81, 0, .null, [], [])), (81, (.iload 4, 83, 0, .null, [], [])), (83, (.iconst 1, 84, 0, .int (1), [], [])), (84, (.if_icmp .le 11, 87, 95, .null, [], [])), (87, (.aload_n 0, 88, 0, .null, [], [])), (88, (.iload_n 2, 89, 0, .null, [], [])), (89, (.invokevirtual 70, 92, 0, .null, [], [])), (92, (.goto 4, 95, 96, .null, [], [])), (95, (.iconst 0, 96, 0, .int (0), [], [])), (96, (.istore 6, 98, 0, .null, [], [])), (98, (.aload_n 0, 99, 0, .null, [], [])), (99, (.getfield 34, 102, 0, .null, [], [(4, 6)])), (102, (.iconst (-1), 103, 0, .int (-1), [], [])), (103, (.if_icmp .eq 4, 106, 107, .null, [], [])), (106, (.return_, 107, 0, .null, [], [])), (107, (.aload_n 0, 108, 0, .null, [], [])), (108, (.getfield 18, 111, 0, .null, [], [(4, 0)])), (111, (.iload_n 2, 112, 0, .null, [], [])), (112, (.iload_n 3, 113, 0, .null, [], [])), (113, (.iload 5, 115, 0, .null, [], [])), (115, (.iload 6, 117, 0, .null, [], [])), (117, (.invokevirtual 73, 120, 0, .null, [], [])), (120, (.aload_n 0, 121, 0, .null, [], [])), (121, (.iload_n 2, 122, 0, .null, [], [])), (122, (.iload_n 1, 123, 0, .null, [], [])), (123, (.invokevirtual 77, 126, 0, .null, [], [])), (126, (.return_, 127, 0, .null, [], []))]
noncomputable abbrev jX4_readNode : List (Nat × sf_J sf_S) := [(29, sf_jI sf_layC [4] 1 gX4_peek), (36, sf_jI sf_layC [] 2 gX4_isLetter), (39, sf_jV sf_layC [4] 2 gX4_accept), (43, sf_jI sf_layC [] 1 gX4_hasMark), (51, sf_jI sf_layC [4] 2 gX4_readMark), (60, sf_jI sf_layC [] 1 gX2_numbersOf), (72, sf_jI sf_layC [4] 2 gX4_readNumber), (89, sf_jI sf_layC [4] 2 gX4_readNumber), (117, sf_jV sf_layC [2] 5 gX2_add), (123, sf_jV sf_layC [4] 3 gX4_expectParts)]
abbrev wX4_readNode_96 {ρ : Type} (k : Int32 → Int32 → Int32 → Int32 → Int32 → sf_S → Option ρ) : sf_M ρ := fun L st σ => sf_lda L 0 fun a0 => sf_eq a0 46 (sf_ldi L 1 fun x1 => sf_ldi L 2 fun x2 => sf_ldi L 3 fun x3 => sf_ldi L 5 fun x5 => sf_i1 st fun y0 st => sf_nil st (k x1 x2 x3 x5 y0 σ))
theorem wX4_readNode_96_ok {ρ : Type} {Wt : Nat → sf_L → List Value → sf_S → Prop} {Post : ρ → Prop} (hm : sf_mono Wt) {k : Int32 → Int32 → Int32 → Int32 → Int32 → sf_S → Option ρ} (h : ∀ (x1 : Int32) (x2 : Int32) (x3 : Int32) (x5 : Int32) (y0 : Int32) (σ : sf_S) (u : ρ), k x1 x2 x3 x5 y0 σ = some u → Post u → Wt 96 [(0, some (.ref 46)), (1, some (.int x1)), (2, some (.int x2)), (3, some (.int x3)), (5, some (.int x5))] [.int y0] σ) : sf_CK Wt Post 96 (wX4_readNode_96 k) := by
  intro L st σ u hf hp
  unfold wX4_readNode_96 at hf
  have hf0 := hf
  obtain ⟨a0, e0, hf1⟩ := sf_lda_inv hf0
  obtain ⟨rfl, hf2⟩ := sf_eq_inv hf1
  obtain ⟨x1, e1, hf3⟩ := sf_ldi_inv hf2
  obtain ⟨x2, e2, hf4⟩ := sf_ldi_inv hf3
  obtain ⟨x3, e3, hf5⟩ := sf_ldi_inv hf4
  obtain ⟨x5, e5, hf6⟩ := sf_ldi_inv hf5
  obtain ⟨y0, st, rfl, hf7⟩ := sf_i1_inv hf6
  obtain ⟨rfl, hz⟩ := sf_nil_inv hf7
  exact hm _ [(0, some (.ref _)), (1, some (.int x1)), (2, some (.int x2)), (3, some (.int x3)), (5, some (.int x5))] _ _ _ (sf_le_ok (And.intro e0 (And.intro e1 (And.intro e2 (And.intro e3 (And.intro e5 trivial)))))) (h _ _ _ _ _ _ _ hz hp)
abbrev wX4_readNode_79 {ρ : Type} (k : Int32 → Int32 → Int32 → Int32 → Int32 → sf_S → Option ρ) : sf_M ρ := fun L st σ => sf_lda L 0 fun a0 => sf_eq a0 46 (sf_ldi L 1 fun x1 => sf_ldi L 2 fun x2 => sf_ldi L 3 fun x3 => sf_ldi L 4 fun x4 => sf_i1 st fun y0 st => sf_nil st (k x1 x2 x3 x4 y0 σ))
theorem wX4_readNode_79_ok {ρ : Type} {Wt : Nat → sf_L → List Value → sf_S → Prop} {Post : ρ → Prop} (hm : sf_mono Wt) {k : Int32 → Int32 → Int32 → Int32 → Int32 → sf_S → Option ρ} (h : ∀ (x1 : Int32) (x2 : Int32) (x3 : Int32) (x4 : Int32) (y0 : Int32) (σ : sf_S) (u : ρ), k x1 x2 x3 x4 y0 σ = some u → Post u → Wt 79 [(0, some (.ref 46)), (1, some (.int x1)), (2, some (.int x2)), (3, some (.int x3)), (4, some (.int x4))] [.int y0] σ) : sf_CK Wt Post 79 (wX4_readNode_79 k) := by
  intro L st σ u hf hp
  unfold wX4_readNode_79 at hf
  have hf0 := hf
  obtain ⟨a0, e0, hf1⟩ := sf_lda_inv hf0
  obtain ⟨rfl, hf2⟩ := sf_eq_inv hf1
  obtain ⟨x1, e1, hf3⟩ := sf_ldi_inv hf2
  obtain ⟨x2, e2, hf4⟩ := sf_ldi_inv hf3
  obtain ⟨x3, e3, hf5⟩ := sf_ldi_inv hf4
  obtain ⟨x4, e4, hf6⟩ := sf_ldi_inv hf5
  obtain ⟨y0, st, rfl, hf7⟩ := sf_i1_inv hf6
  obtain ⟨rfl, hz⟩ := sf_nil_inv hf7
  exact hm _ [(0, some (.ref _)), (1, some (.int x1)), (2, some (.int x2)), (3, some (.int x3)), (4, some (.int x4))] _ _ _ (sf_le_ok (And.intro e0 (And.intro e1 (And.intro e2 (And.intro e3 (And.intro e4 trivial)))))) (h _ _ _ _ _ _ _ hz hp)
abbrev wX4_readNode_58 {ρ : Type} (k : Int32 → Int32 → Int32 → sf_S → Option ρ) : sf_M ρ := fun L st σ => sf_lda L 0 fun a0 => sf_eq a0 46 (sf_ldi L 1 fun x1 => sf_ldi L 2 fun x2 => sf_i1 st fun y0 st => sf_nil st (k x1 x2 y0 σ))
theorem wX4_readNode_58_ok {ρ : Type} {Wt : Nat → sf_L → List Value → sf_S → Prop} {Post : ρ → Prop} (hm : sf_mono Wt) {k : Int32 → Int32 → Int32 → sf_S → Option ρ} (h : ∀ (x1 : Int32) (x2 : Int32) (y0 : Int32) (σ : sf_S) (u : ρ), k x1 x2 y0 σ = some u → Post u → Wt 58 [(0, some (.ref 46)), (1, some (.int x1)), (2, some (.int x2))] [.int y0] σ) : sf_CK Wt Post 58 (wX4_readNode_58 k) := by
  intro L st σ u hf hp
  unfold wX4_readNode_58 at hf
  have hf0 := hf
  obtain ⟨a0, e0, hf1⟩ := sf_lda_inv hf0
  obtain ⟨rfl, hf2⟩ := sf_eq_inv hf1
  obtain ⟨x1, e1, hf3⟩ := sf_ldi_inv hf2
  obtain ⟨x2, e2, hf4⟩ := sf_ldi_inv hf3
  obtain ⟨y0, st, rfl, hf5⟩ := sf_i1_inv hf4
  obtain ⟨rfl, hz⟩ := sf_nil_inv hf5
  exact hm _ [(0, some (.ref _)), (1, some (.int x1)), (2, some (.int x2))] _ _ _ (sf_le_ok (And.intro e0 (And.intro e1 (And.intro e2 trivial)))) (h _ _ _ _ _ hz hp)
noncomputable def dX4_readNode_96 (x1 : Int32) (x2 : Int32) (x3 : Int32) (x5 : Int32) (y0 : Int32) (σ : sf_S) : Option sf_S :=
  if (σ 46 6) = (-1 : Int32) then
    (dX2_add 36 x2 x3 x5 y0 σ).bind fun u1 =>
    (dX4_expectParts x2 x1 u1).bind fun u2 =>
    some u2
  else
    some σ
set_option maxRecDepth 100000 in
set_option maxHeartbeats 4000000 in
theorem rX4_readNode_96 {Wt : Nat → sf_L → List Value → sf_S → Prop} {Post : sf_S → Prop} (hs : sf_Snd Wt sf_layC sf_hV jX4_readNode tX4_readNode Post) (hm : sf_mono Wt) : sf_CK Wt Post 96 (wX4_readNode_96 (dX4_readNode_96)) := by
  refine wX4_readNode_96_ok hm ?_
  intro x1 x2 x3 x5 y0 σ u h hp
  exact sf_run_ok hs sf_sm_nil 75 96 _ _ σ u h hp
noncomputable def dX4_readNode_79 (x1 : Int32) (x2 : Int32) (x3 : Int32) (x4 : Int32) (y0 : Int32) (σ : sf_S) : Option sf_S :=
  if x4 ≤ (1 : Int32) then
    dX4_readNode_96 x1 x2 x3 y0 (0 : Int32) σ
  else
    (dX4_readNumber x2 σ).bind fun u1 =>
    dX4_readNode_96 x1 x2 x3 y0 u1.1 u1.2
set_option maxRecDepth 100000 in
set_option maxHeartbeats 4000000 in
theorem rX4_readNode_79 {Wt : Nat → sf_L → List Value → sf_S → Prop} {Post : sf_S → Prop} (hs : sf_Snd Wt sf_layC sf_hV jX4_readNode tX4_readNode Post) (hm : sf_mono Wt) : sf_CK Wt Post 79 (wX4_readNode_79 (dX4_readNode_79)) := by
  refine wX4_readNode_79_ok hm ?_
  intro x1 x2 x3 x4 y0 σ u h hp
  exact sf_run_ok hs (sf_sm_cons (rX4_readNode_96 hs hm) sf_sm_nil) 75 79 _ _ σ u h hp
noncomputable def dX4_readNode_58 (x1 : Int32) (x2 : Int32) (y0 : Int32) (σ : sf_S) : Option sf_S :=
  (dX2_numbersOf x2 σ).bind fun u1 =>
  if u1.1 ≤ 0 then
    dX4_readNode_79 x1 x2 y0 u1.1 (0 : Int32) u1.2
  else
    (dX4_readNumber x2 u1.2).bind fun u2 =>
    dX4_readNode_79 x1 x2 y0 u1.1 u2.1 u2.2
set_option maxRecDepth 100000 in
set_option maxHeartbeats 4000000 in
theorem rX4_readNode_58 {Wt : Nat → sf_L → List Value → sf_S → Prop} {Post : sf_S → Prop} (hs : sf_Snd Wt sf_layC sf_hV jX4_readNode tX4_readNode Post) (hm : sf_mono Wt) : sf_CK Wt Post 58 (wX4_readNode_58 (dX4_readNode_58)) := by
  refine wX4_readNode_58_ok hm ?_
  intro x1 x2 y0 σ u h hp
  exact sf_run_ok hs (sf_sm_cons (rX4_readNode_79 hs hm) sf_sm_nil) 75 58 _ _ σ u h hp
noncomputable def dX4_readNode (σ : sf_S) : Option sf_S :=
  if 0 < (σ 46 4) then
    let s1 := sf_up σ 46 4 ((σ 46 4) - (1 : Int32))
    let v2 := (s1 46 4)
    if sf_in v2 41 then
      let v3 := (s1 48 v2.toNatClampNeg)
      (dX4_peek s1).bind fun u4 =>
      (dX4_isLetter u4.1 v3 u4.2).bind fun u5 =>
      (dX4_accept u5.1 u5.2).bind fun u6 =>
      (dX4_hasMark u4.1 u6).bind fun u7 =>
      if u7.1 = 0 then
        dX4_readNode_58 v3 u4.1 (-1 : Int32) u7.2
      else
        (dX4_readMark u4.1 u7.2).bind fun u8 =>
        dX4_readNode_58 v3 u4.1 u8.1 u8.2
    else
      none
  else
    some σ
noncomputable abbrev gX4_readNode (av : List Value) (σ : sf_S) : Option sf_S := match av with
  | [.ref q] => (match sf_rv [46] q with | true => dX4_readNode σ | false => none)
  | _ => none
set_option maxRecDepth 100000 in
set_option maxHeartbeats 4000000 in
theorem rX4_readNode {Wt : Nat → sf_L → List Value → sf_S → Prop} {Post : sf_S → Prop} (hs : sf_Snd Wt sf_layC sf_hV jX4_readNode tX4_readNode Post) (hm : sf_mono Wt) : ∀ av σ u, gX4_readNode av σ = some u → Post u → (∀ ad, (lg_sl (av.map (sf_v ad))).length ≤ 7) ∧ Wt 0 (sf_ent 0 av) [] σ := by
  intro av σ u h hp
  unfold gX4_readNode at h
  split at h
  · rename_i q
    split at h
    · rename_i hq
      have hq : q = 46 := by simpa using sf_rv_mem hq
      subst hq
      refine ⟨fun ad => Nat.le_of_ble_eq_true rfl, ?_⟩
      exact sf_run_ok hs (sf_sm_cons (rX4_readNode_58 hs hm) sf_sm_nil) 75 0 _ _ σ u h hp
    · cases h
  · cases h
theorem kX4_readNode (l : Launch) : sf_C l sf_layC yX4_readNode cX4_readNode 7 none (sf_rm 4 163) (fun av σ => (gX4_readNode av σ).map sf_vV) :=
  sf_met (tab := tX4_readNode) (J := jX4_readNode) (fl := sf_fl4) (cl := sf_cl4) (by decide +kernel) ⟨rfl, rfl⟩ sf_RH_V (by decide +kernel) sf_fl4_ok sf_cl4_ok
    (sf_JO_cons (sf_je_V (n := 1) (cs := [4]) (tv := sf_vI) (kX4_peek l) mwX4_peek (by decide +kernel : decode cX4_readNode 29 = .ok (.invokevirtual 47, 3)) wt_562 wt_564 wt_4 (by decide +kernel) (by decide) (by decide) (List.forall_mem_cons.mpr ⟨⟨_, _, rfl⟩, fun _ h => absurd h List.not_mem_nil⟩) (sf_RM_of (by omega) (by omega))) (sf_JO_cons (sf_je_S (n := 2) (tv := sf_vI) (kX4_isLetter l) mwX4_isLetter (by decide +kernel : decode cX4_readNode 36 = .ok (.invokestatic 51, 3)) wt_566 wt_567 (by decide +kernel) (sf_RM_of (by omega) (by omega))) (sf_JO_cons (sf_je_V (n := 2) (cs := [4]) (tv := sf_vV) (kX4_accept l) mwX4_accept (by decide +kernel : decode cX4_readNode 39 = .ok (.invokevirtual 55, 3)) wt_575 wt_577 wt_5 (by decide +kernel) (by decide) (by decide) (List.forall_mem_cons.mpr ⟨⟨_, _, rfl⟩, fun _ h => absurd h List.not_mem_nil⟩) (sf_RM_of (by omega) (by omega))) (sf_JO_cons (sf_je_S (n := 1) (tv := sf_vI) (kX4_hasMark l) mwX4_hasMark (by decide +kernel : decode cX4_readNode 43 = .ok (.invokestatic 59, 3)) wt_579 wt_580 (by decide +kernel) (sf_RM_of (by omega) (by omega))) (sf_JO_cons (sf_je_V (n := 2) (cs := [4]) (tv := sf_vI) (kX4_readMark l) mwX4_readMark (by decide +kernel : decode cX4_readNode 51 = .ok (.invokevirtual 63, 3)) wt_585 wt_587 wt_6 (by decide +kernel) (by decide) (by decide) (List.forall_mem_cons.mpr ⟨⟨_, _, rfl⟩, fun _ h => absurd h List.not_mem_nil⟩) (sf_RM_of (by omega) (by omega))) (sf_JO_cons (sf_je_SN (n := 1) (tv := sf_vI) "StreamFuser" (kX2_numbersOf l) mwX2_numbersOf (by decide +kernel : decode cX4_readNode 60 = .ok (.invokestatic 67, 3)) wt_572 wt_573 (by decide +kernel) (sf_RM_of (by omega) (by omega))) (sf_JO_cons (sf_je_V (n := 2) (cs := [4]) (tv := sf_vI) (kX4_readNumber l) mwX4_readNumber (by decide +kernel : decode cX4_readNode 72 = .ok (.invokevirtual 70, 3)) wt_595 wt_597 wt_7 (by decide +kernel) (by decide) (by decide) (List.forall_mem_cons.mpr ⟨⟨_, _, rfl⟩, fun _ h => absurd h List.not_mem_nil⟩) (sf_RM_of (by omega) (by omega))) (sf_JO_cons (sf_je_V (n := 2) (cs := [4]) (tv := sf_vI) (kX4_readNumber l) mwX4_readNumber (by decide +kernel : decode cX4_readNode 89 = .ok (.invokevirtual 70, 3)) wt_595 wt_597 wt_7 (by decide +kernel) (by decide) (by decide) (List.forall_mem_cons.mpr ⟨⟨_, _, rfl⟩, fun _ h => absurd h List.not_mem_nil⟩) (sf_RM_of (by omega) (by omega))) (sf_JO_cons (sf_je_N (n := 5) (cs := [2]) (tv := sf_vV) "StreamFuser" (kX2_add l) mwX2_add (by decide +kernel : decode cX4_readNode 117 = .ok (.invokevirtual 73, 3)) wt_599 wt_601 wt_8 (by decide +kernel) (by decide) (by decide) (List.forall_mem_cons.mpr ⟨⟨_, _, rfl⟩, fun _ h => absurd h List.not_mem_nil⟩) (sf_RM_of (by omega) (by omega))) (sf_JO_cons (sf_je_V (n := 3) (cs := [4]) (tv := sf_vV) (kX4_expectParts l) mwX4_expectParts (by decide +kernel : decode cX4_readNode 123 = .ok (.invokevirtual 77, 3)) wt_603 wt_605 wt_9 (by decide +kernel) (by decide) (by decide) (List.forall_mem_cons.mpr ⟨⟨_, _, rfl⟩, fun _ h => absurd h List.not_mem_nil⟩) (sf_RM_of (by omega) (by omega))) (sf_JO_nil)))))))))))
    (fun Wt Post hs hm => rX4_readNode hs hm)
-- ===== StreamFuser$Reader.read()I =====
abbrev tX4_read : List (Nat × sf_E) := [(0, (.aload_n 0, 1, 0, .null, [], [])), (1, (.getfield 18, 4, 0, .null, [], [(4, 0)])), (4, (.iconst 0, 5, 0, .int (0), [], [])), (5, (.putfield 26, 8, 0, .null, [], [(2, 4)])), (8, (.aload_n 0, 9, 0, .null, [], [])), (9, (.iconst 0, 10, 0, .int (0), [], [])), (10, (.putfield 31, 13, 0, .null, [], [(4, 5)])), (13, (.aload_n 0, 14, 0, .null, [], [])), (14, (.iconst (-1), 15, 0, .int (-1), [], [])), (15, (.putfield 34, 18, 0, .null, [], [(4, 6)])), (18, (.aload_n 0, 19, 0, .null, [], [])), (19, (.iconst 0, 20, 0, .int (0), [], [])), (20, (.putfield 37, 23, 0, .null, [], [(4, 4)])), (23, (.aload_n 0, 24, 0, .null, [], [])), (24, (.iconst 0, 25, 0, .int (0), [], [])), (25, (.invokevirtual 40, 28, 0, .null, [], [])), (28, (.iconst 0, 29, 0, .int (0), [], [])), (29, (.istore_n 1, 30, 0, .null, [], [])), (30, (.iload_n 1, 31, 0, .null, [], [])), (31, (.bipush 40, 33, 0, .int (40), [], [])), (33, (.if_icmp .gt 28, 36, 61, .null, [], [])), (36, (.aload_n 0, 37, 0, .null, [], [])), (37, (.getfield 37, 40, 0, .null, [], [(4, 4)])), (40, (.ifCond .le 21, 43, 61, .null, [], [])), (43, (.aload_n 0, 44, 0, .null, [], [])), (44, (.getfield 34, 47, 0, .null, [], [(4, 6)])), (47, (.iconst (-1), 48, 0, .int (-1), [], [])), (48, (.if_icmp .ne 13, 51, 61, .null, [], [])), (51, (.aload_n 0, 52, 0, .null, [], [])), (52, (.invokevirtual 44, 55, 0, .null, [], [])), (55, (.iinc 1 1, 58, 0, .int (1), [], [])), (58, (.goto (-28), 61, 30, .null, [], [])), (61, (.aload_n 0, 62, 0, .null, [], [])), (62, (.getfield 34, 65, 0, .null, [], [(4, 6)])), (65, (.iconst (-1), 66, 0, .int (-1), [], [])), (66, (.if_icmp .ne 22, 69, 88, .null, [], [])), (69, (.aload_n 0, 70, 0, .null, [], [])), (70, (.getfield 31, 73, 0, .null, [], [(4, 5)])), (73, (.aload_n 0, 74, 0, .null, [], [])), (74, (.getfield 22, 77, 0, .null, [], [(4, 2)])), (77, (.if_icmp .ge 11, 80, 88, .null, [], [])), (80, (.aload_n 0, 81, 0, .null, [], [])), (81, (.aload_n 0, 82, 0, .null, [], [])), (82, (.getfield 31, 85, 0, .null, [], [(4, 5)])), (85, (.putfield 34, 88, 0, .null, [], [(4, 6)])), (88, (.aload_n 0, 89, 0, .null, [], [])), (89, (.getfield 34, 92, 0, .null, [], [(4, 6)])), (92, (.ireturn, 93, 0, .null, [], []))]
noncomputable abbrev jX4_read : List (Nat × sf_J (Int32 × sf_S)) := [(25, sf_jV sf_layC [4] 2 gX4_expect), (52, sf_jV sf_layC [4] 1 gX4_readNode)]
abbrev wX4_read_61 {ρ : Type} (k : sf_S → Option ρ) : sf_M ρ := fun L st σ => sf_lda L 0 fun a0 => sf_eq a0 46 (sf_nil st (k  σ))
theorem wX4_read_61_ok {ρ : Type} {Wt : Nat → sf_L → List Value → sf_S → Prop} {Post : ρ → Prop} (hm : sf_mono Wt) {k : sf_S → Option ρ} (h : ∀  (σ : sf_S) (u : ρ), k  σ = some u → Post u → Wt 61 [(0, some (.ref 46))] [] σ) : sf_CK Wt Post 61 (wX4_read_61 k) := by
  intro L st σ u hf hp
  unfold wX4_read_61 at hf
  have hf0 := hf
  obtain ⟨a0, e0, hf1⟩ := sf_lda_inv hf0
  obtain ⟨rfl, hf2⟩ := sf_eq_inv hf1
  obtain ⟨rfl, hz⟩ := sf_nil_inv hf2
  exact hm _ [(0, some (.ref _))] _ _ _ (sf_le_ok (And.intro e0 trivial)) (h  _ _ hz hp)
abbrev wX4_read_30 {ρ : Type} (k : Int32 → sf_S → Option ρ) : sf_M ρ := fun L st σ => sf_lda L 0 fun a0 => sf_eq a0 46 (sf_ldi L 1 fun x1 => sf_nil st (k x1 σ))
theorem wX4_read_30_ok {ρ : Type} {Wt : Nat → sf_L → List Value → sf_S → Prop} {Post : ρ → Prop} (hm : sf_mono Wt) {k : Int32 → sf_S → Option ρ} (h : ∀ (x1 : Int32) (σ : sf_S) (u : ρ), k x1 σ = some u → Post u → Wt 30 [(0, some (.ref 46)), (1, some (.int x1))] [] σ) : sf_CK Wt Post 30 (wX4_read_30 k) := by
  intro L st σ u hf hp
  unfold wX4_read_30 at hf
  have hf0 := hf
  obtain ⟨a0, e0, hf1⟩ := sf_lda_inv hf0
  obtain ⟨rfl, hf2⟩ := sf_eq_inv hf1
  obtain ⟨x1, e1, hf3⟩ := sf_ldi_inv hf2
  obtain ⟨rfl, hz⟩ := sf_nil_inv hf3
  exact hm _ [(0, some (.ref _)), (1, some (.int x1))] _ _ _ (sf_le_ok (And.intro e0 (And.intro e1 trivial))) (h _ _ _ hz hp)
noncomputable def dX4_read_61 (σ : sf_S) : Option (Int32 × sf_S) :=
  if ¬ (σ 46 6) = (-1 : Int32) then
    some ((σ 46 6), σ)
  else
    if (σ 46 2) ≤ (σ 46 5) then
      some ((σ 46 6), σ)
    else
      let s1 := sf_up σ 46 6 (σ 46 5)
      some ((s1 46 6), s1)
set_option maxRecDepth 100000 in
set_option maxHeartbeats 4000000 in
theorem rX4_read_61 {Wt : Nat → sf_L → List Value → sf_S → Prop} {Post : (Int32 × sf_S) → Prop} (hs : sf_Snd Wt sf_layC sf_hI jX4_read tX4_read Post) (hm : sf_mono Wt) : sf_CK Wt Post 61 (wX4_read_61 (dX4_read_61)) := by
  refine wX4_read_61_ok hm ?_
  intro  σ u h hp
  exact sf_run_ok hs sf_sm_nil 53 61 _ _ σ u h hp
noncomputable def dX4_read_30 : Nat → Int32 → sf_S → Option (Int32 × sf_S)
  | 0 => fun _ _ => none
  | n + 1 => fun x1 σ =>
    if (40 : Int32) < x1 then
      dX4_read_61 σ
    else
      if (σ 46 4) ≤ 0 then
        dX4_read_61 σ
      else
        if ¬ (σ 46 6) = (-1 : Int32) then
          dX4_read_61 σ
        else
          (dX4_readNode σ).bind fun u1 =>
          dX4_read_30 n (x1 + (1 : Int32)) u1
set_option maxRecDepth 100000 in
set_option maxHeartbeats 4000000 in
theorem rX4_read_30 {Wt : Nat → sf_L → List Value → sf_S → Prop} {Post : (Int32 × sf_S) → Prop} (hs : sf_Snd Wt sf_layC sf_hI jX4_read tX4_read Post) (hm : sf_mono Wt) : ∀ n : Nat, sf_CK Wt Post 30 (wX4_read_30 (dX4_read_30 n)) := by
  intro n
  induction n with
  | zero => exact wX4_read_30_ok hm (fun x1 σ u h _ => by simp [dX4_read_30] at h)
  | succ n ih =>
    refine wX4_read_30_ok hm ?_
    intro x1 σ u h hp
    exact sf_run_ok hs (sf_sm_cons ih (sf_sm_cons (rX4_read_61 hs hm) sf_sm_nil)) 53 30 _ _ σ u h hp
noncomputable def dX4_read (σ : sf_S) : Option (Int32 × sf_S) :=
  let s1 := sf_up σ 36 4 (0 : Int32)
  let s2 := sf_up s1 46 5 (0 : Int32)
  let s3 := sf_up s2 46 6 (-1 : Int32)
  let s4 := sf_up s3 46 4 (0 : Int32)
  (dX4_expect (0 : Int32) s4).bind fun u5 =>
  dX4_read_30 sf_F (0 : Int32) u5
noncomputable abbrev gX4_read (av : List Value) (σ : sf_S) : Option (Int32 × sf_S) := match av with
  | [.ref q] => (match sf_rv [46] q with | true => dX4_read σ | false => none)
  | _ => none
set_option maxRecDepth 100000 in
set_option maxHeartbeats 4000000 in
theorem rX4_read {Wt : Nat → sf_L → List Value → sf_S → Prop} {Post : (Int32 × sf_S) → Prop} (hs : sf_Snd Wt sf_layC sf_hI jX4_read tX4_read Post) (hm : sf_mono Wt) : ∀ av σ u, gX4_read av σ = some u → Post u → (∀ ad, (lg_sl (av.map (sf_v ad))).length ≤ 2) ∧ Wt 0 (sf_ent 0 av) [] σ := by
  intro av σ u h hp
  unfold gX4_read at h
  split at h
  · rename_i q
    split at h
    · rename_i hq
      have hq : q = 46 := by simpa using sf_rv_mem hq
      subst hq
      refine ⟨fun ad => Nat.le_of_ble_eq_true rfl, ?_⟩
      exact sf_run_ok hs (sf_sm_cons (rX4_read_30 hs hm sf_F) sf_sm_nil) 53 0 _ _ σ u h hp
    · cases h
  · cases h
theorem kX4_read (l : Launch) : sf_C l sf_layC yX4_read cX4_read 2 (some .int) (sf_rm 5 189) (fun av σ => (gX4_read av σ).map sf_vI) :=
  sf_met (tab := tX4_read) (J := jX4_read) (fl := sf_fl4) (cl := sf_cl4) (by decide +kernel) ⟨rfl, rfl⟩ sf_RH_I (by decide +kernel) sf_fl4_ok sf_cl4_ok
    (sf_JO_cons (sf_je_V (n := 2) (cs := [4]) (tv := sf_vV) (kX4_expect l) mwX4_expect (by decide +kernel : decode cX4_read 25 = .ok (.invokevirtual 40, 3)) wt_554 wt_556 wt_2 (by decide +kernel) (by decide) (by decide) (List.forall_mem_cons.mpr ⟨⟨_, _, rfl⟩, fun _ h => absurd h List.not_mem_nil⟩) (sf_RM_of (by omega) (by omega))) (sf_JO_cons (sf_je_V (n := 1) (cs := [4]) (tv := sf_vV) (kX4_readNode l) mwX4_readNode (by decide +kernel : decode cX4_read 52 = .ok (.invokevirtual 44, 3)) wt_558 wt_560 wt_3 (by decide +kernel) (by decide) (by decide) (List.forall_mem_cons.mpr ⟨⟨_, _, rfl⟩, fun _ h => absurd h List.not_mem_nil⟩) (sf_RM_of (by omega) (by omega))) (sf_JO_nil)))
    (fun Wt Post hs hm => rX4_read hs hm)
end
