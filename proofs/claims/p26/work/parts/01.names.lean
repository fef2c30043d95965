-- ===== PART A: goes FIRST, ahead of the names: the tables' words, and 'selects' of the private methods out of them =====
/-- a private method of a class that the tables say can be made, by its rows of tables_1 -/
def lw_okq (q : MethodName × Nat) : Prop := (q.1.cls ≠ "java/lang/invoke/MethodHandle" ∧ q.1.cls ≠ "java/lang/invoke/VarHandle") ∧ Cond.instantiable q.1.cls q.2 ∈ tables_1 ∧ Cond.privateMethod q.1 ∈ tables_1 ∧ Cond.instanceMethod q.1 ∈ tables_1
theorem lw_p0 : lw_okq (⟨"StreamFuser$Plan", "has", "(I)Z"⟩, 12) := ⟨⟨by decide +kernel, by decide +kernel⟩, List.mem_of_getElem? (i := 24) (by decide +kernel), List.mem_of_getElem? (i := 393) (by decide +kernel), List.mem_of_getElem? (i := 394) (by decide +kernel)⟩
theorem lw_p1 : lw_okq (⟨"StreamFuser$Rewriter", "simplify", "(Z)V"⟩, 3) := ⟨⟨by decide +kernel, by decide +kernel⟩, List.mem_of_getElem? (i := 125) (by decide +kernel), List.mem_of_getElem? (i := 406) (by decide +kernel), List.mem_of_getElem? (i := 407) (by decide +kernel)⟩
theorem lw_p2 : lw_okq (⟨"StreamFuser$Rewriter", "place", "(Z)I"⟩, 3) := ⟨⟨by decide +kernel, by decide +kernel⟩, List.mem_of_getElem? (i := 125) (by decide +kernel), List.mem_of_getElem? (i := 411) (by decide +kernel), List.mem_of_getElem? (i := 412) (by decide +kernel)⟩
theorem lw_p3 : lw_okq (⟨"StreamFuser$Rewriter", "ruleFor", "(I)I"⟩, 3) := ⟨⟨by decide +kernel, by decide +kernel⟩, List.mem_of_getElem? (i := 125) (by decide +kernel), List.mem_of_getElem? (i := 415) (by decide +kernel), List.mem_of_getElem? (i := 416) (by decide +kernel)⟩
theorem lw_p4 : lw_okq (⟨"StreamFuser$Plan", "isNil", "(I)Z"⟩, 12) := ⟨⟨by decide +kernel, by decide +kernel⟩, List.mem_of_getElem? (i := 24) (by decide +kernel), List.mem_of_getElem? (i := 420) (by decide +kernel), List.mem_of_getElem? (i := 421) (by decide +kernel)⟩
theorem lw_p5 : lw_okq (⟨"StreamFuser$Rewriter", "ruleForTake", "(I)I"⟩, 3) := ⟨⟨by decide +kernel, by decide +kernel⟩, List.mem_of_getElem? (i := 125) (by decide +kernel), List.mem_of_getElem? (i := 425) (by decide +kernel), List.mem_of_getElem? (i := 426) (by decide +kernel)⟩
theorem lw_p6 : lw_okq (⟨"StreamFuser$Plan", "letterAt", "(I)I"⟩, 12) := ⟨⟨by decide +kernel, by decide +kernel⟩, List.mem_of_getElem? (i := 24) (by decide +kernel), List.mem_of_getElem? (i := 429) (by decide +kernel), List.mem_of_getElem? (i := 430) (by decide +kernel)⟩
theorem lw_p7 : lw_okq (⟨"StreamFuser$Rewriter", "ruleForDrop", "(I)I"⟩, 3) := ⟨⟨by decide +kernel, by decide +kernel⟩, List.mem_of_getElem? (i := 125) (by decide +kernel), List.mem_of_getElem? (i := 433) (by decide +kernel), List.mem_of_getElem? (i := 434) (by decide +kernel)⟩
theorem lw_p8 : lw_okq (⟨"StreamFuser$Plan", "secondPart", "(I)I"⟩, 12) := ⟨⟨by decide +kernel, by decide +kernel⟩, List.mem_of_getElem? (i := 24) (by decide +kernel), List.mem_of_getElem? (i := 437) (by decide +kernel), List.mem_of_getElem? (i := 438) (by decide +kernel)⟩
theorem lw_p9 : lw_okq (⟨"StreamFuser$Plan", "input", "(I)I"⟩, 12) := ⟨⟨by decide +kernel, by decide +kernel⟩, List.mem_of_getElem? (i := 24) (by decide +kernel), List.mem_of_getElem? (i := 441) (by decide +kernel), List.mem_of_getElem? (i := 442) (by decide +kernel)⟩
theorem lw_p10 : lw_okq (⟨"StreamFuser$Rewriter", "apply", "(II)V"⟩, 3) := ⟨⟨by decide +kernel, by decide +kernel⟩, List.mem_of_getElem? (i := 125) (by decide +kernel), List.mem_of_getElem? (i := 447) (by decide +kernel), List.mem_of_getElem? (i := 448) (by decide +kernel)⟩
theorem lw_p11 : lw_okq (⟨"StreamFuser$Plan", "makeNil", "(I)V"⟩, 12) := ⟨⟨by decide +kernel, by decide +kernel⟩, List.mem_of_getElem? (i := 24) (by decide +kernel), List.mem_of_getElem? (i := 451) (by decide +kernel), List.mem_of_getElem? (i := 452) (by decide +kernel)⟩
theorem lw_p12 : lw_okq (⟨"StreamFuser$Plan", "cut", "(II)V"⟩, 12) := ⟨⟨by decide +kernel, by decide +kernel⟩, List.mem_of_getElem? (i := 24) (by decide +kernel), List.mem_of_getElem? (i := 455) (by decide +kernel), List.mem_of_getElem? (i := 456) (by decide +kernel)⟩
theorem lw_p13 : lw_okq (⟨"StreamFuser$Plan", "moveNode", "(II)V"⟩, 12) := ⟨⟨by decide +kernel, by decide +kernel⟩, List.mem_of_getElem? (i := 24) (by decide +kernel), List.mem_of_getElem? (i := 459) (by decide +kernel), List.mem_of_getElem? (i := 460) (by decide +kernel)⟩
theorem lw_p14 : lw_okq (⟨"StreamFuser$Plan", "swapWithNext", "(I)V"⟩, 12) := ⟨⟨by decide +kernel, by decide +kernel⟩, List.mem_of_getElem? (i := 24) (by decide +kernel), List.mem_of_getElem? (i := 463) (by decide +kernel), List.mem_of_getElem? (i := 464) (by decide +kernel)⟩
theorem lw_p15 : lw_okq (⟨"StreamFuser$Rewriter", "swapDropWithTake", "(I)V"⟩, 3) := ⟨⟨by decide +kernel, by decide +kernel⟩, List.mem_of_getElem? (i := 125) (by decide +kernel), List.mem_of_getElem? (i := 467) (by decide +kernel), List.mem_of_getElem? (i := 468) (by decide +kernel)⟩
def lw_privs_1 : List (MethodName × Nat) := [(⟨"StreamFuser$Plan", "has", "(I)Z"⟩, 12), (⟨"StreamFuser$Rewriter", "simplify", "(Z)V"⟩, 3), (⟨"StreamFuser$Rewriter", "place", "(Z)I"⟩, 3), (⟨"StreamFuser$Rewriter", "ruleFor", "(I)I"⟩, 3), (⟨"StreamFuser$Plan", "isNil", "(I)Z"⟩, 12), (⟨"StreamFuser$Rewriter", "ruleForTake", "(I)I"⟩, 3), (⟨"StreamFuser$Plan", "letterAt", "(I)I"⟩, 12), (⟨"StreamFuser$Rewriter", "ruleForDrop", "(I)I"⟩, 3), (⟨"StreamFuser$Plan", "secondPart", "(I)I"⟩, 12), (⟨"StreamFuser$Plan", "input", "(I)I"⟩, 12), (⟨"StreamFuser$Rewriter", "apply", "(II)V"⟩, 3), (⟨"StreamFuser$Plan", "makeNil", "(I)V"⟩, 12), (⟨"StreamFuser$Plan", "cut", "(II)V"⟩, 12), (⟨"StreamFuser$Plan", "moveNode", "(II)V"⟩, 12), (⟨"StreamFuser$Plan", "swapWithNext", "(I)V"⟩, 12), (⟨"StreamFuser$Rewriter", "swapDropWithTake", "(I)V"⟩, 3)]
theorem lw_r1 : ∀ q ∈ lw_privs_1, lw_okq q := List.forall_mem_cons.mpr ⟨lw_p0, List.forall_mem_cons.mpr ⟨lw_p1, List.forall_mem_cons.mpr ⟨lw_p2, List.forall_mem_cons.mpr ⟨lw_p3, List.forall_mem_cons.mpr ⟨lw_p4, List.forall_mem_cons.mpr ⟨lw_p5, List.forall_mem_cons.mpr ⟨lw_p6, List.forall_mem_cons.mpr ⟨lw_p7, List.forall_mem_cons.mpr ⟨lw_p8, List.forall_mem_cons.mpr ⟨lw_p9, List.forall_mem_cons.mpr ⟨lw_p10, List.forall_mem_cons.mpr ⟨lw_p11, List.forall_mem_cons.mpr ⟨lw_p12, List.forall_mem_cons.mpr ⟨lw_p13, List.forall_mem_cons.mpr ⟨lw_p14, List.forall_mem_cons.mpr ⟨lw_p15, fun _ h => absurd h List.not_mem_nil⟩⟩⟩⟩⟩⟩⟩⟩⟩⟩⟩⟩⟩⟩⟩⟩
theorem lw_p16 : lw_okq (⟨"StreamFuser$Rewriter", "keepOnePart", "(I)V"⟩, 3) := ⟨⟨by decide +kernel, by decide +kernel⟩, List.mem_of_getElem? (i := 125) (by decide +kernel), List.mem_of_getElem? (i := 475) (by decide +kernel), List.mem_of_getElem? (i := 476) (by decide +kernel)⟩
theorem lw_p17 : lw_okq (⟨"StreamFuser$Rewriter", "mergeWithNext", "(II)V"⟩, 3) := ⟨⟨by decide +kernel, by decide +kernel⟩, List.mem_of_getElem? (i := 125) (by decide +kernel), List.mem_of_getElem? (i := 479) (by decide +kernel), List.mem_of_getElem? (i := 480) (by decide +kernel)⟩
theorem lw_p18 : lw_okq (⟨"StreamFuser$Plan", "measure", "()V"⟩, 12) := ⟨⟨by decide +kernel, by decide +kernel⟩, List.mem_of_getElem? (i := 24) (by decide +kernel), List.mem_of_getElem? (i := 486) (by decide +kernel), List.mem_of_getElem? (i := 487) (by decide +kernel)⟩
theorem lw_p19 : lw_okq (⟨"StreamFuser$Plan", "measureFromParts", "(I)V"⟩, 12) := ⟨⟨by decide +kernel, by decide +kernel⟩, List.mem_of_getElem? (i := 24) (by decide +kernel), List.mem_of_getElem? (i := 490) (by decide +kernel), List.mem_of_getElem? (i := 491) (by decide +kernel)⟩
theorem lw_p20 : lw_okq (⟨"StreamFuser$Plan", "measureParts", "(I)V"⟩, 12) := ⟨⟨by decide +kernel, by decide +kernel⟩, List.mem_of_getElem? (i := 24) (by decide +kernel), List.mem_of_getElem? (i := 497) (by decide +kernel), List.mem_of_getElem? (i := 498) (by decide +kernel)⟩
theorem lw_p21 : lw_okq (⟨"StreamFuser$Printer", "print", "()V"⟩, 3) := ⟨⟨by decide +kernel, by decide +kernel⟩, List.mem_of_getElem? (i := 106) (by decide +kernel), List.mem_of_getElem? (i := 502) (by decide +kernel), List.mem_of_getElem? (i := 503) (by decide +kernel)⟩
theorem lw_p22 : lw_okq (⟨"StreamFuser$Printer", "printNode", "(I)V"⟩, 3) := ⟨⟨by decide +kernel, by decide +kernel⟩, List.mem_of_getElem? (i := 106) (by decide +kernel), List.mem_of_getElem? (i := 506) (by decide +kernel), List.mem_of_getElem? (i := 507) (by decide +kernel)⟩
theorem lw_p23 : lw_okq (⟨"StreamFuser$Printer", "put", "(I)V"⟩, 3) := ⟨⟨by decide +kernel, by decide +kernel⟩, List.mem_of_getElem? (i := 106) (by decide +kernel), List.mem_of_getElem? (i := 513) (by decide +kernel), List.mem_of_getElem? (i := 514) (by decide +kernel)⟩
theorem lw_p24 : lw_okq (⟨"StreamFuser$Printer", "putNumber", "(I)V"⟩, 3) := ⟨⟨by decide +kernel, by decide +kernel⟩, List.mem_of_getElem? (i := 106) (by decide +kernel), List.mem_of_getElem? (i := 524) (by decide +kernel), List.mem_of_getElem? (i := 525) (by decide +kernel)⟩
theorem lw_p25 : lw_okq (⟨"StreamFuser$Plan", "takeFrom", "(LStreamFuser$Plan;)V"⟩, 12) := ⟨⟨by decide +kernel, by decide +kernel⟩, List.mem_of_getElem? (i := 24) (by decide +kernel), List.mem_of_getElem? (i := 536) (by decide +kernel), List.mem_of_getElem? (i := 537) (by decide +kernel)⟩
theorem lw_p26 : lw_okq (⟨"StreamFuser$Plan", "add", "(IIII)V"⟩, 12) := ⟨⟨by decide +kernel, by decide +kernel⟩, List.mem_of_getElem? (i := 24) (by decide +kernel), List.mem_of_getElem? (i := 540) (by decide +kernel), List.mem_of_getElem? (i := 541) (by decide +kernel)⟩
theorem lw_p27 : lw_okq (⟨"StreamFuser$Asker", "play", "(I)V"⟩, 7) := ⟨⟨by decide +kernel, by decide +kernel⟩, List.mem_of_getElem? (i := 212) (by decide +kernel), List.mem_of_getElem? (i := 545) (by decide +kernel), List.mem_of_getElem? (i := 546) (by decide +kernel)⟩
theorem lw_p28 : lw_okq (⟨"StreamFuser$Run", "begin", "()V"⟩, 10) := ⟨⟨by decide +kernel, by decide +kernel⟩, List.mem_of_getElem? (i := 160) (by decide +kernel), List.mem_of_getElem? (i := 549) (by decide +kernel), List.mem_of_getElem? (i := 550) (by decide +kernel)⟩
theorem lw_p29 : lw_okq (⟨"StreamFuser$Asker", "ask", "(II)Z"⟩, 7) := ⟨⟨by decide +kernel, by decide +kernel⟩, List.mem_of_getElem? (i := 212) (by decide +kernel), List.mem_of_getElem? (i := 560) (by decide +kernel), List.mem_of_getElem? (i := 561) (by decide +kernel)⟩
theorem lw_p30 : lw_okq (⟨"StreamFuser$Run", "fail", "(II)V"⟩, 10) := ⟨⟨by decide +kernel, by decide +kernel⟩, List.mem_of_getElem? (i := 160) (by decide +kernel), List.mem_of_getElem? (i := 576) (by decide +kernel), List.mem_of_getElem? (i := 577) (by decide +kernel)⟩
theorem lw_p31 : lw_okq (⟨"StreamFuser$Run", "note", "(II)V"⟩, 10) := ⟨⟨by decide +kernel, by decide +kernel⟩, List.mem_of_getElem? (i := 160) (by decide +kernel), List.mem_of_getElem? (i := 586) (by decide +kernel), List.mem_of_getElem? (i := 587) (by decide +kernel)⟩
def lw_privs_2 : List (MethodName × Nat) := [(⟨"StreamFuser$Rewriter", "keepOnePart", "(I)V"⟩, 3), (⟨"StreamFuser$Rewriter", "mergeWithNext", "(II)V"⟩, 3), (⟨"StreamFuser$Plan", "measure", "()V"⟩, 12), (⟨"StreamFuser$Plan", "measureFromParts", "(I)V"⟩, 12), (⟨"StreamFuser$Plan", "measureParts", "(I)V"⟩, 12), (⟨"StreamFuser$Printer", "print", "()V"⟩, 3), (⟨"StreamFuser$Printer", "printNode", "(I)V"⟩, 3), (⟨"StreamFuser$Printer", "put", "(I)V"⟩, 3), (⟨"StreamFuser$Printer", "putNumber", "(I)V"⟩, 3), (⟨"StreamFuser$Plan", "takeFrom", "(LStreamFuser$Plan;)V"⟩, 12), (⟨"StreamFuser$Plan", "add", "(IIII)V"⟩, 12), (⟨"StreamFuser$Asker", "play", "(I)V"⟩, 7), (⟨"StreamFuser$Run", "begin", "()V"⟩, 10), (⟨"StreamFuser$Asker", "ask", "(II)Z"⟩, 7), (⟨"StreamFuser$Run", "fail", "(II)V"⟩, 10), (⟨"StreamFuser$Run", "note", "(II)V"⟩, 10)]
theorem lw_r2 : ∀ q ∈ lw_privs_2, lw_okq q := List.forall_mem_cons.mpr ⟨lw_p16, List.forall_mem_cons.mpr ⟨lw_p17, List.forall_mem_cons.mpr ⟨lw_p18, List.forall_mem_cons.mpr ⟨lw_p19, List.forall_mem_cons.mpr ⟨lw_p20, List.forall_mem_cons.mpr ⟨lw_p21, List.forall_mem_cons.mpr ⟨lw_p22, List.forall_mem_cons.mpr ⟨lw_p23, List.forall_mem_cons.mpr ⟨lw_p24, List.forall_mem_cons.mpr ⟨lw_p25, List.forall_mem_cons.mpr ⟨lw_p26, List.forall_mem_cons.mpr ⟨lw_p27, List.forall_mem_cons.mpr ⟨lw_p28, List.forall_mem_cons.mpr ⟨lw_p29, List.forall_mem_cons.mpr ⟨lw_p30, List.forall_mem_cons.mpr ⟨lw_p31, fun _ h => absurd h List.not_mem_nil⟩⟩⟩⟩⟩⟩⟩⟩⟩⟩⟩⟩⟩⟩⟩⟩
theorem lw_p32 : lw_okq (⟨"StreamFuser$Asker", "askFilter", "(II)Z"⟩, 7) := ⟨⟨by decide +kernel, by decide +kernel⟩, List.mem_of_getElem? (i := 212) (by decide +kernel), List.mem_of_getElem? (i := 590) (by decide +kernel), List.mem_of_getElem? (i := 591) (by decide +kernel)⟩
theorem lw_p33 : lw_okq (⟨"StreamFuser$Asker", "askWhile", "(II)Z"⟩, 7) := ⟨⟨by decide +kernel, by decide +kernel⟩, List.mem_of_getElem? (i := 212) (by decide +kernel), List.mem_of_getElem? (i := 601) (by decide +kernel), List.mem_of_getElem? (i := 602) (by decide +kernel)⟩
theorem lw_p34 : lw_okq (⟨"StreamFuser$Asker", "askTake", "(II)Z"⟩, 7) := ⟨⟨by decide +kernel, by decide +kernel⟩, List.mem_of_getElem? (i := 212) (by decide +kernel), List.mem_of_getElem? (i := 605) (by decide +kernel), List.mem_of_getElem? (i := 606) (by decide +kernel)⟩
theorem lw_p35 : lw_okq (⟨"StreamFuser$Asker", "askDrop", "(II)Z"⟩, 7) := ⟨⟨by decide +kernel, by decide +kernel⟩, List.mem_of_getElem? (i := 212) (by decide +kernel), List.mem_of_getElem? (i := 609) (by decide +kernel), List.mem_of_getElem? (i := 610) (by decide +kernel)⟩
theorem lw_p36 : lw_okq (⟨"StreamFuser$Asker", "askChain", "(II)Z"⟩, 7) := ⟨⟨by decide +kernel, by decide +kernel⟩, List.mem_of_getElem? (i := 212) (by decide +kernel), List.mem_of_getElem? (i := 614) (by decide +kernel), List.mem_of_getElem? (i := 615) (by decide +kernel)⟩
theorem lw_p37 : lw_okq (⟨"StreamFuser$Run", "failed", "()Z"⟩, 10) := ⟨⟨by decide +kernel, by decide +kernel⟩, List.mem_of_getElem? (i := 160) (by decide +kernel), List.mem_of_getElem? (i := 618) (by decide +kernel), List.mem_of_getElem? (i := 619) (by decide +kernel)⟩
theorem lw_p38 : lw_okq (⟨"StreamFuser$Asker", "askZip", "(II)Z"⟩, 7) := ⟨⟨by decide +kernel, by decide +kernel⟩, List.mem_of_getElem? (i := 212) (by decide +kernel), List.mem_of_getElem? (i := 623) (by decide +kernel), List.mem_of_getElem? (i := 624) (by decide +kernel)⟩
theorem lw_p39 : lw_okq (⟨"StreamFuser$Asker", "askOpener", "(II)Z"⟩, 7) := ⟨⟨by decide +kernel, by decide +kernel⟩, List.mem_of_getElem? (i := 212) (by decide +kernel), List.mem_of_getElem? (i := 634) (by decide +kernel), List.mem_of_getElem? (i := 635) (by decide +kernel)⟩
theorem lw_p40 : lw_okq (⟨"StreamFuser$Sheets", "isLost", "(I)Z"⟩, 3) := ⟨⟨by decide +kernel, by decide +kernel⟩, List.mem_of_getElem? (i := 142) (by decide +kernel), List.mem_of_getElem? (i := 662) (by decide +kernel), List.mem_of_getElem? (i := 663) (by decide +kernel)⟩
theorem lw_p41 : lw_okq (⟨"StreamFuser$Run", "draw", "(I)Z"⟩, 10) := ⟨⟨by decide +kernel, by decide +kernel⟩, List.mem_of_getElem? (i := 160) (by decide +kernel), List.mem_of_getElem? (i := 688) (by decide +kernel), List.mem_of_getElem? (i := 689) (by decide +kernel)⟩
theorem lw_p42 : lw_okq (⟨"StreamFuser$Sheets", "at", "(II)I"⟩, 3) := ⟨⟨by decide +kernel, by decide +kernel⟩, List.mem_of_getElem? (i := 142) (by decide +kernel), List.mem_of_getElem? (i := 700) (by decide +kernel), List.mem_of_getElem? (i := 701) (by decide +kernel)⟩
theorem lw_p43 : lw_okq (⟨"StreamFuser$Run", "give", "(I)V"⟩, 10) := ⟨⟨by decide +kernel, by decide +kernel⟩, List.mem_of_getElem? (i := 160) (by decide +kernel), List.mem_of_getElem? (i := 704) (by decide +kernel), List.mem_of_getElem? (i := 705) (by decide +kernel)⟩
theorem lw_p44 : lw_okq (⟨"StreamFuser$Stepper", "play", "(I)V"⟩, 8) := ⟨⟨by decide +kernel, by decide +kernel⟩, List.mem_of_getElem? (i := 282) (by decide +kernel), List.mem_of_getElem? (i := 712) (by decide +kernel), List.mem_of_getElem? (i := 713) (by decide +kernel)⟩
theorem lw_p45 : lw_okq (⟨"StreamFuser$Stepper", "step", "(II)I"⟩, 8) := ⟨⟨by decide +kernel, by decide +kernel⟩, List.mem_of_getElem? (i := 282) (by decide +kernel), List.mem_of_getElem? (i := 721) (by decide +kernel), List.mem_of_getElem? (i := 722) (by decide +kernel)⟩
theorem lw_p46 : lw_okq (⟨"StreamFuser$Stepper", "stepChain", "(II)I"⟩, 8) := ⟨⟨by decide +kernel, by decide +kernel⟩, List.mem_of_getElem? (i := 282) (by decide +kernel), List.mem_of_getElem? (i := 726) (by decide +kernel), List.mem_of_getElem? (i := 727) (by decide +kernel)⟩
theorem lw_p47 : lw_okq (⟨"StreamFuser$Stepper", "stepZip", "(II)I"⟩, 8) := ⟨⟨by decide +kernel, by decide +kernel⟩, List.mem_of_getElem? (i := 282) (by decide +kernel), List.mem_of_getElem? (i := 731) (by decide +kernel), List.mem_of_getElem? (i := 732) (by decide +kernel)⟩
def lw_privs_3 : List (MethodName × Nat) := [(⟨"StreamFuser$Asker", "askFilter", "(II)Z"⟩, 7), (⟨"StreamFuser$Asker", "askWhile", "(II)Z"⟩, 7), (⟨"StreamFuser$Asker", "askTake", "(II)Z"⟩, 7), (⟨"StreamFuser$Asker", "askDrop", "(II)Z"⟩, 7), (⟨"StreamFuser$Asker", "askChain", "(II)Z"⟩, 7), (⟨"StreamFuser$Run", "failed", "()Z"⟩, 10), (⟨"StreamFuser$Asker", "askZip", "(II)Z"⟩, 7), (⟨"StreamFuser$Asker", "askOpener", "(II)Z"⟩, 7), (⟨"StreamFuser$Sheets", "isLost", "(I)Z"⟩, 3), (⟨"StreamFuser$Run", "draw", "(I)Z"⟩, 10), (⟨"StreamFuser$Sheets", "at", "(II)I"⟩, 3), (⟨"StreamFuser$Run", "give", "(I)V"⟩, 10), (⟨"StreamFuser$Stepper", "play", "(I)V"⟩, 8), (⟨"StreamFuser$Stepper", "step", "(II)I"⟩, 8), (⟨"StreamFuser$Stepper", "stepChain", "(II)I"⟩, 8), (⟨"StreamFuser$Stepper", "stepZip", "(II)I"⟩, 8)]
theorem lw_r3 : ∀ q ∈ lw_privs_3, lw_okq q := List.forall_mem_cons.mpr ⟨lw_p32, List.forall_mem_cons.mpr ⟨lw_p33, List.forall_mem_cons.mpr ⟨lw_p34, List.forall_mem_cons.mpr ⟨lw_p35, List.forall_mem_cons.mpr ⟨lw_p36, List.forall_mem_cons.mpr ⟨lw_p37, List.forall_mem_cons.mpr ⟨lw_p38, List.forall_mem_cons.mpr ⟨lw_p39, List.forall_mem_cons.mpr ⟨lw_p40, List.forall_mem_cons.mpr ⟨lw_p41, List.forall_mem_cons.mpr ⟨lw_p42, List.forall_mem_cons.mpr ⟨lw_p43, List.forall_mem_cons.mpr ⟨lw_p44, List.forall_mem_cons.mpr ⟨lw_p45, List.forall_mem_cons.mpr ⟨lw_p46, List.forall_mem_cons.mpr ⟨lw_p47, fun _ h => absurd h List.not_mem_nil⟩⟩⟩⟩⟩⟩⟩⟩⟩⟩⟩⟩⟩⟩⟩⟩
theorem lw_p48 : lw_okq (⟨"StreamFuser$Stepper", "stepOpener", "(II)I"⟩, 8) := ⟨⟨by decide +kernel, by decide +kernel⟩, List.mem_of_getElem? (i := 282) (by decide +kernel), List.mem_of_getElem? (i := 738) (by decide +kernel), List.mem_of_getElem? (i := 739) (by decide +kernel)⟩
theorem lw_p49 : lw_okq (⟨"StreamFuser$Stepper", "given", "(Z)I"⟩, 8) := ⟨⟨by decide +kernel, by decide +kernel⟩, List.mem_of_getElem? (i := 282) (by decide +kernel), List.mem_of_getElem? (i := 749) (by decide +kernel), List.mem_of_getElem? (i := 750) (by decide +kernel)⟩
theorem lw_p50 : lw_okq (⟨"StreamFuser$Stepper", "stepOne", "(II)I"⟩, 8) := ⟨⟨by decide +kernel, by decide +kernel⟩, List.mem_of_getElem? (i := 282) (by decide +kernel), List.mem_of_getElem? (i := 754) (by decide +kernel), List.mem_of_getElem? (i := 755) (by decide +kernel)⟩
theorem lw_p51 : lw_okq (⟨"StreamFuser$Maker", "play", "(I)V"⟩, 7) := ⟨⟨by decide +kernel, by decide +kernel⟩, List.mem_of_getElem? (i := 299) (by decide +kernel), List.mem_of_getElem? (i := 765) (by decide +kernel), List.mem_of_getElem? (i := 766) (by decide +kernel)⟩
theorem lw_p52 : lw_okq (⟨"StreamFuser$Maker", "make", "(II)Z"⟩, 7) := ⟨⟨by decide +kernel, by decide +kernel⟩, List.mem_of_getElem? (i := 299) (by decide +kernel), List.mem_of_getElem? (i := 770) (by decide +kernel), List.mem_of_getElem? (i := 771) (by decide +kernel)⟩
theorem lw_p53 : lw_okq (⟨"StreamFuser$Maker", "fill", "(II)Z"⟩, 7) := ⟨⟨by decide +kernel, by decide +kernel⟩, List.mem_of_getElem? (i := 299) (by decide +kernel), List.mem_of_getElem? (i := 775) (by decide +kernel), List.mem_of_getElem? (i := 776) (by decide +kernel)⟩
theorem lw_p54 : lw_okq (⟨"StreamFuser$Maker", "fillFromProducer", "(I)Z"⟩, 7) := ⟨⟨by decide +kernel, by decide +kernel⟩, List.mem_of_getElem? (i := 299) (by decide +kernel), List.mem_of_getElem? (i := 780) (by decide +kernel), List.mem_of_getElem? (i := 781) (by decide +kernel)⟩
theorem lw_p55 : lw_okq (⟨"StreamFuser$Maker", "add", "(II)V"⟩, 7) := ⟨⟨by decide +kernel, by decide +kernel⟩, List.mem_of_getElem? (i := 299) (by decide +kernel), List.mem_of_getElem? (i := 796) (by decide +kernel), List.mem_of_getElem? (i := 797) (by decide +kernel)⟩
theorem lw_p56 : lw_okq (⟨"StreamFuser$Maker", "fillByOpening", "(II)Z"⟩, 7) := ⟨⟨by decide +kernel, by decide +kernel⟩, List.mem_of_getElem? (i := 299) (by decide +kernel), List.mem_of_getElem? (i := 801) (by decide +kernel), List.mem_of_getElem? (i := 802) (by decide +kernel)⟩
theorem lw_p57 : lw_okq (⟨"StreamFuser$Maker", "element", "(II)I"⟩, 7) := ⟨⟨by decide +kernel, by decide +kernel⟩, List.mem_of_getElem? (i := 299) (by decide +kernel), List.mem_of_getElem? (i := 805) (by decide +kernel), List.mem_of_getElem? (i := 806) (by decide +kernel)⟩
theorem lw_p58 : lw_okq (⟨"StreamFuser$Maker", "addRow", "(II)Z"⟩, 7) := ⟨⟨by decide +kernel, by decide +kernel⟩, List.mem_of_getElem? (i := 299) (by decide +kernel), List.mem_of_getElem? (i := 809) (by decide +kernel), List.mem_of_getElem? (i := 810) (by decide +kernel)⟩
theorem lw_p59 : lw_okq (⟨"StreamFuser$Maker", "fillFromInput", "(I)Z"⟩, 7) := ⟨⟨by decide +kernel, by decide +kernel⟩, List.mem_of_getElem? (i := 299) (by decide +kernel), List.mem_of_getElem? (i := 816) (by decide +kernel), List.mem_of_getElem? (i := 817) (by decide +kernel)⟩
theorem lw_p60 : lw_okq (⟨"StreamFuser$Maker", "zip", "(II)V"⟩, 7) := ⟨⟨by decide +kernel, by decide +kernel⟩, List.mem_of_getElem? (i := 299) (by decide +kernel), List.mem_of_getElem? (i := 827) (by decide +kernel), List.mem_of_getElem? (i := 828) (by decide +kernel)⟩
theorem lw_p61 : lw_okq (⟨"StreamFuser$Reader", "append", "(I)Z"⟩, 7) := ⟨⟨by decide +kernel, by decide +kernel⟩, List.mem_of_getElem? (i := 317) (by decide +kernel), List.mem_of_getElem? (i := 878) (by decide +kernel), List.mem_of_getElem? (i := 879) (by decide +kernel)⟩
theorem lw_p62 : lw_okq (⟨"StreamFuser$Reader", "read", "()I"⟩, 7) := ⟨⟨by decide +kernel, by decide +kernel⟩, List.mem_of_getElem? (i := 317) (by decide +kernel), List.mem_of_getElem? (i := 886) (by decide +kernel), List.mem_of_getElem? (i := 887) (by decide +kernel)⟩
theorem lw_p63 : lw_okq (⟨"StreamFuser$Reader", "expect", "(I)V"⟩, 7) := ⟨⟨by decide +kernel, by decide +kernel⟩, List.mem_of_getElem? (i := 317) (by decide +kernel), List.mem_of_getElem? (i := 890) (by decide +kernel), List.mem_of_getElem? (i := 891) (by decide +kernel)⟩
def lw_privs_4 : List (MethodName × Nat) := [(⟨"StreamFuser$Stepper", "stepOpener", "(II)I"⟩, 8), (⟨"StreamFuser$Stepper", "given", "(Z)I"⟩, 8), (⟨"StreamFuser$Stepper", "stepOne", "(II)I"⟩, 8), (⟨"StreamFuser$Maker", "play", "(I)V"⟩, 7), (⟨"StreamFuser$Maker", "make", "(II)Z"⟩, 7), (⟨"StreamFuser$Maker", "fill", "(II)Z"⟩, 7), (⟨"StreamFuser$Maker", "fillFromProducer", "(I)Z"⟩, 7), (⟨"StreamFuser$Maker", "add", "(II)V"⟩, 7), (⟨"StreamFuser$Maker", "fillByOpening", "(II)Z"⟩, 7), (⟨"StreamFuser$Maker", "element", "(II)I"⟩, 7), (⟨"StreamFuser$Maker", "addRow", "(II)Z"⟩, 7), (⟨"StreamFuser$Maker", "fillFromInput", "(I)Z"⟩, 7), (⟨"StreamFuser$Maker", "zip", "(II)V"⟩, 7), (⟨"StreamFuser$Reader", "append", "(I)Z"⟩, 7), (⟨"StreamFuser$Reader", "read", "()I"⟩, 7), (⟨"StreamFuser$Reader", "expect", "(I)V"⟩, 7)]
theorem lw_r4 : ∀ q ∈ lw_privs_4, lw_okq q := List.forall_mem_cons.mpr ⟨lw_p48, List.forall_mem_cons.mpr ⟨lw_p49, List.forall_mem_cons.mpr ⟨lw_p50, List.forall_mem_cons.mpr ⟨lw_p51, List.forall_mem_cons.mpr ⟨lw_p52, List.forall_mem_cons.mpr ⟨lw_p53, List.forall_mem_cons.mpr ⟨lw_p54, List.forall_mem_cons.mpr ⟨lw_p55, List.forall_mem_cons.mpr ⟨lw_p56, List.forall_mem_cons.mpr ⟨lw_p57, List.forall_mem_cons.mpr ⟨lw_p58, List.forall_mem_cons.mpr ⟨lw_p59, List.forall_mem_cons.mpr ⟨lw_p60, List.forall_mem_cons.mpr ⟨lw_p61, List.forall_mem_cons.mpr ⟨lw_p62, List.forall_mem_cons.mpr ⟨lw_p63, fun _ h => absurd h List.not_mem_nil⟩⟩⟩⟩⟩⟩⟩⟩⟩⟩⟩⟩⟩⟩⟩⟩
theorem lw_p64 : lw_okq (⟨"StreamFuser$Reader", "readNode", "()V"⟩, 7) := ⟨⟨by decide +kernel, by decide +kernel⟩, List.mem_of_getElem? (i := 317) (by decide +kernel), List.mem_of_getElem? (i := 894) (by decide +kernel), List.mem_of_getElem? (i := 895) (by decide +kernel)⟩
theorem lw_p65 : lw_okq (⟨"StreamFuser$Reader", "peek", "()I"⟩, 7) := ⟨⟨by decide +kernel, by decide +kernel⟩, List.mem_of_getElem? (i := 317) (by decide +kernel), List.mem_of_getElem? (i := 898) (by decide +kernel), List.mem_of_getElem? (i := 899) (by decide +kernel)⟩
theorem lw_p66 : lw_okq (⟨"StreamFuser$Reader", "accept", "(Z)V"⟩, 7) := ⟨⟨by decide +kernel, by decide +kernel⟩, List.mem_of_getElem? (i := 317) (by decide +kernel), List.mem_of_getElem? (i := 907) (by decide +kernel), List.mem_of_getElem? (i := 908) (by decide +kernel)⟩
theorem lw_p67 : lw_okq (⟨"StreamFuser$Reader", "readMark", "(I)I"⟩, 7) := ⟨⟨by decide +kernel, by decide +kernel⟩, List.mem_of_getElem? (i := 317) (by decide +kernel), List.mem_of_getElem? (i := 912) (by decide +kernel), List.mem_of_getElem? (i := 913) (by decide +kernel)⟩
theorem lw_p68 : lw_okq (⟨"StreamFuser$Reader", "readNumber", "(I)I"⟩, 7) := ⟨⟨by decide +kernel, by decide +kernel⟩, List.mem_of_getElem? (i := 317) (by decide +kernel), List.mem_of_getElem? (i := 922) (by decide +kernel), List.mem_of_getElem? (i := 923) (by decide +kernel)⟩
theorem lw_p69 : lw_okq (⟨"StreamFuser$Reader", "expectParts", "(II)V"⟩, 7) := ⟨⟨by decide +kernel, by decide +kernel⟩, List.mem_of_getElem? (i := 317) (by decide +kernel), List.mem_of_getElem? (i := 927) (by decide +kernel), List.mem_of_getElem? (i := 928) (by decide +kernel)⟩
theorem lw_p70 : lw_okq (⟨"StreamFuser$Run", "kept", "()I"⟩, 10) := ⟨⟨by decide +kernel, by decide +kernel⟩, List.mem_of_getElem? (i := 160) (by decide +kernel), List.mem_of_getElem? (i := 942) (by decide +kernel), List.mem_of_getElem? (i := 943) (by decide +kernel)⟩
theorem lw_p71 : lw_okq (⟨"StreamFuser", "find", "(I)I"⟩, 14) := ⟨⟨by decide +kernel, by decide +kernel⟩, List.mem_of_getElem? (i := 16) (by decide +kernel), List.mem_of_getElem? (i := 958) (by decide +kernel), List.mem_of_getElem? (i := 959) (by decide +kernel)⟩
theorem lw_p72 : lw_okq (⟨"StreamFuser$Sheets", "renew", "(III)V"⟩, 3) := ⟨⟨by decide +kernel, by decide +kernel⟩, List.mem_of_getElem? (i := 142) (by decide +kernel), List.mem_of_getElem? (i := 962) (by decide +kernel), List.mem_of_getElem? (i := 963) (by decide +kernel)⟩
theorem lw_p73 : lw_okq (⟨"StreamFuser", "elementError", "(III)I"⟩, 14) := ⟨⟨by decide +kernel, by decide +kernel⟩, List.mem_of_getElem? (i := 16) (by decide +kernel), List.mem_of_getElem? (i := 970) (by decide +kernel), List.mem_of_getElem? (i := 971) (by decide +kernel)⟩
theorem lw_p74 : lw_okq (⟨"StreamFuser$Sheets", "hasElement", "(II)Z"⟩, 3) := ⟨⟨by decide +kernel, by decide +kernel⟩, List.mem_of_getElem? (i := 142) (by decide +kernel), List.mem_of_getElem? (i := 975) (by decide +kernel), List.mem_of_getElem? (i := 976) (by decide +kernel)⟩
theorem lw_p75 : lw_okq (⟨"StreamFuser$Sheets", "store", "(III)V"⟩, 3) := ⟨⟨by decide +kernel, by decide +kernel⟩, List.mem_of_getElem? (i := 142) (by decide +kernel), List.mem_of_getElem? (i := 979) (by decide +kernel), List.mem_of_getElem? (i := 980) (by decide +kernel)⟩
def lw_privs_5 : List (MethodName × Nat) := [(⟨"StreamFuser$Reader", "readNode", "()V"⟩, 7), (⟨"StreamFuser$Reader", "peek", "()I"⟩, 7), (⟨"StreamFuser$Reader", "accept", "(Z)V"⟩, 7), (⟨"StreamFuser$Reader", "readMark", "(I)I"⟩, 7), (⟨"StreamFuser$Reader", "readNumber", "(I)I"⟩, 7), (⟨"StreamFuser$Reader", "expectParts", "(II)V"⟩, 7), (⟨"StreamFuser$Run", "kept", "()I"⟩, 10), (⟨"StreamFuser", "find", "(I)I"⟩, 14), (⟨"StreamFuser$Sheets", "renew", "(III)V"⟩, 3), (⟨"StreamFuser", "elementError", "(III)I"⟩, 14), (⟨"StreamFuser$Sheets", "hasElement", "(II)Z"⟩, 3), (⟨"StreamFuser$Sheets", "store", "(III)V"⟩, 3)]
theorem lw_r5 : ∀ q ∈ lw_privs_5, lw_okq q := List.forall_mem_cons.mpr ⟨lw_p64, List.forall_mem_cons.mpr ⟨lw_p65, List.forall_mem_cons.mpr ⟨lw_p66, List.forall_mem_cons.mpr ⟨lw_p67, List.forall_mem_cons.mpr ⟨lw_p68, List.forall_mem_cons.mpr ⟨lw_p69, List.forall_mem_cons.mpr ⟨lw_p70, List.forall_mem_cons.mpr ⟨lw_p71, List.forall_mem_cons.mpr ⟨lw_p72, List.forall_mem_cons.mpr ⟨lw_p73, List.forall_mem_cons.mpr ⟨lw_p74, List.forall_mem_cons.mpr ⟨lw_p75, fun _ h => absurd h List.not_mem_nil⟩⟩⟩⟩⟩⟩⟩⟩⟩⟩⟩⟩
def lw_privs : List (MethodName × Nat) := lw_privs_1 ++ (lw_privs_2 ++ (lw_privs_3 ++ (lw_privs_4 ++ (lw_privs_5))))
def lw_tbl : List Cond := k2_sels lw_privs ++ tables_1
theorem lw_privs_ok : ∀ q ∈ lw_privs, lw_okq q := by
  show ∀ q ∈ lw_privs_1 ++ (lw_privs_2 ++ (lw_privs_3 ++ (lw_privs_4 ++ (lw_privs_5)))), lw_okq q
  exact List.forall_mem_append.mpr ⟨lw_r1, List.forall_mem_append.mpr ⟨lw_r2, List.forall_mem_append.mpr ⟨lw_r3, List.forall_mem_append.mpr ⟨lw_r4, lw_r5⟩⟩⟩⟩

-- ===== names: classes, fields, types, methods =====
def RX0 : String := "StreamFuser$Asker"
def TX0 : u_T := fun k => match k with
  | 0 => ("StreamFuser$Walk", "used", "[I", true)
  | 1 => ("StreamFuser$Walk", "turned", "[Z", true)
  | 2 => ("StreamFuser$Way", "plan", "LStreamFuser$Plan;", true)
  | 3 => ("StreamFuser$Way", "run", "LStreamFuser$Run;", true)
  | 4 => ("StreamFuser$Way", "sheets", "LStreamFuser$Sheets;", true)
  | 5 => ("StreamFuser$Way", "opened", "[I", true)
  | _ => ("StreamFuser$Way", "value", "I", false)
def tyX0 : Nat → FieldType := fun k => match k with
  | 0 => .array .int
  | 1 => .array .boolean
  | 2 => .object "StreamFuser$Plan"
  | 3 => .object "StreamFuser$Run"
  | 4 => .object "StreamFuser$Sheets"
  | 5 => .array .int
  | _ => .int
abbrev wsX00 : List Cond := u_ws RX0 TX0 7
theorem nmX0 : ∀ a, a < 7 → ∀ b, b < 7 → a ≠ b → (TX0 a).2.1 ≠ (TX0 b).2.1 := by decide +kernel
theorem tyX0_ok : ∀ k, k < 7 → parseFieldDescriptor (TX0 k).2.2.1 = some (tyX0 k) := by decide +kernel
abbrev cX0_init : ByteArray := prog_2_method_1_code
def yX0_init : MethodName := ⟨RX0, "<init>", "(LStreamFuser$Plan;LStreamFuser$Run;LStreamFuser$Sheets;)V"⟩
abbrev cX0_play : ByteArray := prog_2_method_2_code
def yX0_play : MethodName := ⟨RX0, "play", "(I)V"⟩
abbrev cX0_ask : ByteArray := prog_2_method_3_code
def yX0_ask : MethodName := ⟨RX0, "ask", "(II)Z"⟩
abbrev cX0_askFilter : ByteArray := prog_2_method_4_code
def yX0_askFilter : MethodName := ⟨RX0, "askFilter", "(II)Z"⟩
abbrev cX0_askWhile : ByteArray := prog_2_method_5_code
def yX0_askWhile : MethodName := ⟨RX0, "askWhile", "(II)Z"⟩
abbrev cX0_askTake : ByteArray := prog_2_method_6_code
def yX0_askTake : MethodName := ⟨RX0, "askTake", "(II)Z"⟩
abbrev cX0_askDrop : ByteArray := prog_2_method_7_code
def yX0_askDrop : MethodName := ⟨RX0, "askDrop", "(II)Z"⟩
abbrev cX0_askChain : ByteArray := prog_2_method_8_code
def yX0_askChain : MethodName := ⟨RX0, "askChain", "(II)Z"⟩
abbrev cX0_askZip : ByteArray := prog_2_method_9_code
def yX0_askZip : MethodName := ⟨RX0, "askZip", "(II)Z"⟩
abbrev cX0_askOpener : ByteArray := prog_2_method_10_code
def yX0_askOpener : MethodName := ⟨RX0, "askOpener", "(II)Z"⟩
def RX1 : String := "StreamFuser$Maker"
def TX1 : u_T := fun k => match k with
  | 0 => ("StreamFuser$Way", "plan", "LStreamFuser$Plan;", true)
  | 1 => ("StreamFuser$Way", "run", "LStreamFuser$Run;", true)
  | 2 => ("StreamFuser$Way", "sheets", "LStreamFuser$Sheets;", true)
  | 3 => ("StreamFuser$Way", "opened", "[I", true)
  | 4 => ("StreamFuser$Way", "value", "I", false)
  | 5 => ("StreamFuser$Maker", "rows", "[I", true)
  | _ => ("StreamFuser$Maker", "length", "[I", true)
def tyX1 : Nat → FieldType := fun k => match k with
  | 0 => .object "StreamFuser$Plan"
  | 1 => .object "StreamFuser$Run"
  | 2 => .object "StreamFuser$Sheets"
  | 3 => .array .int
  | 4 => .int
  | 5 => .array .int
  | _ => .array .int
abbrev wsX10 : List Cond := u_ws RX1 TX1 7
theorem nmX1 : ∀ a, a < 7 → ∀ b, b < 7 → a ≠ b → (TX1 a).2.1 ≠ (TX1 b).2.1 := by decide +kernel
theorem tyX1_ok : ∀ k, k < 7 → parseFieldDescriptor (TX1 k).2.2.1 = some (tyX1 k) := by decide +kernel
abbrev cX1_init : ByteArray := prog_3_method_1_code
def yX1_init : MethodName := ⟨RX1, "<init>", "(LStreamFuser$Plan;LStreamFuser$Run;LStreamFuser$Sheets;)V"⟩
abbrev cX1_play : ByteArray := prog_3_method_2_code
def yX1_play : MethodName := ⟨RX1, "play", "(I)V"⟩
abbrev cX1_make : ByteArray := prog_3_method_3_code
def yX1_make : MethodName := ⟨RX1, "make", "(II)Z"⟩
abbrev cX1_fill : ByteArray := prog_3_method_4_code
def yX1_fill : MethodName := ⟨RX1, "fill", "(II)Z"⟩
abbrev cX1_fillFromProducer : ByteArray := prog_3_method_5_code
def yX1_fillFromProducer : MethodName := ⟨RX1, "fillFromProducer", "(I)Z"⟩
abbrev cX1_fillFromInput : ByteArray := prog_3_method_6_code
def yX1_fillFromInput : MethodName := ⟨RX1, "fillFromInput", "(I)Z"⟩
abbrev cX1_fillByOpening : ByteArray := prog_3_method_7_code
def yX1_fillByOpening : MethodName := ⟨RX1, "fillByOpening", "(II)Z"⟩
abbrev cX1_addRow : ByteArray := prog_3_method_8_code
def yX1_addRow : MethodName := ⟨RX1, "addRow", "(II)Z"⟩
abbrev cX1_zip : ByteArray := prog_3_method_9_code
def yX1_zip : MethodName := ⟨RX1, "zip", "(II)V"⟩
abbrev cX1_element : ByteArray := prog_3_method_10_code
def yX1_element : MethodName := ⟨RX1, "element", "(II)I"⟩
abbrev cX1_add : ByteArray := prog_3_method_11_code
def yX1_add : MethodName := ⟨RX1, "add", "(II)V"⟩
def RX2 : String := "StreamFuser$Plan"
def TX2 : u_T := fun k => match k with
  | 0 => ("StreamFuser$Plan", "letter", "[I", true)
  | 1 => ("StreamFuser$Plan", "mark", "[I", true)
  | 2 => ("StreamFuser$Plan", "first", "[I", true)
  | 3 => ("StreamFuser$Plan", "second", "[I", true)
  | 4 => ("StreamFuser$Plan", "size", "I", false)
  | 5 => ("StreamFuser$Plan", "end", "[I", true)
  | 6 => ("StreamFuser$Plan", "within", "[I", true)
  | 7 => ("StreamFuser$Plan", "nested", "[I", true)
  | 8 => ("StreamFuser$Plan", "opener", "[I", true)
  | 9 => ("StreamFuser$Plan", "pure", "[Z", true)
  | 10 => ("StreamFuser$Plan", "deepest", "I", false)
  | _ => ("StreamFuser$Plan", "endless", "Z", false)
def tyX2 : Nat → FieldType := fun k => match k with
  | 0 => .array .int
  | 1 => .array .int
  | 2 => .array .int
  | 3 => .array .int
  | 4 => .int
  | 5 => .array .int
  | 6 => .array .int
  | 7 => .array .int
  | 8 => .array .int
  | 9 => .array .boolean
  | 10 => .int
  | _ => .boolean
abbrev wsX20 : List Cond := u_ws RX2 TX2 12
theorem nmX2 : ∀ a, a < 12 → ∀ b, b < 12 → a ≠ b → (TX2 a).2.1 ≠ (TX2 b).2.1 := by decide +kernel
theorem tyX2_ok : ∀ k, k < 12 → parseFieldDescriptor (TX2 k).2.2.1 = some (tyX2 k) := by decide +kernel
abbrev cX2_init : ByteArray := prog_4_method_1_code
def yX2_init : MethodName := ⟨RX2, "<init>", "()V"⟩
abbrev cX2_partsOf : ByteArray := prog_4_method_2_code
def yX2_partsOf : MethodName := ⟨RX2, "partsOf", "(I)I"⟩
abbrev cX2_numbersOf : ByteArray := prog_4_method_3_code
def yX2_numbersOf : MethodName := ⟨RX2, "numbersOf", "(I)I"⟩
abbrev cX2_has : ByteArray := prog_4_method_4_code
def yX2_has : MethodName := ⟨RX2, "has", "(I)Z"⟩
abbrev cX2_letterAt : ByteArray := prog_4_method_5_code
def yX2_letterAt : MethodName := ⟨RX2, "letterAt", "(I)I"⟩
abbrev cX2_isNil : ByteArray := prog_4_method_6_code
def yX2_isNil : MethodName := ⟨RX2, "isNil", "(I)Z"⟩
abbrev cX2_secondPart : ByteArray := prog_4_method_7_code
def yX2_secondPart : MethodName := ⟨RX2, "secondPart", "(I)I"⟩
abbrev cX2_input : ByteArray := prog_4_method_8_code
def yX2_input : MethodName := ⟨RX2, "input", "(I)I"⟩
abbrev cX2_add : ByteArray := prog_4_method_9_code
def yX2_add : MethodName := ⟨RX2, "add", "(IIII)V"⟩
abbrev cX2_takeFrom : ByteArray := prog_4_method_10_code
def yX2_takeFrom : MethodName := ⟨RX2, "takeFrom", "(LStreamFuser$Plan;)V"⟩
abbrev cX2_swapWithNext : ByteArray := prog_4_method_11_code
def yX2_swapWithNext : MethodName := ⟨RX2, "swapWithNext", "(I)V"⟩
abbrev cX2_cut : ByteArray := prog_4_method_12_code
def yX2_cut : MethodName := ⟨RX2, "cut", "(II)V"⟩
abbrev cX2_moveNode : ByteArray := prog_4_method_13_code
def yX2_moveNode : MethodName := ⟨RX2, "moveNode", "(II)V"⟩
abbrev cX2_makeNil : ByteArray := prog_4_method_14_code
def yX2_makeNil : MethodName := ⟨RX2, "makeNil", "(I)V"⟩
abbrev cX2_measure : ByteArray := prog_4_method_15_code
def yX2_measure : MethodName := ⟨RX2, "measure", "()V"⟩
abbrev cX2_measureFromParts : ByteArray := prog_4_method_16_code
def yX2_measureFromParts : MethodName := ⟨RX2, "measureFromParts", "(I)V"⟩
abbrev cX2_measureParts : ByteArray := prog_4_method_17_code
def yX2_measureParts : MethodName := ⟨RX2, "measureParts", "(I)V"⟩
def RX3 : String := "StreamFuser$Printer"
def TX3 : u_T := fun k => match k with
  | 0 => ("StreamFuser$Printer", "source", "LStreamFuser$Plan;", true)
  | 1 => ("StreamFuser$Printer", "bytes", "[B", true)
  | _ => ("StreamFuser$Printer", "length", "I", false)
def tyX3 : Nat → FieldType := fun k => match k with
  | 0 => .object "StreamFuser$Plan"
  | 1 => .array .byte
  | _ => .int
abbrev wsX30 : List Cond := u_ws RX3 TX3 3
theorem nmX3 : ∀ a, a < 3 → ∀ b, b < 3 → a ≠ b → (TX3 a).2.1 ≠ (TX3 b).2.1 := by decide +kernel
theorem tyX3_ok : ∀ k, k < 3 → parseFieldDescriptor (TX3 k).2.2.1 = some (tyX3 k) := by decide +kernel
abbrev cX3_init : ByteArray := prog_5_method_1_code
def yX3_init : MethodName := ⟨RX3, "<init>", "(LStreamFuser$Plan;)V"⟩
abbrev cX3_print : ByteArray := prog_5_method_2_code
def yX3_print : MethodName := ⟨RX3, "print", "()V"⟩
abbrev cX3_printNode : ByteArray := prog_5_method_3_code
def yX3_printNode : MethodName := ⟨RX3, "printNode", "(I)V"⟩
abbrev cX3_put : ByteArray := prog_5_method_4_code
def yX3_put : MethodName := ⟨RX3, "put", "(I)V"⟩
abbrev cX3_putNumber : ByteArray := prog_5_method_5_code
def yX3_putNumber : MethodName := ⟨RX3, "putNumber", "(I)V"⟩
def RX4 : String := "StreamFuser$Reader"
def TX4 : u_T := fun k => match k with
  | 0 => ("StreamFuser$Reader", "target", "LStreamFuser$Plan;", true)
  | 1 => ("StreamFuser$Reader", "bytes", "[I", true)
  | 2 => ("StreamFuser$Reader", "length", "I", false)
  | 3 => ("StreamFuser$Reader", "due", "[I", true)
  | 4 => ("StreamFuser$Reader", "dues", "I", false)
  | 5 => ("StreamFuser$Reader", "at", "I", false)
  | _ => ("StreamFuser$Reader", "fault", "I", false)
def tyX4 : Nat → FieldType := fun k => match k with
  | 0 => .object "StreamFuser$Plan"
  | 1 => .array .int
  | 2 => .int
  | 3 => .array .int
  | 4 => .int
  | 5 => .int
  | _ => .int
abbrev wsX40 : List Cond := u_ws RX4 TX4 7
theorem nmX4 : ∀ a, a < 7 → ∀ b, b < 7 → a ≠ b → (TX4 a).2.1 ≠ (TX4 b).2.1 := by decide +kernel
theorem tyX4_ok : ∀ k, k < 7 → parseFieldDescriptor (TX4 k).2.2.1 = some (tyX4 k) := by decide +kernel
abbrev cX4_init : ByteArray := prog_6_method_1_code
def yX4_init : MethodName := ⟨RX4, "<init>", "(LStreamFuser$Plan;)V"⟩
abbrev cX4_append : ByteArray := prog_6_method_2_code
def yX4_append : MethodName := ⟨RX4, "append", "(I)Z"⟩
abbrev cX4_read : ByteArray := prog_6_method_3_code
def yX4_read : MethodName := ⟨RX4, "read", "()I"⟩
abbrev cX4_expect : ByteArray := prog_6_method_4_code
def yX4_expect : MethodName := ⟨RX4, "expect", "(I)V"⟩
abbrev cX4_readNode : ByteArray := prog_6_method_5_code
def yX4_readNode : MethodName := ⟨RX4, "readNode", "()V"⟩
abbrev cX4_expectParts : ByteArray := prog_6_method_6_code
def yX4_expectParts : MethodName := ⟨RX4, "expectParts", "(II)V"⟩
abbrev cX4_peek : ByteArray := prog_6_method_7_code
def yX4_peek : MethodName := ⟨RX4, "peek", "()I"⟩
abbrev cX4_accept : ByteArray := prog_6_method_8_code
def yX4_accept : MethodName := ⟨RX4, "accept", "(Z)V"⟩
abbrev cX4_isLetter : ByteArray := prog_6_method_9_code
def yX4_isLetter : MethodName := ⟨RX4, "isLetter", "(II)Z"⟩
abbrev cX4_hasMark : ByteArray := prog_6_method_10_code
def yX4_hasMark : MethodName := ⟨RX4, "hasMark", "(I)Z"⟩
abbrev cX4_hasDigit : ByteArray := prog_6_method_11_code
def yX4_hasDigit : MethodName := ⟨RX4, "hasDigit", "(I)Z"⟩
abbrev cX4_readMark : ByteArray := prog_6_method_12_code
def yX4_readMark : MethodName := ⟨RX4, "readMark", "(I)I"⟩
abbrev cX4_fitsMark : ByteArray := prog_6_method_13_code
def yX4_fitsMark : MethodName := ⟨RX4, "fitsMark", "(II)Z"⟩
abbrev cX4_isDigit : ByteArray := prog_6_method_14_code
def yX4_isDigit : MethodName := ⟨RX4, "isDigit", "(I)Z"⟩
abbrev cX4_readNumber : ByteArray := prog_6_method_15_code
def yX4_readNumber : MethodName := ⟨RX4, "readNumber", "(I)I"⟩
def RX5 : String := "StreamFuser$Rewriter"
def TX5 : u_T := fun k => match k with
  | 0 => ("StreamFuser$Rewriter", "plan", "LStreamFuser$Plan;", true)
  | 1 => ("StreamFuser$Rewriter", "applied", "[I", true)
  | _ => ("StreamFuser$Rewriter", "total", "I", false)
def tyX5 : Nat → FieldType := fun k => match k with
  | 0 => .object "StreamFuser$Plan"
  | 1 => .array .int
  | _ => .int
abbrev wsX50 : List Cond := u_ws RX5 TX5 3
theorem nmX5 : ∀ a, a < 3 → ∀ b, b < 3 → a ≠ b → (TX5 a).2.1 ≠ (TX5 b).2.1 := by decide +kernel
theorem tyX5_ok : ∀ k, k < 3 → parseFieldDescriptor (TX5 k).2.2.1 = some (tyX5 k) := by decide +kernel
abbrev cX5_init : ByteArray := prog_7_method_1_code
def yX5_init : MethodName := ⟨RX5, "<init>", "(LStreamFuser$Plan;)V"⟩
abbrev cX5_simplify : ByteArray := prog_7_method_2_code
def yX5_simplify : MethodName := ⟨RX5, "simplify", "(Z)V"⟩
abbrev cX5_place : ByteArray := prog_7_method_3_code
def yX5_place : MethodName := ⟨RX5, "place", "(Z)I"⟩
abbrev cX5_ruleFor : ByteArray := prog_7_method_4_code
def yX5_ruleFor : MethodName := ⟨RX5, "ruleFor", "(I)I"⟩
abbrev cX5_ruleForTake : ByteArray := prog_7_method_5_code
def yX5_ruleForTake : MethodName := ⟨RX5, "ruleForTake", "(I)I"⟩
abbrev cX5_ruleForDrop : ByteArray := prog_7_method_6_code
def yX5_ruleForDrop : MethodName := ⟨RX5, "ruleForDrop", "(I)I"⟩
abbrev cX5_apply : ByteArray := prog_7_method_7_code
def yX5_apply : MethodName := ⟨RX5, "apply", "(II)V"⟩
abbrev cX5_swapDropWithTake : ByteArray := prog_7_method_8_code
def yX5_swapDropWithTake : MethodName := ⟨RX5, "swapDropWithTake", "(I)V"⟩
abbrev cX5_keepOnePart : ByteArray := prog_7_method_9_code
def yX5_keepOnePart : MethodName := ⟨RX5, "keepOnePart", "(I)V"⟩
abbrev cX5_mergeWithNext : ByteArray := prog_7_method_10_code
def yX5_mergeWithNext : MethodName := ⟨RX5, "mergeWithNext", "(II)V"⟩
def RX6 : String := "StreamFuser$Run"
def TX6 : u_T := fun k => match k with
  | 0 => ("StreamFuser$Run", "numbers", "[I", true)
  | 1 => ("StreamFuser$Run", "size", "I", false)
  | 2 => ("StreamFuser$Run", "drawn", "I", false)
  | 3 => ("StreamFuser$Run", "work", "I", false)
  | 4 => ("StreamFuser$Run", "elements", "I", false)
  | 5 => ("StreamFuser$Run", "failure", "I", false)
  | 6 => ("StreamFuser$Run", "failureDepth", "I", false)
  | 7 => ("StreamFuser$Run", "digits", "[I", true)
  | 8 => ("StreamFuser$Run", "notes", "[I", true)
  | _ => ("StreamFuser$Run", "pairs", "I", false)
def tyX6 : Nat → FieldType := fun k => match k with
  | 0 => .array .int
  | 1 => .int
  | 2 => .int
  | 3 => .int
  | 4 => .int
  | 5 => .int
  | 6 => .int
  | 7 => .array .int
  | 8 => .array .int
  | _ => .int
abbrev wsX60 : List Cond := u_ws RX6 TX6 10
theorem nmX6 : ∀ a, a < 10 → ∀ b, b < 10 → a ≠ b → (TX6 a).2.1 ≠ (TX6 b).2.1 := by decide +kernel
theorem tyX6_ok : ∀ k, k < 10 → parseFieldDescriptor (TX6 k).2.2.1 = some (tyX6 k) := by decide +kernel
abbrev cX6_init : ByteArray := prog_8_method_1_code
def yX6_init : MethodName := ⟨RX6, "<init>", "()V"⟩
abbrev cX6_begin : ByteArray := prog_8_method_2_code
def yX6_begin : MethodName := ⟨RX6, "begin", "()V"⟩
abbrev cX6_give : ByteArray := prog_8_method_3_code
def yX6_give : MethodName := ⟨RX6, "give", "(I)V"⟩
abbrev cX6_draw : ByteArray := prog_8_method_4_code
def yX6_draw : MethodName := ⟨RX6, "draw", "(I)Z"⟩
abbrev cX6_fail : ByteArray := prog_8_method_5_code
def yX6_fail : MethodName := ⟨RX6, "fail", "(II)V"⟩
abbrev cX6_failed : ByteArray := prog_8_method_6_code
def yX6_failed : MethodName := ⟨RX6, "failed", "()Z"⟩
abbrev cX6_note : ByteArray := prog_8_method_7_code
def yX6_note : MethodName := ⟨RX6, "note", "(II)V"⟩
abbrev cX6_kept : ByteArray := prog_8_method_8_code
def yX6_kept : MethodName := ⟨RX6, "kept", "()I"⟩
def RX7 : String := "StreamFuser$Sheets"
def TX7 : u_T := fun k => match k with
  | 0 => ("StreamFuser$Sheets", "form", "[I", true)
  | 1 => ("StreamFuser$Sheets", "length", "[I", true)
  | _ => ("StreamFuser$Sheets", "elements", "[I", true)
def tyX7 : Nat → FieldType := fun k => match k with
  | 0 => .array .int
  | 1 => .array .int
  | _ => .array .int
abbrev wsX70 : List Cond := u_ws RX7 TX7 3
theorem nmX7 : ∀ a, a < 3 → ∀ b, b < 3 → a ≠ b → (TX7 a).2.1 ≠ (TX7 b).2.1 := by decide +kernel
theorem tyX7_ok : ∀ k, k < 3 → parseFieldDescriptor (TX7 k).2.2.1 = some (tyX7 k) := by decide +kernel
abbrev cX7_init : ByteArray := prog_9_method_1_code
def yX7_init : MethodName := ⟨RX7, "<init>", "()V"⟩
abbrev cX7_isLost : ByteArray := prog_9_method_2_code
def yX7_isLost : MethodName := ⟨RX7, "isLost", "(I)Z"⟩
abbrev cX7_hasElement : ByteArray := prog_9_method_3_code
def yX7_hasElement : MethodName := ⟨RX7, "hasElement", "(II)Z"⟩
abbrev cX7_renew : ByteArray := prog_9_method_5_code
def yX7_renew : MethodName := ⟨RX7, "renew", "(III)V"⟩
abbrev cX7_store : ByteArray := prog_9_method_6_code
def yX7_store : MethodName := ⟨RX7, "store", "(III)V"⟩
abbrev cX7_cast : ByteArray := prog_9_method_7_code
def yX7_cast : MethodName := ⟨RX7, "cast", "(II)I"⟩
abbrev cX7_at : ByteArray := prog_9_method_8_code
def yX7_at : MethodName := ⟨RX7, "at", "(II)I"⟩
def RX8 : String := "StreamFuser$Stepper"
def TX8 : u_T := fun k => match k with
  | 0 => ("StreamFuser$Walk", "used", "[I", true)
  | 1 => ("StreamFuser$Walk", "turned", "[Z", true)
  | 2 => ("StreamFuser$Way", "plan", "LStreamFuser$Plan;", true)
  | 3 => ("StreamFuser$Way", "run", "LStreamFuser$Run;", true)
  | 4 => ("StreamFuser$Way", "sheets", "LStreamFuser$Sheets;", true)
  | 5 => ("StreamFuser$Way", "opened", "[I", true)
  | 6 => ("StreamFuser$Way", "value", "I", false)
  | _ => ("StreamFuser$Stepper", "held", "[I", true)
def tyX8 : Nat → FieldType := fun k => match k with
  | 0 => .array .int
  | 1 => .array .boolean
  | 2 => .object "StreamFuser$Plan"
  | 3 => .object "StreamFuser$Run"
  | 4 => .object "StreamFuser$Sheets"
  | 5 => .array .int
  | 6 => .int
  | _ => .array .int
abbrev wsX80 : List Cond := u_ws RX8 TX8 8
theorem nmX8 : ∀ a, a < 8 → ∀ b, b < 8 → a ≠ b → (TX8 a).2.1 ≠ (TX8 b).2.1 := by decide +kernel
theorem tyX8_ok : ∀ k, k < 8 → parseFieldDescriptor (TX8 k).2.2.1 = some (tyX8 k) := by decide +kernel
abbrev cX8_init : ByteArray := prog_10_method_1_code
def yX8_init : MethodName := ⟨RX8, "<init>", "(LStreamFuser$Plan;LStreamFuser$Run;LStreamFuser$Sheets;)V"⟩
abbrev cX8_play : ByteArray := prog_10_method_2_code
def yX8_play : MethodName := ⟨RX8, "play", "(I)V"⟩
abbrev cX8_step : ByteArray := prog_10_method_3_code
def yX8_step : MethodName := ⟨RX8, "step", "(II)I"⟩
abbrev cX8_stepOne : ByteArray := prog_10_method_4_code
def yX8_stepOne : MethodName := ⟨RX8, "stepOne", "(II)I"⟩
abbrev cX8_given : ByteArray := prog_10_method_5_code
def yX8_given : MethodName := ⟨RX8, "given", "(Z)I"⟩
abbrev cX8_stepChain : ByteArray := prog_10_method_6_code
def yX8_stepChain : MethodName := ⟨RX8, "stepChain", "(II)I"⟩
abbrev cX8_stepZip : ByteArray := prog_10_method_7_code
def yX8_stepZip : MethodName := ⟨RX8, "stepZip", "(II)I"⟩
abbrev cX8_stepOpener : ByteArray := prog_10_method_8_code
def yX8_stepOpener : MethodName := ⟨RX8, "stepOpener", "(II)I"⟩
def RX9 : String := "StreamFuser$Walk"
def TX9 : u_T := fun k => match k with
  | _ => ("", "", "", false)
def tyX9 : Nat → FieldType := fun k => match k with
  | _ => .int
abbrev wsX90 : List Cond := u_ws RX9 TX9 0
theorem nmX9 : ∀ a, a < 0 → ∀ b, b < 0 → a ≠ b → (TX9 a).2.1 ≠ (TX9 b).2.1 := by decide +kernel
theorem tyX9_ok : ∀ k, k < 0 → parseFieldDescriptor (TX9 k).2.2.1 = some (tyX9 k) := by decide +kernel
abbrev cX9_init : ByteArray := prog_11_method_1_code
def yX9_init : MethodName := ⟨RX9, "<init>", "(LStreamFuser$Plan;LStreamFuser$Run;LStreamFuser$Sheets;)V"⟩
abbrev cX9_restart : ByteArray := prog_11_method_2_code
def yX9_restart : MethodName := ⟨RX9, "restart", "(II)V"⟩
abbrev cX9_open : ByteArray := prog_11_method_3_code
def yX9_open : MethodName := ⟨RX9, "open", "(II)V"⟩
abbrev cX9_produce : ByteArray := prog_11_method_4_code
def yX9_produce : MethodName := ⟨RX9, "produce", "(I)Z"⟩
def RX10 : String := "StreamFuser$Way"
def TX10 : u_T := fun k => match k with
  | _ => ("", "", "", false)
def tyX10 : Nat → FieldType := fun k => match k with
  | _ => .int
abbrev wsX100 : List Cond := u_ws RX10 TX10 0
theorem nmX10 : ∀ a, a < 0 → ∀ b, b < 0 → a ≠ b → (TX10 a).2.1 ≠ (TX10 b).2.1 := by decide +kernel
theorem tyX10_ok : ∀ k, k < 0 → parseFieldDescriptor (TX10 k).2.2.1 = some (tyX10 k) := by decide +kernel
abbrev cX10_init : ByteArray := prog_12_method_1_code
def yX10_init : MethodName := ⟨RX10, "<init>", "(LStreamFuser$Plan;LStreamFuser$Run;LStreamFuser$Sheets;)V"⟩
abbrev cX10_openedFor : ByteArray := prog_12_method_2_code
def yX10_openedFor : MethodName := ⟨RX10, "openedFor", "(I)I"⟩
abbrev cX10_isReady : ByteArray := prog_12_method_3_code
def yX10_isReady : MethodName := ⟨RX10, "isReady", "(I)Z"⟩
abbrev cX10_supply : ByteArray := prog_12_method_4_code
def yX10_supply : MethodName := ⟨RX10, "supply", "(I)J"⟩
abbrev cX10_supplied : ByteArray := prog_12_method_5_code
def yX10_supplied : MethodName := ⟨RX10, "supplied", "(II)I"⟩
abbrev cX10_change : ByteArray := prog_12_method_6_code
def yX10_change : MethodName := ⟨RX10, "change", "(II)Z"⟩
abbrev cX10_divide : ByteArray := prog_12_method_7_code
def yX10_divide : MethodName := ⟨RX10, "divide", "(III)Z"⟩
abbrev cX10_modulo : ByteArray := prog_12_method_8_code
def yX10_modulo : MethodName := ⟨RX10, "modulo", "(II)I"⟩
abbrev cX10_passes : ByteArray := prog_12_method_9_code
def yX10_passes : MethodName := ⟨RX10, "passes", "(II)Z"⟩
abbrev cX10_join : ByteArray := prog_12_method_10_code
def yX10_join : MethodName := ⟨RX10, "join", "(III)I"⟩
def RX11 : String := "StreamFuser"
def TX11 : u_T := fun k => match k with
  | 0 => ("StreamFuser", "main", "LStreamFuser$Plan;", true)
  | 1 => ("StreamFuser", "printer", "LStreamFuser$Printer;", true)
  | 2 => ("StreamFuser", "rewriter", "LStreamFuser$Rewriter;", true)
  | 3 => ("StreamFuser", "sheets", "LStreamFuser$Sheets;", true)
  | 4 => ("StreamFuser", "latest", "LStreamFuser$Run;", true)
  | 5 => ("StreamFuser", "asker", "LStreamFuser$Asker;", true)
  | 6 => ("StreamFuser", "stepper", "LStreamFuser$Stepper;", true)
  | 7 => ("StreamFuser", "maker", "LStreamFuser$Maker;", true)
  | 8 => ("StreamFuser", "draft", "LStreamFuser$Plan;", true)
  | 9 => ("StreamFuser", "reader", "LStreamFuser$Reader;", true)
  | 10 => ("StreamFuser", "draftRewriter", "LStreamFuser$Rewriter;", true)
  | 11 => ("StreamFuser", "trial", "LStreamFuser$Run;", true)
  | 12 => ("StreamFuser", "trialAsker", "LStreamFuser$Asker;", true)
  | _ => ("StreamFuser", "finding", "I", false)
def tyX11 : Nat → FieldType := fun k => match k with
  | 0 => .object "StreamFuser$Plan"
  | 1 => .object "StreamFuser$Printer"
  | 2 => .object "StreamFuser$Rewriter"
  | 3 => .object "StreamFuser$Sheets"
  | 4 => .object "StreamFuser$Run"
  | 5 => .object "StreamFuser$Asker"
  | 6 => .object "StreamFuser$Stepper"
  | 7 => .object "StreamFuser$Maker"
  | 8 => .object "StreamFuser$Plan"
  | 9 => .object "StreamFuser$Reader"
  | 10 => .object "StreamFuser$Rewriter"
  | 11 => .object "StreamFuser$Run"
  | 12 => .object "StreamFuser$Asker"
  | _ => .int
abbrev wsX110 : List Cond := u_ws RX11 TX11 14
theorem nmX11 : ∀ a, a < 14 → ∀ b, b < 14 → a ≠ b → (TX11 a).2.1 ≠ (TX11 b).2.1 := by decide +kernel
theorem tyX11_ok : ∀ k, k < 14 → parseFieldDescriptor (TX11 k).2.2.1 = some (tyX11 k) := by decide +kernel
abbrev cX11_init : ByteArray := prog_1_method_1_code
def yX11_init : MethodName := ⟨RX11, "<init>", "()V"⟩
abbrev cX11_type : ByteArray := prog_1_method_2_code
def yX11_type : MethodName := ⟨RX11, "type", "(I)I"⟩
abbrev cX11_wipe : ByteArray := prog_1_method_3_code
def yX11_wipe : MethodName := ⟨RX11, "wipe", "()I"⟩
abbrev cX11_fault : ByteArray := prog_1_method_4_code
def yX11_fault : MethodName := ⟨RX11, "fault", "()I"⟩
abbrev cX11_plan : ByteArray := prog_1_method_5_code
def yX11_plan : MethodName := ⟨RX11, "plan", "()I"⟩
abbrev cX11_node : ByteArray := prog_1_method_6_code
def yX11_node : MethodName := ⟨RX11, "node", "(II)I"⟩
abbrev cX11_text : ByteArray := prog_1_method_7_code
def yX11_text : MethodName := ⟨RX11, "text", "(I)I"⟩
abbrev cX11_tidy : ByteArray := prog_1_method_8_code
def yX11_tidy : MethodName := ⟨RX11, "tidy", "(I)I"⟩
abbrev cX11_saves : ByteArray := prog_1_method_10_code
def yX11_saves : MethodName := ⟨RX11, "saves", "(I)I"⟩
abbrev cX11_run : ByteArray := prog_1_method_11_code
def yX11_run : MethodName := ⟨RX11, "run", "(II)I"⟩
abbrev cX11_result : ByteArray := prog_1_method_12_code
def yX11_result : MethodName := ⟨RX11, "result", "(I)J"⟩
abbrev cX11_failure : ByteArray := prog_1_method_14_code
def yX11_failure : MethodName := ⟨RX11, "failure", "(I)I"⟩
abbrev cX11_told : ByteArray := prog_1_method_15_code
def yX11_told : MethodName := ⟨RX11, "told", "(I)I"⟩
abbrev cX11_written : ByteArray := prog_1_method_16_code
def yX11_written : MethodName := ⟨RX11, "written", "(II)J"⟩
abbrev cX11_sheet : ByteArray := prog_1_method_17_code
def yX11_sheet : MethodName := ⟨RX11, "sheet", "(III)I"⟩
abbrev cX11_lay : ByteArray := prog_1_method_19_code
def yX11_lay : MethodName := ⟨RX11, "lay", "(IIII)I"⟩
abbrev cX11_count : ByteArray := prog_1_method_23_code
def yX11_count : MethodName := ⟨RX11, "count", "(I)I"⟩
abbrev cX11_find : ByteArray := prog_1_method_27_code
def yX11_find : MethodName := ⟨RX11, "find", "(I)I"⟩
abbrev cX11_elementError : ByteArray := prog_1_method_28_code
def yX11_elementError : MethodName := ⟨RX11, "elementError", "(III)I"⟩
abbrev cX11_isSheet : ByteArray := prog_1_method_29_code
def yX11_isSheet : MethodName := ⟨RX11, "isSheet", "(I)Z"⟩
abbrev cX11_isForm : ByteArray := prog_1_method_30_code
def yX11_isForm : MethodName := ⟨RX11, "isForm", "(I)Z"⟩
def RX12 : String := "StreamFuserModel"
def TX12 : u_T := fun k => match k with
  | _ => ("", "", "", false)
def tyX12 : Nat → FieldType := fun k => match k with
  | _ => .int
abbrev wsX120 : List Cond := u_ws RX12 TX12 0
theorem nmX12 : ∀ a, a < 0 → ∀ b, b < 0 → a ≠ b → (TX12 a).2.1 ≠ (TX12 b).2.1 := by decide +kernel
theorem tyX12_ok : ∀ k, k < 0 → parseFieldDescriptor (TX12 k).2.2.1 = some (tyX12 k) := by decide +kernel
def RJ9 : String := "java/lang/Math"
def TJ9 : u_T := fun k => match k with
  | _ => ("", "", "", false)
def tyJ9 : Nat → FieldType := fun k => match k with
  | _ => .int
abbrev wsJ90 : List Cond := u_ws RJ9 TJ9 0
theorem nmJ9 : ∀ a, a < 0 → ∀ b, b < 0 → a ≠ b → (TJ9 a).2.1 ≠ (TJ9 b).2.1 := by decide +kernel
theorem tyJ9_ok : ∀ k, k < 0 → parseFieldDescriptor (TJ9 k).2.2.1 = some (tyJ9 k) := by decide +kernel
abbrev cJ9_floorMod_7cf53 : ByteArray := prog_15_method_50_code
def yJ9_floorMod_7cf53 : MethodName := ⟨RJ9, "floorMod", "(II)I"⟩
abbrev cJ9_abs_067f4 : ByteArray := prog_15_method_61_code
def yJ9_abs_067f4 : MethodName := ⟨RJ9, "abs", "(J)J"⟩
abbrev cJ9_max_7cf53 : ByteArray := prog_15_method_65_code
def yJ9_max_7cf53 : MethodName := ⟨RJ9, "max", "(II)I"⟩
abbrev cJ9_max_f86c9 : ByteArray := prog_15_method_66_code
def yJ9_max_f86c9 : MethodName := ⟨RJ9, "max", "(JJ)J"⟩
abbrev cJ9_min_7cf53 : ByteArray := prog_15_method_69_code
def yJ9_min_7cf53 : MethodName := ⟨RJ9, "min", "(II)I"⟩
def RJ10 : String := "java/lang/System"
def TJ10 : u_T := fun k => match k with
  | _ => ("", "", "", false)
def tyJ10 : Nat → FieldType := fun k => match k with
  | _ => .int
abbrev wsJ100 : List Cond := u_ws RJ10 TJ10 0
theorem nmJ10 : ∀ a, a < 0 → ∀ b, b < 0 → a ≠ b → (TJ10 a).2.1 ≠ (TJ10 b).2.1 := by decide +kernel
theorem tyJ10_ok : ∀ k, k < 0 → parseFieldDescriptor (TJ10 k).2.2.1 = some (tyJ10 k) := by decide +kernel
def RL : String := "StreamFuserLaw"
abbrev cL_cell : ByteArray := method_2_code
def yL_cell : MethodName := ⟨RL, "cell", "([II)I"⟩
abbrev cL_up : ByteArray := method_3_code
def yL_up : MethodName := ⟨RL, "up", "(II)I"⟩
abbrev cL_types : ByteArray := method_4_code
def yL_types : MethodName := ⟨RL, "types", "(LStreamFuser;II)I"⟩
abbrev cL_letter : ByteArray := method_5_code
def yL_letter : MethodName := ⟨RL, "letter", "(IZZ)I"⟩
abbrev cL_plans : ByteArray := method_6_code
def yL_plans : MethodName := ⟨RL, "plans", "(LStreamFuser;[II)I"⟩
abbrev cL_same : ByteArray := method_7_code
def yL_same : MethodName := ⟨RL, "same", "(LStreamFuser;LStreamFuser;)Z"⟩
abbrev cL_sheets : ByteArray := method_8_code
def yL_sheets : MethodName := ⟨RL, "sheets", "(LStreamFuser;I)Z"⟩
abbrev cL_law : ByteArray := code
def yL_law : MethodName := ⟨RL, "law", "([I)Z"⟩
abbrev vwCl : List vw_C := [(RX0, TX0, 7), (RX1, TX1, 7), (RX2, TX2, 12), (RX3, TX3, 3), (RX4, TX4, 7), (RX5, TX5, 3), (RX6, TX6, 10), (RX7, TX7, 3), (RX8, TX8, 8), (RX11, TX11, 14)]
