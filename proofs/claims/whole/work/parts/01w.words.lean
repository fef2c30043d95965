/-! the words of the tables, by their places -/
def sf_nest : Cond → Bool
  | .fieldLinkNest _ _ _ _ _ _ => true
  | .methodLinkNest _ _ _ _ => true
  | _ => false
/-- private methods of a superclass, called on its heirs: true at the law's entry, by sf_selP -/
def sf_more : List Cond := [.selects "StreamFuser$Asker" ⟨"StreamFuser$Way", "divide", "(III)Z"⟩ ⟨"StreamFuser$Way", "divide", "(III)Z"⟩, .selects "StreamFuser$Maker" ⟨"StreamFuser$Way", "divide", "(III)Z"⟩ ⟨"StreamFuser$Way", "divide", "(III)Z"⟩, .selects "StreamFuser$Stepper" ⟨"StreamFuser$Way", "divide", "(III)Z"⟩ ⟨"StreamFuser$Way", "divide", "(III)Z"⟩]
def sf_all : List Cond := lw_tbl ++ sf_more
def sf_T : List Cond := sf_all.filter goodWord
def sf_N : List Cond := sf_all.filter sf_nest
theorem sf_T_in {w : Cond} (h : w ∈ tables_1) (hg : goodWord w = true) : w ∈ sf_T := List.mem_filter.mpr ⟨List.mem_append_left _ (List.mem_append_right _ h), hg⟩
theorem sf_N_in {w : Cond} (h : w ∈ tables_1) (hg : sf_nest w = true) : w ∈ sf_N := List.mem_filter.mpr ⟨List.mem_append_left _ (List.mem_append_right _ h), hg⟩
theorem sf_S_in {q : MethodName × Nat} (h : q ∈ lw_privs) : Cond.selects q.1.cls q.1 q.1 ∈ sf_T := List.mem_filter.mpr ⟨List.mem_append_left _ (List.mem_append_left _ (List.mem_map.mpr ⟨q, h, rfl⟩)), rfl⟩
theorem sf_M_of {w : Cond} (i : Nat) (h : sf_more[i]? = some w) (hg : goodWord w = true) : w ∈ sf_T := List.mem_filter.mpr ⟨List.mem_append_right _ (List.mem_of_getElem? h), hg⟩
theorem sf_T_1 {w : Cond} (i : Nat) (h : tables_1_1[i]? = some w) (hg : goodWord w = true) : w ∈ sf_T := sf_T_in (List.mem_append_left _ (List.mem_of_getElem? h)) hg
theorem sf_N_1 {w : Cond} (i : Nat) (h : tables_1_1[i]? = some w) (hg : sf_nest w = true) : w ∈ sf_N := sf_N_in (List.mem_append_left _ (List.mem_of_getElem? h)) hg
theorem sf_T_2 {w : Cond} (i : Nat) (h : tables_1_2[i]? = some w) (hg : goodWord w = true) : w ∈ sf_T := sf_T_in (List.mem_append_right _ (List.mem_append_left _ (List.mem_of_getElem? h))) hg
theorem sf_N_2 {w : Cond} (i : Nat) (h : tables_1_2[i]? = some w) (hg : sf_nest w = true) : w ∈ sf_N := sf_N_in (List.mem_append_right _ (List.mem_append_left _ (List.mem_of_getElem? h))) hg
theorem sf_T_3 {w : Cond} (i : Nat) (h : tables_1_3[i]? = some w) (hg : goodWord w = true) : w ∈ sf_T := sf_T_in (List.mem_append_right _ (List.mem_append_right _ (List.mem_append_left _ (List.mem_of_getElem? h)))) hg
theorem sf_N_3 {w : Cond} (i : Nat) (h : tables_1_3[i]? = some w) (hg : sf_nest w = true) : w ∈ sf_N := sf_N_in (List.mem_append_right _ (List.mem_append_right _ (List.mem_append_left _ (List.mem_of_getElem? h)))) hg
theorem sf_T_4 {w : Cond} (i : Nat) (h : tables_1_4[i]? = some w) (hg : goodWord w = true) : w ∈ sf_T := sf_T_in (List.mem_append_right _ (List.mem_append_right _ (List.mem_append_right _ (List.mem_append_left _ (List.mem_of_getElem? h))))) hg
theorem sf_N_4 {w : Cond} (i : Nat) (h : tables_1_4[i]? = some w) (hg : sf_nest w = true) : w ∈ sf_N := sf_N_in (List.mem_append_right _ (List.mem_append_right _ (List.mem_append_right _ (List.mem_append_left _ (List.mem_of_getElem? h))))) hg
theorem sf_T_5 {w : Cond} (i : Nat) (h : tables_1_5[i]? = some w) (hg : goodWord w = true) : w ∈ sf_T := sf_T_in (List.mem_append_right _ (List.mem_append_right _ (List.mem_append_right _ (List.mem_append_right _ (List.mem_append_left _ (List.mem_of_getElem? h)))))) hg
theorem sf_N_5 {w : Cond} (i : Nat) (h : tables_1_5[i]? = some w) (hg : sf_nest w = true) : w ∈ sf_N := sf_N_in (List.mem_append_right _ (List.mem_append_right _ (List.mem_append_right _ (List.mem_append_right _ (List.mem_append_left _ (List.mem_of_getElem? h)))))) hg
theorem sf_T_6 {w : Cond} (i : Nat) (h : tables_1_6[i]? = some w) (hg : goodWord w = true) : w ∈ sf_T := sf_T_in (List.mem_append_right _ (List.mem_append_right _ (List.mem_append_right _ (List.mem_append_right _ (List.mem_append_right _ (List.mem_append_left _ (List.mem_of_getElem? h))))))) hg
theorem sf_N_6 {w : Cond} (i : Nat) (h : tables_1_6[i]? = some w) (hg : sf_nest w = true) : w ∈ sf_N := sf_N_in (List.mem_append_right _ (List.mem_append_right _ (List.mem_append_right _ (List.mem_append_right _ (List.mem_append_right _ (List.mem_append_left _ (List.mem_of_getElem? h))))))) hg
theorem sf_T_7 {w : Cond} (i : Nat) (h : tables_1_7[i]? = some w) (hg : goodWord w = true) : w ∈ sf_T := sf_T_in (List.mem_append_right _ (List.mem_append_right _ (List.mem_append_right _ (List.mem_append_right _ (List.mem_append_right _ (List.mem_append_right _ ((List.mem_of_getElem? h)))))))) hg
theorem sf_N_7 {w : Cond} (i : Nat) (h : tables_1_7[i]? = some w) (hg : sf_nest w = true) : w ∈ sf_N := sf_N_in (List.mem_append_right _ (List.mem_append_right _ (List.mem_append_right _ (List.mem_append_right _ (List.mem_append_right _ (List.mem_append_right _ ((List.mem_of_getElem? h)))))))) hg
theorem sf_S_1 {q : MethodName × Nat} (i : Nat) (h : lw_privs_1[i]? = some q) : Cond.selects q.1.cls q.1 q.1 ∈ sf_T := sf_S_in (List.mem_append_left _ (List.mem_of_getElem? h))
theorem sf_S_2 {q : MethodName × Nat} (i : Nat) (h : lw_privs_2[i]? = some q) : Cond.selects q.1.cls q.1 q.1 ∈ sf_T := sf_S_in (List.mem_append_right _ (List.mem_append_left _ (List.mem_of_getElem? h)))
theorem sf_S_3 {q : MethodName × Nat} (i : Nat) (h : lw_privs_3[i]? = some q) : Cond.selects q.1.cls q.1 q.1 ∈ sf_T := sf_S_in (List.mem_append_right _ (List.mem_append_right _ (List.mem_append_left _ (List.mem_of_getElem? h))))
theorem sf_S_4 {q : MethodName × Nat} (i : Nat) (h : lw_privs_4[i]? = some q) : Cond.selects q.1.cls q.1 q.1 ∈ sf_T := sf_S_in (List.mem_append_right _ (List.mem_append_right _ (List.mem_append_right _ (List.mem_append_left _ (List.mem_of_getElem? h)))))
theorem sf_S_5 {q : MethodName × Nat} (i : Nat) (h : lw_privs_5[i]? = some q) : Cond.selects q.1.cls q.1 q.1 ∈ sf_T := sf_S_in (List.mem_append_right _ (List.mem_append_right _ (List.mem_append_right _ (List.mem_append_right _ (List.mem_append_left _ (List.mem_of_getElem? h))))))
theorem sf_S_6 {q : MethodName × Nat} (i : Nat) (h : lw_privs_6[i]? = some q) : Cond.selects q.1.cls q.1 q.1 ∈ sf_T := sf_S_in (List.mem_append_right _ (List.mem_append_right _ (List.mem_append_right _ (List.mem_append_right _ (List.mem_append_right _ (List.mem_append_left _ (List.mem_of_getElem? h)))))))
theorem sf_S_7 {q : MethodName × Nat} (i : Nat) (h : lw_privs_7[i]? = some q) : Cond.selects q.1.cls q.1 q.1 ∈ sf_T := sf_S_in (List.mem_append_right _ (List.mem_append_right _ (List.mem_append_right _ (List.mem_append_right _ (List.mem_append_right _ (List.mem_append_right _ (List.mem_append_left _ (List.mem_of_getElem? h))))))))
theorem sf_S_8 {q : MethodName × Nat} (i : Nat) (h : lw_privs_8[i]? = some q) : Cond.selects q.1.cls q.1 q.1 ∈ sf_T := sf_S_in (List.mem_append_right _ (List.mem_append_right _ (List.mem_append_right _ (List.mem_append_right _ (List.mem_append_right _ (List.mem_append_right _ (List.mem_append_right _ (List.mem_append_left _ (List.mem_of_getElem? h)))))))))
theorem sf_S_9 {q : MethodName × Nat} (i : Nat) (h : lw_privs_9[i]? = some q) : Cond.selects q.1.cls q.1 q.1 ∈ sf_T := sf_S_in (List.mem_append_right _ (List.mem_append_right _ (List.mem_append_right _ (List.mem_append_right _ (List.mem_append_right _ (List.mem_append_right _ (List.mem_append_right _ (List.mem_append_right _ ((List.mem_of_getElem? h))))))))))
theorem wt_0 : (Cond.selects "StreamFuser$Reader" ({ cls := "StreamFuser$Reader", name := "append", desc := "(I)Z" } : MethodName) ({ cls := "StreamFuser$Reader", name := "append", desc := "(I)Z" } : MethodName)) ∈ sf_T := sf_S_1 (q := (⟨"StreamFuser$Reader", "append", "(I)Z"⟩, 7)) 0 rfl
theorem wt_1 : (Cond.selects "StreamFuser$Reader" ({ cls := "StreamFuser$Reader", name := "read", desc := "()I" } : MethodName) ({ cls := "StreamFuser$Reader", name := "read", desc := "()I" } : MethodName)) ∈ sf_T := sf_S_1 (q := (⟨"StreamFuser$Reader", "read", "()I"⟩, 7)) 1 rfl
theorem wt_2 : (Cond.selects "StreamFuser$Reader" ({ cls := "StreamFuser$Reader", name := "expect", desc := "(I)V" } : MethodName) ({ cls := "StreamFuser$Reader", name := "expect", desc := "(I)V" } : MethodName)) ∈ sf_T := sf_S_1 (q := (⟨"StreamFuser$Reader", "expect", "(I)V"⟩, 7)) 2 rfl
theorem wt_3 : (Cond.selects "StreamFuser$Reader" ({ cls := "StreamFuser$Reader", name := "readNode", desc := "()V" } : MethodName) ({ cls := "StreamFuser$Reader", name := "readNode", desc := "()V" } : MethodName)) ∈ sf_T := sf_S_1 (q := (⟨"StreamFuser$Reader", "readNode", "()V"⟩, 7)) 3 rfl
theorem wt_4 : (Cond.selects "StreamFuser$Reader" ({ cls := "StreamFuser$Reader", name := "peek", desc := "()I" } : MethodName) ({ cls := "StreamFuser$Reader", name := "peek", desc := "()I" } : MethodName)) ∈ sf_T := sf_S_1 (q := (⟨"StreamFuser$Reader", "peek", "()I"⟩, 7)) 4 rfl
theorem wt_5 : (Cond.selects "StreamFuser$Reader" ({ cls := "StreamFuser$Reader", name := "accept", desc := "(Z)V" } : MethodName) ({ cls := "StreamFuser$Reader", name := "accept", desc := "(Z)V" } : MethodName)) ∈ sf_T := sf_S_1 (q := (⟨"StreamFuser$Reader", "accept", "(Z)V"⟩, 7)) 5 rfl
theorem wt_6 : (Cond.selects "StreamFuser$Reader" ({ cls := "StreamFuser$Reader", name := "readMark", desc := "(I)I" } : MethodName) ({ cls := "StreamFuser$Reader", name := "readMark", desc := "(I)I" } : MethodName)) ∈ sf_T := sf_S_1 (q := (⟨"StreamFuser$Reader", "readMark", "(I)I"⟩, 7)) 6 rfl
theorem wt_7 : (Cond.selects "StreamFuser$Reader" ({ cls := "StreamFuser$Reader", name := "readNumber", desc := "(I)I" } : MethodName) ({ cls := "StreamFuser$Reader", name := "readNumber", desc := "(I)I" } : MethodName)) ∈ sf_T := sf_S_1 (q := (⟨"StreamFuser$Reader", "readNumber", "(I)I"⟩, 7)) 7 rfl
theorem wt_8 : (Cond.selects "StreamFuser$Plan" ({ cls := "StreamFuser$Plan", name := "add", desc := "(IIII)V" } : MethodName) ({ cls := "StreamFuser$Plan", name := "add", desc := "(IIII)V" } : MethodName)) ∈ sf_T := sf_S_1 (q := (⟨"StreamFuser$Plan", "add", "(IIII)V"⟩, 12)) 8 rfl
theorem wt_9 : (Cond.selects "StreamFuser$Reader" ({ cls := "StreamFuser$Reader", name := "expectParts", desc := "(II)V" } : MethodName) ({ cls := "StreamFuser$Reader", name := "expectParts", desc := "(II)V" } : MethodName)) ∈ sf_T := sf_S_1 (q := (⟨"StreamFuser$Reader", "expectParts", "(II)V"⟩, 7)) 9 rfl
theorem wt_10 : (Cond.selects "StreamFuser$Plan" ({ cls := "StreamFuser$Plan", name := "takeFrom", desc := "(LStreamFuser$Plan;)V" } : MethodName) ({ cls := "StreamFuser$Plan", name := "takeFrom", desc := "(LStreamFuser$Plan;)V" } : MethodName)) ∈ sf_T := sf_S_1 (q := (⟨"StreamFuser$Plan", "takeFrom", "(LStreamFuser$Plan;)V"⟩, 12)) 10 rfl
theorem wt_11 : (Cond.selects "StreamFuser$Plan" ({ cls := "StreamFuser$Plan", name := "measure", desc := "()V" } : MethodName) ({ cls := "StreamFuser$Plan", name := "measure", desc := "()V" } : MethodName)) ∈ sf_T := sf_S_1 (q := (⟨"StreamFuser$Plan", "measure", "()V"⟩, 12)) 11 rfl
theorem wt_12 : (Cond.selects "StreamFuser$Plan" ({ cls := "StreamFuser$Plan", name := "measureFromParts", desc := "(I)V" } : MethodName) ({ cls := "StreamFuser$Plan", name := "measureFromParts", desc := "(I)V" } : MethodName)) ∈ sf_T := sf_S_1 (q := (⟨"StreamFuser$Plan", "measureFromParts", "(I)V"⟩, 12)) 12 rfl
theorem wt_13 : (Cond.selects "StreamFuser$Plan" ({ cls := "StreamFuser$Plan", name := "measureParts", desc := "(I)V" } : MethodName) ({ cls := "StreamFuser$Plan", name := "measureParts", desc := "(I)V" } : MethodName)) ∈ sf_T := sf_S_1 (q := (⟨"StreamFuser$Plan", "measureParts", "(I)V"⟩, 12)) 13 rfl
theorem wt_14 : (Cond.selects "StreamFuser$Printer" ({ cls := "StreamFuser$Printer", name := "print", desc := "()V" } : MethodName) ({ cls := "StreamFuser$Printer", name := "print", desc := "()V" } : MethodName)) ∈ sf_T := sf_S_1 (q := (⟨"StreamFuser$Printer", "print", "()V"⟩, 3)) 14 rfl
theorem wt_15 : (Cond.selects "StreamFuser$Printer" ({ cls := "StreamFuser$Printer", name := "printNode", desc := "(I)V" } : MethodName) ({ cls := "StreamFuser$Printer", name := "printNode", desc := "(I)V" } : MethodName)) ∈ sf_T := sf_S_1 (q := (⟨"StreamFuser$Printer", "printNode", "(I)V"⟩, 3)) 15 rfl
theorem wt_16 : (Cond.selects "StreamFuser$Printer" ({ cls := "StreamFuser$Printer", name := "put", desc := "(I)V" } : MethodName) ({ cls := "StreamFuser$Printer", name := "put", desc := "(I)V" } : MethodName)) ∈ sf_T := sf_S_2 (q := (⟨"StreamFuser$Printer", "put", "(I)V"⟩, 3)) 0 rfl
theorem wt_17 : (Cond.selects "StreamFuser$Printer" ({ cls := "StreamFuser$Printer", name := "putNumber", desc := "(I)V" } : MethodName) ({ cls := "StreamFuser$Printer", name := "putNumber", desc := "(I)V" } : MethodName)) ∈ sf_T := sf_S_2 (q := (⟨"StreamFuser$Printer", "putNumber", "(I)V"⟩, 3)) 1 rfl
theorem wt_18 : (Cond.selects "StreamFuser$Plan" ({ cls := "StreamFuser$Plan", name := "has", desc := "(I)Z" } : MethodName) ({ cls := "StreamFuser$Plan", name := "has", desc := "(I)Z" } : MethodName)) ∈ sf_T := sf_S_2 (q := (⟨"StreamFuser$Plan", "has", "(I)Z"⟩, 12)) 2 rfl
theorem wt_19 : (Cond.selects "StreamFuser$Rewriter" ({ cls := "StreamFuser$Rewriter", name := "simplify", desc := "(Z)V" } : MethodName) ({ cls := "StreamFuser$Rewriter", name := "simplify", desc := "(Z)V" } : MethodName)) ∈ sf_T := sf_S_2 (q := (⟨"StreamFuser$Rewriter", "simplify", "(Z)V"⟩, 3)) 3 rfl
theorem wt_20 : (Cond.selects "StreamFuser$Rewriter" ({ cls := "StreamFuser$Rewriter", name := "place", desc := "(Z)I" } : MethodName) ({ cls := "StreamFuser$Rewriter", name := "place", desc := "(Z)I" } : MethodName)) ∈ sf_T := sf_S_2 (q := (⟨"StreamFuser$Rewriter", "place", "(Z)I"⟩, 3)) 4 rfl
theorem wt_21 : (Cond.selects "StreamFuser$Rewriter" ({ cls := "StreamFuser$Rewriter", name := "ruleFor", desc := "(I)I" } : MethodName) ({ cls := "StreamFuser$Rewriter", name := "ruleFor", desc := "(I)I" } : MethodName)) ∈ sf_T := sf_S_2 (q := (⟨"StreamFuser$Rewriter", "ruleFor", "(I)I"⟩, 3)) 5 rfl
theorem wt_22 : (Cond.selects "StreamFuser$Plan" ({ cls := "StreamFuser$Plan", name := "isNil", desc := "(I)Z" } : MethodName) ({ cls := "StreamFuser$Plan", name := "isNil", desc := "(I)Z" } : MethodName)) ∈ sf_T := sf_S_2 (q := (⟨"StreamFuser$Plan", "isNil", "(I)Z"⟩, 12)) 6 rfl
theorem wt_23 : (Cond.selects "StreamFuser$Rewriter" ({ cls := "StreamFuser$Rewriter", name := "ruleForTake", desc := "(I)I" } : MethodName) ({ cls := "StreamFuser$Rewriter", name := "ruleForTake", desc := "(I)I" } : MethodName)) ∈ sf_T := sf_S_2 (q := (⟨"StreamFuser$Rewriter", "ruleForTake", "(I)I"⟩, 3)) 7 rfl
theorem wt_24 : (Cond.selects "StreamFuser$Plan" ({ cls := "StreamFuser$Plan", name := "letterAt", desc := "(I)I" } : MethodName) ({ cls := "StreamFuser$Plan", name := "letterAt", desc := "(I)I" } : MethodName)) ∈ sf_T := sf_S_2 (q := (⟨"StreamFuser$Plan", "letterAt", "(I)I"⟩, 12)) 8 rfl
theorem wt_25 : (Cond.selects "StreamFuser$Rewriter" ({ cls := "StreamFuser$Rewriter", name := "ruleForDrop", desc := "(I)I" } : MethodName) ({ cls := "StreamFuser$Rewriter", name := "ruleForDrop", desc := "(I)I" } : MethodName)) ∈ sf_T := sf_S_2 (q := (⟨"StreamFuser$Rewriter", "ruleForDrop", "(I)I"⟩, 3)) 9 rfl
theorem wt_26 : (Cond.selects "StreamFuser$Plan" ({ cls := "StreamFuser$Plan", name := "secondPart", desc := "(I)I" } : MethodName) ({ cls := "StreamFuser$Plan", name := "secondPart", desc := "(I)I" } : MethodName)) ∈ sf_T := sf_S_2 (q := (⟨"StreamFuser$Plan", "secondPart", "(I)I"⟩, 12)) 10 rfl
theorem wt_27 : (Cond.selects "StreamFuser$Plan" ({ cls := "StreamFuser$Plan", name := "input", desc := "(I)I" } : MethodName) ({ cls := "StreamFuser$Plan", name := "input", desc := "(I)I" } : MethodName)) ∈ sf_T := sf_S_2 (q := (⟨"StreamFuser$Plan", "input", "(I)I"⟩, 12)) 11 rfl
theorem wt_28 : (Cond.selects "StreamFuser$Rewriter" ({ cls := "StreamFuser$Rewriter", name := "apply", desc := "(II)V" } : MethodName) ({ cls := "StreamFuser$Rewriter", name := "apply", desc := "(II)V" } : MethodName)) ∈ sf_T := sf_S_2 (q := (⟨"StreamFuser$Rewriter", "apply", "(II)V"⟩, 3)) 12 rfl
theorem wt_29 : (Cond.selects "StreamFuser$Plan" ({ cls := "StreamFuser$Plan", name := "makeNil", desc := "(I)V" } : MethodName) ({ cls := "StreamFuser$Plan", name := "makeNil", desc := "(I)V" } : MethodName)) ∈ sf_T := sf_S_2 (q := (⟨"StreamFuser$Plan", "makeNil", "(I)V"⟩, 12)) 13 rfl
theorem wt_30 : (Cond.selects "StreamFuser$Plan" ({ cls := "StreamFuser$Plan", name := "cut", desc := "(II)V" } : MethodName) ({ cls := "StreamFuser$Plan", name := "cut", desc := "(II)V" } : MethodName)) ∈ sf_T := sf_S_2 (q := (⟨"StreamFuser$Plan", "cut", "(II)V"⟩, 12)) 14 rfl
theorem wt_31 : (Cond.selects "StreamFuser$Plan" ({ cls := "StreamFuser$Plan", name := "moveNode", desc := "(II)V" } : MethodName) ({ cls := "StreamFuser$Plan", name := "moveNode", desc := "(II)V" } : MethodName)) ∈ sf_T := sf_S_2 (q := (⟨"StreamFuser$Plan", "moveNode", "(II)V"⟩, 12)) 15 rfl
theorem wt_32 : (Cond.selects "StreamFuser$Plan" ({ cls := "StreamFuser$Plan", name := "swapWithNext", desc := "(I)V" } : MethodName) ({ cls := "StreamFuser$Plan", name := "swapWithNext", desc := "(I)V" } : MethodName)) ∈ sf_T := sf_S_3 (q := (⟨"StreamFuser$Plan", "swapWithNext", "(I)V"⟩, 12)) 0 rfl
theorem wt_33 : (Cond.selects "StreamFuser$Rewriter" ({ cls := "StreamFuser$Rewriter", name := "swapDropWithTake", desc := "(I)V" } : MethodName) ({ cls := "StreamFuser$Rewriter", name := "swapDropWithTake", desc := "(I)V" } : MethodName)) ∈ sf_T := sf_S_3 (q := (⟨"StreamFuser$Rewriter", "swapDropWithTake", "(I)V"⟩, 3)) 1 rfl
theorem wt_34 : (Cond.selects "StreamFuser$Rewriter" ({ cls := "StreamFuser$Rewriter", name := "keepOnePart", desc := "(I)V" } : MethodName) ({ cls := "StreamFuser$Rewriter", name := "keepOnePart", desc := "(I)V" } : MethodName)) ∈ sf_T := sf_S_3 (q := (⟨"StreamFuser$Rewriter", "keepOnePart", "(I)V"⟩, 3)) 2 rfl
theorem wt_35 : (Cond.selects "StreamFuser$Rewriter" ({ cls := "StreamFuser$Rewriter", name := "mergeWithNext", desc := "(II)V" } : MethodName) ({ cls := "StreamFuser$Rewriter", name := "mergeWithNext", desc := "(II)V" } : MethodName)) ∈ sf_T := sf_S_3 (q := (⟨"StreamFuser$Rewriter", "mergeWithNext", "(II)V"⟩, 3)) 3 rfl
theorem wt_36 : (Cond.selects "StreamFuser$Asker" ({ cls := "StreamFuser$Asker", name := "play", desc := "(I)V" } : MethodName) ({ cls := "StreamFuser$Asker", name := "play", desc := "(I)V" } : MethodName)) ∈ sf_T := sf_S_3 (q := (⟨"StreamFuser$Asker", "play", "(I)V"⟩, 7)) 4 rfl
theorem wt_37 : (Cond.selects "StreamFuser$Run" ({ cls := "StreamFuser$Run", name := "begin", desc := "()V" } : MethodName) ({ cls := "StreamFuser$Run", name := "begin", desc := "()V" } : MethodName)) ∈ sf_T := sf_S_3 (q := (⟨"StreamFuser$Run", "begin", "()V"⟩, 10)) 5 rfl
theorem wt_38 : (Cond.selects "StreamFuser$Asker" ({ cls := "StreamFuser$Asker", name := "ask", desc := "(II)Z" } : MethodName) ({ cls := "StreamFuser$Asker", name := "ask", desc := "(II)Z" } : MethodName)) ∈ sf_T := sf_S_3 (q := (⟨"StreamFuser$Asker", "ask", "(II)Z"⟩, 7)) 6 rfl
theorem wt_39 : (Cond.selects "StreamFuser$Run" ({ cls := "StreamFuser$Run", name := "fail", desc := "(II)V" } : MethodName) ({ cls := "StreamFuser$Run", name := "fail", desc := "(II)V" } : MethodName)) ∈ sf_T := sf_S_3 (q := (⟨"StreamFuser$Run", "fail", "(II)V"⟩, 10)) 7 rfl
theorem wt_40 : (Cond.selects "StreamFuser$Run" ({ cls := "StreamFuser$Run", name := "note", desc := "(II)V" } : MethodName) ({ cls := "StreamFuser$Run", name := "note", desc := "(II)V" } : MethodName)) ∈ sf_T := sf_S_3 (q := (⟨"StreamFuser$Run", "note", "(II)V"⟩, 10)) 8 rfl
theorem wt_41 : (Cond.selects "StreamFuser$Asker" ({ cls := "StreamFuser$Asker", name := "askFilter", desc := "(II)Z" } : MethodName) ({ cls := "StreamFuser$Asker", name := "askFilter", desc := "(II)Z" } : MethodName)) ∈ sf_T := sf_S_3 (q := (⟨"StreamFuser$Asker", "askFilter", "(II)Z"⟩, 7)) 9 rfl
theorem wt_42 : (Cond.selects "StreamFuser$Asker" ({ cls := "StreamFuser$Asker", name := "askWhile", desc := "(II)Z" } : MethodName) ({ cls := "StreamFuser$Asker", name := "askWhile", desc := "(II)Z" } : MethodName)) ∈ sf_T := sf_S_3 (q := (⟨"StreamFuser$Asker", "askWhile", "(II)Z"⟩, 7)) 10 rfl
theorem wt_43 : (Cond.selects "StreamFuser$Asker" ({ cls := "StreamFuser$Asker", name := "askTake", desc := "(II)Z" } : MethodName) ({ cls := "StreamFuser$Asker", name := "askTake", desc := "(II)Z" } : MethodName)) ∈ sf_T := sf_S_3 (q := (⟨"StreamFuser$Asker", "askTake", "(II)Z"⟩, 7)) 11 rfl
theorem wt_44 : (Cond.selects "StreamFuser$Asker" ({ cls := "StreamFuser$Asker", name := "askDrop", desc := "(II)Z" } : MethodName) ({ cls := "StreamFuser$Asker", name := "askDrop", desc := "(II)Z" } : MethodName)) ∈ sf_T := sf_S_3 (q := (⟨"StreamFuser$Asker", "askDrop", "(II)Z"⟩, 7)) 12 rfl
theorem wt_45 : (Cond.selects "StreamFuser$Asker" ({ cls := "StreamFuser$Asker", name := "askChain", desc := "(II)Z" } : MethodName) ({ cls := "StreamFuser$Asker", name := "askChain", desc := "(II)Z" } : MethodName)) ∈ sf_T := sf_S_3 (q := (⟨"StreamFuser$Asker", "askChain", "(II)Z"⟩, 7)) 13 rfl
theorem wt_46 : (Cond.selects "StreamFuser$Run" ({ cls := "StreamFuser$Run", name := "failed", desc := "()Z" } : MethodName) ({ cls := "StreamFuser$Run", name := "failed", desc := "()Z" } : MethodName)) ∈ sf_T := sf_S_3 (q := (⟨"StreamFuser$Run", "failed", "()Z"⟩, 10)) 14 rfl
theorem wt_47 : (Cond.selects "StreamFuser$Asker" ({ cls := "StreamFuser$Asker", name := "askZip", desc := "(II)Z" } : MethodName) ({ cls := "StreamFuser$Asker", name := "askZip", desc := "(II)Z" } : MethodName)) ∈ sf_T := sf_S_3 (q := (⟨"StreamFuser$Asker", "askZip", "(II)Z"⟩, 7)) 15 rfl
theorem wt_48 : (Cond.selects "StreamFuser$Asker" ({ cls := "StreamFuser$Asker", name := "askOpener", desc := "(II)Z" } : MethodName) ({ cls := "StreamFuser$Asker", name := "askOpener", desc := "(II)Z" } : MethodName)) ∈ sf_T := sf_S_4 (q := (⟨"StreamFuser$Asker", "askOpener", "(II)Z"⟩, 7)) 0 rfl
theorem wt_49 : (Cond.selects "StreamFuser$Sheets" ({ cls := "StreamFuser$Sheets", name := "isLost", desc := "(I)Z" } : MethodName) ({ cls := "StreamFuser$Sheets", name := "isLost", desc := "(I)Z" } : MethodName)) ∈ sf_T := sf_S_4 (q := (⟨"StreamFuser$Sheets", "isLost", "(I)Z"⟩, 3)) 1 rfl
theorem wt_50 : (Cond.selects "StreamFuser$Run" ({ cls := "StreamFuser$Run", name := "draw", desc := "(I)Z" } : MethodName) ({ cls := "StreamFuser$Run", name := "draw", desc := "(I)Z" } : MethodName)) ∈ sf_T := sf_S_4 (q := (⟨"StreamFuser$Run", "draw", "(I)Z"⟩, 10)) 2 rfl
theorem wt_51 : (Cond.selects "StreamFuser$Sheets" ({ cls := "StreamFuser$Sheets", name := "at", desc := "(II)I" } : MethodName) ({ cls := "StreamFuser$Sheets", name := "at", desc := "(II)I" } : MethodName)) ∈ sf_T := sf_S_4 (q := (⟨"StreamFuser$Sheets", "at", "(II)I"⟩, 3)) 3 rfl
theorem wt_52 : (Cond.selects "StreamFuser$Run" ({ cls := "StreamFuser$Run", name := "give", desc := "(I)V" } : MethodName) ({ cls := "StreamFuser$Run", name := "give", desc := "(I)V" } : MethodName)) ∈ sf_T := sf_S_4 (q := (⟨"StreamFuser$Run", "give", "(I)V"⟩, 10)) 4 rfl
theorem wt_53 : (Cond.selects "StreamFuser$Stepper" ({ cls := "StreamFuser$Stepper", name := "play", desc := "(I)V" } : MethodName) ({ cls := "StreamFuser$Stepper", name := "play", desc := "(I)V" } : MethodName)) ∈ sf_T := sf_S_4 (q := (⟨"StreamFuser$Stepper", "play", "(I)V"⟩, 8)) 5 rfl
theorem wt_54 : (Cond.selects "StreamFuser$Stepper" ({ cls := "StreamFuser$Stepper", name := "step", desc := "(II)I" } : MethodName) ({ cls := "StreamFuser$Stepper", name := "step", desc := "(II)I" } : MethodName)) ∈ sf_T := sf_S_4 (q := (⟨"StreamFuser$Stepper", "step", "(II)I"⟩, 8)) 6 rfl
theorem wt_55 : (Cond.selects "StreamFuser$Stepper" ({ cls := "StreamFuser$Stepper", name := "stepChain", desc := "(II)I" } : MethodName) ({ cls := "StreamFuser$Stepper", name := "stepChain", desc := "(II)I" } : MethodName)) ∈ sf_T := sf_S_4 (q := (⟨"StreamFuser$Stepper", "stepChain", "(II)I"⟩, 8)) 7 rfl
theorem wt_56 : (Cond.selects "StreamFuser$Stepper" ({ cls := "StreamFuser$Stepper", name := "stepZip", desc := "(II)I" } : MethodName) ({ cls := "StreamFuser$Stepper", name := "stepZip", desc := "(II)I" } : MethodName)) ∈ sf_T := sf_S_4 (q := (⟨"StreamFuser$Stepper", "stepZip", "(II)I"⟩, 8)) 8 rfl
theorem wt_57 : (Cond.selects "StreamFuser$Stepper" ({ cls := "StreamFuser$Stepper", name := "stepOpener", desc := "(II)I" } : MethodName) ({ cls := "StreamFuser$Stepper", name := "stepOpener", desc := "(II)I" } : MethodName)) ∈ sf_T := sf_S_4 (q := (⟨"StreamFuser$Stepper", "stepOpener", "(II)I"⟩, 8)) 9 rfl
theorem wt_58 : (Cond.selects "StreamFuser$Stepper" ({ cls := "StreamFuser$Stepper", name := "given", desc := "(Z)I" } : MethodName) ({ cls := "StreamFuser$Stepper", name := "given", desc := "(Z)I" } : MethodName)) ∈ sf_T := sf_S_4 (q := (⟨"StreamFuser$Stepper", "given", "(Z)I"⟩, 8)) 10 rfl
theorem wt_59 : (Cond.selects "StreamFuser$Stepper" ({ cls := "StreamFuser$Stepper", name := "stepOne", desc := "(II)I" } : MethodName) ({ cls := "StreamFuser$Stepper", name := "stepOne", desc := "(II)I" } : MethodName)) ∈ sf_T := sf_S_4 (q := (⟨"StreamFuser$Stepper", "stepOne", "(II)I"⟩, 8)) 11 rfl
theorem wt_60 : (Cond.selects "StreamFuser$Maker" ({ cls := "StreamFuser$Maker", name := "play", desc := "(I)V" } : MethodName) ({ cls := "StreamFuser$Maker", name := "play", desc := "(I)V" } : MethodName)) ∈ sf_T := sf_S_4 (q := (⟨"StreamFuser$Maker", "play", "(I)V"⟩, 7)) 12 rfl
theorem wt_61 : (Cond.selects "StreamFuser$Maker" ({ cls := "StreamFuser$Maker", name := "make", desc := "(II)Z" } : MethodName) ({ cls := "StreamFuser$Maker", name := "make", desc := "(II)Z" } : MethodName)) ∈ sf_T := sf_S_4 (q := (⟨"StreamFuser$Maker", "make", "(II)Z"⟩, 7)) 13 rfl
theorem wt_62 : (Cond.selects "StreamFuser$Maker" ({ cls := "StreamFuser$Maker", name := "fill", desc := "(II)Z" } : MethodName) ({ cls := "StreamFuser$Maker", name := "fill", desc := "(II)Z" } : MethodName)) ∈ sf_T := sf_S_4 (q := (⟨"StreamFuser$Maker", "fill", "(II)Z"⟩, 7)) 14 rfl
theorem wt_63 : (Cond.selects "StreamFuser$Maker" ({ cls := "StreamFuser$Maker", name := "fillFromProducer", desc := "(I)Z" } : MethodName) ({ cls := "StreamFuser$Maker", name := "fillFromProducer", desc := "(I)Z" } : MethodName)) ∈ sf_T := sf_S_4 (q := (⟨"StreamFuser$Maker", "fillFromProducer", "(I)Z"⟩, 7)) 15 rfl
theorem wt_64 : (Cond.selects "StreamFuser$Maker" ({ cls := "StreamFuser$Maker", name := "add", desc := "(II)V" } : MethodName) ({ cls := "StreamFuser$Maker", name := "add", desc := "(II)V" } : MethodName)) ∈ sf_T := sf_S_5 (q := (⟨"StreamFuser$Maker", "add", "(II)V"⟩, 7)) 0 rfl
theorem wt_65 : (Cond.selects "StreamFuser$Maker" ({ cls := "StreamFuser$Maker", name := "fillByOpening", desc := "(II)Z" } : MethodName) ({ cls := "StreamFuser$Maker", name := "fillByOpening", desc := "(II)Z" } : MethodName)) ∈ sf_T := sf_S_5 (q := (⟨"StreamFuser$Maker", "fillByOpening", "(II)Z"⟩, 7)) 1 rfl
theorem wt_66 : (Cond.selects "StreamFuser$Maker" ({ cls := "StreamFuser$Maker", name := "element", desc := "(II)I" } : MethodName) ({ cls := "StreamFuser$Maker", name := "element", desc := "(II)I" } : MethodName)) ∈ sf_T := sf_S_5 (q := (⟨"StreamFuser$Maker", "element", "(II)I"⟩, 7)) 2 rfl
theorem wt_67 : (Cond.selects "StreamFuser$Maker" ({ cls := "StreamFuser$Maker", name := "addRow", desc := "(II)Z" } : MethodName) ({ cls := "StreamFuser$Maker", name := "addRow", desc := "(II)Z" } : MethodName)) ∈ sf_T := sf_S_5 (q := (⟨"StreamFuser$Maker", "addRow", "(II)Z"⟩, 7)) 3 rfl
theorem wt_68 : (Cond.selects "StreamFuser$Maker" ({ cls := "StreamFuser$Maker", name := "fillFromInput", desc := "(I)Z" } : MethodName) ({ cls := "StreamFuser$Maker", name := "fillFromInput", desc := "(I)Z" } : MethodName)) ∈ sf_T := sf_S_5 (q := (⟨"StreamFuser$Maker", "fillFromInput", "(I)Z"⟩, 7)) 4 rfl
theorem wt_69 : (Cond.selects "StreamFuser$Maker" ({ cls := "StreamFuser$Maker", name := "zip", desc := "(II)V" } : MethodName) ({ cls := "StreamFuser$Maker", name := "zip", desc := "(II)V" } : MethodName)) ∈ sf_T := sf_S_5 (q := (⟨"StreamFuser$Maker", "zip", "(II)V"⟩, 7)) 5 rfl
theorem wt_70 : (Cond.selects "StreamFuser$Run" ({ cls := "StreamFuser$Run", name := "sum", desc := "()J" } : MethodName) ({ cls := "StreamFuser$Run", name := "sum", desc := "()J" } : MethodName)) ∈ sf_T := sf_S_5 (q := (⟨"StreamFuser$Run", "sum", "()J"⟩, 10)) 6 rfl
theorem wt_71 : (Cond.selects "StreamFuser$Run" ({ cls := "StreamFuser$Run", name := "greatest", desc := "()I" } : MethodName) ({ cls := "StreamFuser$Run", name := "greatest", desc := "()I" } : MethodName)) ∈ sf_T := sf_S_5 (q := (⟨"StreamFuser$Run", "greatest", "()I"⟩, 10)) 7 rfl
theorem wt_72 : (Cond.selects "StreamFuser$Run" ({ cls := "StreamFuser$Run", name := "smallest", desc := "()I" } : MethodName) ({ cls := "StreamFuser$Run", name := "smallest", desc := "()I" } : MethodName)) ∈ sf_T := sf_S_5 (q := (⟨"StreamFuser$Run", "smallest", "()I"⟩, 10)) 8 rfl
theorem wt_73 : (Cond.selects "StreamFuser$Run" ({ cls := "StreamFuser$Run", name := "kept", desc := "()I" } : MethodName) ({ cls := "StreamFuser$Run", name := "kept", desc := "()I" } : MethodName)) ∈ sf_T := sf_S_5 (q := (⟨"StreamFuser$Run", "kept", "()I"⟩, 10)) 9 rfl
theorem wt_74 : (Cond.selects "StreamFuser" ({ cls := "StreamFuser", name := "find", desc := "(I)I" } : MethodName) ({ cls := "StreamFuser", name := "find", desc := "(I)I" } : MethodName)) ∈ sf_T := sf_S_5 (q := (⟨"StreamFuser", "find", "(I)I"⟩, 14)) 10 rfl
theorem wt_75 : (Cond.selects "StreamFuser$Sheets" ({ cls := "StreamFuser$Sheets", name := "renew", desc := "(III)V" } : MethodName) ({ cls := "StreamFuser$Sheets", name := "renew", desc := "(III)V" } : MethodName)) ∈ sf_T := sf_S_5 (q := (⟨"StreamFuser$Sheets", "renew", "(III)V"⟩, 3)) 11 rfl
theorem wt_76 : (Cond.selects "StreamFuser" ({ cls := "StreamFuser", name := "elementError", desc := "(III)I" } : MethodName) ({ cls := "StreamFuser", name := "elementError", desc := "(III)I" } : MethodName)) ∈ sf_T := sf_S_5 (q := (⟨"StreamFuser", "elementError", "(III)I"⟩, 14)) 12 rfl
theorem wt_77 : (Cond.selects "StreamFuser$Sheets" ({ cls := "StreamFuser$Sheets", name := "hasElement", desc := "(II)Z" } : MethodName) ({ cls := "StreamFuser$Sheets", name := "hasElement", desc := "(II)Z" } : MethodName)) ∈ sf_T := sf_S_5 (q := (⟨"StreamFuser$Sheets", "hasElement", "(II)Z"⟩, 3)) 13 rfl
theorem wt_78 : (Cond.selects "StreamFuser$Sheets" ({ cls := "StreamFuser$Sheets", name := "store", desc := "(III)V" } : MethodName) ({ cls := "StreamFuser$Sheets", name := "store", desc := "(III)V" } : MethodName)) ∈ sf_T := sf_S_5 (q := (⟨"StreamFuser$Sheets", "store", "(III)V"⟩, 3)) 14 rfl
theorem wt_79 : (Cond.selects "StreamFuser$Sheets" ({ cls := "StreamFuser$Sheets", name := "hasPart", desc := "(III)Z" } : MethodName) ({ cls := "StreamFuser$Sheets", name := "hasPart", desc := "(III)Z" } : MethodName)) ∈ sf_T := sf_S_5 (q := (⟨"StreamFuser$Sheets", "hasPart", "(III)Z"⟩, 3)) 15 rfl
theorem wt_80 : (Cond.selects "StreamFuser$Sheets" ({ cls := "StreamFuser$Sheets", name := "move", desc := "(IIIII)V" } : MethodName) ({ cls := "StreamFuser$Sheets", name := "move", desc := "(IIIII)V" } : MethodName)) ∈ sf_T := sf_S_6 (q := (⟨"StreamFuser$Sheets", "move", "(IIIII)V"⟩, 3)) 0 rfl
theorem wt_81 : (Cond.selects "StreamFuser" ({ cls := "StreamFuser", name := "mixPlan", desc := "(J)J" } : MethodName) ({ cls := "StreamFuser", name := "mixPlan", desc := "(J)J" } : MethodName)) ∈ sf_T := sf_S_6 (q := (⟨"StreamFuser", "mixPlan", "(J)J"⟩, 14)) 1 rfl
theorem wt_82 : (Cond.selects "StreamFuser" ({ cls := "StreamFuser", name := "mixRun", desc := "(J)J" } : MethodName) ({ cls := "StreamFuser", name := "mixRun", desc := "(J)J" } : MethodName)) ∈ sf_T := sf_S_6 (q := (⟨"StreamFuser", "mixRun", "(J)J"⟩, 14)) 2 rfl
theorem wt_83 : (Cond.selects "StreamFuserModel" ({ cls := "StreamFuserModel", name := "finds", desc := "(I)I" } : MethodName) ({ cls := "StreamFuserModel", name := "finds", desc := "(I)I" } : MethodName)) ∈ sf_T := sf_S_6 (q := (⟨"StreamFuserModel", "finds", "(I)I"⟩, 59)) 3 rfl
theorem wt_84 : (Cond.selects "StreamFuserModel" ({ cls := "StreamFuserModel", name := "lacks", desc := "(III)I" } : MethodName) ({ cls := "StreamFuserModel", name := "lacks", desc := "(III)I" } : MethodName)) ∈ sf_T := sf_S_6 (q := (⟨"StreamFuserModel", "lacks", "(III)I"⟩, 59)) 4 rfl
theorem wt_85 : (Cond.selects "StreamFuserModel" ({ cls := "StreamFuserModel", name := "faultNow", desc := "()I" } : MethodName) ({ cls := "StreamFuserModel", name := "faultNow", desc := "()I" } : MethodName)) ∈ sf_T := sf_S_6 (q := (⟨"StreamFuserModel", "faultNow", "()I"⟩, 59)) 5 rfl
theorem wt_86 : (Cond.selects "StreamFuserModel" ({ cls := "StreamFuserModel", name := "takesLetter", desc := "(II)Z" } : MethodName) ({ cls := "StreamFuserModel", name := "takesLetter", desc := "(II)Z" } : MethodName)) ∈ sf_T := sf_S_6 (q := (⟨"StreamFuserModel", "takesLetter", "(II)Z"⟩, 59)) 6 rfl
theorem wt_87 : (Cond.selects "StreamFuserModel" ({ cls := "StreamFuserModel", name := "wantsBehind", desc := "(II)V" } : MethodName) ({ cls := "StreamFuserModel", name := "wantsBehind", desc := "(II)V" } : MethodName)) ∈ sf_T := sf_S_6 (q := (⟨"StreamFuserModel", "wantsBehind", "(II)V"⟩, 59)) 7 rfl
theorem wt_88 : (Cond.selects "StreamFuserModel" ({ cls := "StreamFuserModel", name := "wants", desc := "(I)V" } : MethodName) ({ cls := "StreamFuserModel", name := "wants", desc := "(I)V" } : MethodName)) ∈ sf_T := sf_S_6 (q := (⟨"StreamFuserModel", "wants", "(I)V"⟩, 59)) 8 rfl
theorem wt_89 : (Cond.selects "StreamFuserModel" ({ cls := "StreamFuserModel", name := "takesNumber", desc := "(II)Z" } : MethodName) ({ cls := "StreamFuserModel", name := "takesNumber", desc := "(II)Z" } : MethodName)) ∈ sf_T := sf_S_6 (q := (⟨"StreamFuserModel", "takesNumber", "(II)Z"⟩, 59)) 9 rfl
theorem wt_90 : (Cond.selects "StreamFuserModel" ({ cls := "StreamFuserModel", name := "takesSign", desc := "(II)Z" } : MethodName) ({ cls := "StreamFuserModel", name := "takesSign", desc := "(II)Z" } : MethodName)) ∈ sf_T := sf_S_6 (q := (⟨"StreamFuserModel", "takesSign", "(II)Z"⟩, 59)) 10 rfl
theorem wt_91 : (Cond.selects "StreamFuserModel" ({ cls := "StreamFuserModel", name := "places", desc := "()V" } : MethodName) ({ cls := "StreamFuserModel", name := "places", desc := "()V" } : MethodName)) ∈ sf_T := sf_S_6 (q := (⟨"StreamFuserModel", "places", "()V"⟩, 59)) 11 rfl
theorem wt_92 : (Cond.selects "StreamFuserModel" ({ cls := "StreamFuserModel", name := "hangs", desc := "(IIZ)V" } : MethodName) ({ cls := "StreamFuserModel", name := "hangs", desc := "(IIZ)V" } : MethodName)) ∈ sf_T := sf_S_6 (q := (⟨"StreamFuserModel", "hangs", "(IIZ)V"⟩, 59)) 12 rfl
theorem wt_93 : (Cond.selects "StreamFuserModel" ({ cls := "StreamFuserModel", name := "nodeBy", desc := "(II)I" } : MethodName) ({ cls := "StreamFuserModel", name := "nodeBy", desc := "(II)I" } : MethodName)) ∈ sf_T := sf_S_6 (q := (⟨"StreamFuserModel", "nodeBy", "(II)I"⟩, 59)) 13 rfl
theorem wt_94 : (Cond.selects "StreamFuserModel" ({ cls := "StreamFuserModel", name := "isPure", desc := "(I)Z" } : MethodName) ({ cls := "StreamFuserModel", name := "isPure", desc := "(I)Z" } : MethodName)) ∈ sf_T := sf_S_6 (q := (⟨"StreamFuserModel", "isPure", "(I)Z"⟩, 59)) 14 rfl
theorem wt_95 : (Cond.selects "StreamFuserModel" ({ cls := "StreamFuserModel", name := "writesPlan", desc := "()V" } : MethodName) ({ cls := "StreamFuserModel", name := "writesPlan", desc := "()V" } : MethodName)) ∈ sf_T := sf_S_6 (q := (⟨"StreamFuserModel", "writesPlan", "()V"⟩, 59)) 15 rfl
theorem wt_96 : (Cond.selects "StreamFuserModel" ({ cls := "StreamFuserModel", name := "tells", desc := "(I)V" } : MethodName) ({ cls := "StreamFuserModel", name := "tells", desc := "(I)V" } : MethodName)) ∈ sf_T := sf_S_7 (q := (⟨"StreamFuserModel", "tells", "(I)V"⟩, 59)) 0 rfl
theorem wt_97 : (Cond.selects "StreamFuserModel" ({ cls := "StreamFuserModel", name := "tellsNumber", desc := "(I)V" } : MethodName) ({ cls := "StreamFuserModel", name := "tellsNumber", desc := "(I)V" } : MethodName)) ∈ sf_T := sf_S_7 (q := (⟨"StreamFuserModel", "tellsNumber", "(I)V"⟩, 59)) 1 rfl
theorem wt_98 : (Cond.selects "StreamFuserModel" ({ cls := "StreamFuserModel", name := "textBy", desc := "(I)I" } : MethodName) ({ cls := "StreamFuserModel", name := "textBy", desc := "(I)I" } : MethodName)) ∈ sf_T := sf_S_7 (q := (⟨"StreamFuserModel", "textBy", "(I)I"⟩, 59)) 2 rfl
theorem wt_99 : (Cond.selects "StreamFuserModel" ({ cls := "StreamFuserModel", name := "tidies", desc := "(I)I" } : MethodName) ({ cls := "StreamFuserModel", name := "tidies", desc := "(I)I" } : MethodName)) ∈ sf_T := sf_S_7 (q := (⟨"StreamFuserModel", "tidies", "(I)I"⟩, 59)) 3 rfl
theorem wt_100 : (Cond.selects "StreamFuserModel" ({ cls := "StreamFuserModel", name := "tidiesOnce", desc := "(I)Z" } : MethodName) ({ cls := "StreamFuserModel", name := "tidiesOnce", desc := "(I)Z" } : MethodName)) ∈ sf_T := sf_S_7 (q := (⟨"StreamFuserModel", "tidiesOnce", "(I)Z"⟩, 59)) 4 rfl
theorem wt_101 : (Cond.selects "StreamFuserModel" ({ cls := "StreamFuserModel", name := "ruleAt", desc := "(I)I" } : MethodName) ({ cls := "StreamFuserModel", name := "ruleAt", desc := "(I)I" } : MethodName)) ∈ sf_T := sf_S_7 (q := (⟨"StreamFuserModel", "ruleAt", "(I)I"⟩, 59)) 5 rfl
theorem wt_102 : (Cond.selects "StreamFuserModel" ({ cls := "StreamFuserModel", name := "isNil", desc := "(I)Z" } : MethodName) ({ cls := "StreamFuserModel", name := "isNil", desc := "(I)Z" } : MethodName)) ∈ sf_T := sf_S_7 (q := (⟨"StreamFuserModel", "isNil", "(I)Z"⟩, 59)) 6 rfl
theorem wt_103 : (Cond.selects "StreamFuserModel" ({ cls := "StreamFuserModel", name := "ruleOfCut", desc := "(I)I" } : MethodName) ({ cls := "StreamFuserModel", name := "ruleOfCut", desc := "(I)I" } : MethodName)) ∈ sf_T := sf_S_7 (q := (⟨"StreamFuserModel", "ruleOfCut", "(I)I"⟩, 59)) 7 rfl
theorem wt_104 : (Cond.selects "StreamFuserModel" ({ cls := "StreamFuserModel", name := "uses", desc := "(II)V" } : MethodName) ({ cls := "StreamFuserModel", name := "uses", desc := "(II)V" } : MethodName)) ∈ sf_T := sf_S_7 (q := (⟨"StreamFuserModel", "uses", "(II)V"⟩, 59)) 8 rfl
theorem wt_105 : (Cond.selects "StreamFuserModel" ({ cls := "StreamFuserModel", name := "becomes", desc := "(IIII)V" } : MethodName) ({ cls := "StreamFuserModel", name := "becomes", desc := "(IIII)V" } : MethodName)) ∈ sf_T := sf_S_7 (q := (⟨"StreamFuserModel", "becomes", "(IIII)V"⟩, 59)) 9 rfl
theorem wt_106 : (Cond.selects "StreamFuserModel" ({ cls := "StreamFuserModel", name := "cuts", desc := "(II)V" } : MethodName) ({ cls := "StreamFuserModel", name := "cuts", desc := "(II)V" } : MethodName)) ∈ sf_T := sf_S_7 (q := (⟨"StreamFuserModel", "cuts", "(II)V"⟩, 59)) 10 rfl
theorem wt_107 : (Cond.selects "StreamFuserModel" ({ cls := "StreamFuserModel", name := "turns", desc := "(I)V" } : MethodName) ({ cls := "StreamFuserModel", name := "turns", desc := "(I)V" } : MethodName)) ∈ sf_T := sf_S_7 (q := (⟨"StreamFuserModel", "turns", "(I)V"⟩, 59)) 11 rfl
theorem wt_108 : (Cond.selects "StreamFuserModel" ({ cls := "StreamFuserModel", name := "usesMore", desc := "(III)V" } : MethodName) ({ cls := "StreamFuserModel", name := "usesMore", desc := "(III)V" } : MethodName)) ∈ sf_T := sf_S_7 (q := (⟨"StreamFuserModel", "usesMore", "(III)V"⟩, 59)) 12 rfl
theorem wt_109 : (Cond.selects "StreamFuserModel" ({ cls := "StreamFuserModel", name := "nil", desc := "(I)V" } : MethodName) ({ cls := "StreamFuserModel", name := "nil", desc := "(I)V" } : MethodName)) ∈ sf_T := sf_S_7 (q := (⟨"StreamFuserModel", "nil", "(I)V"⟩, 59)) 13 rfl
theorem wt_110 : (Cond.selects "StreamFuserModel" ({ cls := "StreamFuserModel", name := "hasEndless", desc := "()Z" } : MethodName) ({ cls := "StreamFuserModel", name := "hasEndless", desc := "()Z" } : MethodName)) ∈ sf_T := sf_S_7 (q := (⟨"StreamFuserModel", "hasEndless", "()Z"⟩, 59)) 14 rfl
theorem wt_111 : (Cond.selects "StreamFuserModel" ({ cls := "StreamFuserModel", name := "runs", desc := "(II)V" } : MethodName) ({ cls := "StreamFuserModel", name := "runs", desc := "(II)V" } : MethodName)) ∈ sf_T := sf_S_7 (q := (⟨"StreamFuserModel", "runs", "(II)V"⟩, 59)) 15 rfl
theorem wt_112 : (Cond.selects "StreamFuserModel" ({ cls := "StreamFuserModel", name := "begins", desc := "(II)V" } : MethodName) ({ cls := "StreamFuserModel", name := "begins", desc := "(II)V" } : MethodName)) ∈ sf_T := sf_S_8 (q := (⟨"StreamFuserModel", "begins", "(II)V"⟩, 59)) 0 rfl
theorem wt_113 : (Cond.selects "StreamFuserModel" ({ cls := "StreamFuserModel", name := "makesRows", desc := "()V" } : MethodName) ({ cls := "StreamFuserModel", name := "makesRows", desc := "()V" } : MethodName)) ∈ sf_T := sf_S_8 (q := (⟨"StreamFuserModel", "makesRows", "()V"⟩, 59)) 1 rfl
theorem wt_114 : (Cond.selects "StreamFuserModel" ({ cls := "StreamFuserModel", name := "wantsRow", desc := "(I)I" } : MethodName) ({ cls := "StreamFuserModel", name := "wantsRow", desc := "(I)I" } : MethodName)) ∈ sf_T := sf_S_8 (q := (⟨"StreamFuserModel", "wantsRow", "(I)I"⟩, 59)) 2 rfl
theorem wt_115 : (Cond.selects "StreamFuserModel" ({ cls := "StreamFuserModel", name := "opensRow", desc := "(I)I" } : MethodName) ({ cls := "StreamFuserModel", name := "opensRow", desc := "(I)I" } : MethodName)) ∈ sf_T := sf_S_8 (q := (⟨"StreamFuserModel", "opensRow", "(I)I"⟩, 59)) 3 rfl
theorem wt_116 : (Cond.selects "StreamFuserModel" ({ cls := "StreamFuserModel", name := "fails", desc := "(II)V" } : MethodName) ({ cls := "StreamFuserModel", name := "fails", desc := "(II)V" } : MethodName)) ∈ sf_T := sf_S_8 (q := (⟨"StreamFuserModel", "fails", "(II)V"⟩, 59)) 4 rfl
theorem wt_117 : (Cond.selects "StreamFuserModel" ({ cls := "StreamFuserModel", name := "adds", desc := "(II)V" } : MethodName) ({ cls := "StreamFuserModel", name := "adds", desc := "(II)V" } : MethodName)) ∈ sf_T := sf_S_8 (q := (⟨"StreamFuserModel", "adds", "(II)V"⟩, 59)) 5 rfl
theorem wt_118 : (Cond.selects "StreamFuserModel" ({ cls := "StreamFuserModel", name := "fills", desc := "(I)V" } : MethodName) ({ cls := "StreamFuserModel", name := "fills", desc := "(I)V" } : MethodName)) ∈ sf_T := sf_S_8 (q := (⟨"StreamFuserModel", "fills", "(I)V"⟩, 59)) 6 rfl
theorem wt_119 : (Cond.selects "StreamFuserModel" ({ cls := "StreamFuserModel", name := "draws", desc := "()Z" } : MethodName) ({ cls := "StreamFuserModel", name := "draws", desc := "()Z" } : MethodName)) ∈ sf_T := sf_S_8 (q := (⟨"StreamFuserModel", "draws", "()Z"⟩, 59)) 7 rfl
theorem wt_120 : (Cond.selects "StreamFuserModel" ({ cls := "StreamFuserModel", name := "changesRow", desc := "(I)V" } : MethodName) ({ cls := "StreamFuserModel", name := "changesRow", desc := "(I)V" } : MethodName)) ∈ sf_T := sf_S_8 (q := (⟨"StreamFuserModel", "changesRow", "(I)V"⟩, 59)) 8 rfl
theorem wt_121 : (Cond.selects "StreamFuserModel" ({ cls := "StreamFuserModel", name := "passes", desc := "(II)Z" } : MethodName) ({ cls := "StreamFuserModel", name := "passes", desc := "(II)Z" } : MethodName)) ∈ sf_T := sf_S_8 (q := (⟨"StreamFuserModel", "passes", "(II)Z"⟩, 59)) 9 rfl
theorem wt_122 : (Cond.selects "StreamFuserModel" ({ cls := "StreamFuserModel", name := "made", desc := "(II)I" } : MethodName) ({ cls := "StreamFuserModel", name := "made", desc := "(II)I" } : MethodName)) ∈ sf_T := sf_S_8 (q := (⟨"StreamFuserModel", "made", "(II)I"⟩, 59)) 10 rfl
theorem wt_123 : (Cond.selects "StreamFuserModel" ({ cls := "StreamFuserModel", name := "writesDown", desc := "(II)V" } : MethodName) ({ cls := "StreamFuserModel", name := "writesDown", desc := "(II)V" } : MethodName)) ∈ sf_T := sf_S_8 (q := (⟨"StreamFuserModel", "writesDown", "(II)V"⟩, 59)) 11 rfl
theorem wt_124 : (Cond.selects "StreamFuserModel" ({ cls := "StreamFuserModel", name := "joinsRows", desc := "(I)V" } : MethodName) ({ cls := "StreamFuserModel", name := "joinsRows", desc := "(I)V" } : MethodName)) ∈ sf_T := sf_S_8 (q := (⟨"StreamFuserModel", "joinsRows", "(I)V"⟩, 59)) 12 rfl
theorem wt_125 : (Cond.selects "StreamFuserModel" ({ cls := "StreamFuserModel", name := "joined", desc := "(III)I" } : MethodName) ({ cls := "StreamFuserModel", name := "joined", desc := "(III)I" } : MethodName)) ∈ sf_T := sf_S_8 (q := (⟨"StreamFuserModel", "joined", "(III)I"⟩, 59)) 13 rfl
theorem wt_126 : (Cond.selects "StreamFuserModel" ({ cls := "StreamFuserModel", name := "steps", desc := "()I" } : MethodName) ({ cls := "StreamFuserModel", name := "steps", desc := "()I" } : MethodName)) ∈ sf_T := sf_S_8 (q := (⟨"StreamFuserModel", "steps", "()I"⟩, 59)) 14 rfl
theorem wt_127 : (Cond.selects "StreamFuserModel" ({ cls := "StreamFuserModel", name := "gives", desc := "(I)V" } : MethodName) ({ cls := "StreamFuserModel", name := "gives", desc := "(I)V" } : MethodName)) ∈ sf_T := sf_S_8 (q := (⟨"StreamFuserModel", "gives", "(I)V"⟩, 59)) 15 rfl
theorem wt_128 : (Cond.selects "StreamFuserModel" ({ cls := "StreamFuserModel", name := "after", desc := "(II)I" } : MethodName) ({ cls := "StreamFuserModel", name := "after", desc := "(II)I" } : MethodName)) ∈ sf_T := sf_S_9 (q := (⟨"StreamFuserModel", "after", "(II)I"⟩, 59)) 0 rfl
theorem wt_129 : (Cond.selects "StreamFuserModel" ({ cls := "StreamFuserModel", name := "afterOne", desc := "(II)I" } : MethodName) ({ cls := "StreamFuserModel", name := "afterOne", desc := "(II)I" } : MethodName)) ∈ sf_T := sf_S_9 (q := (⟨"StreamFuserModel", "afterOne", "(II)I"⟩, 59)) 1 rfl
theorem wt_130 : (Cond.selects "StreamFuserModel" ({ cls := "StreamFuserModel", name := "opensFor", desc := "(II)V" } : MethodName) ({ cls := "StreamFuserModel", name := "opensFor", desc := "(II)V" } : MethodName)) ∈ sf_T := sf_S_9 (q := (⟨"StreamFuserModel", "opensFor", "(II)V"⟩, 59)) 2 rfl
theorem wt_131 : (Cond.selects "StreamFuserModel" ({ cls := "StreamFuserModel", name := "asks", desc := "()Z" } : MethodName) ({ cls := "StreamFuserModel", name := "asks", desc := "()Z" } : MethodName)) ∈ sf_T := sf_S_9 (q := (⟨"StreamFuserModel", "asks", "()Z"⟩, 59)) 3 rfl
theorem wt_132 : (Cond.selects "StreamFuserModel" ({ cls := "StreamFuserModel", name := "asksNext", desc := "(I)I" } : MethodName) ({ cls := "StreamFuserModel", name := "asksNext", desc := "(I)I" } : MethodName)) ∈ sf_T := sf_S_9 (q := (⟨"StreamFuserModel", "asksNext", "(I)I"⟩, 59)) 4 rfl
theorem wt_133 : (Cond.selects "StreamFuserModel" ({ cls := "StreamFuserModel", name := "hears", desc := "(I)I" } : MethodName) ({ cls := "StreamFuserModel", name := "hears", desc := "(I)I" } : MethodName)) ∈ sf_T := sf_S_9 (q := (⟨"StreamFuserModel", "hears", "(I)I"⟩, 59)) 5 rfl
theorem wt_134 : (Cond.selects "StreamFuserModel" ({ cls := "StreamFuserModel", name := "hearsOne", desc := "(I)I" } : MethodName) ({ cls := "StreamFuserModel", name := "hearsOne", desc := "(I)I" } : MethodName)) ∈ sf_T := sf_S_9 (q := (⟨"StreamFuserModel", "hearsOne", "(I)I"⟩, 59)) 6 rfl
theorem wt_135 : (Cond.selects "StreamFuserModel" ({ cls := "StreamFuserModel", name := "hearsOpen", desc := "(I)I" } : MethodName) ({ cls := "StreamFuserModel", name := "hearsOpen", desc := "(I)I" } : MethodName)) ∈ sf_T := sf_S_9 (q := (⟨"StreamFuserModel", "hearsOpen", "(I)I"⟩, 59)) 7 rfl
theorem wt_136 : (Cond.selects "StreamFuserModel" ({ cls := "StreamFuserModel", name := "foldBy", desc := "(I)J" } : MethodName) ({ cls := "StreamFuserModel", name := "foldBy", desc := "(I)J" } : MethodName)) ∈ sf_T := sf_S_9 (q := (⟨"StreamFuserModel", "foldBy", "(I)J"⟩, 59)) 8 rfl
theorem wt_137 : (Cond.selects "StreamFuserModel" ({ cls := "StreamFuserModel", name := "keptDown", desc := "()I" } : MethodName) ({ cls := "StreamFuserModel", name := "keptDown", desc := "()I" } : MethodName)) ∈ sf_T := sf_S_9 (q := (⟨"StreamFuserModel", "keptDown", "()I"⟩, 59)) 9 rfl
theorem wt_138 : (Cond.selects "StreamFuserModel" ({ cls := "StreamFuserModel", name := "writtenBy", desc := "(II)J" } : MethodName) ({ cls := "StreamFuserModel", name := "writtenBy", desc := "(II)J" } : MethodName)) ∈ sf_T := sf_S_9 (q := (⟨"StreamFuserModel", "writtenBy", "(II)J"⟩, 59)) 10 rfl
theorem wt_139 : (Cond.selects "StreamFuserModel" ({ cls := "StreamFuserModel", name := "savesBy", desc := "(I)I" } : MethodName) ({ cls := "StreamFuserModel", name := "savesBy", desc := "(I)I" } : MethodName)) ∈ sf_T := sf_S_9 (q := (⟨"StreamFuserModel", "savesBy", "(I)I"⟩, 59)) 11 rfl
theorem wt_140 : (Cond.selects "StreamFuserModel" ({ cls := "StreamFuserModel", name := "lays", desc := "(ZI)V" } : MethodName) ({ cls := "StreamFuserModel", name := "lays", desc := "(ZI)V" } : MethodName)) ∈ sf_T := sf_S_9 (q := (⟨"StreamFuserModel", "lays", "(ZI)V"⟩, 59)) 12 rfl
theorem wt_141 : (Cond.selects "StreamFuserModel" ({ cls := "StreamFuserModel", name := "deepest", desc := "()I" } : MethodName) ({ cls := "StreamFuserModel", name := "deepest", desc := "()I" } : MethodName)) ∈ sf_T := sf_S_9 (q := (⟨"StreamFuserModel", "deepest", "()I"⟩, 59)) 13 rfl
theorem wt_142 : (Cond.selects "StreamFuserModel" ({ cls := "StreamFuserModel", name := "planTells", desc := "(J)J" } : MethodName) ({ cls := "StreamFuserModel", name := "planTells", desc := "(J)J" } : MethodName)) ∈ sf_T := sf_S_9 (q := (⟨"StreamFuserModel", "planTells", "(J)J"⟩, 59)) 14 rfl
theorem wt_144 : (Cond.initialized "StreamFuser") ∈ sf_T := sf_T_1 1 rfl rfl
theorem wt_145 : (Cond.initialized "StreamFuser$Plan") ∈ sf_T := sf_T_1 2 rfl rfl
theorem wt_146 : (Cond.initialized "StreamFuser$Printer") ∈ sf_T := sf_T_1 3 rfl rfl
theorem wt_147 : (Cond.initialized "StreamFuser$Rewriter") ∈ sf_T := sf_T_1 4 rfl rfl
theorem wt_148 : (Cond.initialized "StreamFuser$Sheets") ∈ sf_T := sf_T_1 5 rfl rfl
theorem wt_149 : (Cond.initialized "StreamFuser$Run") ∈ sf_T := sf_T_1 6 rfl rfl
theorem wt_150 : (Cond.initialized "StreamFuser$Way") ∈ sf_T := sf_T_1 7 rfl rfl
theorem wt_151 : (Cond.initialized "StreamFuser$Walk") ∈ sf_T := sf_T_1 8 rfl rfl
theorem wt_152 : (Cond.initialized "StreamFuser$Asker") ∈ sf_T := sf_T_1 9 rfl rfl
theorem wt_153 : (Cond.initialized "StreamFuser$Stepper") ∈ sf_T := sf_T_1 10 rfl rfl
theorem wt_154 : (Cond.initialized "StreamFuser$Maker") ∈ sf_T := sf_T_1 11 rfl rfl
theorem wt_155 : (Cond.initialized "StreamFuser$Reader") ∈ sf_T := sf_T_1 12 rfl rfl
theorem wt_156 : (Cond.initialized "StreamFuserModel") ∈ sf_T := sf_T_1 13 rfl rfl
theorem wt_157 : (Cond.initialized "java/lang/Math") ∈ sf_T := sf_T_1 14 rfl rfl
theorem wt_158 : (Cond.initialized "java/lang/System") ∈ sf_T := sf_T_1 15 rfl rfl
theorem wt_161 : (Cond.methodLink "StreamFuserLaw" (9 : Nat) ({ cls := "StreamFuser", name := "<init>", desc := "()V" } : MethodName)) ∈ sf_T := sf_T_1 18 rfl rfl
theorem wt_162 : (Cond.instanceMethod ({ cls := "StreamFuser", name := "<init>", desc := "()V" } : MethodName)) ∈ sf_T := sf_T_1 19 rfl rfl
theorem wt_164 : (Cond.methodLink "StreamFuser" (7 : Nat) ({ cls := "java/lang/Object", name := "<init>", desc := "()V" } : MethodName)) ∈ sf_T := sf_T_1 21 rfl rfl
theorem wt_165 : (Cond.instanceMethod ({ cls := "java/lang/Object", name := "<init>", desc := "()V" } : MethodName)) ∈ sf_T := sf_T_1 22 rfl rfl
theorem wt_169 : (Cond.methodLinkNest "StreamFuser" (15 : Nat) ({ cls := "StreamFuser$Plan", name := "<init>", desc := "()V" } : MethodName) "StreamFuser") ∈ sf_N := sf_N_1 26 rfl rfl
theorem wt_170 : (Cond.instanceMethod ({ cls := "StreamFuser$Plan", name := "<init>", desc := "()V" } : MethodName)) ∈ sf_T := sf_T_1 27 rfl rfl
theorem wt_172 : (Cond.methodLink "StreamFuser$Plan" (3 : Nat) ({ cls := "java/lang/Object", name := "<init>", desc := "()V" } : MethodName)) ∈ sf_T := sf_T_1 29 rfl rfl
theorem wt_173 : (Cond.fieldLink "StreamFuser$Plan" (9 : Nat) "StreamFuser$Plan" "letter" "[I") ∈ sf_T := sf_T_1 30 rfl rfl
theorem wt_174 : (Cond.fieldLinkNest "StreamFuser$Printer" (30 : Nat) "StreamFuser$Plan" "letter" "[I" "StreamFuser") ∈ sf_N := sf_N_1 31 rfl rfl
theorem wt_175 : (Cond.fieldLinkNest "StreamFuser$Stepper" (59 : Nat) "StreamFuser$Plan" "letter" "[I" "StreamFuser") ∈ sf_N := sf_N_1 32 rfl rfl
theorem wt_176 : (Cond.fieldLinkNest "StreamFuser$Asker" (53 : Nat) "StreamFuser$Plan" "letter" "[I" "StreamFuser") ∈ sf_N := sf_N_1 33 rfl rfl
theorem wt_177 : (Cond.fieldLinkNest "StreamFuser$Maker" (56 : Nat) "StreamFuser$Plan" "letter" "[I" "StreamFuser") ∈ sf_N := sf_N_1 34 rfl rfl
theorem wt_178 : (Cond.fieldLinkNest "StreamFuser$Rewriter" (48 : Nat) "StreamFuser$Plan" "letter" "[I" "StreamFuser") ∈ sf_N := sf_N_1 35 rfl rfl
theorem wt_179 : (Cond.fieldLinkNest "StreamFuser$Way" (61 : Nat) "StreamFuser$Plan" "letter" "[I" "StreamFuser") ∈ sf_N := sf_N_1 36 rfl rfl
theorem wt_180 : (Cond.fieldLinkNest "StreamFuser" (117 : Nat) "StreamFuser$Plan" "letter" "[I" "StreamFuser") ∈ sf_N := sf_N_1 37 rfl rfl
theorem wt_181 : (Cond.fieldLink "StreamFuser$Plan" (15 : Nat) "StreamFuser$Plan" "mark" "[I") ∈ sf_T := sf_T_1 38 rfl rfl
theorem wt_182 : (Cond.fieldLinkNest "StreamFuser$Way" (40 : Nat) "StreamFuser$Plan" "mark" "[I" "StreamFuser") ∈ sf_N := sf_N_1 39 rfl rfl
theorem wt_183 : (Cond.fieldLinkNest "StreamFuser$Printer" (47 : Nat) "StreamFuser$Plan" "mark" "[I" "StreamFuser") ∈ sf_N := sf_N_1 40 rfl rfl
theorem wt_184 : (Cond.fieldLinkNest "StreamFuser" (121 : Nat) "StreamFuser$Plan" "mark" "[I" "StreamFuser") ∈ sf_N := sf_N_1 41 rfl rfl
theorem wt_185 : (Cond.fieldLink "StreamFuser$Plan" (18 : Nat) "StreamFuser$Plan" "first" "[I") ∈ sf_T := sf_T_1 42 rfl rfl
theorem wt_186 : (Cond.fieldLinkNest "StreamFuser$Printer" (53 : Nat) "StreamFuser$Plan" "first" "[I" "StreamFuser") ∈ sf_N := sf_N_1 43 rfl rfl
theorem wt_187 : (Cond.fieldLinkNest "StreamFuser$Stepper" (84 : Nat) "StreamFuser$Plan" "first" "[I" "StreamFuser") ∈ sf_N := sf_N_1 44 rfl rfl
theorem wt_188 : (Cond.fieldLinkNest "StreamFuser$Way" (67 : Nat) "StreamFuser$Plan" "first" "[I" "StreamFuser") ∈ sf_N := sf_N_1 45 rfl rfl
theorem wt_189 : (Cond.fieldLinkNest "StreamFuser$Rewriter" (54 : Nat) "StreamFuser$Plan" "first" "[I" "StreamFuser") ∈ sf_N := sf_N_1 46 rfl rfl
theorem wt_190 : (Cond.fieldLinkNest "StreamFuser$Asker" (95 : Nat) "StreamFuser$Plan" "first" "[I" "StreamFuser") ∈ sf_N := sf_N_1 47 rfl rfl
theorem wt_191 : (Cond.fieldLinkNest "StreamFuser" (124 : Nat) "StreamFuser$Plan" "first" "[I" "StreamFuser") ∈ sf_N := sf_N_1 48 rfl rfl
theorem wt_192 : (Cond.fieldLinkNest "StreamFuser$Maker" (116 : Nat) "StreamFuser$Plan" "first" "[I" "StreamFuser") ∈ sf_N := sf_N_1 49 rfl rfl
theorem wt_193 : (Cond.fieldLink "StreamFuser$Plan" (21 : Nat) "StreamFuser$Plan" "second" "[I") ∈ sf_T := sf_T_1 50 rfl rfl
theorem wt_194 : (Cond.fieldLinkNest "StreamFuser$Printer" (59 : Nat) "StreamFuser$Plan" "second" "[I" "StreamFuser") ∈ sf_N := sf_N_1 51 rfl rfl
theorem wt_195 : (Cond.fieldLinkNest "StreamFuser$Way" (64 : Nat) "StreamFuser$Plan" "second" "[I" "StreamFuser") ∈ sf_N := sf_N_1 52 rfl rfl
theorem wt_196 : (Cond.fieldLinkNest "StreamFuser$Rewriter" (51 : Nat) "StreamFuser$Plan" "second" "[I" "StreamFuser") ∈ sf_N := sf_N_1 53 rfl rfl
theorem wt_197 : (Cond.fieldLinkNest "StreamFuser" (127 : Nat) "StreamFuser$Plan" "second" "[I" "StreamFuser") ∈ sf_N := sf_N_1 54 rfl rfl
theorem wt_198 : (Cond.fieldLinkNest "StreamFuser$Way" (27 : Nat) "StreamFuser$Plan" "size" "I" "StreamFuser") ∈ sf_N := sf_N_1 55 rfl rfl
theorem wt_199 : (Cond.fieldLinkNest "StreamFuser$Printer" (21 : Nat) "StreamFuser$Plan" "size" "I" "StreamFuser") ∈ sf_N := sf_N_1 56 rfl rfl
theorem wt_200 : (Cond.fieldLinkNest "StreamFuser$Asker" (25 : Nat) "StreamFuser$Plan" "size" "I" "StreamFuser") ∈ sf_N := sf_N_1 57 rfl rfl
theorem wt_201 : (Cond.fieldLinkNest "StreamFuser$Stepper" (29 : Nat) "StreamFuser$Plan" "size" "I" "StreamFuser") ∈ sf_N := sf_N_1 58 rfl rfl
theorem wt_202 : (Cond.fieldLinkNest "StreamFuser$Walk" (29 : Nat) "StreamFuser$Plan" "size" "I" "StreamFuser") ∈ sf_N := sf_N_1 59 rfl rfl
theorem wt_203 : (Cond.fieldLinkNest "StreamFuser$Rewriter" (41 : Nat) "StreamFuser$Plan" "size" "I" "StreamFuser") ∈ sf_N := sf_N_1 60 rfl rfl
theorem wt_204 : (Cond.fieldLinkNest "StreamFuser$Reader" (26 : Nat) "StreamFuser$Plan" "size" "I" "StreamFuser") ∈ sf_N := sf_N_1 61 rfl rfl
theorem wt_205 : (Cond.fieldLink "StreamFuser$Plan" (44 : Nat) "StreamFuser$Plan" "size" "I") ∈ sf_T := sf_T_1 62 rfl rfl
theorem wt_206 : (Cond.fieldLinkNest "StreamFuser" (110 : Nat) "StreamFuser$Plan" "size" "I" "StreamFuser") ∈ sf_N := sf_N_1 63 rfl rfl
theorem wt_207 : (Cond.fieldLink "StreamFuser$Plan" (24 : Nat) "StreamFuser$Plan" "end" "[I") ∈ sf_T := sf_T_1 64 rfl rfl
theorem wt_208 : (Cond.fieldLink "StreamFuser$Plan" (27 : Nat) "StreamFuser$Plan" "within" "[I") ∈ sf_T := sf_T_1 65 rfl rfl
theorem wt_209 : (Cond.fieldLinkNest "StreamFuser" (130 : Nat) "StreamFuser$Plan" "within" "[I" "StreamFuser") ∈ sf_N := sf_N_1 66 rfl rfl
theorem wt_210 : (Cond.fieldLink "StreamFuser$Plan" (30 : Nat) "StreamFuser$Plan" "nested" "[I") ∈ sf_T := sf_T_1 67 rfl rfl
theorem wt_211 : (Cond.fieldLinkNest "StreamFuser$Way" (49 : Nat) "StreamFuser$Plan" "nested" "[I" "StreamFuser") ∈ sf_N := sf_N_1 68 rfl rfl
theorem wt_212 : (Cond.fieldLinkNest "StreamFuser$Maker" (94 : Nat) "StreamFuser$Plan" "nested" "[I" "StreamFuser") ∈ sf_N := sf_N_1 69 rfl rfl
theorem wt_213 : (Cond.fieldLink "StreamFuser$Plan" (33 : Nat) "StreamFuser$Plan" "opener" "[I") ∈ sf_T := sf_T_1 70 rfl rfl
theorem wt_214 : (Cond.fieldLinkNest "StreamFuser$Way" (33 : Nat) "StreamFuser$Plan" "opener" "[I" "StreamFuser") ∈ sf_N := sf_N_1 71 rfl rfl
theorem wt_215 : (Cond.fieldLink "StreamFuser$Plan" (36 : Nat) "StreamFuser$Plan" "pure" "[Z") ∈ sf_T := sf_T_1 72 rfl rfl
theorem wt_216 : (Cond.fieldLinkNest "StreamFuser$Rewriter" (75 : Nat) "StreamFuser$Plan" "pure" "[Z" "StreamFuser") ∈ sf_N := sf_N_1 73 rfl rfl
theorem wt_217 : (Cond.fieldLinkNest "StreamFuser" (133 : Nat) "StreamFuser$Plan" "pure" "[Z" "StreamFuser") ∈ sf_N := sf_N_1 74 rfl rfl
theorem wt_218 : (Cond.fieldLink "StreamFuser$Plan" (40 : Nat) "StreamFuser$Plan" "deepest" "I") ∈ sf_T := sf_T_1 75 rfl rfl
theorem wt_219 : (Cond.fieldLinkNest "StreamFuser" (253 : Nat) "StreamFuser$Plan" "deepest" "I" "StreamFuser") ∈ sf_N := sf_N_1 76 rfl rfl
theorem wt_220 : (Cond.fieldLinkNest "StreamFuser" (159 : Nat) "StreamFuser$Plan" "endless" "Z" "StreamFuser") ∈ sf_N := sf_N_1 77 rfl rfl
theorem wt_221 : (Cond.fieldLink "StreamFuser$Plan" (76 : Nat) "StreamFuser$Plan" "endless" "Z") ∈ sf_T := sf_T_1 78 rfl rfl
theorem wt_222 : (Cond.laysFinal "StreamFuser$Plan" "StreamFuser$Plan" "letter" "[I") ∈ sf_T := sf_T_1 79 rfl rfl
theorem wt_224 : (Cond.laysFinal "StreamFuser$Plan" "StreamFuser$Plan" "mark" "[I") ∈ sf_T := sf_T_1 81 rfl rfl
theorem wt_226 : (Cond.laysFinal "StreamFuser$Plan" "StreamFuser$Plan" "first" "[I") ∈ sf_T := sf_T_1 83 rfl rfl
theorem wt_228 : (Cond.laysFinal "StreamFuser$Plan" "StreamFuser$Plan" "second" "[I") ∈ sf_T := sf_T_1 85 rfl rfl
theorem wt_230 : (Cond.lays "StreamFuser$Plan" "StreamFuser$Plan" "size" "I") ∈ sf_T := sf_T_1 87 rfl rfl
theorem wt_232 : (Cond.laysFinal "StreamFuser$Plan" "StreamFuser$Plan" "end" "[I") ∈ sf_T := sf_T_1 89 rfl rfl
theorem wt_234 : (Cond.laysFinal "StreamFuser$Plan" "StreamFuser$Plan" "within" "[I") ∈ sf_T := sf_T_1 91 rfl rfl
theorem wt_236 : (Cond.laysFinal "StreamFuser$Plan" "StreamFuser$Plan" "nested" "[I") ∈ sf_T := sf_T_1 93 rfl rfl
theorem wt_238 : (Cond.laysFinal "StreamFuser$Plan" "StreamFuser$Plan" "opener" "[I") ∈ sf_T := sf_T_1 95 rfl rfl
theorem wt_240 : (Cond.laysFinal "StreamFuser$Plan" "StreamFuser$Plan" "pure" "[Z") ∈ sf_T := sf_T_1 97 rfl rfl
theorem wt_242 : (Cond.lays "StreamFuser$Plan" "StreamFuser$Plan" "deepest" "I") ∈ sf_T := sf_T_1 99 rfl rfl
theorem wt_244 : (Cond.lays "StreamFuser$Plan" "StreamFuser$Plan" "endless" "Z") ∈ sf_T := sf_T_1 101 rfl rfl
theorem wt_251 : (Cond.methodLinkNest "StreamFuser" (22 : Nat) ({ cls := "StreamFuser$Printer", name := "<init>", desc := "(LStreamFuser$Plan;)V" } : MethodName) "StreamFuser") ∈ sf_N := sf_N_1 108 rfl rfl
theorem wt_252 : (Cond.instanceMethod ({ cls := "StreamFuser$Printer", name := "<init>", desc := "(LStreamFuser$Plan;)V" } : MethodName)) ∈ sf_T := sf_T_1 109 rfl rfl
theorem wt_254 : (Cond.methodLink "StreamFuser$Printer" (1 : Nat) ({ cls := "java/lang/Object", name := "<init>", desc := "()V" } : MethodName)) ∈ sf_T := sf_T_1 111 rfl rfl
theorem wt_255 : (Cond.fieldLink "StreamFuser$Printer" (13 : Nat) "StreamFuser$Printer" "source" "LStreamFuser$Plan;") ∈ sf_T := sf_T_1 112 rfl rfl
theorem wt_256 : (Cond.fieldLink "StreamFuser$Printer" (9 : Nat) "StreamFuser$Printer" "bytes" "[B") ∈ sf_T := sf_T_1 113 rfl rfl
theorem wt_257 : (Cond.fieldLinkNest "StreamFuser" (138 : Nat) "StreamFuser$Printer" "bytes" "[B" "StreamFuser") ∈ sf_N := sf_N_1 114 rfl rfl
theorem wt_258 : (Cond.fieldLink "StreamFuser$Printer" (17 : Nat) "StreamFuser$Printer" "length" "I") ∈ sf_T := sf_T_1 115 rfl rfl
theorem wt_259 : (Cond.fieldLinkNest "StreamFuser" (137 : Nat) "StreamFuser$Printer" "length" "I" "StreamFuser") ∈ sf_N := sf_N_1 116 rfl rfl
theorem wt_260 : (Cond.laysFinal "StreamFuser$Printer" "StreamFuser$Printer" "source" "LStreamFuser$Plan;") ∈ sf_T := sf_T_1 117 rfl rfl
theorem wt_262 : (Cond.laysFinal "StreamFuser$Printer" "StreamFuser$Printer" "bytes" "[B") ∈ sf_T := sf_T_1 119 rfl rfl
theorem wt_264 : (Cond.lays "StreamFuser$Printer" "StreamFuser$Printer" "length" "I") ∈ sf_T := sf_T_1 121 rfl rfl
theorem wt_270 : (Cond.methodLinkNest "StreamFuser" (31 : Nat) ({ cls := "StreamFuser$Rewriter", name := "<init>", desc := "(LStreamFuser$Plan;)V" } : MethodName) "StreamFuser") ∈ sf_N := sf_N_1 127 rfl rfl
theorem wt_271 : (Cond.instanceMethod ({ cls := "StreamFuser$Rewriter", name := "<init>", desc := "(LStreamFuser$Plan;)V" } : MethodName)) ∈ sf_T := sf_T_1 128 rfl rfl
theorem wt_273 : (Cond.methodLink "StreamFuser$Rewriter" (3 : Nat) ({ cls := "java/lang/Object", name := "<init>", desc := "()V" } : MethodName)) ∈ sf_T := sf_T_1 130 rfl rfl
theorem wt_274 : (Cond.fieldLink "StreamFuser$Rewriter" (15 : Nat) "StreamFuser$Rewriter" "plan" "LStreamFuser$Plan;") ∈ sf_T := sf_T_1 131 rfl rfl
theorem wt_275 : (Cond.fieldLink "StreamFuser$Rewriter" (9 : Nat) "StreamFuser$Rewriter" "applied" "[I") ∈ sf_T := sf_T_1 132 rfl rfl
theorem wt_276 : (Cond.fieldLinkNest "StreamFuser" (149 : Nat) "StreamFuser$Rewriter" "applied" "[I" "StreamFuser") ∈ sf_N := sf_N_1 133 rfl rfl
theorem wt_277 : (Cond.fieldLink "StreamFuser$Rewriter" (19 : Nat) "StreamFuser$Rewriter" "total" "I") ∈ sf_T := sf_T_1 134 rfl rfl
theorem wt_278 : (Cond.fieldLinkNest "StreamFuser" (146 : Nat) "StreamFuser$Rewriter" "total" "I" "StreamFuser") ∈ sf_N := sf_N_1 135 rfl rfl
theorem wt_279 : (Cond.laysFinal "StreamFuser$Rewriter" "StreamFuser$Rewriter" "plan" "LStreamFuser$Plan;") ∈ sf_T := sf_T_1 136 rfl rfl
theorem wt_281 : (Cond.laysFinal "StreamFuser$Rewriter" "StreamFuser$Rewriter" "applied" "[I") ∈ sf_T := sf_T_1 138 rfl rfl
theorem wt_283 : (Cond.lays "StreamFuser$Rewriter" "StreamFuser$Rewriter" "total" "I") ∈ sf_T := sf_T_1 140 rfl rfl
theorem wt_288 : (Cond.methodLinkNest "StreamFuser" (38 : Nat) ({ cls := "StreamFuser$Sheets", name := "<init>", desc := "()V" } : MethodName) "StreamFuser") ∈ sf_N := sf_N_1 145 rfl rfl
theorem wt_289 : (Cond.instanceMethod ({ cls := "StreamFuser$Sheets", name := "<init>", desc := "()V" } : MethodName)) ∈ sf_T := sf_T_1 146 rfl rfl
theorem wt_291 : (Cond.methodLink "StreamFuser$Sheets" (3 : Nat) ({ cls := "java/lang/Object", name := "<init>", desc := "()V" } : MethodName)) ∈ sf_T := sf_T_1 148 rfl rfl
theorem wt_292 : (Cond.fieldLink "StreamFuser$Sheets" (9 : Nat) "StreamFuser$Sheets" "form" "[I") ∈ sf_T := sf_T_1 149 rfl rfl
theorem wt_293 : (Cond.fieldLinkNest "StreamFuser" (237 : Nat) "StreamFuser$Sheets" "form" "[I" "StreamFuser") ∈ sf_N := sf_N_1 150 rfl rfl
theorem wt_294 : (Cond.fieldLink "StreamFuser$Sheets" (15 : Nat) "StreamFuser$Sheets" "length" "[I") ∈ sf_T := sf_T_1 151 rfl rfl
theorem wt_295 : (Cond.fieldLinkNest "StreamFuser$Way" (83 : Nat) "StreamFuser$Sheets" "length" "[I" "StreamFuser") ∈ sf_N := sf_N_1 152 rfl rfl
theorem wt_296 : (Cond.fieldLinkNest "StreamFuser" (224 : Nat) "StreamFuser$Sheets" "length" "[I" "StreamFuser") ∈ sf_N := sf_N_1 153 rfl rfl
theorem wt_297 : (Cond.fieldLink "StreamFuser$Sheets" (18 : Nat) "StreamFuser$Sheets" "elements" "[I") ∈ sf_T := sf_T_1 154 rfl rfl
theorem wt_298 : (Cond.laysFinal "StreamFuser$Sheets" "StreamFuser$Sheets" "form" "[I") ∈ sf_T := sf_T_1 155 rfl rfl
theorem wt_300 : (Cond.laysFinal "StreamFuser$Sheets" "StreamFuser$Sheets" "length" "[I") ∈ sf_T := sf_T_1 157 rfl rfl
theorem wt_302 : (Cond.laysFinal "StreamFuser$Sheets" "StreamFuser$Sheets" "elements" "[I") ∈ sf_T := sf_T_1 159 rfl rfl
theorem wt_307 : (Cond.methodLinkNest "StreamFuser" (45 : Nat) ({ cls := "StreamFuser$Run", name := "<init>", desc := "()V" } : MethodName) "StreamFuser") ∈ sf_N := sf_N_1 164 rfl rfl
theorem wt_308 : (Cond.instanceMethod ({ cls := "StreamFuser$Run", name := "<init>", desc := "()V" } : MethodName)) ∈ sf_T := sf_T_1 165 rfl rfl
theorem wt_310 : (Cond.methodLink "StreamFuser$Run" (3 : Nat) ({ cls := "java/lang/Object", name := "<init>", desc := "()V" } : MethodName)) ∈ sf_T := sf_T_1 167 rfl rfl
theorem wt_311 : (Cond.fieldLink "StreamFuser$Run" (9 : Nat) "StreamFuser$Run" "numbers" "[I") ∈ sf_T := sf_T_1 168 rfl rfl
theorem wt_312 : (Cond.fieldLinkNest "StreamFuser" (166 : Nat) "StreamFuser$Run" "numbers" "[I" "StreamFuser") ∈ sf_N := sf_N_1 169 rfl rfl
theorem wt_313 : (Cond.fieldLink "StreamFuser$Run" (21 : Nat) "StreamFuser$Run" "size" "I") ∈ sf_T := sf_T_1 170 rfl rfl
theorem wt_314 : (Cond.fieldLinkNest "StreamFuser$Stepper" (40 : Nat) "StreamFuser$Run" "size" "I" "StreamFuser") ∈ sf_N := sf_N_1 171 rfl rfl
theorem wt_315 : (Cond.fieldLinkNest "StreamFuser" (165 : Nat) "StreamFuser$Run" "size" "I" "StreamFuser") ∈ sf_N := sf_N_1 172 rfl rfl
theorem wt_316 : (Cond.fieldLink "StreamFuser$Run" (25 : Nat) "StreamFuser$Run" "drawn" "I") ∈ sf_T := sf_T_1 173 rfl rfl
theorem wt_317 : (Cond.fieldLinkNest "StreamFuser" (156 : Nat) "StreamFuser$Run" "drawn" "I" "StreamFuser") ∈ sf_N := sf_N_1 174 rfl rfl
theorem wt_318 : (Cond.fieldLink "StreamFuser$Run" (28 : Nat) "StreamFuser$Run" "work" "I") ∈ sf_T := sf_T_1 175 rfl rfl
theorem wt_319 : (Cond.fieldLinkNest "StreamFuser$Stepper" (41 : Nat) "StreamFuser$Run" "work" "I" "StreamFuser") ∈ sf_N := sf_N_1 176 rfl rfl
theorem wt_320 : (Cond.fieldLinkNest "StreamFuser$Asker" (50 : Nat) "StreamFuser$Run" "work" "I" "StreamFuser") ∈ sf_N := sf_N_1 177 rfl rfl
theorem wt_321 : (Cond.fieldLinkNest "StreamFuser$Maker" (49 : Nat) "StreamFuser$Run" "work" "I" "StreamFuser") ∈ sf_N := sf_N_1 178 rfl rfl
theorem wt_322 : (Cond.fieldLinkNest "StreamFuser" (189 : Nat) "StreamFuser$Run" "work" "I" "StreamFuser") ∈ sf_N := sf_N_1 179 rfl rfl
theorem wt_323 : (Cond.fieldLink "StreamFuser$Run" (31 : Nat) "StreamFuser$Run" "elements" "I") ∈ sf_T := sf_T_1 180 rfl rfl
theorem wt_324 : (Cond.fieldLinkNest "StreamFuser$Maker" (53 : Nat) "StreamFuser$Run" "elements" "I" "StreamFuser") ∈ sf_N := sf_N_1 181 rfl rfl
theorem wt_325 : (Cond.fieldLinkNest "StreamFuser" (192 : Nat) "StreamFuser$Run" "elements" "I" "StreamFuser") ∈ sf_N := sf_N_1 182 rfl rfl
theorem wt_326 : (Cond.fieldLink "StreamFuser$Run" (34 : Nat) "StreamFuser$Run" "failure" "I") ∈ sf_T := sf_T_1 183 rfl rfl
theorem wt_327 : (Cond.fieldLinkNest "StreamFuser" (183 : Nat) "StreamFuser$Run" "failure" "I" "StreamFuser") ∈ sf_N := sf_N_1 184 rfl rfl
theorem wt_328 : (Cond.fieldLink "StreamFuser$Run" (37 : Nat) "StreamFuser$Run" "failureDepth" "I") ∈ sf_T := sf_T_1 185 rfl rfl
theorem wt_329 : (Cond.fieldLinkNest "StreamFuser" (186 : Nat) "StreamFuser$Run" "failureDepth" "I" "StreamFuser") ∈ sf_N := sf_N_1 186 rfl rfl
theorem wt_330 : (Cond.fieldLink "StreamFuser$Run" (15 : Nat) "StreamFuser$Run" "digits" "[I") ∈ sf_T := sf_T_1 187 rfl rfl
theorem wt_331 : (Cond.fieldLinkNest "StreamFuser" (201 : Nat) "StreamFuser$Run" "digits" "[I" "StreamFuser") ∈ sf_N := sf_N_1 188 rfl rfl
theorem wt_332 : (Cond.fieldLink "StreamFuser$Run" (18 : Nat) "StreamFuser$Run" "notes" "[I") ∈ sf_T := sf_T_1 189 rfl rfl
theorem wt_333 : (Cond.fieldLinkNest "StreamFuser" (204 : Nat) "StreamFuser$Run" "notes" "[I" "StreamFuser") ∈ sf_N := sf_N_1 190 rfl rfl
theorem wt_334 : (Cond.fieldLink "StreamFuser$Run" (40 : Nat) "StreamFuser$Run" "pairs" "I") ∈ sf_T := sf_T_1 191 rfl rfl
theorem wt_335 : (Cond.fieldLinkNest "StreamFuser" (195 : Nat) "StreamFuser$Run" "pairs" "I" "StreamFuser") ∈ sf_N := sf_N_1 192 rfl rfl
theorem wt_336 : (Cond.laysFinal "StreamFuser$Run" "StreamFuser$Run" "numbers" "[I") ∈ sf_T := sf_T_1 193 rfl rfl
theorem wt_338 : (Cond.lays "StreamFuser$Run" "StreamFuser$Run" "size" "I") ∈ sf_T := sf_T_1 195 rfl rfl
theorem wt_340 : (Cond.lays "StreamFuser$Run" "StreamFuser$Run" "drawn" "I") ∈ sf_T := sf_T_1 197 rfl rfl
theorem wt_342 : (Cond.lays "StreamFuser$Run" "StreamFuser$Run" "work" "I") ∈ sf_T := sf_T_1 199 rfl rfl
theorem wt_344 : (Cond.lays "StreamFuser$Run" "StreamFuser$Run" "elements" "I") ∈ sf_T := sf_T_1 201 rfl rfl
theorem wt_346 : (Cond.lays "StreamFuser$Run" "StreamFuser$Run" "failure" "I") ∈ sf_T := sf_T_1 203 rfl rfl
theorem wt_348 : (Cond.lays "StreamFuser$Run" "StreamFuser$Run" "failureDepth" "I") ∈ sf_T := sf_T_1 205 rfl rfl
theorem wt_350 : (Cond.laysFinal "StreamFuser$Run" "StreamFuser$Run" "digits" "[I") ∈ sf_T := sf_T_1 207 rfl rfl
theorem wt_352 : (Cond.laysFinal "StreamFuser$Run" "StreamFuser$Run" "notes" "[I") ∈ sf_T := sf_T_1 209 rfl rfl
theorem wt_354 : (Cond.lays "StreamFuser$Run" "StreamFuser$Run" "pairs" "I") ∈ sf_T := sf_T_1 211 rfl rfl
theorem wt_359 : (Cond.methodLinkNest "StreamFuser" (52 : Nat) ({ cls := "StreamFuser$Asker", name := "<init>", desc := "(LStreamFuser$Plan;LStreamFuser$Run;LStreamFuser$Sheets;)V" } : MethodName) "StreamFuser") ∈ sf_N := sf_N_1 216 rfl rfl
theorem wt_360 : (Cond.instanceMethod ({ cls := "StreamFuser$Asker", name := "<init>", desc := "(LStreamFuser$Plan;LStreamFuser$Run;LStreamFuser$Sheets;)V" } : MethodName)) ∈ sf_T := sf_T_1 217 rfl rfl
theorem wt_362 : (Cond.methodLink "StreamFuser$Asker" (3 : Nat) ({ cls := "StreamFuser$Walk", name := "<init>", desc := "(LStreamFuser$Plan;LStreamFuser$Run;LStreamFuser$Sheets;)V" } : MethodName)) ∈ sf_T := sf_T_1 219 rfl rfl
theorem wt_363 : (Cond.instanceMethod ({ cls := "StreamFuser$Walk", name := "<init>", desc := "(LStreamFuser$Plan;LStreamFuser$Run;LStreamFuser$Sheets;)V" } : MethodName)) ∈ sf_T := sf_T_1 220 rfl rfl
theorem wt_365 : (Cond.methodLink "StreamFuser$Walk" (3 : Nat) ({ cls := "StreamFuser$Way", name := "<init>", desc := "(LStreamFuser$Plan;LStreamFuser$Run;LStreamFuser$Sheets;)V" } : MethodName)) ∈ sf_T := sf_T_1 222 rfl rfl
theorem wt_366 : (Cond.instanceMethod ({ cls := "StreamFuser$Way", name := "<init>", desc := "(LStreamFuser$Plan;LStreamFuser$Run;LStreamFuser$Sheets;)V" } : MethodName)) ∈ sf_T := sf_T_1 223 rfl rfl
theorem wt_368 : (Cond.methodLink "StreamFuser$Way" (3 : Nat) ({ cls := "java/lang/Object", name := "<init>", desc := "()V" } : MethodName)) ∈ sf_T := sf_T_1 225 rfl rfl
theorem wt_369 : (Cond.fieldLink "StreamFuser$Walk" (9 : Nat) "StreamFuser$Walk" "used" "[I") ∈ sf_T := sf_T_1 226 rfl rfl
theorem wt_370 : (Cond.fieldLink "StreamFuser$Stepper" (81 : Nat) "StreamFuser$Stepper" "used" "[I") ∈ sf_T := sf_T_1 227 rfl rfl
theorem wt_371 : (Cond.sameField "StreamFuser$Stepper" "StreamFuser$Walk" "used" "[I") ∈ sf_T := sf_T_1 228 rfl rfl
theorem wt_372 : (Cond.fieldLink "StreamFuser$Asker" (92 : Nat) "StreamFuser$Asker" "used" "[I") ∈ sf_T := sf_T_1 229 rfl rfl
theorem wt_373 : (Cond.sameField "StreamFuser$Asker" "StreamFuser$Walk" "used" "[I") ∈ sf_T := sf_T_1 230 rfl rfl
theorem wt_374 : (Cond.fieldLink "StreamFuser$Walk" (15 : Nat) "StreamFuser$Walk" "turned" "[Z") ∈ sf_T := sf_T_1 231 rfl rfl
theorem wt_375 : (Cond.fieldLink "StreamFuser$Asker" (88 : Nat) "StreamFuser$Asker" "turned" "[Z") ∈ sf_T := sf_T_1 232 rfl rfl
theorem wt_376 : (Cond.sameField "StreamFuser$Asker" "StreamFuser$Walk" "turned" "[Z") ∈ sf_T := sf_T_1 233 rfl rfl
theorem wt_377 : (Cond.fieldLink "StreamFuser$Stepper" (98 : Nat) "StreamFuser$Stepper" "turned" "[Z") ∈ sf_T := sf_T_1 234 rfl rfl
theorem wt_378 : (Cond.sameField "StreamFuser$Stepper" "StreamFuser$Walk" "turned" "[Z") ∈ sf_T := sf_T_1 235 rfl rfl
theorem wt_379 : (Cond.fieldLink "StreamFuser$Way" (15 : Nat) "StreamFuser$Way" "plan" "LStreamFuser$Plan;") ∈ sf_T := sf_T_1 236 rfl rfl
theorem wt_380 : (Cond.fieldLink "StreamFuser$Asker" (21 : Nat) "StreamFuser$Asker" "plan" "LStreamFuser$Plan;") ∈ sf_T := sf_T_1 237 rfl rfl
theorem wt_381 : (Cond.sameField "StreamFuser$Asker" "StreamFuser$Way" "plan" "LStreamFuser$Plan;") ∈ sf_T := sf_T_1 238 rfl rfl
theorem wt_382 : (Cond.fieldLink "StreamFuser$Stepper" (25 : Nat) "StreamFuser$Stepper" "plan" "LStreamFuser$Plan;") ∈ sf_T := sf_T_1 239 rfl rfl
theorem wt_383 : (Cond.sameField "StreamFuser$Stepper" "StreamFuser$Way" "plan" "LStreamFuser$Plan;") ∈ sf_T := sf_T_2 0 rfl rfl
theorem wt_384 : (Cond.fieldLink "StreamFuser$Walk" (25 : Nat) "StreamFuser$Walk" "plan" "LStreamFuser$Plan;") ∈ sf_T := sf_T_2 1 rfl rfl
theorem wt_385 : (Cond.sameField "StreamFuser$Walk" "StreamFuser$Way" "plan" "LStreamFuser$Plan;") ∈ sf_T := sf_T_2 2 rfl rfl
theorem wt_386 : (Cond.fieldLink "StreamFuser$Maker" (36 : Nat) "StreamFuser$Maker" "plan" "LStreamFuser$Plan;") ∈ sf_T := sf_T_2 3 rfl rfl
theorem wt_387 : (Cond.sameField "StreamFuser$Maker" "StreamFuser$Way" "plan" "LStreamFuser$Plan;") ∈ sf_T := sf_T_2 4 rfl rfl
theorem wt_388 : (Cond.fieldLink "StreamFuser$Way" (19 : Nat) "StreamFuser$Way" "run" "LStreamFuser$Run;") ∈ sf_T := sf_T_2 5 rfl rfl
theorem wt_389 : (Cond.fieldLink "StreamFuser$Asker" (9 : Nat) "StreamFuser$Asker" "run" "LStreamFuser$Run;") ∈ sf_T := sf_T_2 6 rfl rfl
theorem wt_390 : (Cond.sameField "StreamFuser$Asker" "StreamFuser$Way" "run" "LStreamFuser$Run;") ∈ sf_T := sf_T_2 7 rfl rfl
theorem wt_391 : (Cond.fieldLink "StreamFuser$Stepper" (15 : Nat) "StreamFuser$Stepper" "run" "LStreamFuser$Run;") ∈ sf_T := sf_T_2 8 rfl rfl
theorem wt_392 : (Cond.sameField "StreamFuser$Stepper" "StreamFuser$Way" "run" "LStreamFuser$Run;") ∈ sf_T := sf_T_2 9 rfl rfl
theorem wt_393 : (Cond.fieldLink "StreamFuser$Maker" (18 : Nat) "StreamFuser$Maker" "run" "LStreamFuser$Run;") ∈ sf_T := sf_T_2 10 rfl rfl
theorem wt_394 : (Cond.sameField "StreamFuser$Maker" "StreamFuser$Way" "run" "LStreamFuser$Run;") ∈ sf_T := sf_T_2 11 rfl rfl
theorem wt_395 : (Cond.fieldLink "StreamFuser$Walk" (57 : Nat) "StreamFuser$Walk" "run" "LStreamFuser$Run;") ∈ sf_T := sf_T_2 12 rfl rfl
theorem wt_396 : (Cond.sameField "StreamFuser$Walk" "StreamFuser$Way" "run" "LStreamFuser$Run;") ∈ sf_T := sf_T_2 13 rfl rfl
theorem wt_397 : (Cond.fieldLink "StreamFuser$Way" (23 : Nat) "StreamFuser$Way" "sheets" "LStreamFuser$Sheets;") ∈ sf_T := sf_T_2 14 rfl rfl
theorem wt_398 : (Cond.fieldLink "StreamFuser$Way" (9 : Nat) "StreamFuser$Way" "opened" "[I") ∈ sf_T := sf_T_2 15 rfl rfl
theorem wt_399 : (Cond.fieldLink "StreamFuser$Walk" (39 : Nat) "StreamFuser$Walk" "opened" "[I") ∈ sf_T := sf_T_2 16 rfl rfl
theorem wt_400 : (Cond.sameField "StreamFuser$Walk" "StreamFuser$Way" "opened" "[I") ∈ sf_T := sf_T_2 17 rfl rfl
theorem wt_401 : (Cond.fieldLink "StreamFuser$Maker" (125 : Nat) "StreamFuser$Maker" "opened" "[I") ∈ sf_T := sf_T_2 18 rfl rfl
theorem wt_402 : (Cond.sameField "StreamFuser$Maker" "StreamFuser$Way" "opened" "[I") ∈ sf_T := sf_T_2 19 rfl rfl
theorem wt_403 : (Cond.fieldLink "StreamFuser$Asker" (39 : Nat) "StreamFuser$Asker" "value" "I") ∈ sf_T := sf_T_2 20 rfl rfl
theorem wt_404 : (Cond.sameField "StreamFuser$Asker" "StreamFuser$Way" "value" "I") ∈ sf_T := sf_T_2 21 rfl rfl
theorem wt_405 : (Cond.fieldLink "StreamFuser$Stepper" (48 : Nat) "StreamFuser$Stepper" "value" "I") ∈ sf_T := sf_T_2 22 rfl rfl
theorem wt_406 : (Cond.sameField "StreamFuser$Stepper" "StreamFuser$Way" "value" "I") ∈ sf_T := sf_T_2 23 rfl rfl
theorem wt_407 : (Cond.fieldLink "StreamFuser$Walk" (69 : Nat) "StreamFuser$Walk" "value" "I") ∈ sf_T := sf_T_2 24 rfl rfl
theorem wt_408 : (Cond.sameField "StreamFuser$Walk" "StreamFuser$Way" "value" "I") ∈ sf_T := sf_T_2 25 rfl rfl
theorem wt_409 : (Cond.fieldLink "StreamFuser$Way" (95 : Nat) "StreamFuser$Way" "value" "I") ∈ sf_T := sf_T_2 26 rfl rfl
theorem wt_410 : (Cond.fieldLink "StreamFuser$Maker" (122 : Nat) "StreamFuser$Maker" "value" "I") ∈ sf_T := sf_T_2 27 rfl rfl
theorem wt_411 : (Cond.sameField "StreamFuser$Maker" "StreamFuser$Way" "value" "I") ∈ sf_T := sf_T_2 28 rfl rfl
theorem wt_412 : (Cond.laysFinal "StreamFuser$Asker" "StreamFuser$Walk" "used" "[I") ∈ sf_T := sf_T_2 29 rfl rfl
theorem wt_414 : (Cond.laysFinal "StreamFuser$Asker" "StreamFuser$Walk" "turned" "[Z") ∈ sf_T := sf_T_2 31 rfl rfl
theorem wt_416 : (Cond.laysFinal "StreamFuser$Asker" "StreamFuser$Way" "plan" "LStreamFuser$Plan;") ∈ sf_T := sf_T_2 33 rfl rfl
theorem wt_418 : (Cond.laysFinal "StreamFuser$Asker" "StreamFuser$Way" "run" "LStreamFuser$Run;") ∈ sf_T := sf_T_2 35 rfl rfl
theorem wt_420 : (Cond.laysFinal "StreamFuser$Asker" "StreamFuser$Way" "sheets" "LStreamFuser$Sheets;") ∈ sf_T := sf_T_2 37 rfl rfl
theorem wt_422 : (Cond.laysFinal "StreamFuser$Asker" "StreamFuser$Way" "opened" "[I") ∈ sf_T := sf_T_2 39 rfl rfl
theorem wt_424 : (Cond.lays "StreamFuser$Asker" "StreamFuser$Way" "value" "I") ∈ sf_T := sf_T_2 41 rfl rfl
theorem wt_429 : (Cond.methodLinkNest "StreamFuser" (61 : Nat) ({ cls := "StreamFuser$Stepper", name := "<init>", desc := "(LStreamFuser$Plan;LStreamFuser$Run;LStreamFuser$Sheets;)V" } : MethodName) "StreamFuser") ∈ sf_N := sf_N_2 46 rfl rfl
theorem wt_430 : (Cond.instanceMethod ({ cls := "StreamFuser$Stepper", name := "<init>", desc := "(LStreamFuser$Plan;LStreamFuser$Run;LStreamFuser$Sheets;)V" } : MethodName)) ∈ sf_T := sf_T_2 47 rfl rfl
theorem wt_432 : (Cond.methodLink "StreamFuser$Stepper" (3 : Nat) ({ cls := "StreamFuser$Walk", name := "<init>", desc := "(LStreamFuser$Plan;LStreamFuser$Run;LStreamFuser$Sheets;)V" } : MethodName)) ∈ sf_T := sf_T_2 49 rfl rfl
theorem wt_433 : (Cond.fieldLink "StreamFuser$Stepper" (9 : Nat) "StreamFuser$Stepper" "held" "[I") ∈ sf_T := sf_T_2 50 rfl rfl
theorem wt_434 : (Cond.laysFinal "StreamFuser$Stepper" "StreamFuser$Stepper" "held" "[I") ∈ sf_T := sf_T_2 51 rfl rfl
theorem wt_436 : (Cond.laysFinal "StreamFuser$Stepper" "StreamFuser$Walk" "used" "[I") ∈ sf_T := sf_T_2 53 rfl rfl
theorem wt_437 : (Cond.laysFinal "StreamFuser$Stepper" "StreamFuser$Walk" "turned" "[Z") ∈ sf_T := sf_T_2 54 rfl rfl
theorem wt_438 : (Cond.laysFinal "StreamFuser$Stepper" "StreamFuser$Way" "plan" "LStreamFuser$Plan;") ∈ sf_T := sf_T_2 55 rfl rfl
theorem wt_439 : (Cond.laysFinal "StreamFuser$Stepper" "StreamFuser$Way" "run" "LStreamFuser$Run;") ∈ sf_T := sf_T_2 56 rfl rfl
theorem wt_440 : (Cond.laysFinal "StreamFuser$Stepper" "StreamFuser$Way" "sheets" "LStreamFuser$Sheets;") ∈ sf_T := sf_T_2 57 rfl rfl
theorem wt_441 : (Cond.laysFinal "StreamFuser$Stepper" "StreamFuser$Way" "opened" "[I") ∈ sf_T := sf_T_2 58 rfl rfl
theorem wt_442 : (Cond.lays "StreamFuser$Stepper" "StreamFuser$Way" "value" "I") ∈ sf_T := sf_T_2 59 rfl rfl
theorem wt_446 : (Cond.methodLinkNest "StreamFuser" (68 : Nat) ({ cls := "StreamFuser$Maker", name := "<init>", desc := "(LStreamFuser$Plan;LStreamFuser$Run;LStreamFuser$Sheets;)V" } : MethodName) "StreamFuser") ∈ sf_N := sf_N_2 63 rfl rfl
theorem wt_447 : (Cond.instanceMethod ({ cls := "StreamFuser$Maker", name := "<init>", desc := "(LStreamFuser$Plan;LStreamFuser$Run;LStreamFuser$Sheets;)V" } : MethodName)) ∈ sf_T := sf_T_2 64 rfl rfl
theorem wt_449 : (Cond.methodLink "StreamFuser$Maker" (3 : Nat) ({ cls := "StreamFuser$Way", name := "<init>", desc := "(LStreamFuser$Plan;LStreamFuser$Run;LStreamFuser$Sheets;)V" } : MethodName)) ∈ sf_T := sf_T_2 66 rfl rfl
theorem wt_450 : (Cond.fieldLink "StreamFuser$Maker" (9 : Nat) "StreamFuser$Maker" "rows" "[I") ∈ sf_T := sf_T_2 67 rfl rfl
theorem wt_451 : (Cond.fieldLink "StreamFuser$Maker" (15 : Nat) "StreamFuser$Maker" "length" "[I") ∈ sf_T := sf_T_2 68 rfl rfl
theorem wt_452 : (Cond.laysFinal "StreamFuser$Maker" "StreamFuser$Maker" "rows" "[I") ∈ sf_T := sf_T_2 69 rfl rfl
theorem wt_454 : (Cond.laysFinal "StreamFuser$Maker" "StreamFuser$Maker" "length" "[I") ∈ sf_T := sf_T_2 71 rfl rfl
theorem wt_456 : (Cond.laysFinal "StreamFuser$Maker" "StreamFuser$Way" "plan" "LStreamFuser$Plan;") ∈ sf_T := sf_T_2 73 rfl rfl
theorem wt_457 : (Cond.laysFinal "StreamFuser$Maker" "StreamFuser$Way" "run" "LStreamFuser$Run;") ∈ sf_T := sf_T_2 74 rfl rfl
theorem wt_458 : (Cond.laysFinal "StreamFuser$Maker" "StreamFuser$Way" "sheets" "LStreamFuser$Sheets;") ∈ sf_T := sf_T_2 75 rfl rfl
theorem wt_459 : (Cond.laysFinal "StreamFuser$Maker" "StreamFuser$Way" "opened" "[I") ∈ sf_T := sf_T_2 76 rfl rfl
theorem wt_460 : (Cond.lays "StreamFuser$Maker" "StreamFuser$Way" "value" "I") ∈ sf_T := sf_T_2 77 rfl rfl
theorem wt_464 : (Cond.methodLinkNest "StreamFuser" (78 : Nat) ({ cls := "StreamFuser$Reader", name := "<init>", desc := "(LStreamFuser$Plan;)V" } : MethodName) "StreamFuser") ∈ sf_N := sf_N_2 81 rfl rfl
theorem wt_465 : (Cond.instanceMethod ({ cls := "StreamFuser$Reader", name := "<init>", desc := "(LStreamFuser$Plan;)V" } : MethodName)) ∈ sf_T := sf_T_2 82 rfl rfl
theorem wt_467 : (Cond.methodLink "StreamFuser$Reader" (3 : Nat) ({ cls := "java/lang/Object", name := "<init>", desc := "()V" } : MethodName)) ∈ sf_T := sf_T_2 84 rfl rfl
theorem wt_468 : (Cond.fieldLink "StreamFuser$Reader" (18 : Nat) "StreamFuser$Reader" "target" "LStreamFuser$Plan;") ∈ sf_T := sf_T_2 85 rfl rfl
theorem wt_469 : (Cond.fieldLink "StreamFuser$Reader" (9 : Nat) "StreamFuser$Reader" "bytes" "[I") ∈ sf_T := sf_T_2 86 rfl rfl
theorem wt_470 : (Cond.fieldLink "StreamFuser$Reader" (22 : Nat) "StreamFuser$Reader" "length" "I") ∈ sf_T := sf_T_2 87 rfl rfl
theorem wt_471 : (Cond.fieldLinkNest "StreamFuser" (96 : Nat) "StreamFuser$Reader" "length" "I" "StreamFuser") ∈ sf_N := sf_N_2 88 rfl rfl
theorem wt_472 : (Cond.fieldLink "StreamFuser$Reader" (15 : Nat) "StreamFuser$Reader" "due" "[I") ∈ sf_T := sf_T_2 89 rfl rfl
theorem wt_473 : (Cond.fieldLink "StreamFuser$Reader" (37 : Nat) "StreamFuser$Reader" "dues" "I") ∈ sf_T := sf_T_2 90 rfl rfl
theorem wt_474 : (Cond.fieldLink "StreamFuser$Reader" (31 : Nat) "StreamFuser$Reader" "at" "I") ∈ sf_T := sf_T_2 91 rfl rfl
theorem wt_475 : (Cond.fieldLink "StreamFuser$Reader" (34 : Nat) "StreamFuser$Reader" "fault" "I") ∈ sf_T := sf_T_2 92 rfl rfl
theorem wt_476 : (Cond.laysFinal "StreamFuser$Reader" "StreamFuser$Reader" "target" "LStreamFuser$Plan;") ∈ sf_T := sf_T_2 93 rfl rfl
theorem wt_478 : (Cond.laysFinal "StreamFuser$Reader" "StreamFuser$Reader" "bytes" "[I") ∈ sf_T := sf_T_2 95 rfl rfl
theorem wt_480 : (Cond.lays "StreamFuser$Reader" "StreamFuser$Reader" "length" "I") ∈ sf_T := sf_T_2 97 rfl rfl
theorem wt_482 : (Cond.laysFinal "StreamFuser$Reader" "StreamFuser$Reader" "due" "[I") ∈ sf_T := sf_T_2 99 rfl rfl
theorem wt_484 : (Cond.lays "StreamFuser$Reader" "StreamFuser$Reader" "dues" "I") ∈ sf_T := sf_T_2 101 rfl rfl
theorem wt_486 : (Cond.lays "StreamFuser$Reader" "StreamFuser$Reader" "at" "I") ∈ sf_T := sf_T_2 103 rfl rfl
theorem wt_488 : (Cond.lays "StreamFuser$Reader" "StreamFuser$Reader" "fault" "I") ∈ sf_T := sf_T_2 105 rfl rfl
theorem wt_491 : (Cond.fieldLink "StreamFuser" (16 : Nat) "StreamFuser" "main" "LStreamFuser$Plan;") ∈ sf_T := sf_T_2 108 rfl rfl
theorem wt_492 : (Cond.fieldLink "StreamFuser" (25 : Nat) "StreamFuser" "printer" "LStreamFuser$Printer;") ∈ sf_T := sf_T_2 109 rfl rfl
theorem wt_493 : (Cond.fieldLink "StreamFuser" (32 : Nat) "StreamFuser" "rewriter" "LStreamFuser$Rewriter;") ∈ sf_T := sf_T_2 110 rfl rfl
theorem wt_494 : (Cond.fieldLink "StreamFuser" (39 : Nat) "StreamFuser" "sheets" "LStreamFuser$Sheets;") ∈ sf_T := sf_T_2 111 rfl rfl
theorem wt_495 : (Cond.fieldLink "StreamFuser" (46 : Nat) "StreamFuser" "latest" "LStreamFuser$Run;") ∈ sf_T := sf_T_2 112 rfl rfl
theorem wt_496 : (Cond.fieldLink "StreamFuser" (55 : Nat) "StreamFuser" "asker" "LStreamFuser$Asker;") ∈ sf_T := sf_T_2 113 rfl rfl
theorem wt_497 : (Cond.fieldLink "StreamFuser" (62 : Nat) "StreamFuser" "stepper" "LStreamFuser$Stepper;") ∈ sf_T := sf_T_2 114 rfl rfl
theorem wt_498 : (Cond.fieldLink "StreamFuser" (69 : Nat) "StreamFuser" "maker" "LStreamFuser$Maker;") ∈ sf_T := sf_T_2 115 rfl rfl
theorem wt_499 : (Cond.fieldLink "StreamFuser" (73 : Nat) "StreamFuser" "draft" "LStreamFuser$Plan;") ∈ sf_T := sf_T_2 116 rfl rfl
theorem wt_500 : (Cond.fieldLink "StreamFuser" (79 : Nat) "StreamFuser" "reader" "LStreamFuser$Reader;") ∈ sf_T := sf_T_2 117 rfl rfl
theorem wt_501 : (Cond.fieldLink "StreamFuser" (83 : Nat) "StreamFuser" "draftRewriter" "LStreamFuser$Rewriter;") ∈ sf_T := sf_T_2 118 rfl rfl
theorem wt_502 : (Cond.fieldLink "StreamFuser" (86 : Nat) "StreamFuser" "trial" "LStreamFuser$Run;") ∈ sf_T := sf_T_2 119 rfl rfl
theorem wt_503 : (Cond.fieldLink "StreamFuser" (89 : Nat) "StreamFuser" "trialAsker" "LStreamFuser$Asker;") ∈ sf_T := sf_T_2 120 rfl rfl
theorem wt_504 : (Cond.fieldLink "StreamFuser" (256 : Nat) "StreamFuser" "finding" "I") ∈ sf_T := sf_T_2 121 rfl rfl
theorem wt_505 : (Cond.laysFinal "StreamFuser" "StreamFuser" "main" "LStreamFuser$Plan;") ∈ sf_T := sf_T_2 122 rfl rfl
theorem wt_507 : (Cond.laysFinal "StreamFuser" "StreamFuser" "printer" "LStreamFuser$Printer;") ∈ sf_T := sf_T_2 124 rfl rfl
theorem wt_509 : (Cond.laysFinal "StreamFuser" "StreamFuser" "rewriter" "LStreamFuser$Rewriter;") ∈ sf_T := sf_T_2 126 rfl rfl
theorem wt_511 : (Cond.laysFinal "StreamFuser" "StreamFuser" "sheets" "LStreamFuser$Sheets;") ∈ sf_T := sf_T_2 128 rfl rfl
theorem wt_513 : (Cond.laysFinal "StreamFuser" "StreamFuser" "latest" "LStreamFuser$Run;") ∈ sf_T := sf_T_2 130 rfl rfl
theorem wt_515 : (Cond.laysFinal "StreamFuser" "StreamFuser" "asker" "LStreamFuser$Asker;") ∈ sf_T := sf_T_2 132 rfl rfl
theorem wt_517 : (Cond.laysFinal "StreamFuser" "StreamFuser" "stepper" "LStreamFuser$Stepper;") ∈ sf_T := sf_T_2 134 rfl rfl
theorem wt_519 : (Cond.laysFinal "StreamFuser" "StreamFuser" "maker" "LStreamFuser$Maker;") ∈ sf_T := sf_T_2 136 rfl rfl
theorem wt_521 : (Cond.laysFinal "StreamFuser" "StreamFuser" "draft" "LStreamFuser$Plan;") ∈ sf_T := sf_T_2 138 rfl rfl
theorem wt_523 : (Cond.laysFinal "StreamFuser" "StreamFuser" "reader" "LStreamFuser$Reader;") ∈ sf_T := sf_T_2 140 rfl rfl
theorem wt_525 : (Cond.laysFinal "StreamFuser" "StreamFuser" "draftRewriter" "LStreamFuser$Rewriter;") ∈ sf_T := sf_T_2 142 rfl rfl
theorem wt_527 : (Cond.laysFinal "StreamFuser" "StreamFuser" "trial" "LStreamFuser$Run;") ∈ sf_T := sf_T_2 144 rfl rfl
theorem wt_529 : (Cond.laysFinal "StreamFuser" "StreamFuser" "trialAsker" "LStreamFuser$Asker;") ∈ sf_T := sf_T_2 146 rfl rfl
theorem wt_531 : (Cond.lays "StreamFuser" "StreamFuser" "finding" "I") ∈ sf_T := sf_T_2 148 rfl rfl
theorem wt_534 : (Cond.methodLink "StreamFuserLaw" (13 : Nat) ({ cls := "StreamFuser", name := "type", desc := "(I)I" } : MethodName)) ∈ sf_T := sf_T_2 151 rfl rfl
theorem wt_535 : (Cond.instanceMethod ({ cls := "StreamFuser", name := "type", desc := "(I)I" } : MethodName)) ∈ sf_T := sf_T_2 152 rfl rfl
theorem wt_536 : (Cond.selects "StreamFuser" ({ cls := "StreamFuser", name := "type", desc := "(I)I" } : MethodName) ({ cls := "StreamFuser", name := "type", desc := "(I)I" } : MethodName)) ∈ sf_T := sf_T_2 153 rfl rfl
theorem wt_537 : (Cond.code ({ cls := "StreamFuser", name := "type", desc := "(I)I" } : MethodName) prog_1_method_2_code (2 : Nat) (Option.some FieldType.int)) ∈ sf_T := sf_T_2 154 rfl rfl
theorem wt_538 : (Cond.methodLinkNest "StreamFuser" (92 : Nat) ({ cls := "StreamFuser$Reader", name := "append", desc := "(I)Z" } : MethodName) "StreamFuser") ∈ sf_N := sf_N_2 155 rfl rfl
theorem wt_540 : (Cond.instanceMethod ({ cls := "StreamFuser$Reader", name := "append", desc := "(I)Z" } : MethodName)) ∈ sf_T := sf_T_2 157 rfl rfl
theorem wt_541 : (Cond.code ({ cls := "StreamFuser$Reader", name := "append", desc := "(I)Z" } : MethodName) prog_6_method_2_code (2 : Nat) (Option.some FieldType.boolean)) ∈ sf_T := sf_T_2 158 rfl rfl
theorem wt_542 : (Cond.methodLink "StreamFuserLaw" (18 : Nat) ({ cls := "StreamFuser", name := "wipe", desc := "()I" } : MethodName)) ∈ sf_T := sf_T_2 159 rfl rfl
theorem wt_543 : (Cond.instanceMethod ({ cls := "StreamFuser", name := "wipe", desc := "()I" } : MethodName)) ∈ sf_T := sf_T_2 160 rfl rfl
theorem wt_544 : (Cond.selects "StreamFuser" ({ cls := "StreamFuser", name := "wipe", desc := "()I" } : MethodName) ({ cls := "StreamFuser", name := "wipe", desc := "()I" } : MethodName)) ∈ sf_T := sf_T_2 161 rfl rfl
theorem wt_545 : (Cond.code ({ cls := "StreamFuser", name := "wipe", desc := "()I" } : MethodName) prog_1_method_3_code (2 : Nat) (Option.some FieldType.int)) ∈ sf_T := sf_T_2 162 rfl rfl
theorem wt_546 : (Cond.methodLink "StreamFuserLaw" (23 : Nat) ({ cls := "StreamFuser", name := "fault", desc := "()I" } : MethodName)) ∈ sf_T := sf_T_2 163 rfl rfl
theorem wt_547 : (Cond.instanceMethod ({ cls := "StreamFuser", name := "fault", desc := "()I" } : MethodName)) ∈ sf_T := sf_T_2 164 rfl rfl
theorem wt_548 : (Cond.selects "StreamFuser" ({ cls := "StreamFuser", name := "fault", desc := "()I" } : MethodName) ({ cls := "StreamFuser", name := "fault", desc := "()I" } : MethodName)) ∈ sf_T := sf_T_2 165 rfl rfl
theorem wt_549 : (Cond.code ({ cls := "StreamFuser", name := "fault", desc := "()I" } : MethodName) prog_1_method_4_code (1 : Nat) (Option.some FieldType.int)) ∈ sf_T := sf_T_2 166 rfl rfl
theorem wt_550 : (Cond.methodLinkNest "StreamFuser" (100 : Nat) ({ cls := "StreamFuser$Reader", name := "read", desc := "()I" } : MethodName) "StreamFuser") ∈ sf_N := sf_N_2 167 rfl rfl
theorem wt_552 : (Cond.instanceMethod ({ cls := "StreamFuser$Reader", name := "read", desc := "()I" } : MethodName)) ∈ sf_T := sf_T_2 169 rfl rfl
theorem wt_553 : (Cond.code ({ cls := "StreamFuser$Reader", name := "read", desc := "()I" } : MethodName) prog_6_method_3_code (2 : Nat) (Option.some FieldType.int)) ∈ sf_T := sf_T_2 170 rfl rfl
theorem wt_554 : (Cond.methodLink "StreamFuser$Reader" (40 : Nat) ({ cls := "StreamFuser$Reader", name := "expect", desc := "(I)V" } : MethodName)) ∈ sf_T := sf_T_2 171 rfl rfl
theorem wt_556 : (Cond.instanceMethod ({ cls := "StreamFuser$Reader", name := "expect", desc := "(I)V" } : MethodName)) ∈ sf_T := sf_T_2 173 rfl rfl
theorem wt_557 : (Cond.code ({ cls := "StreamFuser$Reader", name := "expect", desc := "(I)V" } : MethodName) prog_6_method_4_code (2 : Nat) (Option.none : Option FieldType)) ∈ sf_T := sf_T_2 174 rfl rfl
theorem wt_558 : (Cond.methodLink "StreamFuser$Reader" (44 : Nat) ({ cls := "StreamFuser$Reader", name := "readNode", desc := "()V" } : MethodName)) ∈ sf_T := sf_T_2 175 rfl rfl
theorem wt_560 : (Cond.instanceMethod ({ cls := "StreamFuser$Reader", name := "readNode", desc := "()V" } : MethodName)) ∈ sf_T := sf_T_2 177 rfl rfl
theorem wt_561 : (Cond.code ({ cls := "StreamFuser$Reader", name := "readNode", desc := "()V" } : MethodName) prog_6_method_5_code (7 : Nat) (Option.none : Option FieldType)) ∈ sf_T := sf_T_2 178 rfl rfl
theorem wt_562 : (Cond.methodLink "StreamFuser$Reader" (47 : Nat) ({ cls := "StreamFuser$Reader", name := "peek", desc := "()I" } : MethodName)) ∈ sf_T := sf_T_2 179 rfl rfl
theorem wt_564 : (Cond.instanceMethod ({ cls := "StreamFuser$Reader", name := "peek", desc := "()I" } : MethodName)) ∈ sf_T := sf_T_2 181 rfl rfl
theorem wt_565 : (Cond.code ({ cls := "StreamFuser$Reader", name := "peek", desc := "()I" } : MethodName) prog_6_method_7_code (1 : Nat) (Option.some FieldType.int)) ∈ sf_T := sf_T_2 182 rfl rfl
theorem wt_566 : (Cond.methodLink "StreamFuser$Reader" (51 : Nat) ({ cls := "StreamFuser$Reader", name := "isLetter", desc := "(II)Z" } : MethodName)) ∈ sf_T := sf_T_2 183 rfl rfl
theorem wt_567 : (Cond.static ({ cls := "StreamFuser$Reader", name := "isLetter", desc := "(II)Z" } : MethodName)) ∈ sf_T := sf_T_2 184 rfl rfl
theorem wt_568 : (Cond.code ({ cls := "StreamFuser$Reader", name := "isLetter", desc := "(II)Z" } : MethodName) prog_6_method_9_code (2 : Nat) (Option.some FieldType.boolean)) ∈ sf_T := sf_T_2 185 rfl rfl
theorem wt_569 : (Cond.methodLinkNest "StreamFuser$Reader" (81 : Nat) ({ cls := "StreamFuser$Plan", name := "partsOf", desc := "(I)I" } : MethodName) "StreamFuser") ∈ sf_N := sf_N_2 186 rfl rfl
theorem wt_570 : (Cond.static ({ cls := "StreamFuser$Plan", name := "partsOf", desc := "(I)I" } : MethodName)) ∈ sf_T := sf_T_2 187 rfl rfl
theorem wt_571 : (Cond.code ({ cls := "StreamFuser$Plan", name := "partsOf", desc := "(I)I" } : MethodName) prog_4_method_2_code (1 : Nat) (Option.some FieldType.int)) ∈ sf_T := sf_T_2 188 rfl rfl
theorem wt_572 : (Cond.methodLinkNest "StreamFuser$Reader" (67 : Nat) ({ cls := "StreamFuser$Plan", name := "numbersOf", desc := "(I)I" } : MethodName) "StreamFuser") ∈ sf_N := sf_N_2 189 rfl rfl
theorem wt_573 : (Cond.static ({ cls := "StreamFuser$Plan", name := "numbersOf", desc := "(I)I" } : MethodName)) ∈ sf_T := sf_T_2 190 rfl rfl
theorem wt_574 : (Cond.code ({ cls := "StreamFuser$Plan", name := "numbersOf", desc := "(I)I" } : MethodName) prog_4_method_3_code (1 : Nat) (Option.some FieldType.int)) ∈ sf_T := sf_T_2 191 rfl rfl
theorem wt_575 : (Cond.methodLink "StreamFuser$Reader" (55 : Nat) ({ cls := "StreamFuser$Reader", name := "accept", desc := "(Z)V" } : MethodName)) ∈ sf_T := sf_T_2 192 rfl rfl
theorem wt_577 : (Cond.instanceMethod ({ cls := "StreamFuser$Reader", name := "accept", desc := "(Z)V" } : MethodName)) ∈ sf_T := sf_T_2 194 rfl rfl
theorem wt_578 : (Cond.code ({ cls := "StreamFuser$Reader", name := "accept", desc := "(Z)V" } : MethodName) prog_6_method_8_code (2 : Nat) (Option.none : Option FieldType)) ∈ sf_T := sf_T_2 195 rfl rfl
theorem wt_579 : (Cond.methodLink "StreamFuser$Reader" (59 : Nat) ({ cls := "StreamFuser$Reader", name := "hasMark", desc := "(I)Z" } : MethodName)) ∈ sf_T := sf_T_2 196 rfl rfl
theorem wt_580 : (Cond.static ({ cls := "StreamFuser$Reader", name := "hasMark", desc := "(I)Z" } : MethodName)) ∈ sf_T := sf_T_2 197 rfl rfl
theorem wt_581 : (Cond.code ({ cls := "StreamFuser$Reader", name := "hasMark", desc := "(I)Z" } : MethodName) prog_6_method_10_code (1 : Nat) (Option.some FieldType.boolean)) ∈ sf_T := sf_T_2 198 rfl rfl
theorem wt_582 : (Cond.methodLink "StreamFuser$Reader" (84 : Nat) ({ cls := "StreamFuser$Reader", name := "hasDigit", desc := "(I)Z" } : MethodName)) ∈ sf_T := sf_T_2 199 rfl rfl
theorem wt_583 : (Cond.static ({ cls := "StreamFuser$Reader", name := "hasDigit", desc := "(I)Z" } : MethodName)) ∈ sf_T := sf_T_2 200 rfl rfl
theorem wt_584 : (Cond.code ({ cls := "StreamFuser$Reader", name := "hasDigit", desc := "(I)Z" } : MethodName) prog_6_method_11_code (1 : Nat) (Option.some FieldType.boolean)) ∈ sf_T := sf_T_2 201 rfl rfl
theorem wt_585 : (Cond.methodLink "StreamFuser$Reader" (63 : Nat) ({ cls := "StreamFuser$Reader", name := "readMark", desc := "(I)I" } : MethodName)) ∈ sf_T := sf_T_2 202 rfl rfl
theorem wt_587 : (Cond.instanceMethod ({ cls := "StreamFuser$Reader", name := "readMark", desc := "(I)I" } : MethodName)) ∈ sf_T := sf_T_2 204 rfl rfl
theorem wt_588 : (Cond.code ({ cls := "StreamFuser$Reader", name := "readMark", desc := "(I)I" } : MethodName) prog_6_method_12_code (3 : Nat) (Option.some FieldType.int)) ∈ sf_T := sf_T_2 205 rfl rfl
theorem wt_589 : (Cond.methodLink "StreamFuser$Reader" (87 : Nat) ({ cls := "StreamFuser$Reader", name := "fitsMark", desc := "(II)Z" } : MethodName)) ∈ sf_T := sf_T_2 206 rfl rfl
theorem wt_590 : (Cond.static ({ cls := "StreamFuser$Reader", name := "fitsMark", desc := "(II)Z" } : MethodName)) ∈ sf_T := sf_T_2 207 rfl rfl
theorem wt_591 : (Cond.code ({ cls := "StreamFuser$Reader", name := "fitsMark", desc := "(II)Z" } : MethodName) prog_6_method_13_code (2 : Nat) (Option.some FieldType.boolean)) ∈ sf_T := sf_T_2 208 rfl rfl
theorem wt_592 : (Cond.methodLink "StreamFuser$Reader" (90 : Nat) ({ cls := "StreamFuser$Reader", name := "isDigit", desc := "(I)Z" } : MethodName)) ∈ sf_T := sf_T_2 209 rfl rfl
theorem wt_593 : (Cond.static ({ cls := "StreamFuser$Reader", name := "isDigit", desc := "(I)Z" } : MethodName)) ∈ sf_T := sf_T_2 210 rfl rfl
theorem wt_594 : (Cond.code ({ cls := "StreamFuser$Reader", name := "isDigit", desc := "(I)Z" } : MethodName) prog_6_method_14_code (1 : Nat) (Option.some FieldType.boolean)) ∈ sf_T := sf_T_2 211 rfl rfl
theorem wt_595 : (Cond.methodLink "StreamFuser$Reader" (70 : Nat) ({ cls := "StreamFuser$Reader", name := "readNumber", desc := "(I)I" } : MethodName)) ∈ sf_T := sf_T_2 212 rfl rfl
theorem wt_597 : (Cond.instanceMethod ({ cls := "StreamFuser$Reader", name := "readNumber", desc := "(I)I" } : MethodName)) ∈ sf_T := sf_T_2 214 rfl rfl
theorem wt_598 : (Cond.code ({ cls := "StreamFuser$Reader", name := "readNumber", desc := "(I)I" } : MethodName) prog_6_method_15_code (9 : Nat) (Option.some FieldType.int)) ∈ sf_T := sf_T_2 215 rfl rfl
theorem wt_599 : (Cond.methodLinkNest "StreamFuser$Reader" (73 : Nat) ({ cls := "StreamFuser$Plan", name := "add", desc := "(IIII)V" } : MethodName) "StreamFuser") ∈ sf_N := sf_N_2 216 rfl rfl
theorem wt_601 : (Cond.instanceMethod ({ cls := "StreamFuser$Plan", name := "add", desc := "(IIII)V" } : MethodName)) ∈ sf_T := sf_T_2 218 rfl rfl
theorem wt_602 : (Cond.code ({ cls := "StreamFuser$Plan", name := "add", desc := "(IIII)V" } : MethodName) prog_4_method_9_code (5 : Nat) (Option.none : Option FieldType)) ∈ sf_T := sf_T_2 219 rfl rfl
theorem wt_603 : (Cond.methodLink "StreamFuser$Reader" (77 : Nat) ({ cls := "StreamFuser$Reader", name := "expectParts", desc := "(II)V" } : MethodName)) ∈ sf_T := sf_T_2 220 rfl rfl
theorem wt_605 : (Cond.instanceMethod ({ cls := "StreamFuser$Reader", name := "expectParts", desc := "(II)V" } : MethodName)) ∈ sf_T := sf_T_2 222 rfl rfl
theorem wt_606 : (Cond.code ({ cls := "StreamFuser$Reader", name := "expectParts", desc := "(II)V" } : MethodName) prog_6_method_6_code (4 : Nat) (Option.none : Option FieldType)) ∈ sf_T := sf_T_2 223 rfl rfl
theorem wt_607 : (Cond.methodLink "StreamFuserLaw" (27 : Nat) ({ cls := "StreamFuser", name := "plan", desc := "()I" } : MethodName)) ∈ sf_T := sf_T_2 224 rfl rfl
theorem wt_608 : (Cond.instanceMethod ({ cls := "StreamFuser", name := "plan", desc := "()I" } : MethodName)) ∈ sf_T := sf_T_2 225 rfl rfl
theorem wt_609 : (Cond.selects "StreamFuser" ({ cls := "StreamFuser", name := "plan", desc := "()I" } : MethodName) ({ cls := "StreamFuser", name := "plan", desc := "()I" } : MethodName)) ∈ sf_T := sf_T_2 226 rfl rfl
theorem wt_610 : (Cond.code ({ cls := "StreamFuser", name := "plan", desc := "()I" } : MethodName) prog_1_method_5_code (2 : Nat) (Option.some FieldType.int)) ∈ sf_T := sf_T_2 227 rfl rfl
theorem wt_611 : (Cond.methodLinkNest "StreamFuser" (104 : Nat) ({ cls := "StreamFuser$Plan", name := "takeFrom", desc := "(LStreamFuser$Plan;)V" } : MethodName) "StreamFuser") ∈ sf_N := sf_N_2 228 rfl rfl
theorem wt_613 : (Cond.instanceMethod ({ cls := "StreamFuser$Plan", name := "takeFrom", desc := "(LStreamFuser$Plan;)V" } : MethodName)) ∈ sf_T := sf_T_2 230 rfl rfl
theorem wt_614 : (Cond.code ({ cls := "StreamFuser$Plan", name := "takeFrom", desc := "(LStreamFuser$Plan;)V" } : MethodName) prog_4_method_10_code (3 : Nat) (Option.none : Option FieldType)) ∈ sf_T := sf_T_2 231 rfl rfl
theorem wt_615 : (Cond.methodLink "StreamFuser$Plan" (58 : Nat) ({ cls := "StreamFuser$Plan", name := "add", desc := "(IIII)V" } : MethodName)) ∈ sf_T := sf_T_2 232 rfl rfl
theorem wt_616 : (Cond.methodLink "StreamFuser$Plan" (62 : Nat) ({ cls := "StreamFuser$Plan", name := "measure", desc := "()V" } : MethodName)) ∈ sf_T := sf_T_2 233 rfl rfl
theorem wt_618 : (Cond.instanceMethod ({ cls := "StreamFuser$Plan", name := "measure", desc := "()V" } : MethodName)) ∈ sf_T := sf_T_2 235 rfl rfl
theorem wt_619 : (Cond.code ({ cls := "StreamFuser$Plan", name := "measure", desc := "()V" } : MethodName) prog_4_method_15_code (2 : Nat) (Option.none : Option FieldType)) ∈ sf_T := sf_T_2 236 rfl rfl
theorem wt_620 : (Cond.methodLink "StreamFuser$Plan" (72 : Nat) ({ cls := "StreamFuser$Plan", name := "measureFromParts", desc := "(I)V" } : MethodName)) ∈ sf_T := sf_T_2 237 rfl rfl
theorem wt_622 : (Cond.instanceMethod ({ cls := "StreamFuser$Plan", name := "measureFromParts", desc := "(I)V" } : MethodName)) ∈ sf_T := sf_T_2 239 rfl rfl
theorem wt_623 : (Cond.code ({ cls := "StreamFuser$Plan", name := "measureFromParts", desc := "(I)V" } : MethodName) prog_4_method_16_code (6 : Nat) (Option.none : Option FieldType)) ∈ sf_T := sf_T_3 0 rfl rfl
theorem wt_624 : (Cond.methodLink "StreamFuser$Plan" (89 : Nat) ({ cls := "StreamFuser$Plan", name := "partsOf", desc := "(I)I" } : MethodName)) ∈ sf_T := sf_T_3 1 rfl rfl
theorem wt_625 : (Cond.methodLink "StreamFuser$Plan" (80 : Nat) ({ cls := "StreamFuser$Plan", name := "measureParts", desc := "(I)V" } : MethodName)) ∈ sf_T := sf_T_3 2 rfl rfl
theorem wt_627 : (Cond.instanceMethod ({ cls := "StreamFuser$Plan", name := "measureParts", desc := "(I)V" } : MethodName)) ∈ sf_T := sf_T_3 4 rfl rfl
theorem wt_628 : (Cond.code ({ cls := "StreamFuser$Plan", name := "measureParts", desc := "(I)V" } : MethodName) prog_4_method_17_code (6 : Nat) (Option.none : Option FieldType)) ∈ sf_T := sf_T_3 5 rfl rfl
theorem wt_629 : (Cond.methodLink "StreamFuser$Plan" (83 : Nat) ({ cls := "java/lang/Math", name := "max", desc := "(II)I" } : MethodName)) ∈ sf_T := sf_T_3 6 rfl rfl
theorem wt_630 : (Cond.static ({ cls := "java/lang/Math", name := "max", desc := "(II)I" } : MethodName)) ∈ sf_T := sf_T_3 7 rfl rfl
theorem wt_631 : (Cond.code Lib.Math.max.name Lib.Math.max.code 2 (some .int)) ∈ sf_T := sf_T_3 8 (by decide +kernel) rfl
theorem wt_632 : (Cond.methodLinkNest "StreamFuser" (107 : Nat) ({ cls := "StreamFuser$Printer", name := "print", desc := "()V" } : MethodName) "StreamFuser") ∈ sf_N := sf_N_3 9 rfl rfl
theorem wt_634 : (Cond.instanceMethod ({ cls := "StreamFuser$Printer", name := "print", desc := "()V" } : MethodName)) ∈ sf_T := sf_T_3 11 rfl rfl
theorem wt_635 : (Cond.code ({ cls := "StreamFuser$Printer", name := "print", desc := "()V" } : MethodName) prog_5_method_2_code (2 : Nat) (Option.none : Option FieldType)) ∈ sf_T := sf_T_3 12 rfl rfl
theorem wt_636 : (Cond.methodLink "StreamFuser$Printer" (26 : Nat) ({ cls := "StreamFuser$Printer", name := "printNode", desc := "(I)V" } : MethodName)) ∈ sf_T := sf_T_3 13 rfl rfl
theorem wt_638 : (Cond.instanceMethod ({ cls := "StreamFuser$Printer", name := "printNode", desc := "(I)V" } : MethodName)) ∈ sf_T := sf_T_3 15 rfl rfl
theorem wt_639 : (Cond.code ({ cls := "StreamFuser$Printer", name := "printNode", desc := "(I)V" } : MethodName) prog_5_method_3_code (4 : Nat) (Option.none : Option FieldType)) ∈ sf_T := sf_T_3 16 rfl rfl
theorem wt_640 : (Cond.methodLinkNest "StreamFuser$Printer" (34 : Nat) ({ cls := "StreamFuser$Plan", name := "numbersOf", desc := "(I)I" } : MethodName) "StreamFuser") ∈ sf_N := sf_N_3 17 rfl rfl
theorem wt_641 : (Cond.methodLink "StreamFuser$Printer" (38 : Nat) ({ cls := "StreamFuser$Printer", name := "put", desc := "(I)V" } : MethodName)) ∈ sf_T := sf_T_3 18 rfl rfl
theorem wt_643 : (Cond.instanceMethod ({ cls := "StreamFuser$Printer", name := "put", desc := "(I)V" } : MethodName)) ∈ sf_T := sf_T_3 20 rfl rfl
theorem wt_644 : (Cond.code ({ cls := "StreamFuser$Printer", name := "put", desc := "(I)V" } : MethodName) prog_5_method_4_code (2 : Nat) (Option.none : Option FieldType)) ∈ sf_T := sf_T_3 21 rfl rfl
theorem wt_645 : (Cond.methodLinkNest "StreamFuser$Printer" (41 : Nat) ({ cls := "StreamFuser$Reader", name := "hasDigit", desc := "(I)Z" } : MethodName) "StreamFuser") ∈ sf_N := sf_N_3 22 rfl rfl
theorem wt_646 : (Cond.methodLinkNest "StreamFuser$Printer" (50 : Nat) ({ cls := "StreamFuser$Reader", name := "hasMark", desc := "(I)Z" } : MethodName) "StreamFuser") ∈ sf_N := sf_N_3 23 rfl rfl
theorem wt_647 : (Cond.methodLink "StreamFuser$Printer" (56 : Nat) ({ cls := "StreamFuser$Printer", name := "putNumber", desc := "(I)V" } : MethodName)) ∈ sf_T := sf_T_3 24 rfl rfl
theorem wt_649 : (Cond.instanceMethod ({ cls := "StreamFuser$Printer", name := "putNumber", desc := "(I)V" } : MethodName)) ∈ sf_T := sf_T_3 26 rfl rfl
theorem wt_650 : (Cond.code ({ cls := "StreamFuser$Printer", name := "putNumber", desc := "(I)V" } : MethodName) prog_5_method_5_code (7 : Nat) (Option.none : Option FieldType)) ∈ sf_T := sf_T_3 27 rfl rfl
theorem wt_651 : (Cond.methodLink "StreamFuser$Printer" (62 : Nat) ({ cls := "java/lang/Math", name := "abs", desc := "(J)J" } : MethodName)) ∈ sf_T := sf_T_3 28 rfl rfl
theorem wt_652 : (Cond.static ({ cls := "java/lang/Math", name := "abs", desc := "(J)J" } : MethodName)) ∈ sf_T := sf_T_3 29 rfl rfl
theorem wt_653 : (Cond.code Lib.MathLoose.abs_long.x Lib.MathLoose.abs_long.code 2 (some .long)) ∈ sf_T := sf_T_3 30 (by decide +kernel) rfl
theorem wt_654 : (Cond.constantLong "StreamFuser$Printer" (68 : Nat) (10 : Int64)) ∈ sf_T := sf_T_3 31 rfl rfl
theorem wt_655 : (Cond.methodLink "StreamFuserLaw" (31 : Nat) ({ cls := "StreamFuser", name := "node", desc := "(II)I" } : MethodName)) ∈ sf_T := sf_T_3 32 rfl rfl
theorem wt_656 : (Cond.instanceMethod ({ cls := "StreamFuser", name := "node", desc := "(II)I" } : MethodName)) ∈ sf_T := sf_T_3 33 rfl rfl
theorem wt_657 : (Cond.selects "StreamFuser" ({ cls := "StreamFuser", name := "node", desc := "(II)I" } : MethodName) ({ cls := "StreamFuser", name := "node", desc := "(II)I" } : MethodName)) ∈ sf_T := sf_T_3 34 rfl rfl
theorem wt_658 : (Cond.code ({ cls := "StreamFuser", name := "node", desc := "(II)I" } : MethodName) prog_1_method_6_code (3 : Nat) (Option.some FieldType.int)) ∈ sf_T := sf_T_3 35 rfl rfl
theorem wt_659 : (Cond.methodLinkNest "StreamFuser" (113 : Nat) ({ cls := "StreamFuser$Plan", name := "has", desc := "(I)Z" } : MethodName) "StreamFuser") ∈ sf_N := sf_N_3 36 rfl rfl
theorem wt_661 : (Cond.instanceMethod ({ cls := "StreamFuser$Plan", name := "has", desc := "(I)Z" } : MethodName)) ∈ sf_T := sf_T_3 38 rfl rfl
theorem wt_662 : (Cond.code ({ cls := "StreamFuser$Plan", name := "has", desc := "(I)Z" } : MethodName) prog_4_method_4_code (2 : Nat) (Option.some FieldType.boolean)) ∈ sf_T := sf_T_3 39 rfl rfl
theorem wt_663 : (Cond.constant "StreamFuser" (116 : Nat) (-2147483648 : Int32)) ∈ sf_T := sf_T_3 40 rfl rfl
theorem wt_664 : (Cond.methodLink "StreamFuserLaw" (36 : Nat) ({ cls := "StreamFuser", name := "text", desc := "(I)I" } : MethodName)) ∈ sf_T := sf_T_3 41 rfl rfl
theorem wt_665 : (Cond.instanceMethod ({ cls := "StreamFuser", name := "text", desc := "(I)I" } : MethodName)) ∈ sf_T := sf_T_3 42 rfl rfl
theorem wt_666 : (Cond.selects "StreamFuser" ({ cls := "StreamFuser", name := "text", desc := "(I)I" } : MethodName) ({ cls := "StreamFuser", name := "text", desc := "(I)I" } : MethodName)) ∈ sf_T := sf_T_3 43 rfl rfl
theorem wt_667 : (Cond.code ({ cls := "StreamFuser", name := "text", desc := "(I)I" } : MethodName) prog_1_method_7_code (2 : Nat) (Option.some FieldType.int)) ∈ sf_T := sf_T_3 44 rfl rfl
theorem wt_668 : (Cond.methodLink "StreamFuserLaw" (40 : Nat) ({ cls := "StreamFuser", name := "tidy", desc := "(I)I" } : MethodName)) ∈ sf_T := sf_T_3 45 rfl rfl
theorem wt_669 : (Cond.instanceMethod ({ cls := "StreamFuser", name := "tidy", desc := "(I)I" } : MethodName)) ∈ sf_T := sf_T_3 46 rfl rfl
theorem wt_670 : (Cond.selects "StreamFuser" ({ cls := "StreamFuser", name := "tidy", desc := "(I)I" } : MethodName) ({ cls := "StreamFuser", name := "tidy", desc := "(I)I" } : MethodName)) ∈ sf_T := sf_T_3 47 rfl rfl
theorem wt_671 : (Cond.code ({ cls := "StreamFuser", name := "tidy", desc := "(I)I" } : MethodName) prog_1_method_8_code (2 : Nat) (Option.some FieldType.int)) ∈ sf_T := sf_T_3 48 rfl rfl
theorem wt_672 : (Cond.methodLinkNest "StreamFuser" (142 : Nat) ({ cls := "StreamFuser$Rewriter", name := "simplify", desc := "(Z)V" } : MethodName) "StreamFuser") ∈ sf_N := sf_N_3 49 rfl rfl
theorem wt_674 : (Cond.instanceMethod ({ cls := "StreamFuser$Rewriter", name := "simplify", desc := "(Z)V" } : MethodName)) ∈ sf_T := sf_T_3 51 rfl rfl
theorem wt_675 : (Cond.code ({ cls := "StreamFuser$Rewriter", name := "simplify", desc := "(Z)V" } : MethodName) prog_7_method_2_code (5 : Nat) (Option.none : Option FieldType)) ∈ sf_T := sf_T_3 52 rfl rfl
theorem wt_676 : (Cond.constant "StreamFuser$Rewriter" (23 : Nat) (1000000 : Int32)) ∈ sf_T := sf_T_3 53 rfl rfl
theorem wt_677 : (Cond.methodLink "StreamFuser$Rewriter" (24 : Nat) ({ cls := "StreamFuser$Rewriter", name := "place", desc := "(Z)I" } : MethodName)) ∈ sf_T := sf_T_3 54 rfl rfl
theorem wt_679 : (Cond.instanceMethod ({ cls := "StreamFuser$Rewriter", name := "place", desc := "(Z)I" } : MethodName)) ∈ sf_T := sf_T_3 56 rfl rfl
theorem wt_680 : (Cond.code ({ cls := "StreamFuser$Rewriter", name := "place", desc := "(Z)I" } : MethodName) prog_7_method_3_code (5 : Nat) (Option.some FieldType.int)) ∈ sf_T := sf_T_3 57 rfl rfl
theorem wt_681 : (Cond.methodLink "StreamFuser$Rewriter" (28 : Nat) ({ cls := "StreamFuser$Rewriter", name := "ruleFor", desc := "(I)I" } : MethodName)) ∈ sf_T := sf_T_3 58 rfl rfl
theorem wt_683 : (Cond.instanceMethod ({ cls := "StreamFuser$Rewriter", name := "ruleFor", desc := "(I)I" } : MethodName)) ∈ sf_T := sf_T_3 60 rfl rfl
theorem wt_684 : (Cond.code ({ cls := "StreamFuser$Rewriter", name := "ruleFor", desc := "(I)I" } : MethodName) prog_7_method_4_code (2 : Nat) (Option.some FieldType.int)) ∈ sf_T := sf_T_3 61 rfl rfl
theorem wt_685 : (Cond.methodLinkNest "StreamFuser$Rewriter" (44 : Nat) ({ cls := "StreamFuser$Plan", name := "has", desc := "(I)Z" } : MethodName) "StreamFuser") ∈ sf_N := sf_N_3 62 rfl rfl
theorem wt_686 : (Cond.methodLinkNest "StreamFuser$Rewriter" (57 : Nat) ({ cls := "StreamFuser$Plan", name := "isNil", desc := "(I)Z" } : MethodName) "StreamFuser") ∈ sf_N := sf_N_3 63 rfl rfl
theorem wt_688 : (Cond.instanceMethod ({ cls := "StreamFuser$Plan", name := "isNil", desc := "(I)Z" } : MethodName)) ∈ sf_T := sf_T_3 65 rfl rfl
theorem wt_689 : (Cond.code ({ cls := "StreamFuser$Plan", name := "isNil", desc := "(I)Z" } : MethodName) prog_4_method_6_code (2 : Nat) (Option.some FieldType.boolean)) ∈ sf_T := sf_T_3 66 rfl rfl
theorem wt_690 : (Cond.methodLink "StreamFuser$Plan" (47 : Nat) ({ cls := "StreamFuser$Plan", name := "has", desc := "(I)Z" } : MethodName)) ∈ sf_T := sf_T_3 67 rfl rfl
theorem wt_691 : (Cond.methodLink "StreamFuser$Rewriter" (60 : Nat) ({ cls := "StreamFuser$Rewriter", name := "ruleForTake", desc := "(I)I" } : MethodName)) ∈ sf_T := sf_T_3 68 rfl rfl
theorem wt_693 : (Cond.instanceMethod ({ cls := "StreamFuser$Rewriter", name := "ruleForTake", desc := "(I)I" } : MethodName)) ∈ sf_T := sf_T_3 70 rfl rfl
theorem wt_694 : (Cond.code ({ cls := "StreamFuser$Rewriter", name := "ruleForTake", desc := "(I)I" } : MethodName) prog_7_method_5_code (2 : Nat) (Option.some FieldType.int)) ∈ sf_T := sf_T_3 71 rfl rfl
theorem wt_695 : (Cond.methodLinkNest "StreamFuser$Rewriter" (72 : Nat) ({ cls := "StreamFuser$Plan", name := "letterAt", desc := "(I)I" } : MethodName) "StreamFuser") ∈ sf_N := sf_N_3 72 rfl rfl
theorem wt_697 : (Cond.instanceMethod ({ cls := "StreamFuser$Plan", name := "letterAt", desc := "(I)I" } : MethodName)) ∈ sf_T := sf_T_3 74 rfl rfl
theorem wt_698 : (Cond.code ({ cls := "StreamFuser$Plan", name := "letterAt", desc := "(I)I" } : MethodName) prog_4_method_5_code (2 : Nat) (Option.some FieldType.int)) ∈ sf_T := sf_T_3 75 rfl rfl
theorem wt_699 : (Cond.methodLink "StreamFuser$Rewriter" (63 : Nat) ({ cls := "StreamFuser$Rewriter", name := "ruleForDrop", desc := "(I)I" } : MethodName)) ∈ sf_T := sf_T_3 76 rfl rfl
theorem wt_701 : (Cond.instanceMethod ({ cls := "StreamFuser$Rewriter", name := "ruleForDrop", desc := "(I)I" } : MethodName)) ∈ sf_T := sf_T_3 78 rfl rfl
theorem wt_702 : (Cond.code ({ cls := "StreamFuser$Rewriter", name := "ruleForDrop", desc := "(I)I" } : MethodName) prog_7_method_6_code (3 : Nat) (Option.some FieldType.int)) ∈ sf_T := sf_T_3 79 rfl rfl
theorem wt_703 : (Cond.methodLinkNest "StreamFuser$Rewriter" (66 : Nat) ({ cls := "StreamFuser$Plan", name := "secondPart", desc := "(I)I" } : MethodName) "StreamFuser") ∈ sf_N := sf_N_3 80 rfl rfl
theorem wt_705 : (Cond.instanceMethod ({ cls := "StreamFuser$Plan", name := "secondPart", desc := "(I)I" } : MethodName)) ∈ sf_T := sf_T_3 82 rfl rfl
theorem wt_706 : (Cond.code ({ cls := "StreamFuser$Plan", name := "secondPart", desc := "(I)I" } : MethodName) prog_4_method_7_code (2 : Nat) (Option.some FieldType.int)) ∈ sf_T := sf_T_3 83 rfl rfl
theorem wt_707 : (Cond.methodLinkNest "StreamFuser$Rewriter" (69 : Nat) ({ cls := "StreamFuser$Plan", name := "input", desc := "(I)I" } : MethodName) "StreamFuser") ∈ sf_N := sf_N_3 84 rfl rfl
theorem wt_709 : (Cond.instanceMethod ({ cls := "StreamFuser$Plan", name := "input", desc := "(I)I" } : MethodName)) ∈ sf_T := sf_T_3 86 rfl rfl
theorem wt_710 : (Cond.code ({ cls := "StreamFuser$Plan", name := "input", desc := "(I)I" } : MethodName) prog_4_method_8_code (2 : Nat) (Option.some FieldType.int)) ∈ sf_T := sf_T_3 87 rfl rfl
theorem wt_711 : (Cond.methodLink "StreamFuser$Plan" (51 : Nat) ({ cls := "StreamFuser$Plan", name := "letterAt", desc := "(I)I" } : MethodName)) ∈ sf_T := sf_T_3 88 rfl rfl
theorem wt_712 : (Cond.methodLink "StreamFuser$Plan" (55 : Nat) ({ cls := "StreamFuser$Plan", name := "secondPart", desc := "(I)I" } : MethodName)) ∈ sf_T := sf_T_3 89 rfl rfl
theorem wt_713 : (Cond.methodLink "StreamFuser$Rewriter" (32 : Nat) ({ cls := "StreamFuser$Rewriter", name := "apply", desc := "(II)V" } : MethodName)) ∈ sf_T := sf_T_3 90 rfl rfl
theorem wt_715 : (Cond.instanceMethod ({ cls := "StreamFuser$Rewriter", name := "apply", desc := "(II)V" } : MethodName)) ∈ sf_T := sf_T_3 92 rfl rfl
theorem wt_716 : (Cond.code ({ cls := "StreamFuser$Rewriter", name := "apply", desc := "(II)V" } : MethodName) prog_7_method_7_code (3 : Nat) (Option.none : Option FieldType)) ∈ sf_T := sf_T_3 93 rfl rfl
theorem wt_717 : (Cond.methodLinkNest "StreamFuser$Rewriter" (79 : Nat) ({ cls := "StreamFuser$Plan", name := "makeNil", desc := "(I)V" } : MethodName) "StreamFuser") ∈ sf_N := sf_N_3 94 rfl rfl
theorem wt_719 : (Cond.instanceMethod ({ cls := "StreamFuser$Plan", name := "makeNil", desc := "(I)V" } : MethodName)) ∈ sf_T := sf_T_3 96 rfl rfl
theorem wt_720 : (Cond.code ({ cls := "StreamFuser$Plan", name := "makeNil", desc := "(I)V" } : MethodName) prog_4_method_14_code (2 : Nat) (Option.none : Option FieldType)) ∈ sf_T := sf_T_3 97 rfl rfl
theorem wt_721 : (Cond.methodLink "StreamFuser$Plan" (69 : Nat) ({ cls := "StreamFuser$Plan", name := "cut", desc := "(II)V" } : MethodName)) ∈ sf_T := sf_T_3 98 rfl rfl
theorem wt_723 : (Cond.instanceMethod ({ cls := "StreamFuser$Plan", name := "cut", desc := "(II)V" } : MethodName)) ∈ sf_T := sf_T_3 100 rfl rfl
theorem wt_724 : (Cond.code ({ cls := "StreamFuser$Plan", name := "cut", desc := "(II)V" } : MethodName) prog_4_method_12_code (4 : Nat) (Option.none : Option FieldType)) ∈ sf_T := sf_T_3 101 rfl rfl
theorem wt_725 : (Cond.methodLink "StreamFuser$Plan" (65 : Nat) ({ cls := "StreamFuser$Plan", name := "moveNode", desc := "(II)V" } : MethodName)) ∈ sf_T := sf_T_3 102 rfl rfl
theorem wt_727 : (Cond.instanceMethod ({ cls := "StreamFuser$Plan", name := "moveNode", desc := "(II)V" } : MethodName)) ∈ sf_T := sf_T_3 104 rfl rfl
theorem wt_728 : (Cond.code ({ cls := "StreamFuser$Plan", name := "moveNode", desc := "(II)V" } : MethodName) prog_4_method_13_code (3 : Nat) (Option.none : Option FieldType)) ∈ sf_T := sf_T_3 105 rfl rfl
theorem wt_729 : (Cond.methodLinkNest "StreamFuser$Rewriter" (83 : Nat) ({ cls := "StreamFuser$Plan", name := "swapWithNext", desc := "(I)V" } : MethodName) "StreamFuser") ∈ sf_N := sf_N_3 106 rfl rfl
theorem wt_731 : (Cond.instanceMethod ({ cls := "StreamFuser$Plan", name := "swapWithNext", desc := "(I)V" } : MethodName)) ∈ sf_T := sf_T_3 108 rfl rfl
theorem wt_732 : (Cond.code ({ cls := "StreamFuser$Plan", name := "swapWithNext", desc := "(I)V" } : MethodName) prog_4_method_11_code (6 : Nat) (Option.none : Option FieldType)) ∈ sf_T := sf_T_3 109 rfl rfl
theorem wt_733 : (Cond.methodLink "StreamFuser$Rewriter" (86 : Nat) ({ cls := "StreamFuser$Rewriter", name := "swapDropWithTake", desc := "(I)V" } : MethodName)) ∈ sf_T := sf_T_3 110 rfl rfl
theorem wt_735 : (Cond.instanceMethod ({ cls := "StreamFuser$Rewriter", name := "swapDropWithTake", desc := "(I)V" } : MethodName)) ∈ sf_T := sf_T_3 112 rfl rfl
theorem wt_736 : (Cond.code ({ cls := "StreamFuser$Rewriter", name := "swapDropWithTake", desc := "(I)V" } : MethodName) prog_7_method_8_code (3 : Nat) (Option.none : Option FieldType)) ∈ sf_T := sf_T_3 113 rfl rfl
theorem wt_737 : (Cond.methodLink "StreamFuser$Rewriter" (98 : Nat) ({ cls := "java/lang/Math", name := "max", desc := "(II)I" } : MethodName)) ∈ sf_T := sf_T_3 114 rfl rfl
theorem wt_738 : (Cond.methodLinkNest "StreamFuser$Rewriter" (89 : Nat) ({ cls := "StreamFuser$Plan", name := "cut", desc := "(II)V" } : MethodName) "StreamFuser") ∈ sf_N := sf_N_3 115 rfl rfl
theorem wt_739 : (Cond.methodLink "StreamFuser$Rewriter" (92 : Nat) ({ cls := "StreamFuser$Rewriter", name := "keepOnePart", desc := "(I)V" } : MethodName)) ∈ sf_T := sf_T_3 116 rfl rfl
theorem wt_741 : (Cond.instanceMethod ({ cls := "StreamFuser$Rewriter", name := "keepOnePart", desc := "(I)V" } : MethodName)) ∈ sf_T := sf_T_3 118 rfl rfl
theorem wt_742 : (Cond.code ({ cls := "StreamFuser$Rewriter", name := "keepOnePart", desc := "(I)V" } : MethodName) prog_7_method_9_code (3 : Nat) (Option.none : Option FieldType)) ∈ sf_T := sf_T_3 119 rfl rfl
theorem wt_743 : (Cond.methodLink "StreamFuser$Rewriter" (95 : Nat) ({ cls := "StreamFuser$Rewriter", name := "mergeWithNext", desc := "(II)V" } : MethodName)) ∈ sf_T := sf_T_3 120 rfl rfl
theorem wt_745 : (Cond.instanceMethod ({ cls := "StreamFuser$Rewriter", name := "mergeWithNext", desc := "(II)V" } : MethodName)) ∈ sf_T := sf_T_3 122 rfl rfl
theorem wt_746 : (Cond.code ({ cls := "StreamFuser$Rewriter", name := "mergeWithNext", desc := "(II)V" } : MethodName) prog_7_method_10_code (7 : Nat) (Option.none : Option FieldType)) ∈ sf_T := sf_T_3 123 rfl rfl
theorem wt_747 : (Cond.methodLink "StreamFuser$Rewriter" (104 : Nat) ({ cls := "java/lang/Math", name := "min", desc := "(II)I" } : MethodName)) ∈ sf_T := sf_T_3 124 rfl rfl
theorem wt_748 : (Cond.static ({ cls := "java/lang/Math", name := "min", desc := "(II)I" } : MethodName)) ∈ sf_T := sf_T_3 125 rfl rfl
theorem wt_749 : (Cond.code Lib.Math.min.name Lib.Math.min.code 2 (some .int)) ∈ sf_T := sf_T_3 126 (by decide +kernel) rfl
theorem wt_750 : (Cond.methodLinkNest "StreamFuser$Rewriter" (36 : Nat) ({ cls := "StreamFuser$Plan", name := "measure", desc := "()V" } : MethodName) "StreamFuser") ∈ sf_N := sf_N_3 127 rfl rfl
theorem wt_751 : (Cond.methodLink "StreamFuserLaw" (44 : Nat) ({ cls := "StreamFuser", name := "rules", desc := "(I)I" } : MethodName)) ∈ sf_T := sf_T_3 128 rfl rfl
theorem wt_752 : (Cond.instanceMethod ({ cls := "StreamFuser", name := "rules", desc := "(I)I" } : MethodName)) ∈ sf_T := sf_T_3 129 rfl rfl
theorem wt_753 : (Cond.selects "StreamFuser" ({ cls := "StreamFuser", name := "rules", desc := "(I)I" } : MethodName) ({ cls := "StreamFuser", name := "rules", desc := "(I)I" } : MethodName)) ∈ sf_T := sf_T_3 130 rfl rfl
theorem wt_754 : (Cond.code ({ cls := "StreamFuser", name := "rules", desc := "(I)I" } : MethodName) prog_1_method_9_code (2 : Nat) (Option.some FieldType.int)) ∈ sf_T := sf_T_3 131 rfl rfl
theorem wt_755 : (Cond.methodLink "StreamFuserLaw" (48 : Nat) ({ cls := "StreamFuser", name := "saves", desc := "(I)I" } : MethodName)) ∈ sf_T := sf_T_3 132 rfl rfl
theorem wt_756 : (Cond.instanceMethod ({ cls := "StreamFuser", name := "saves", desc := "(I)I" } : MethodName)) ∈ sf_T := sf_T_3 133 rfl rfl
theorem wt_757 : (Cond.selects "StreamFuser" ({ cls := "StreamFuser", name := "saves", desc := "(I)I" } : MethodName) ({ cls := "StreamFuser", name := "saves", desc := "(I)I" } : MethodName)) ∈ sf_T := sf_T_3 134 rfl rfl
theorem wt_758 : (Cond.code ({ cls := "StreamFuser", name := "saves", desc := "(I)I" } : MethodName) prog_1_method_10_code (3 : Nat) (Option.some FieldType.int)) ∈ sf_T := sf_T_3 135 rfl rfl
theorem wt_759 : (Cond.methodLinkNest "StreamFuser" (152 : Nat) ({ cls := "StreamFuser$Asker", name := "play", desc := "(I)V" } : MethodName) "StreamFuser") ∈ sf_N := sf_N_3 136 rfl rfl
theorem wt_761 : (Cond.instanceMethod ({ cls := "StreamFuser$Asker", name := "play", desc := "(I)V" } : MethodName)) ∈ sf_T := sf_T_3 138 rfl rfl
theorem wt_762 : (Cond.code ({ cls := "StreamFuser$Asker", name := "play", desc := "(I)V" } : MethodName) prog_2_method_2_code (3 : Nat) (Option.none : Option FieldType)) ∈ sf_T := sf_T_3 139 rfl rfl
theorem wt_763 : (Cond.methodLinkNest "StreamFuser$Asker" (15 : Nat) ({ cls := "StreamFuser$Run", name := "begin", desc := "()V" } : MethodName) "StreamFuser") ∈ sf_N := sf_N_3 140 rfl rfl
theorem wt_765 : (Cond.instanceMethod ({ cls := "StreamFuser$Run", name := "begin", desc := "()V" } : MethodName)) ∈ sf_T := sf_T_3 142 rfl rfl
theorem wt_766 : (Cond.code ({ cls := "StreamFuser$Run", name := "begin", desc := "()V" } : MethodName) prog_8_method_2_code (1 : Nat) (Option.none : Option FieldType)) ∈ sf_T := sf_T_3 143 rfl rfl
theorem wt_767 : (Cond.methodLink "StreamFuser$Asker" (31 : Nat) ({ cls := "StreamFuser$Asker", name := "restart", desc := "(II)V" } : MethodName)) ∈ sf_T := sf_T_3 144 rfl rfl
theorem wt_768 : (Cond.sameMethod "StreamFuser$Asker" "StreamFuser$Walk" "restart" "(II)V") ∈ sf_T := sf_T_3 145 rfl rfl
theorem wt_770 : (Cond.selects "StreamFuser$Asker" ({ cls := "StreamFuser$Asker", name := "restart", desc := "(II)V" } : MethodName) ({ cls := "StreamFuser$Walk", name := "restart", desc := "(II)V" } : MethodName)) ∈ sf_T := sf_T_3 147 rfl rfl
theorem wt_771 : (Cond.instanceMethod ({ cls := "StreamFuser$Walk", name := "restart", desc := "(II)V" } : MethodName)) ∈ sf_T := sf_T_3 148 rfl rfl
theorem wt_772 : (Cond.code ({ cls := "StreamFuser$Walk", name := "restart", desc := "(II)V" } : MethodName) prog_11_method_2_code (4 : Nat) (Option.none : Option FieldType)) ∈ sf_T := sf_T_3 149 rfl rfl
theorem wt_773 : (Cond.methodLink "StreamFuser$Walk" (19 : Nat) ({ cls := "java/lang/Math", name := "max", desc := "(II)I" } : MethodName)) ∈ sf_T := sf_T_3 150 rfl rfl
theorem wt_774 : (Cond.methodLink "StreamFuser$Asker" (35 : Nat) ({ cls := "StreamFuser$Asker", name := "ask", desc := "(II)Z" } : MethodName)) ∈ sf_T := sf_T_3 151 rfl rfl
theorem wt_776 : (Cond.instanceMethod ({ cls := "StreamFuser$Asker", name := "ask", desc := "(II)Z" } : MethodName)) ∈ sf_T := sf_T_3 153 rfl rfl
theorem wt_777 : (Cond.code ({ cls := "StreamFuser$Asker", name := "ask", desc := "(II)Z" } : MethodName) prog_2_method_3_code (3 : Nat) (Option.some FieldType.boolean)) ∈ sf_T := sf_T_3 154 rfl rfl
theorem wt_778 : (Cond.methodLinkNest "StreamFuser$Asker" (46 : Nat) ({ cls := "StreamFuser$Plan", name := "has", desc := "(I)Z" } : MethodName) "StreamFuser") ∈ sf_N := sf_N_3 155 rfl rfl
theorem wt_779 : (Cond.methodLink "StreamFuser$Asker" (57 : Nat) ({ cls := "StreamFuser$Asker", name := "change", desc := "(II)Z" } : MethodName)) ∈ sf_T := sf_T_3 156 rfl rfl
theorem wt_780 : (Cond.sameMethod "StreamFuser$Asker" "StreamFuser$Way" "change" "(II)Z") ∈ sf_T := sf_T_3 157 rfl rfl
theorem wt_782 : (Cond.selects "StreamFuser$Asker" ({ cls := "StreamFuser$Asker", name := "change", desc := "(II)Z" } : MethodName) ({ cls := "StreamFuser$Way", name := "change", desc := "(II)Z" } : MethodName)) ∈ sf_T := sf_T_3 159 rfl rfl
theorem wt_783 : (Cond.instanceMethod ({ cls := "StreamFuser$Way", name := "change", desc := "(II)Z" } : MethodName)) ∈ sf_T := sf_T_3 160 rfl rfl
theorem wt_784 : (Cond.code ({ cls := "StreamFuser$Way", name := "change", desc := "(II)Z" } : MethodName) prog_12_method_6_code (4 : Nat) (Option.some FieldType.boolean)) ∈ sf_T := sf_T_3 161 rfl rfl
theorem wt_785 : (Cond.methodLinkNest "StreamFuser$Way" (58 : Nat) ({ cls := "StreamFuser$Plan", name := "has", desc := "(I)Z" } : MethodName) "StreamFuser") ∈ sf_N := sf_N_3 162 rfl rfl
theorem wt_786 : (Cond.methodLink "StreamFuser$Way" (98 : Nat) ({ cls := "StreamFuser$Way", name := "divide", desc := "(III)Z" } : MethodName)) ∈ sf_T := sf_T_3 163 rfl rfl
theorem wt_788 : (Cond.instanceMethod ({ cls := "StreamFuser$Way", name := "divide", desc := "(III)Z" } : MethodName)) ∈ sf_T := sf_T_3 165 rfl rfl
theorem wt_789 : (Cond.code ({ cls := "StreamFuser$Way", name := "divide", desc := "(III)Z" } : MethodName) prog_12_method_7_code (4 : Nat) (Option.some FieldType.boolean)) ∈ sf_T := sf_T_3 166 rfl rfl
theorem wt_790 : (Cond.methodLinkNest "StreamFuser$Way" (52 : Nat) ({ cls := "StreamFuser$Run", name := "fail", desc := "(II)V" } : MethodName) "StreamFuser") ∈ sf_N := sf_N_3 167 rfl rfl
theorem wt_792 : (Cond.instanceMethod ({ cls := "StreamFuser$Run", name := "fail", desc := "(II)V" } : MethodName)) ∈ sf_T := sf_T_3 169 rfl rfl
theorem wt_793 : (Cond.code ({ cls := "StreamFuser$Run", name := "fail", desc := "(II)V" } : MethodName) prog_8_method_5_code (3 : Nat) (Option.none : Option FieldType)) ∈ sf_T := sf_T_3 170 rfl rfl
theorem wt_794 : (Cond.methodLink "StreamFuser$Way" (102 : Nat) ({ cls := "StreamFuser$Way", name := "modulo", desc := "(II)I" } : MethodName)) ∈ sf_T := sf_T_3 171 rfl rfl
theorem wt_795 : (Cond.static ({ cls := "StreamFuser$Way", name := "modulo", desc := "(II)I" } : MethodName)) ∈ sf_T := sf_T_3 172 rfl rfl
theorem wt_796 : (Cond.code ({ cls := "StreamFuser$Way", name := "modulo", desc := "(II)I" } : MethodName) prog_12_method_8_code (2 : Nat) (Option.some FieldType.int)) ∈ sf_T := sf_T_3 173 rfl rfl
theorem wt_797 : (Cond.methodLink "StreamFuser$Way" (108 : Nat) ({ cls := "java/lang/Math", name := "floorMod", desc := "(II)I" } : MethodName)) ∈ sf_T := sf_T_3 174 rfl rfl
theorem wt_798 : (Cond.static ({ cls := "java/lang/Math", name := "floorMod", desc := "(II)I" } : MethodName)) ∈ sf_T := sf_T_3 175 rfl rfl
theorem wt_799 : (Cond.code ({ cls := "java/lang/Math", name := "floorMod", desc := "(II)I" } : MethodName) prog_15_method_50_code (3 : Nat) (Option.some FieldType.int)) ∈ sf_T := sf_T_3 176 rfl rfl
theorem wt_800 : (Cond.methodLinkNest "StreamFuser$Way" (105 : Nat) ({ cls := "StreamFuser$Run", name := "note", desc := "(II)V" } : MethodName) "StreamFuser") ∈ sf_N := sf_N_3 177 rfl rfl
theorem wt_802 : (Cond.instanceMethod ({ cls := "StreamFuser$Run", name := "note", desc := "(II)V" } : MethodName)) ∈ sf_T := sf_T_3 179 rfl rfl
theorem wt_803 : (Cond.code ({ cls := "StreamFuser$Run", name := "note", desc := "(II)V" } : MethodName) prog_8_method_7_code (3 : Nat) (Option.none : Option FieldType)) ∈ sf_T := sf_T_3 180 rfl rfl
theorem wt_804 : (Cond.methodLink "StreamFuser$Asker" (60 : Nat) ({ cls := "StreamFuser$Asker", name := "askFilter", desc := "(II)Z" } : MethodName)) ∈ sf_T := sf_T_3 181 rfl rfl
theorem wt_806 : (Cond.instanceMethod ({ cls := "StreamFuser$Asker", name := "askFilter", desc := "(II)Z" } : MethodName)) ∈ sf_T := sf_T_3 183 rfl rfl
theorem wt_807 : (Cond.code ({ cls := "StreamFuser$Asker", name := "askFilter", desc := "(II)Z" } : MethodName) prog_2_method_4_code (4 : Nat) (Option.some FieldType.boolean)) ∈ sf_T := sf_T_3 184 rfl rfl
theorem wt_808 : (Cond.constant "StreamFuser$Asker" (84 : Nat) (1000000 : Int32)) ∈ sf_T := sf_T_3 185 rfl rfl
theorem wt_809 : (Cond.methodLink "StreamFuser$Asker" (85 : Nat) ({ cls := "StreamFuser$Asker", name := "passes", desc := "(II)Z" } : MethodName)) ∈ sf_T := sf_T_3 186 rfl rfl
theorem wt_810 : (Cond.sameMethod "StreamFuser$Asker" "StreamFuser$Way" "passes" "(II)Z") ∈ sf_T := sf_T_3 187 rfl rfl
theorem wt_812 : (Cond.selects "StreamFuser$Asker" ({ cls := "StreamFuser$Asker", name := "passes", desc := "(II)Z" } : MethodName) ({ cls := "StreamFuser$Way", name := "passes", desc := "(II)Z" } : MethodName)) ∈ sf_T := sf_T_3 189 rfl rfl
theorem wt_813 : (Cond.instanceMethod ({ cls := "StreamFuser$Way", name := "passes", desc := "(II)Z" } : MethodName)) ∈ sf_T := sf_T_3 190 rfl rfl
theorem wt_814 : (Cond.code ({ cls := "StreamFuser$Way", name := "passes", desc := "(II)Z" } : MethodName) prog_12_method_9_code (4 : Nat) (Option.some FieldType.boolean)) ∈ sf_T := sf_T_3 191 rfl rfl
theorem wt_815 : (Cond.methodLink "StreamFuser$Asker" (63 : Nat) ({ cls := "StreamFuser$Asker", name := "askWhile", desc := "(II)Z" } : MethodName)) ∈ sf_T := sf_T_3 192 rfl rfl
theorem wt_817 : (Cond.instanceMethod ({ cls := "StreamFuser$Asker", name := "askWhile", desc := "(II)Z" } : MethodName)) ∈ sf_T := sf_T_3 194 rfl rfl
theorem wt_818 : (Cond.code ({ cls := "StreamFuser$Asker", name := "askWhile", desc := "(II)Z" } : MethodName) prog_2_method_5_code (3 : Nat) (Option.some FieldType.boolean)) ∈ sf_T := sf_T_3 195 rfl rfl
theorem wt_819 : (Cond.methodLink "StreamFuser$Asker" (66 : Nat) ({ cls := "StreamFuser$Asker", name := "askTake", desc := "(II)Z" } : MethodName)) ∈ sf_T := sf_T_3 196 rfl rfl
theorem wt_821 : (Cond.instanceMethod ({ cls := "StreamFuser$Asker", name := "askTake", desc := "(II)Z" } : MethodName)) ∈ sf_T := sf_T_3 198 rfl rfl
theorem wt_822 : (Cond.code ({ cls := "StreamFuser$Asker", name := "askTake", desc := "(II)Z" } : MethodName) prog_2_method_6_code (3 : Nat) (Option.some FieldType.boolean)) ∈ sf_T := sf_T_3 199 rfl rfl
theorem wt_823 : (Cond.methodLink "StreamFuser$Asker" (69 : Nat) ({ cls := "StreamFuser$Asker", name := "askDrop", desc := "(II)Z" } : MethodName)) ∈ sf_T := sf_T_3 200 rfl rfl
theorem wt_825 : (Cond.instanceMethod ({ cls := "StreamFuser$Asker", name := "askDrop", desc := "(II)Z" } : MethodName)) ∈ sf_T := sf_T_3 202 rfl rfl
theorem wt_826 : (Cond.code ({ cls := "StreamFuser$Asker", name := "askDrop", desc := "(II)Z" } : MethodName) prog_2_method_7_code (5 : Nat) (Option.some FieldType.boolean)) ∈ sf_T := sf_T_3 203 rfl rfl
theorem wt_827 : (Cond.methodLink "StreamFuser$Asker" (98 : Nat) ({ cls := "java/lang/Math", name := "min", desc := "(II)I" } : MethodName)) ∈ sf_T := sf_T_3 204 rfl rfl
theorem wt_828 : (Cond.methodLink "StreamFuser$Asker" (72 : Nat) ({ cls := "StreamFuser$Asker", name := "askChain", desc := "(II)Z" } : MethodName)) ∈ sf_T := sf_T_3 205 rfl rfl
theorem wt_830 : (Cond.instanceMethod ({ cls := "StreamFuser$Asker", name := "askChain", desc := "(II)Z" } : MethodName)) ∈ sf_T := sf_T_3 207 rfl rfl
theorem wt_831 : (Cond.code ({ cls := "StreamFuser$Asker", name := "askChain", desc := "(II)Z" } : MethodName) prog_2_method_8_code (3 : Nat) (Option.some FieldType.boolean)) ∈ sf_T := sf_T_3 208 rfl rfl
theorem wt_832 : (Cond.methodLinkNest "StreamFuser$Asker" (104 : Nat) ({ cls := "StreamFuser$Run", name := "failed", desc := "()Z" } : MethodName) "StreamFuser") ∈ sf_N := sf_N_3 209 rfl rfl
theorem wt_834 : (Cond.instanceMethod ({ cls := "StreamFuser$Run", name := "failed", desc := "()Z" } : MethodName)) ∈ sf_T := sf_T_3 211 rfl rfl
theorem wt_835 : (Cond.code ({ cls := "StreamFuser$Run", name := "failed", desc := "()Z" } : MethodName) prog_8_method_6_code (1 : Nat) (Option.some FieldType.boolean)) ∈ sf_T := sf_T_3 212 rfl rfl
theorem wt_836 : (Cond.methodLinkNest "StreamFuser$Asker" (108 : Nat) ({ cls := "StreamFuser$Plan", name := "secondPart", desc := "(I)I" } : MethodName) "StreamFuser") ∈ sf_N := sf_N_3 213 rfl rfl
theorem wt_837 : (Cond.methodLink "StreamFuser$Asker" (75 : Nat) ({ cls := "StreamFuser$Asker", name := "askZip", desc := "(II)Z" } : MethodName)) ∈ sf_T := sf_T_3 214 rfl rfl
theorem wt_839 : (Cond.instanceMethod ({ cls := "StreamFuser$Asker", name := "askZip", desc := "(II)Z" } : MethodName)) ∈ sf_T := sf_T_3 216 rfl rfl
theorem wt_840 : (Cond.code ({ cls := "StreamFuser$Asker", name := "askZip", desc := "(II)Z" } : MethodName) prog_2_method_9_code (4 : Nat) (Option.some FieldType.boolean)) ∈ sf_T := sf_T_3 217 rfl rfl
theorem wt_841 : (Cond.methodLink "StreamFuser$Asker" (112 : Nat) ({ cls := "StreamFuser$Asker", name := "join", desc := "(III)I" } : MethodName)) ∈ sf_T := sf_T_3 218 rfl rfl
theorem wt_842 : (Cond.sameMethod "StreamFuser$Asker" "StreamFuser$Way" "join" "(III)I") ∈ sf_T := sf_T_3 219 rfl rfl
theorem wt_844 : (Cond.selects "StreamFuser$Asker" ({ cls := "StreamFuser$Asker", name := "join", desc := "(III)I" } : MethodName) ({ cls := "StreamFuser$Way", name := "join", desc := "(III)I" } : MethodName)) ∈ sf_T := sf_T_3 221 rfl rfl
theorem wt_845 : (Cond.instanceMethod ({ cls := "StreamFuser$Way", name := "join", desc := "(III)I" } : MethodName)) ∈ sf_T := sf_T_3 222 rfl rfl
theorem wt_846 : (Cond.code ({ cls := "StreamFuser$Way", name := "join", desc := "(III)I" } : MethodName) prog_12_method_10_code (4 : Nat) (Option.some FieldType.int)) ∈ sf_T := sf_T_3 223 rfl rfl
theorem wt_847 : (Cond.methodLink "StreamFuser$Way" (111 : Nat) ({ cls := "java/lang/Math", name := "min", desc := "(II)I" } : MethodName)) ∈ sf_T := sf_T_3 224 rfl rfl
theorem wt_848 : (Cond.methodLink "StreamFuser$Asker" (78 : Nat) ({ cls := "StreamFuser$Asker", name := "askOpener", desc := "(II)Z" } : MethodName)) ∈ sf_T := sf_T_3 225 rfl rfl
theorem wt_850 : (Cond.instanceMethod ({ cls := "StreamFuser$Asker", name := "askOpener", desc := "(II)Z" } : MethodName)) ∈ sf_T := sf_T_3 227 rfl rfl
theorem wt_851 : (Cond.code ({ cls := "StreamFuser$Asker", name := "askOpener", desc := "(II)Z" } : MethodName) prog_2_method_10_code (4 : Nat) (Option.some FieldType.boolean)) ∈ sf_T := sf_T_3 228 rfl rfl
theorem wt_852 : (Cond.methodLinkNest "StreamFuser$Asker" (116 : Nat) ({ cls := "StreamFuser$Plan", name := "input", desc := "(I)I" } : MethodName) "StreamFuser") ∈ sf_N := sf_N_3 229 rfl rfl
theorem wt_853 : (Cond.methodLink "StreamFuser$Asker" (119 : Nat) ({ cls := "StreamFuser$Asker", name := "open", desc := "(II)V" } : MethodName)) ∈ sf_T := sf_T_3 230 rfl rfl
theorem wt_854 : (Cond.sameMethod "StreamFuser$Asker" "StreamFuser$Walk" "open" "(II)V") ∈ sf_T := sf_T_3 231 rfl rfl
theorem wt_856 : (Cond.selects "StreamFuser$Asker" ({ cls := "StreamFuser$Asker", name := "open", desc := "(II)V" } : MethodName) ({ cls := "StreamFuser$Walk", name := "open", desc := "(II)V" } : MethodName)) ∈ sf_T := sf_T_3 233 rfl rfl
theorem wt_857 : (Cond.instanceMethod ({ cls := "StreamFuser$Walk", name := "open", desc := "(II)V" } : MethodName)) ∈ sf_T := sf_T_3 234 rfl rfl
theorem wt_858 : (Cond.code ({ cls := "StreamFuser$Walk", name := "open", desc := "(II)V" } : MethodName) prog_11_method_3_code (3 : Nat) (Option.none : Option FieldType)) ∈ sf_T := sf_T_3 235 rfl rfl
theorem wt_859 : (Cond.methodLinkNest "StreamFuser$Walk" (35 : Nat) ({ cls := "StreamFuser$Plan", name := "has", desc := "(I)Z" } : MethodName) "StreamFuser") ∈ sf_N := sf_N_3 236 rfl rfl
theorem wt_860 : (Cond.methodLinkNest "StreamFuser$Walk" (42 : Nat) ({ cls := "StreamFuser$Plan", name := "secondPart", desc := "(I)I" } : MethodName) "StreamFuser") ∈ sf_N := sf_N_3 237 rfl rfl
theorem wt_861 : (Cond.methodLink "StreamFuser$Walk" (46 : Nat) ({ cls := "StreamFuser$Walk", name := "restart", desc := "(II)V" } : MethodName)) ∈ sf_T := sf_T_3 238 rfl rfl
theorem wt_862 : (Cond.methodLink "StreamFuser$Asker" (81 : Nat) ({ cls := "StreamFuser$Asker", name := "produce", desc := "(I)Z" } : MethodName)) ∈ sf_T := sf_T_3 239 rfl rfl
theorem wt_863 : (Cond.sameMethod "StreamFuser$Asker" "StreamFuser$Walk" "produce" "(I)Z") ∈ sf_T := sf_T_4 0 rfl rfl
theorem wt_865 : (Cond.selects "StreamFuser$Asker" ({ cls := "StreamFuser$Asker", name := "produce", desc := "(I)Z" } : MethodName) ({ cls := "StreamFuser$Walk", name := "produce", desc := "(I)Z" } : MethodName)) ∈ sf_T := sf_T_4 2 rfl rfl
theorem wt_866 : (Cond.instanceMethod ({ cls := "StreamFuser$Walk", name := "produce", desc := "(I)Z" } : MethodName)) ∈ sf_T := sf_T_4 3 rfl rfl
theorem wt_867 : (Cond.code ({ cls := "StreamFuser$Walk", name := "produce", desc := "(I)Z" } : MethodName) prog_11_method_4_code (2 : Nat) (Option.some FieldType.boolean)) ∈ sf_T := sf_T_4 4 rfl rfl
theorem wt_868 : (Cond.methodLink "StreamFuser$Walk" (50 : Nat) ({ cls := "StreamFuser$Walk", name := "isReady", desc := "(I)Z" } : MethodName)) ∈ sf_T := sf_T_4 5 rfl rfl
theorem wt_869 : (Cond.sameMethod "StreamFuser$Walk" "StreamFuser$Way" "isReady" "(I)Z") ∈ sf_T := sf_T_4 6 rfl rfl
theorem wt_871 : (Cond.selects "StreamFuser$Asker" ({ cls := "StreamFuser$Walk", name := "isReady", desc := "(I)Z" } : MethodName) ({ cls := "StreamFuser$Way", name := "isReady", desc := "(I)Z" } : MethodName)) ∈ sf_T := sf_T_4 8 rfl rfl
theorem wt_872 : (Cond.selects "StreamFuser$Stepper" ({ cls := "StreamFuser$Walk", name := "isReady", desc := "(I)Z" } : MethodName) ({ cls := "StreamFuser$Way", name := "isReady", desc := "(I)Z" } : MethodName)) ∈ sf_T := sf_T_4 9 rfl rfl
theorem wt_873 : (Cond.instanceMethod ({ cls := "StreamFuser$Way", name := "isReady", desc := "(I)Z" } : MethodName)) ∈ sf_T := sf_T_4 10 rfl rfl
theorem wt_874 : (Cond.code ({ cls := "StreamFuser$Way", name := "isReady", desc := "(I)Z" } : MethodName) prog_12_method_3_code (2 : Nat) (Option.some FieldType.boolean)) ∈ sf_T := sf_T_4 11 rfl rfl
theorem wt_875 : (Cond.methodLinkNest "StreamFuser$Way" (36 : Nat) ({ cls := "StreamFuser$Plan", name := "letterAt", desc := "(I)I" } : MethodName) "StreamFuser") ∈ sf_N := sf_N_4 12 rfl rfl
theorem wt_876 : (Cond.methodLinkNest "StreamFuser$Way" (43 : Nat) ({ cls := "StreamFuser$Sheets", name := "isLost", desc := "(I)Z" } : MethodName) "StreamFuser") ∈ sf_N := sf_N_4 13 rfl rfl
theorem wt_878 : (Cond.instanceMethod ({ cls := "StreamFuser$Sheets", name := "isLost", desc := "(I)Z" } : MethodName)) ∈ sf_T := sf_T_4 15 rfl rfl
theorem wt_879 : (Cond.code ({ cls := "StreamFuser$Sheets", name := "isLost", desc := "(I)Z" } : MethodName) prog_9_method_2_code (2 : Nat) (Option.some FieldType.boolean)) ∈ sf_T := sf_T_4 16 rfl rfl
theorem wt_880 : (Cond.methodLink "StreamFuser$Walk" (53 : Nat) ({ cls := "StreamFuser$Walk", name := "supply", desc := "(I)J" } : MethodName)) ∈ sf_T := sf_T_4 17 rfl rfl
theorem wt_881 : (Cond.sameMethod "StreamFuser$Walk" "StreamFuser$Way" "supply" "(I)J") ∈ sf_T := sf_T_4 18 rfl rfl
theorem wt_883 : (Cond.selects "StreamFuser$Asker" ({ cls := "StreamFuser$Walk", name := "supply", desc := "(I)J" } : MethodName) ({ cls := "StreamFuser$Way", name := "supply", desc := "(I)J" } : MethodName)) ∈ sf_T := sf_T_4 20 rfl rfl
theorem wt_884 : (Cond.selects "StreamFuser$Stepper" ({ cls := "StreamFuser$Walk", name := "supply", desc := "(I)J" } : MethodName) ({ cls := "StreamFuser$Way", name := "supply", desc := "(I)J" } : MethodName)) ∈ sf_T := sf_T_4 21 rfl rfl
theorem wt_885 : (Cond.instanceMethod ({ cls := "StreamFuser$Way", name := "supply", desc := "(I)J" } : MethodName)) ∈ sf_T := sf_T_4 22 rfl rfl
theorem wt_886 : (Cond.code ({ cls := "StreamFuser$Way", name := "supply", desc := "(I)J" } : MethodName) prog_12_method_4_code (2 : Nat) (Option.some FieldType.long)) ∈ sf_T := sf_T_4 23 rfl rfl
theorem wt_887 : (Cond.methodLink "StreamFuser$Way" (70 : Nat) ({ cls := "java/lang/Math", name := "max", desc := "(JJ)J" } : MethodName)) ∈ sf_T := sf_T_4 24 rfl rfl
theorem wt_888 : (Cond.static ({ cls := "java/lang/Math", name := "max", desc := "(JJ)J" } : MethodName)) ∈ sf_T := sf_T_4 25 rfl rfl
theorem wt_889 : (Cond.code Lib.MathLoose.max_long.x Lib.MathLoose.max_long.code 4 (some .long)) ∈ sf_T := sf_T_4 26 (by decide +kernel) rfl
theorem wt_890 : (Cond.constantLong "StreamFuser$Way" (78 : Nat) (9223372036854775807 : Int64)) ∈ sf_T := sf_T_4 27 rfl rfl
theorem wt_891 : (Cond.methodLinkNest "StreamFuser$Way" (80 : Nat) ({ cls := "StreamFuser", name := "isSheet", desc := "(I)Z" } : MethodName) "StreamFuser") ∈ sf_N := sf_N_4 28 rfl rfl
theorem wt_892 : (Cond.static ({ cls := "StreamFuser", name := "isSheet", desc := "(I)Z" } : MethodName)) ∈ sf_T := sf_T_4 29 rfl rfl
theorem wt_893 : (Cond.code ({ cls := "StreamFuser", name := "isSheet", desc := "(I)Z" } : MethodName) prog_1_method_29_code (1 : Nat) (Option.some FieldType.boolean)) ∈ sf_T := sf_T_4 30 rfl rfl
theorem wt_894 : (Cond.methodLink "StreamFuser$Way" (86 : Nat) ({ cls := "StreamFuser$Way", name := "openedFor", desc := "(I)I" } : MethodName)) ∈ sf_T := sf_T_4 31 rfl rfl
theorem wt_895 : (Cond.instanceMethod ({ cls := "StreamFuser$Way", name := "openedFor", desc := "(I)I" } : MethodName)) ∈ sf_T := sf_T_4 32 rfl rfl
theorem wt_896 : (Cond.sameMethod "StreamFuser$Way" "StreamFuser$Way" "openedFor" "(I)I") ∈ sf_T := sf_T_4 33 rfl rfl
theorem wt_897 : (Cond.selects "StreamFuser$Asker" ({ cls := "StreamFuser$Way", name := "openedFor", desc := "(I)I" } : MethodName) ({ cls := "StreamFuser$Way", name := "openedFor", desc := "(I)I" } : MethodName)) ∈ sf_T := sf_T_4 34 rfl rfl
theorem wt_898 : (Cond.selects "StreamFuser$Maker" ({ cls := "StreamFuser$Way", name := "openedFor", desc := "(I)I" } : MethodName) ({ cls := "StreamFuser$Way", name := "openedFor", desc := "(I)I" } : MethodName)) ∈ sf_T := sf_T_4 35 rfl rfl
theorem wt_899 : (Cond.selects "StreamFuser$Stepper" ({ cls := "StreamFuser$Way", name := "openedFor", desc := "(I)I" } : MethodName) ({ cls := "StreamFuser$Way", name := "openedFor", desc := "(I)I" } : MethodName)) ∈ sf_T := sf_T_4 36 rfl rfl
theorem wt_900 : (Cond.code ({ cls := "StreamFuser$Way", name := "openedFor", desc := "(I)I" } : MethodName) prog_12_method_2_code (3 : Nat) (Option.some FieldType.int)) ∈ sf_T := sf_T_4 37 rfl rfl
theorem wt_901 : (Cond.methodLink "StreamFuser$Way" (89 : Nat) ({ cls := "java/lang/Math", name := "max", desc := "(II)I" } : MethodName)) ∈ sf_T := sf_T_4 38 rfl rfl
theorem wt_902 : (Cond.methodLinkNest "StreamFuser$Walk" (61 : Nat) ({ cls := "StreamFuser$Run", name := "draw", desc := "(I)Z" } : MethodName) "StreamFuser") ∈ sf_N := sf_N_4 39 rfl rfl
theorem wt_904 : (Cond.instanceMethod ({ cls := "StreamFuser$Run", name := "draw", desc := "(I)Z" } : MethodName)) ∈ sf_T := sf_T_4 41 rfl rfl
theorem wt_905 : (Cond.code ({ cls := "StreamFuser$Run", name := "draw", desc := "(I)Z" } : MethodName) prog_8_method_4_code (2 : Nat) (Option.some FieldType.boolean)) ∈ sf_T := sf_T_4 42 rfl rfl
theorem wt_906 : (Cond.methodLink "StreamFuser$Run" (43 : Nat) ({ cls := "StreamFuser$Run", name := "fail", desc := "(II)V" } : MethodName)) ∈ sf_T := sf_T_4 43 rfl rfl
theorem wt_907 : (Cond.methodLink "StreamFuser$Walk" (66 : Nat) ({ cls := "StreamFuser$Walk", name := "supplied", desc := "(II)I" } : MethodName)) ∈ sf_T := sf_T_4 44 rfl rfl
theorem wt_908 : (Cond.sameMethod "StreamFuser$Walk" "StreamFuser$Way" "supplied" "(II)I") ∈ sf_T := sf_T_4 45 rfl rfl
theorem wt_910 : (Cond.selects "StreamFuser$Asker" ({ cls := "StreamFuser$Walk", name := "supplied", desc := "(II)I" } : MethodName) ({ cls := "StreamFuser$Way", name := "supplied", desc := "(II)I" } : MethodName)) ∈ sf_T := sf_T_4 47 rfl rfl
theorem wt_911 : (Cond.selects "StreamFuser$Stepper" ({ cls := "StreamFuser$Walk", name := "supplied", desc := "(II)I" } : MethodName) ({ cls := "StreamFuser$Way", name := "supplied", desc := "(II)I" } : MethodName)) ∈ sf_T := sf_T_4 48 rfl rfl
theorem wt_912 : (Cond.instanceMethod ({ cls := "StreamFuser$Way", name := "supplied", desc := "(II)I" } : MethodName)) ∈ sf_T := sf_T_4 49 rfl rfl
theorem wt_913 : (Cond.code ({ cls := "StreamFuser$Way", name := "supplied", desc := "(II)I" } : MethodName) prog_12_method_5_code (3 : Nat) (Option.some FieldType.int)) ∈ sf_T := sf_T_4 50 rfl rfl
theorem wt_914 : (Cond.methodLinkNest "StreamFuser$Way" (92 : Nat) ({ cls := "StreamFuser$Sheets", name := "at", desc := "(II)I" } : MethodName) "StreamFuser") ∈ sf_N := sf_N_4 51 rfl rfl
theorem wt_916 : (Cond.instanceMethod ({ cls := "StreamFuser$Sheets", name := "at", desc := "(II)I" } : MethodName)) ∈ sf_T := sf_T_4 53 rfl rfl
theorem wt_917 : (Cond.code ({ cls := "StreamFuser$Sheets", name := "at", desc := "(II)I" } : MethodName) prog_9_method_8_code (3 : Nat) (Option.some FieldType.int)) ∈ sf_T := sf_T_4 54 rfl rfl
theorem wt_918 : (Cond.methodLinkNest "StreamFuser$Asker" (42 : Nat) ({ cls := "StreamFuser$Run", name := "give", desc := "(I)V" } : MethodName) "StreamFuser") ∈ sf_N := sf_N_4 55 rfl rfl
theorem wt_920 : (Cond.instanceMethod ({ cls := "StreamFuser$Run", name := "give", desc := "(I)V" } : MethodName)) ∈ sf_T := sf_T_4 57 rfl rfl
theorem wt_921 : (Cond.code ({ cls := "StreamFuser$Run", name := "give", desc := "(I)V" } : MethodName) prog_8_method_3_code (2 : Nat) (Option.none : Option FieldType)) ∈ sf_T := sf_T_4 58 rfl rfl
theorem wt_922 : (Cond.methodLink "StreamFuserLaw" (52 : Nat) ({ cls := "StreamFuser", name := "run", desc := "(II)I" } : MethodName)) ∈ sf_T := sf_T_4 59 rfl rfl
theorem wt_923 : (Cond.instanceMethod ({ cls := "StreamFuser", name := "run", desc := "(II)I" } : MethodName)) ∈ sf_T := sf_T_4 60 rfl rfl
theorem wt_924 : (Cond.selects "StreamFuser" ({ cls := "StreamFuser", name := "run", desc := "(II)I" } : MethodName) ({ cls := "StreamFuser", name := "run", desc := "(II)I" } : MethodName)) ∈ sf_T := sf_T_4 61 rfl rfl
theorem wt_925 : (Cond.code ({ cls := "StreamFuser", name := "run", desc := "(II)I" } : MethodName) prog_1_method_11_code (3 : Nat) (Option.some FieldType.int)) ∈ sf_T := sf_T_4 62 rfl rfl
theorem wt_926 : (Cond.methodLinkNest "StreamFuser" (163 : Nat) ({ cls := "StreamFuser$Stepper", name := "play", desc := "(I)V" } : MethodName) "StreamFuser") ∈ sf_N := sf_N_4 63 rfl rfl
theorem wt_928 : (Cond.instanceMethod ({ cls := "StreamFuser$Stepper", name := "play", desc := "(I)V" } : MethodName)) ∈ sf_T := sf_T_4 65 rfl rfl
theorem wt_929 : (Cond.code ({ cls := "StreamFuser$Stepper", name := "play", desc := "(I)V" } : MethodName) prog_10_method_2_code (4 : Nat) (Option.none : Option FieldType)) ∈ sf_T := sf_T_4 66 rfl rfl
theorem wt_930 : (Cond.methodLinkNest "StreamFuser$Stepper" (19 : Nat) ({ cls := "StreamFuser$Run", name := "begin", desc := "()V" } : MethodName) "StreamFuser") ∈ sf_N := sf_N_4 67 rfl rfl
theorem wt_931 : (Cond.methodLink "StreamFuser$Stepper" (35 : Nat) ({ cls := "StreamFuser$Stepper", name := "restart", desc := "(II)V" } : MethodName)) ∈ sf_T := sf_T_4 68 rfl rfl
theorem wt_932 : (Cond.sameMethod "StreamFuser$Stepper" "StreamFuser$Walk" "restart" "(II)V") ∈ sf_T := sf_T_4 69 rfl rfl
theorem wt_933 : (Cond.selects "StreamFuser$Stepper" ({ cls := "StreamFuser$Stepper", name := "restart", desc := "(II)V" } : MethodName) ({ cls := "StreamFuser$Walk", name := "restart", desc := "(II)V" } : MethodName)) ∈ sf_T := sf_T_4 70 rfl rfl
theorem wt_934 : (Cond.constant "StreamFuser$Stepper" (39 : Nat) (1000000 : Int32)) ∈ sf_T := sf_T_4 71 rfl rfl
theorem wt_935 : (Cond.methodLink "StreamFuser$Stepper" (44 : Nat) ({ cls := "StreamFuser$Stepper", name := "step", desc := "(II)I" } : MethodName)) ∈ sf_T := sf_T_4 72 rfl rfl
theorem wt_937 : (Cond.instanceMethod ({ cls := "StreamFuser$Stepper", name := "step", desc := "(II)I" } : MethodName)) ∈ sf_T := sf_T_4 74 rfl rfl
theorem wt_938 : (Cond.code ({ cls := "StreamFuser$Stepper", name := "step", desc := "(II)I" } : MethodName) prog_10_method_3_code (3 : Nat) (Option.some FieldType.int)) ∈ sf_T := sf_T_4 75 rfl rfl
theorem wt_939 : (Cond.methodLinkNest "StreamFuser$Stepper" (55 : Nat) ({ cls := "StreamFuser$Plan", name := "has", desc := "(I)Z" } : MethodName) "StreamFuser") ∈ sf_N := sf_N_4 76 rfl rfl
theorem wt_940 : (Cond.methodLink "StreamFuser$Stepper" (62 : Nat) ({ cls := "StreamFuser$Stepper", name := "stepChain", desc := "(II)I" } : MethodName)) ∈ sf_T := sf_T_4 77 rfl rfl
theorem wt_942 : (Cond.instanceMethod ({ cls := "StreamFuser$Stepper", name := "stepChain", desc := "(II)I" } : MethodName)) ∈ sf_T := sf_T_4 79 rfl rfl
theorem wt_943 : (Cond.code ({ cls := "StreamFuser$Stepper", name := "stepChain", desc := "(II)I" } : MethodName) prog_10_method_6_code (4 : Nat) (Option.some FieldType.int)) ∈ sf_T := sf_T_4 80 rfl rfl
theorem wt_944 : (Cond.methodLinkNest "StreamFuser$Stepper" (102 : Nat) ({ cls := "StreamFuser$Plan", name := "secondPart", desc := "(I)I" } : MethodName) "StreamFuser") ∈ sf_N := sf_N_4 81 rfl rfl
theorem wt_945 : (Cond.methodLink "StreamFuser$Stepper" (65 : Nat) ({ cls := "StreamFuser$Stepper", name := "stepZip", desc := "(II)I" } : MethodName)) ∈ sf_T := sf_T_4 82 rfl rfl
theorem wt_947 : (Cond.instanceMethod ({ cls := "StreamFuser$Stepper", name := "stepZip", desc := "(II)I" } : MethodName)) ∈ sf_T := sf_T_4 84 rfl rfl
theorem wt_948 : (Cond.code ({ cls := "StreamFuser$Stepper", name := "stepZip", desc := "(II)I" } : MethodName) prog_10_method_7_code (4 : Nat) (Option.some FieldType.int)) ∈ sf_T := sf_T_4 85 rfl rfl
theorem wt_949 : (Cond.methodLink "StreamFuser$Stepper" (106 : Nat) ({ cls := "StreamFuser$Stepper", name := "join", desc := "(III)I" } : MethodName)) ∈ sf_T := sf_T_4 86 rfl rfl
theorem wt_950 : (Cond.sameMethod "StreamFuser$Stepper" "StreamFuser$Way" "join" "(III)I") ∈ sf_T := sf_T_4 87 rfl rfl
theorem wt_951 : (Cond.selects "StreamFuser$Stepper" ({ cls := "StreamFuser$Stepper", name := "join", desc := "(III)I" } : MethodName) ({ cls := "StreamFuser$Way", name := "join", desc := "(III)I" } : MethodName)) ∈ sf_T := sf_T_4 88 rfl rfl
theorem wt_952 : (Cond.methodLink "StreamFuser$Stepper" (68 : Nat) ({ cls := "StreamFuser$Stepper", name := "stepOpener", desc := "(II)I" } : MethodName)) ∈ sf_T := sf_T_4 89 rfl rfl
theorem wt_954 : (Cond.instanceMethod ({ cls := "StreamFuser$Stepper", name := "stepOpener", desc := "(II)I" } : MethodName)) ∈ sf_T := sf_T_4 91 rfl rfl
theorem wt_955 : (Cond.code ({ cls := "StreamFuser$Stepper", name := "stepOpener", desc := "(II)I" } : MethodName) prog_10_method_8_code (4 : Nat) (Option.some FieldType.int)) ∈ sf_T := sf_T_4 92 rfl rfl
theorem wt_956 : (Cond.methodLinkNest "StreamFuser$Stepper" (110 : Nat) ({ cls := "StreamFuser$Plan", name := "input", desc := "(I)I" } : MethodName) "StreamFuser") ∈ sf_N := sf_N_4 93 rfl rfl
theorem wt_957 : (Cond.methodLink "StreamFuser$Stepper" (113 : Nat) ({ cls := "StreamFuser$Stepper", name := "open", desc := "(II)V" } : MethodName)) ∈ sf_T := sf_T_4 94 rfl rfl
theorem wt_958 : (Cond.sameMethod "StreamFuser$Stepper" "StreamFuser$Walk" "open" "(II)V") ∈ sf_T := sf_T_4 95 rfl rfl
theorem wt_959 : (Cond.selects "StreamFuser$Stepper" ({ cls := "StreamFuser$Stepper", name := "open", desc := "(II)V" } : MethodName) ({ cls := "StreamFuser$Walk", name := "open", desc := "(II)V" } : MethodName)) ∈ sf_T := sf_T_4 96 rfl rfl
theorem wt_960 : (Cond.methodLink "StreamFuser$Stepper" (71 : Nat) ({ cls := "StreamFuser$Stepper", name := "produce", desc := "(I)Z" } : MethodName)) ∈ sf_T := sf_T_4 97 rfl rfl
theorem wt_961 : (Cond.sameMethod "StreamFuser$Stepper" "StreamFuser$Walk" "produce" "(I)Z") ∈ sf_T := sf_T_4 98 rfl rfl
theorem wt_962 : (Cond.selects "StreamFuser$Stepper" ({ cls := "StreamFuser$Stepper", name := "produce", desc := "(I)Z" } : MethodName) ({ cls := "StreamFuser$Walk", name := "produce", desc := "(I)Z" } : MethodName)) ∈ sf_T := sf_T_4 99 rfl rfl
theorem wt_963 : (Cond.methodLink "StreamFuser$Stepper" (74 : Nat) ({ cls := "StreamFuser$Stepper", name := "given", desc := "(Z)I" } : MethodName)) ∈ sf_T := sf_T_4 100 rfl rfl
theorem wt_965 : (Cond.instanceMethod ({ cls := "StreamFuser$Stepper", name := "given", desc := "(Z)I" } : MethodName)) ∈ sf_T := sf_T_4 102 rfl rfl
theorem wt_966 : (Cond.code ({ cls := "StreamFuser$Stepper", name := "given", desc := "(Z)I" } : MethodName) prog_10_method_5_code (2 : Nat) (Option.some FieldType.int)) ∈ sf_T := sf_T_4 103 rfl rfl
theorem wt_967 : (Cond.methodLinkNest "StreamFuser$Stepper" (94 : Nat) ({ cls := "StreamFuser$Run", name := "failed", desc := "()Z" } : MethodName) "StreamFuser") ∈ sf_N := sf_N_4 104 rfl rfl
theorem wt_968 : (Cond.methodLink "StreamFuser$Stepper" (78 : Nat) ({ cls := "StreamFuser$Stepper", name := "stepOne", desc := "(II)I" } : MethodName)) ∈ sf_T := sf_T_4 105 rfl rfl
theorem wt_970 : (Cond.instanceMethod ({ cls := "StreamFuser$Stepper", name := "stepOne", desc := "(II)I" } : MethodName)) ∈ sf_T := sf_T_4 107 rfl rfl
theorem wt_971 : (Cond.code ({ cls := "StreamFuser$Stepper", name := "stepOne", desc := "(II)I" } : MethodName) prog_10_method_4_code (4 : Nat) (Option.some FieldType.int)) ∈ sf_T := sf_T_4 108 rfl rfl
theorem wt_972 : (Cond.methodLink "StreamFuser$Stepper" (87 : Nat) ({ cls := "StreamFuser$Stepper", name := "passes", desc := "(II)Z" } : MethodName)) ∈ sf_T := sf_T_4 109 rfl rfl
theorem wt_973 : (Cond.sameMethod "StreamFuser$Stepper" "StreamFuser$Way" "passes" "(II)Z") ∈ sf_T := sf_T_4 110 rfl rfl
theorem wt_974 : (Cond.selects "StreamFuser$Stepper" ({ cls := "StreamFuser$Stepper", name := "passes", desc := "(II)Z" } : MethodName) ({ cls := "StreamFuser$Way", name := "passes", desc := "(II)Z" } : MethodName)) ∈ sf_T := sf_T_4 111 rfl rfl
theorem wt_975 : (Cond.methodLink "StreamFuser$Stepper" (91 : Nat) ({ cls := "StreamFuser$Stepper", name := "change", desc := "(II)Z" } : MethodName)) ∈ sf_T := sf_T_4 112 rfl rfl
theorem wt_976 : (Cond.sameMethod "StreamFuser$Stepper" "StreamFuser$Way" "change" "(II)Z") ∈ sf_T := sf_T_4 113 rfl rfl
theorem wt_977 : (Cond.selects "StreamFuser$Stepper" ({ cls := "StreamFuser$Stepper", name := "change", desc := "(II)Z" } : MethodName) ({ cls := "StreamFuser$Way", name := "change", desc := "(II)Z" } : MethodName)) ∈ sf_T := sf_T_4 114 rfl rfl
theorem wt_978 : (Cond.methodLinkNest "StreamFuser$Stepper" (51 : Nat) ({ cls := "StreamFuser$Run", name := "give", desc := "(I)V" } : MethodName) "StreamFuser") ∈ sf_N := sf_N_4 115 rfl rfl
theorem wt_979 : (Cond.methodLinkNest "StreamFuser" (164 : Nat) ({ cls := "StreamFuser$Maker", name := "play", desc := "(I)V" } : MethodName) "StreamFuser") ∈ sf_N := sf_N_4 116 rfl rfl
theorem wt_981 : (Cond.instanceMethod ({ cls := "StreamFuser$Maker", name := "play", desc := "(I)V" } : MethodName)) ∈ sf_T := sf_T_4 118 rfl rfl
theorem wt_982 : (Cond.code ({ cls := "StreamFuser$Maker", name := "play", desc := "(I)V" } : MethodName) prog_3_method_2_code (3 : Nat) (Option.none : Option FieldType)) ∈ sf_T := sf_T_4 119 rfl rfl
theorem wt_983 : (Cond.methodLinkNest "StreamFuser$Maker" (22 : Nat) ({ cls := "StreamFuser$Run", name := "begin", desc := "()V" } : MethodName) "StreamFuser") ∈ sf_N := sf_N_4 120 rfl rfl
theorem wt_984 : (Cond.methodLink "StreamFuser$Maker" (28 : Nat) ({ cls := "StreamFuser$Maker", name := "make", desc := "(II)Z" } : MethodName)) ∈ sf_T := sf_T_4 121 rfl rfl
theorem wt_986 : (Cond.instanceMethod ({ cls := "StreamFuser$Maker", name := "make", desc := "(II)Z" } : MethodName)) ∈ sf_T := sf_T_4 123 rfl rfl
theorem wt_987 : (Cond.code ({ cls := "StreamFuser$Maker", name := "make", desc := "(II)Z" } : MethodName) prog_3_method_3_code (3 : Nat) (Option.some FieldType.boolean)) ∈ sf_T := sf_T_4 124 rfl rfl
theorem wt_988 : (Cond.methodLinkNest "StreamFuser$Maker" (40 : Nat) ({ cls := "StreamFuser$Plan", name := "has", desc := "(I)Z" } : MethodName) "StreamFuser") ∈ sf_N := sf_N_4 125 rfl rfl
theorem wt_989 : (Cond.methodLink "StreamFuser$Maker" (46 : Nat) ({ cls := "StreamFuser$Maker", name := "fill", desc := "(II)Z" } : MethodName)) ∈ sf_T := sf_T_4 126 rfl rfl
theorem wt_991 : (Cond.instanceMethod ({ cls := "StreamFuser$Maker", name := "fill", desc := "(II)Z" } : MethodName)) ∈ sf_T := sf_T_4 128 rfl rfl
theorem wt_992 : (Cond.code ({ cls := "StreamFuser$Maker", name := "fill", desc := "(II)Z" } : MethodName) prog_3_method_4_code (5 : Nat) (Option.some FieldType.boolean)) ∈ sf_T := sf_T_4 129 rfl rfl
theorem wt_993 : (Cond.methodLinkNest "StreamFuser$Maker" (59 : Nat) ({ cls := "StreamFuser$Plan", name := "partsOf", desc := "(I)I" } : MethodName) "StreamFuser") ∈ sf_N := sf_N_4 130 rfl rfl
theorem wt_994 : (Cond.methodLink "StreamFuser$Maker" (63 : Nat) ({ cls := "StreamFuser$Maker", name := "fillFromProducer", desc := "(I)Z" } : MethodName)) ∈ sf_T := sf_T_4 131 rfl rfl
theorem wt_996 : (Cond.instanceMethod ({ cls := "StreamFuser$Maker", name := "fillFromProducer", desc := "(I)Z" } : MethodName)) ∈ sf_T := sf_T_4 133 rfl rfl
theorem wt_997 : (Cond.code ({ cls := "StreamFuser$Maker", name := "fillFromProducer", desc := "(I)Z" } : MethodName) prog_3_method_5_code (5 : Nat) (Option.some FieldType.boolean)) ∈ sf_T := sf_T_4 134 rfl rfl
theorem wt_998 : (Cond.methodLink "StreamFuser$Maker" (85 : Nat) ({ cls := "StreamFuser$Maker", name := "isReady", desc := "(I)Z" } : MethodName)) ∈ sf_T := sf_T_4 135 rfl rfl
theorem wt_999 : (Cond.sameMethod "StreamFuser$Maker" "StreamFuser$Way" "isReady" "(I)Z") ∈ sf_T := sf_T_4 136 rfl rfl
theorem wt_1000 : (Cond.selects "StreamFuser$Maker" ({ cls := "StreamFuser$Maker", name := "isReady", desc := "(I)Z" } : MethodName) ({ cls := "StreamFuser$Way", name := "isReady", desc := "(I)Z" } : MethodName)) ∈ sf_T := sf_T_4 137 rfl rfl
theorem wt_1001 : (Cond.methodLink "StreamFuser$Maker" (88 : Nat) ({ cls := "StreamFuser$Maker", name := "supply", desc := "(I)J" } : MethodName)) ∈ sf_T := sf_T_4 138 rfl rfl
theorem wt_1002 : (Cond.sameMethod "StreamFuser$Maker" "StreamFuser$Way" "supply" "(I)J") ∈ sf_T := sf_T_4 139 rfl rfl
theorem wt_1003 : (Cond.selects "StreamFuser$Maker" ({ cls := "StreamFuser$Maker", name := "supply", desc := "(I)J" } : MethodName) ({ cls := "StreamFuser$Way", name := "supply", desc := "(I)J" } : MethodName)) ∈ sf_T := sf_T_4 140 rfl rfl
theorem wt_1004 : (Cond.constantLong "StreamFuser$Maker" (92 : Nat) (60 : Int64)) ∈ sf_T := sf_T_4 141 rfl rfl
theorem wt_1005 : (Cond.methodLinkNest "StreamFuser$Maker" (97 : Nat) ({ cls := "StreamFuser$Run", name := "fail", desc := "(II)V" } : MethodName) "StreamFuser") ∈ sf_N := sf_N_4 142 rfl rfl
theorem wt_1006 : (Cond.methodLinkNest "StreamFuser$Maker" (100 : Nat) ({ cls := "StreamFuser$Run", name := "draw", desc := "(I)Z" } : MethodName) "StreamFuser") ∈ sf_N := sf_N_4 143 rfl rfl
theorem wt_1007 : (Cond.methodLink "StreamFuser$Maker" (103 : Nat) ({ cls := "StreamFuser$Maker", name := "supplied", desc := "(II)I" } : MethodName)) ∈ sf_T := sf_T_4 144 rfl rfl
theorem wt_1008 : (Cond.sameMethod "StreamFuser$Maker" "StreamFuser$Way" "supplied" "(II)I") ∈ sf_T := sf_T_4 145 rfl rfl
theorem wt_1009 : (Cond.selects "StreamFuser$Maker" ({ cls := "StreamFuser$Maker", name := "supplied", desc := "(II)I" } : MethodName) ({ cls := "StreamFuser$Way", name := "supplied", desc := "(II)I" } : MethodName)) ∈ sf_T := sf_T_4 146 rfl rfl
theorem wt_1010 : (Cond.methodLink "StreamFuser$Maker" (107 : Nat) ({ cls := "StreamFuser$Maker", name := "add", desc := "(II)V" } : MethodName)) ∈ sf_T := sf_T_4 147 rfl rfl
theorem wt_1012 : (Cond.instanceMethod ({ cls := "StreamFuser$Maker", name := "add", desc := "(II)V" } : MethodName)) ∈ sf_T := sf_T_4 149 rfl rfl
theorem wt_1013 : (Cond.code ({ cls := "StreamFuser$Maker", name := "add", desc := "(II)V" } : MethodName) prog_3_method_11_code (3 : Nat) (Option.none : Option FieldType)) ∈ sf_T := sf_T_4 150 rfl rfl
theorem wt_1014 : (Cond.methodLinkNest "StreamFuser$Maker" (66 : Nat) ({ cls := "StreamFuser$Plan", name := "input", desc := "(I)I" } : MethodName) "StreamFuser") ∈ sf_N := sf_N_4 151 rfl rfl
theorem wt_1015 : (Cond.methodLink "StreamFuser$Maker" (69 : Nat) ({ cls := "StreamFuser$Maker", name := "fillByOpening", desc := "(II)Z" } : MethodName)) ∈ sf_T := sf_T_4 152 rfl rfl
theorem wt_1017 : (Cond.instanceMethod ({ cls := "StreamFuser$Maker", name := "fillByOpening", desc := "(II)Z" } : MethodName)) ∈ sf_T := sf_T_4 154 rfl rfl
theorem wt_1018 : (Cond.code ({ cls := "StreamFuser$Maker", name := "fillByOpening", desc := "(II)Z" } : MethodName) prog_3_method_7_code (5 : Nat) (Option.some FieldType.boolean)) ∈ sf_T := sf_T_4 155 rfl rfl
theorem wt_1019 : (Cond.methodLink "StreamFuser$Maker" (110 : Nat) ({ cls := "StreamFuser$Maker", name := "element", desc := "(II)I" } : MethodName)) ∈ sf_T := sf_T_4 156 rfl rfl
theorem wt_1021 : (Cond.instanceMethod ({ cls := "StreamFuser$Maker", name := "element", desc := "(II)I" } : MethodName)) ∈ sf_T := sf_T_4 158 rfl rfl
theorem wt_1022 : (Cond.code ({ cls := "StreamFuser$Maker", name := "element", desc := "(II)I" } : MethodName) prog_3_method_10_code (3 : Nat) (Option.some FieldType.int)) ∈ sf_T := sf_T_4 159 rfl rfl
theorem wt_1023 : (Cond.methodLink "StreamFuser$Maker" (78 : Nat) ({ cls := "StreamFuser$Maker", name := "addRow", desc := "(II)Z" } : MethodName)) ∈ sf_T := sf_T_4 160 rfl rfl
theorem wt_1025 : (Cond.instanceMethod ({ cls := "StreamFuser$Maker", name := "addRow", desc := "(II)Z" } : MethodName)) ∈ sf_T := sf_T_4 162 rfl rfl
theorem wt_1026 : (Cond.code ({ cls := "StreamFuser$Maker", name := "addRow", desc := "(II)Z" } : MethodName) prog_3_method_8_code (3 : Nat) (Option.some FieldType.boolean)) ∈ sf_T := sf_T_4 163 rfl rfl
theorem wt_1027 : (Cond.methodLink "StreamFuser$Maker" (128 : Nat) ({ cls := "java/lang/System", name := "arraycopy", desc := "(Ljava/lang/Object;ILjava/lang/Object;II)V" } : MethodName)) ∈ sf_T := sf_T_4 164 rfl rfl
theorem wt_1028 : (Cond.static ({ cls := "java/lang/System", name := "arraycopy", desc := "(Ljava/lang/Object;ILjava/lang/Object;II)V" } : MethodName)) ∈ sf_T := sf_T_4 165 rfl rfl
theorem wt_1029 : (Cond.native ({ cls := "java/lang/System", name := "arraycopy", desc := "(Ljava/lang/Object;ILjava/lang/Object;II)V" } : MethodName)) ∈ sf_T := sf_T_4 166 rfl rfl
theorem wt_1030 : (Cond.methodLink "StreamFuser$Maker" (72 : Nat) ({ cls := "StreamFuser$Maker", name := "fillFromInput", desc := "(I)Z" } : MethodName)) ∈ sf_T := sf_T_4 167 rfl rfl
theorem wt_1032 : (Cond.instanceMethod ({ cls := "StreamFuser$Maker", name := "fillFromInput", desc := "(I)Z" } : MethodName)) ∈ sf_T := sf_T_4 169 rfl rfl
theorem wt_1033 : (Cond.code ({ cls := "StreamFuser$Maker", name := "fillFromInput", desc := "(I)Z" } : MethodName) prog_3_method_6_code (5 : Nat) (Option.some FieldType.boolean)) ∈ sf_T := sf_T_4 170 rfl rfl
theorem wt_1034 : (Cond.methodLink "StreamFuser$Maker" (113 : Nat) ({ cls := "StreamFuser$Maker", name := "passes", desc := "(II)Z" } : MethodName)) ∈ sf_T := sf_T_4 171 rfl rfl
theorem wt_1035 : (Cond.sameMethod "StreamFuser$Maker" "StreamFuser$Way" "passes" "(II)Z") ∈ sf_T := sf_T_4 172 rfl rfl
theorem wt_1036 : (Cond.selects "StreamFuser$Maker" ({ cls := "StreamFuser$Maker", name := "passes", desc := "(II)Z" } : MethodName) ({ cls := "StreamFuser$Way", name := "passes", desc := "(II)Z" } : MethodName)) ∈ sf_T := sf_T_4 173 rfl rfl
theorem wt_1037 : (Cond.methodLink "StreamFuser$Maker" (119 : Nat) ({ cls := "StreamFuser$Maker", name := "change", desc := "(II)Z" } : MethodName)) ∈ sf_T := sf_T_4 174 rfl rfl
theorem wt_1038 : (Cond.sameMethod "StreamFuser$Maker" "StreamFuser$Way" "change" "(II)Z") ∈ sf_T := sf_T_4 175 rfl rfl
theorem wt_1039 : (Cond.selects "StreamFuser$Maker" ({ cls := "StreamFuser$Maker", name := "change", desc := "(II)Z" } : MethodName) ({ cls := "StreamFuser$Way", name := "change", desc := "(II)Z" } : MethodName)) ∈ sf_T := sf_T_4 176 rfl rfl
theorem wt_1040 : (Cond.methodLinkNest "StreamFuser$Maker" (75 : Nat) ({ cls := "StreamFuser$Plan", name := "secondPart", desc := "(I)I" } : MethodName) "StreamFuser") ∈ sf_N := sf_N_4 177 rfl rfl
theorem wt_1041 : (Cond.methodLink "StreamFuser$Maker" (81 : Nat) ({ cls := "StreamFuser$Maker", name := "zip", desc := "(II)V" } : MethodName)) ∈ sf_T := sf_T_4 178 rfl rfl
theorem wt_1043 : (Cond.instanceMethod ({ cls := "StreamFuser$Maker", name := "zip", desc := "(II)V" } : MethodName)) ∈ sf_T := sf_T_4 180 rfl rfl
theorem wt_1044 : (Cond.code ({ cls := "StreamFuser$Maker", name := "zip", desc := "(II)V" } : MethodName) prog_3_method_9_code (6 : Nat) (Option.none : Option FieldType)) ∈ sf_T := sf_T_4 181 rfl rfl
theorem wt_1045 : (Cond.methodLink "StreamFuser$Maker" (134 : Nat) ({ cls := "java/lang/Math", name := "min", desc := "(II)I" } : MethodName)) ∈ sf_T := sf_T_4 182 rfl rfl
theorem wt_1046 : (Cond.methodLink "StreamFuser$Maker" (139 : Nat) ({ cls := "StreamFuser$Maker", name := "join", desc := "(III)I" } : MethodName)) ∈ sf_T := sf_T_4 183 rfl rfl
theorem wt_1047 : (Cond.sameMethod "StreamFuser$Maker" "StreamFuser$Way" "join" "(III)I") ∈ sf_T := sf_T_4 184 rfl rfl
theorem wt_1048 : (Cond.selects "StreamFuser$Maker" ({ cls := "StreamFuser$Maker", name := "join", desc := "(III)I" } : MethodName) ({ cls := "StreamFuser$Way", name := "join", desc := "(III)I" } : MethodName)) ∈ sf_T := sf_T_4 185 rfl rfl
theorem wt_1049 : (Cond.methodLinkNest "StreamFuser$Maker" (32 : Nat) ({ cls := "StreamFuser$Run", name := "give", desc := "(I)V" } : MethodName) "StreamFuser") ∈ sf_N := sf_N_4 186 rfl rfl
theorem wt_1050 : (Cond.methodLink "StreamFuserLaw" (56 : Nat) ({ cls := "StreamFuser", name := "result", desc := "(I)J" } : MethodName)) ∈ sf_T := sf_T_4 187 rfl rfl
theorem wt_1051 : (Cond.instanceMethod ({ cls := "StreamFuser", name := "result", desc := "(I)J" } : MethodName)) ∈ sf_T := sf_T_4 188 rfl rfl
theorem wt_1052 : (Cond.selects "StreamFuser" ({ cls := "StreamFuser", name := "result", desc := "(I)J" } : MethodName) ({ cls := "StreamFuser", name := "result", desc := "(I)J" } : MethodName)) ∈ sf_T := sf_T_4 189 rfl rfl
theorem wt_1053 : (Cond.code ({ cls := "StreamFuser", name := "result", desc := "(I)J" } : MethodName) prog_1_method_12_code (2 : Nat) (Option.some FieldType.long)) ∈ sf_T := sf_T_4 190 rfl rfl
theorem wt_1054 : (Cond.constantLong "StreamFuser" (169 : Nat) (-9223372036854775806 : Int64)) ∈ sf_T := sf_T_4 191 rfl rfl
theorem wt_1055 : (Cond.methodLink "StreamFuserLaw" (61 : Nat) ({ cls := "StreamFuser", name := "fold", desc := "(I)J" } : MethodName)) ∈ sf_T := sf_T_4 192 rfl rfl
theorem wt_1056 : (Cond.instanceMethod ({ cls := "StreamFuser", name := "fold", desc := "(I)J" } : MethodName)) ∈ sf_T := sf_T_4 193 rfl rfl
theorem wt_1057 : (Cond.selects "StreamFuser" ({ cls := "StreamFuser", name := "fold", desc := "(I)J" } : MethodName) ({ cls := "StreamFuser", name := "fold", desc := "(I)J" } : MethodName)) ∈ sf_T := sf_T_4 194 rfl rfl
theorem wt_1058 : (Cond.code ({ cls := "StreamFuser", name := "fold", desc := "(I)J" } : MethodName) prog_1_method_13_code (2 : Nat) (Option.some FieldType.long)) ∈ sf_T := sf_T_4 195 rfl rfl
theorem wt_1059 : (Cond.methodLinkNest "StreamFuser" (171 : Nat) ({ cls := "StreamFuser$Run", name := "sum", desc := "()J" } : MethodName) "StreamFuser") ∈ sf_N := sf_N_4 196 rfl rfl
theorem wt_1061 : (Cond.instanceMethod ({ cls := "StreamFuser$Run", name := "sum", desc := "()J" } : MethodName)) ∈ sf_T := sf_T_4 198 rfl rfl
theorem wt_1062 : (Cond.code ({ cls := "StreamFuser$Run", name := "sum", desc := "()J" } : MethodName) prog_8_method_9_code (4 : Nat) (Option.some FieldType.long)) ∈ sf_T := sf_T_4 199 rfl rfl
theorem wt_1063 : (Cond.constantLong "StreamFuser" (175 : Nat) (-9223372036854775805 : Int64)) ∈ sf_T := sf_T_4 200 rfl rfl
theorem wt_1064 : (Cond.methodLinkNest "StreamFuser" (177 : Nat) ({ cls := "StreamFuser$Run", name := "greatest", desc := "()I" } : MethodName) "StreamFuser") ∈ sf_N := sf_N_4 201 rfl rfl
theorem wt_1066 : (Cond.instanceMethod ({ cls := "StreamFuser$Run", name := "greatest", desc := "()I" } : MethodName)) ∈ sf_T := sf_T_4 203 rfl rfl
theorem wt_1067 : (Cond.code ({ cls := "StreamFuser$Run", name := "greatest", desc := "()I" } : MethodName) prog_8_method_10_code (3 : Nat) (Option.some FieldType.int)) ∈ sf_T := sf_T_4 204 rfl rfl
theorem wt_1068 : (Cond.constant "StreamFuser$Run" (55 : Nat) (-2147483648 : Int32)) ∈ sf_T := sf_T_4 205 rfl rfl
theorem wt_1069 : (Cond.methodLink "StreamFuser$Run" (56 : Nat) ({ cls := "java/lang/Math", name := "max", desc := "(II)I" } : MethodName)) ∈ sf_T := sf_T_4 206 rfl rfl
theorem wt_1070 : (Cond.methodLinkNest "StreamFuser" (180 : Nat) ({ cls := "StreamFuser$Run", name := "smallest", desc := "()I" } : MethodName) "StreamFuser") ∈ sf_N := sf_N_4 207 rfl rfl
theorem wt_1072 : (Cond.instanceMethod ({ cls := "StreamFuser$Run", name := "smallest", desc := "()I" } : MethodName)) ∈ sf_T := sf_T_4 209 rfl rfl
theorem wt_1073 : (Cond.code ({ cls := "StreamFuser$Run", name := "smallest", desc := "()I" } : MethodName) prog_8_method_11_code (3 : Nat) (Option.some FieldType.int)) ∈ sf_T := sf_T_4 210 rfl rfl
theorem wt_1074 : (Cond.constant "StreamFuser$Run" (59 : Nat) (2147483647 : Int32)) ∈ sf_T := sf_T_4 211 rfl rfl
theorem wt_1075 : (Cond.methodLink "StreamFuser$Run" (47 : Nat) ({ cls := "java/lang/Math", name := "min", desc := "(II)I" } : MethodName)) ∈ sf_T := sf_T_4 212 rfl rfl
theorem wt_1076 : (Cond.methodLink "StreamFuserLaw" (65 : Nat) ({ cls := "StreamFuser", name := "failure", desc := "(I)I" } : MethodName)) ∈ sf_T := sf_T_4 213 rfl rfl
theorem wt_1077 : (Cond.instanceMethod ({ cls := "StreamFuser", name := "failure", desc := "(I)I" } : MethodName)) ∈ sf_T := sf_T_4 214 rfl rfl
theorem wt_1078 : (Cond.selects "StreamFuser" ({ cls := "StreamFuser", name := "failure", desc := "(I)I" } : MethodName) ({ cls := "StreamFuser", name := "failure", desc := "(I)I" } : MethodName)) ∈ sf_T := sf_T_4 215 rfl rfl
theorem wt_1079 : (Cond.code ({ cls := "StreamFuser", name := "failure", desc := "(I)I" } : MethodName) prog_1_method_14_code (2 : Nat) (Option.some FieldType.int)) ∈ sf_T := sf_T_4 216 rfl rfl
theorem wt_1080 : (Cond.methodLink "StreamFuserLaw" (69 : Nat) ({ cls := "StreamFuser", name := "told", desc := "(I)I" } : MethodName)) ∈ sf_T := sf_T_4 217 rfl rfl
theorem wt_1081 : (Cond.instanceMethod ({ cls := "StreamFuser", name := "told", desc := "(I)I" } : MethodName)) ∈ sf_T := sf_T_4 218 rfl rfl
theorem wt_1082 : (Cond.selects "StreamFuser" ({ cls := "StreamFuser", name := "told", desc := "(I)I" } : MethodName) ({ cls := "StreamFuser", name := "told", desc := "(I)I" } : MethodName)) ∈ sf_T := sf_T_4 219 rfl rfl
theorem wt_1083 : (Cond.code ({ cls := "StreamFuser", name := "told", desc := "(I)I" } : MethodName) prog_1_method_15_code (2 : Nat) (Option.some FieldType.int)) ∈ sf_T := sf_T_4 220 rfl rfl
theorem wt_1084 : (Cond.methodLink "StreamFuserLaw" (73 : Nat) ({ cls := "StreamFuser", name := "written", desc := "(II)J" } : MethodName)) ∈ sf_T := sf_T_4 221 rfl rfl
theorem wt_1085 : (Cond.instanceMethod ({ cls := "StreamFuser", name := "written", desc := "(II)J" } : MethodName)) ∈ sf_T := sf_T_4 222 rfl rfl
theorem wt_1086 : (Cond.selects "StreamFuser" ({ cls := "StreamFuser", name := "written", desc := "(II)J" } : MethodName) ({ cls := "StreamFuser", name := "written", desc := "(II)J" } : MethodName)) ∈ sf_T := sf_T_4 223 rfl rfl
theorem wt_1087 : (Cond.code ({ cls := "StreamFuser", name := "written", desc := "(II)J" } : MethodName) prog_1_method_16_code (3 : Nat) (Option.some FieldType.long)) ∈ sf_T := sf_T_4 224 rfl rfl
theorem wt_1088 : (Cond.methodLinkNest "StreamFuser" (198 : Nat) ({ cls := "StreamFuser$Run", name := "kept", desc := "()I" } : MethodName) "StreamFuser") ∈ sf_N := sf_N_4 225 rfl rfl
theorem wt_1090 : (Cond.instanceMethod ({ cls := "StreamFuser$Run", name := "kept", desc := "()I" } : MethodName)) ∈ sf_T := sf_T_4 227 rfl rfl
theorem wt_1091 : (Cond.code ({ cls := "StreamFuser$Run", name := "kept", desc := "()I" } : MethodName) prog_8_method_8_code (1 : Nat) (Option.some FieldType.int)) ∈ sf_T := sf_T_4 228 rfl rfl
theorem wt_1092 : (Cond.methodLink "StreamFuserLaw" (78 : Nat) ({ cls := "StreamFuser", name := "sheet", desc := "(III)I" } : MethodName)) ∈ sf_T := sf_T_4 229 rfl rfl
theorem wt_1093 : (Cond.instanceMethod ({ cls := "StreamFuser", name := "sheet", desc := "(III)I" } : MethodName)) ∈ sf_T := sf_T_4 230 rfl rfl
theorem wt_1094 : (Cond.selects "StreamFuser" ({ cls := "StreamFuser", name := "sheet", desc := "(III)I" } : MethodName) ({ cls := "StreamFuser", name := "sheet", desc := "(III)I" } : MethodName)) ∈ sf_T := sf_T_4 231 rfl rfl
theorem wt_1095 : (Cond.code ({ cls := "StreamFuser", name := "sheet", desc := "(III)I" } : MethodName) prog_1_method_17_code (4 : Nat) (Option.some FieldType.int)) ∈ sf_T := sf_T_4 232 rfl rfl
theorem wt_1096 : (Cond.methodLink "StreamFuser" (207 : Nat) ({ cls := "StreamFuser", name := "isSheet", desc := "(I)Z" } : MethodName)) ∈ sf_T := sf_T_4 233 rfl rfl
theorem wt_1097 : (Cond.methodLink "StreamFuser" (210 : Nat) ({ cls := "StreamFuser", name := "isForm", desc := "(I)Z" } : MethodName)) ∈ sf_T := sf_T_4 234 rfl rfl
theorem wt_1098 : (Cond.static ({ cls := "StreamFuser", name := "isForm", desc := "(I)Z" } : MethodName)) ∈ sf_T := sf_T_4 235 rfl rfl
theorem wt_1099 : (Cond.code ({ cls := "StreamFuser", name := "isForm", desc := "(I)Z" } : MethodName) prog_1_method_30_code (1 : Nat) (Option.some FieldType.boolean)) ∈ sf_T := sf_T_4 236 rfl rfl
theorem wt_1100 : (Cond.methodLink "StreamFuser" (213 : Nat) ({ cls := "StreamFuser", name := "find", desc := "(I)I" } : MethodName)) ∈ sf_T := sf_T_4 237 rfl rfl
theorem wt_1102 : (Cond.instanceMethod ({ cls := "StreamFuser", name := "find", desc := "(I)I" } : MethodName)) ∈ sf_T := sf_T_4 239 rfl rfl
theorem wt_1103 : (Cond.code ({ cls := "StreamFuser", name := "find", desc := "(I)I" } : MethodName) prog_1_method_27_code (2 : Nat) (Option.some FieldType.int)) ∈ sf_T := sf_T_5 0 rfl rfl
theorem wt_1104 : (Cond.methodLinkNest "StreamFuser" (217 : Nat) ({ cls := "StreamFuser$Sheets", name := "renew", desc := "(III)V" } : MethodName) "StreamFuser") ∈ sf_N := sf_N_5 1 rfl rfl
theorem wt_1106 : (Cond.instanceMethod ({ cls := "StreamFuser$Sheets", name := "renew", desc := "(III)V" } : MethodName)) ∈ sf_T := sf_T_5 3 rfl rfl
theorem wt_1107 : (Cond.code ({ cls := "StreamFuser$Sheets", name := "renew", desc := "(III)V" } : MethodName) prog_9_method_5_code (5 : Nat) (Option.none : Option FieldType)) ∈ sf_T := sf_T_5 4 rfl rfl
theorem wt_1108 : (Cond.methodLink "StreamFuserLaw" (83 : Nat) ({ cls := "StreamFuser", name := "lose", desc := "(I)I" } : MethodName)) ∈ sf_T := sf_T_5 5 rfl rfl
theorem wt_1109 : (Cond.instanceMethod ({ cls := "StreamFuser", name := "lose", desc := "(I)I" } : MethodName)) ∈ sf_T := sf_T_5 6 rfl rfl
theorem wt_1110 : (Cond.selects "StreamFuser" ({ cls := "StreamFuser", name := "lose", desc := "(I)I" } : MethodName) ({ cls := "StreamFuser", name := "lose", desc := "(I)I" } : MethodName)) ∈ sf_T := sf_T_5 7 rfl rfl
theorem wt_1111 : (Cond.code ({ cls := "StreamFuser", name := "lose", desc := "(I)I" } : MethodName) prog_1_method_18_code (3 : Nat) (Option.some FieldType.int)) ∈ sf_T := sf_T_5 8 rfl rfl
theorem wt_1112 : (Cond.methodLinkNest "StreamFuser" (221 : Nat) ({ cls := "StreamFuser$Sheets", name := "isLost", desc := "(I)Z" } : MethodName) "StreamFuser") ∈ sf_N := sf_N_5 9 rfl rfl
theorem wt_1113 : (Cond.methodLink "StreamFuserLaw" (87 : Nat) ({ cls := "StreamFuser", name := "lay", desc := "(IIII)I" } : MethodName)) ∈ sf_T := sf_T_5 10 rfl rfl
theorem wt_1114 : (Cond.instanceMethod ({ cls := "StreamFuser", name := "lay", desc := "(IIII)I" } : MethodName)) ∈ sf_T := sf_T_5 11 rfl rfl
theorem wt_1115 : (Cond.selects "StreamFuser" ({ cls := "StreamFuser", name := "lay", desc := "(IIII)I" } : MethodName) ({ cls := "StreamFuser", name := "lay", desc := "(IIII)I" } : MethodName)) ∈ sf_T := sf_T_5 12 rfl rfl
theorem wt_1116 : (Cond.code ({ cls := "StreamFuser", name := "lay", desc := "(IIII)I" } : MethodName) prog_1_method_19_code (6 : Nat) (Option.some FieldType.int)) ∈ sf_T := sf_T_5 13 rfl rfl
theorem wt_1117 : (Cond.methodLink "StreamFuser" (226 : Nat) ({ cls := "StreamFuser", name := "elementError", desc := "(III)I" } : MethodName)) ∈ sf_T := sf_T_5 14 rfl rfl
theorem wt_1119 : (Cond.instanceMethod ({ cls := "StreamFuser", name := "elementError", desc := "(III)I" } : MethodName)) ∈ sf_T := sf_T_5 16 rfl rfl
theorem wt_1120 : (Cond.code ({ cls := "StreamFuser", name := "elementError", desc := "(III)I" } : MethodName) prog_1_method_28_code (4 : Nat) (Option.some FieldType.int)) ∈ sf_T := sf_T_5 17 rfl rfl
theorem wt_1121 : (Cond.methodLinkNest "StreamFuser" (304 : Nat) ({ cls := "StreamFuser$Sheets", name := "hasElement", desc := "(II)Z" } : MethodName) "StreamFuser") ∈ sf_N := sf_N_5 18 rfl rfl
theorem wt_1123 : (Cond.instanceMethod ({ cls := "StreamFuser$Sheets", name := "hasElement", desc := "(II)Z" } : MethodName)) ∈ sf_T := sf_T_5 20 rfl rfl
theorem wt_1124 : (Cond.code ({ cls := "StreamFuser$Sheets", name := "hasElement", desc := "(II)Z" } : MethodName) prog_9_method_3_code (3 : Nat) (Option.some FieldType.boolean)) ∈ sf_T := sf_T_5 21 rfl rfl
theorem wt_1125 : (Cond.methodLinkNest "StreamFuser" (230 : Nat) ({ cls := "StreamFuser$Sheets", name := "store", desc := "(III)V" } : MethodName) "StreamFuser") ∈ sf_N := sf_N_5 22 rfl rfl
theorem wt_1127 : (Cond.instanceMethod ({ cls := "StreamFuser$Sheets", name := "store", desc := "(III)V" } : MethodName)) ∈ sf_T := sf_T_5 24 rfl rfl
theorem wt_1128 : (Cond.code ({ cls := "StreamFuser$Sheets", name := "store", desc := "(III)V" } : MethodName) prog_9_method_6_code (4 : Nat) (Option.none : Option FieldType)) ∈ sf_T := sf_T_5 25 rfl rfl
theorem wt_1129 : (Cond.methodLink "StreamFuser$Sheets" (21 : Nat) ({ cls := "StreamFuser$Sheets", name := "hasElement", desc := "(II)Z" } : MethodName)) ∈ sf_T := sf_T_5 26 rfl rfl
theorem wt_1130 : (Cond.methodLink "StreamFuser$Sheets" (25 : Nat) ({ cls := "StreamFuser$Sheets", name := "cast", desc := "(II)I" } : MethodName)) ∈ sf_T := sf_T_5 27 rfl rfl
theorem wt_1131 : (Cond.static ({ cls := "StreamFuser$Sheets", name := "cast", desc := "(II)I" } : MethodName)) ∈ sf_T := sf_T_5 28 rfl rfl
theorem wt_1132 : (Cond.code ({ cls := "StreamFuser$Sheets", name := "cast", desc := "(II)I" } : MethodName) prog_9_method_7_code (2 : Nat) (Option.some FieldType.int)) ∈ sf_T := sf_T_5 29 rfl rfl
theorem wt_1133 : (Cond.methodLink "StreamFuserLaw" (92 : Nat) ({ cls := "StreamFuser", name := "get", desc := "(III)I" } : MethodName)) ∈ sf_T := sf_T_5 30 rfl rfl
theorem wt_1134 : (Cond.instanceMethod ({ cls := "StreamFuser", name := "get", desc := "(III)I" } : MethodName)) ∈ sf_T := sf_T_5 31 rfl rfl
theorem wt_1135 : (Cond.selects "StreamFuser" ({ cls := "StreamFuser", name := "get", desc := "(III)I" } : MethodName) ({ cls := "StreamFuser", name := "get", desc := "(III)I" } : MethodName)) ∈ sf_T := sf_T_5 32 rfl rfl
theorem wt_1136 : (Cond.code ({ cls := "StreamFuser", name := "get", desc := "(III)I" } : MethodName) prog_1_method_20_code (5 : Nat) (Option.some FieldType.int)) ∈ sf_T := sf_T_5 33 rfl rfl
theorem wt_1137 : (Cond.methodLinkNest "StreamFuser" (233 : Nat) ({ cls := "StreamFuser$Sheets", name := "at", desc := "(II)I" } : MethodName) "StreamFuser") ∈ sf_N := sf_N_5 34 rfl rfl
theorem wt_1138 : (Cond.methodLink "StreamFuserLaw" (96 : Nat) ({ cls := "StreamFuser", name := "copy", desc := "(IIIII)I" } : MethodName)) ∈ sf_T := sf_T_5 35 rfl rfl
theorem wt_1139 : (Cond.instanceMethod ({ cls := "StreamFuser", name := "copy", desc := "(IIIII)I" } : MethodName)) ∈ sf_T := sf_T_5 36 rfl rfl
theorem wt_1140 : (Cond.selects "StreamFuser" ({ cls := "StreamFuser", name := "copy", desc := "(IIIII)I" } : MethodName) ({ cls := "StreamFuser", name := "copy", desc := "(IIIII)I" } : MethodName)) ∈ sf_T := sf_T_5 37 rfl rfl
theorem wt_1141 : (Cond.code ({ cls := "StreamFuser", name := "copy", desc := "(IIIII)I" } : MethodName) prog_1_method_21_code (6 : Nat) (Option.some FieldType.int)) ∈ sf_T := sf_T_5 38 rfl rfl
theorem wt_1142 : (Cond.methodLinkNest "StreamFuser" (240 : Nat) ({ cls := "StreamFuser$Sheets", name := "hasPart", desc := "(III)Z" } : MethodName) "StreamFuser") ∈ sf_N := sf_N_5 39 rfl rfl
theorem wt_1144 : (Cond.instanceMethod ({ cls := "StreamFuser$Sheets", name := "hasPart", desc := "(III)Z" } : MethodName)) ∈ sf_T := sf_T_5 41 rfl rfl
theorem wt_1145 : (Cond.code ({ cls := "StreamFuser$Sheets", name := "hasPart", desc := "(III)Z" } : MethodName) prog_9_method_4_code (4 : Nat) (Option.some FieldType.boolean)) ∈ sf_T := sf_T_5 42 rfl rfl
theorem wt_1146 : (Cond.methodLinkNest "StreamFuser" (244 : Nat) ({ cls := "StreamFuser$Sheets", name := "move", desc := "(IIIII)V" } : MethodName) "StreamFuser") ∈ sf_N := sf_N_5 43 rfl rfl
theorem wt_1148 : (Cond.instanceMethod ({ cls := "StreamFuser$Sheets", name := "move", desc := "(IIIII)V" } : MethodName)) ∈ sf_T := sf_T_5 45 rfl rfl
theorem wt_1149 : (Cond.code ({ cls := "StreamFuser$Sheets", name := "move", desc := "(IIIII)V" } : MethodName) prog_9_method_9_code (6 : Nat) (Option.none : Option FieldType)) ∈ sf_T := sf_T_5 46 rfl rfl
theorem wt_1150 : (Cond.methodLink "StreamFuser$Sheets" (29 : Nat) ({ cls := "StreamFuser$Sheets", name := "hasPart", desc := "(III)Z" } : MethodName)) ∈ sf_T := sf_T_5 47 rfl rfl
theorem wt_1151 : (Cond.methodLink "StreamFuser$Sheets" (33 : Nat) ({ cls := "java/lang/System", name := "arraycopy", desc := "(Ljava/lang/Object;ILjava/lang/Object;II)V" } : MethodName)) ∈ sf_T := sf_T_5 48 rfl rfl
theorem wt_1152 : (Cond.methodLink "StreamFuserLaw" (101 : Nat) ({ cls := "StreamFuser", name := "write", desc := "(I)I" } : MethodName)) ∈ sf_T := sf_T_5 49 rfl rfl
theorem wt_1153 : (Cond.instanceMethod ({ cls := "StreamFuser", name := "write", desc := "(I)I" } : MethodName)) ∈ sf_T := sf_T_5 50 rfl rfl
theorem wt_1154 : (Cond.selects "StreamFuser" ({ cls := "StreamFuser", name := "write", desc := "(I)I" } : MethodName) ({ cls := "StreamFuser", name := "write", desc := "(I)I" } : MethodName)) ∈ sf_T := sf_T_5 51 rfl rfl
theorem wt_1155 : (Cond.code ({ cls := "StreamFuser", name := "write", desc := "(I)I" } : MethodName) prog_1_method_22_code (4 : Nat) (Option.some FieldType.int)) ∈ sf_T := sf_T_5 52 rfl rfl
theorem wt_1156 : (Cond.methodLink "StreamFuser" (248 : Nat) ({ cls := "java/lang/Math", name := "min", desc := "(II)I" } : MethodName)) ∈ sf_T := sf_T_5 53 rfl rfl
theorem wt_1157 : (Cond.methodLink "StreamFuserLaw" (105 : Nat) ({ cls := "StreamFuser", name := "count", desc := "(I)I" } : MethodName)) ∈ sf_T := sf_T_5 54 rfl rfl
theorem wt_1158 : (Cond.instanceMethod ({ cls := "StreamFuser", name := "count", desc := "(I)I" } : MethodName)) ∈ sf_T := sf_T_5 55 rfl rfl
theorem wt_1159 : (Cond.selects "StreamFuser" ({ cls := "StreamFuser", name := "count", desc := "(I)I" } : MethodName) ({ cls := "StreamFuser", name := "count", desc := "(I)I" } : MethodName)) ∈ sf_T := sf_T_5 56 rfl rfl
theorem wt_1160 : (Cond.code ({ cls := "StreamFuser", name := "count", desc := "(I)I" } : MethodName) prog_1_method_23_code (2 : Nat) (Option.some FieldType.int)) ∈ sf_T := sf_T_5 57 rfl rfl
theorem wt_1161 : (Cond.methodLink "StreamFuserLaw" (109 : Nat) ({ cls := "StreamFuser", name := "digest", desc := "()J" } : MethodName)) ∈ sf_T := sf_T_5 58 rfl rfl
theorem wt_1162 : (Cond.instanceMethod ({ cls := "StreamFuser", name := "digest", desc := "()J" } : MethodName)) ∈ sf_T := sf_T_5 59 rfl rfl
theorem wt_1163 : (Cond.selects "StreamFuser" ({ cls := "StreamFuser", name := "digest", desc := "()J" } : MethodName) ({ cls := "StreamFuser", name := "digest", desc := "()J" } : MethodName)) ∈ sf_T := sf_T_5 60 rfl rfl
theorem wt_1164 : (Cond.code ({ cls := "StreamFuser", name := "digest", desc := "()J" } : MethodName) prog_1_method_24_code (4 : Nat) (Option.some FieldType.long)) ∈ sf_T := sf_T_5 61 rfl rfl
theorem wt_1165 : (Cond.constantLong "StreamFuser" (259 : Nat) (17 : Int64)) ∈ sf_T := sf_T_5 62 rfl rfl
theorem wt_1166 : (Cond.constantLong "StreamFuser" (261 : Nat) (31 : Int64)) ∈ sf_T := sf_T_5 63 rfl rfl
theorem wt_1167 : (Cond.methodLink "StreamFuser" (263 : Nat) ({ cls := "StreamFuser", name := "count", desc := "(I)I" } : MethodName)) ∈ sf_T := sf_T_5 64 rfl rfl
theorem wt_1168 : (Cond.methodLink "StreamFuser" (266 : Nat) ({ cls := "StreamFuser", name := "fault", desc := "()I" } : MethodName)) ∈ sf_T := sf_T_5 65 rfl rfl
theorem wt_1169 : (Cond.methodLink "StreamFuser" (269 : Nat) ({ cls := "StreamFuser", name := "mixPlan", desc := "(J)J" } : MethodName)) ∈ sf_T := sf_T_5 66 rfl rfl
theorem wt_1171 : (Cond.instanceMethod ({ cls := "StreamFuser", name := "mixPlan", desc := "(J)J" } : MethodName)) ∈ sf_T := sf_T_5 68 rfl rfl
theorem wt_1172 : (Cond.code ({ cls := "StreamFuser", name := "mixPlan", desc := "(J)J" } : MethodName) prog_1_method_25_code (7 : Nat) (Option.some FieldType.long)) ∈ sf_T := sf_T_5 69 rfl rfl
theorem wt_1173 : (Cond.methodLink "StreamFuser" (282 : Nat) ({ cls := "StreamFuser", name := "node", desc := "(II)I" } : MethodName)) ∈ sf_T := sf_T_5 70 rfl rfl
theorem wt_1174 : (Cond.methodLink "StreamFuser" (285 : Nat) ({ cls := "StreamFuser", name := "text", desc := "(I)I" } : MethodName)) ∈ sf_T := sf_T_5 71 rfl rfl
theorem wt_1175 : (Cond.methodLink "StreamFuser" (273 : Nat) ({ cls := "StreamFuser", name := "rules", desc := "(I)I" } : MethodName)) ∈ sf_T := sf_T_5 72 rfl rfl
theorem wt_1176 : (Cond.methodLink "StreamFuser" (276 : Nat) ({ cls := "StreamFuser", name := "mixRun", desc := "(J)J" } : MethodName)) ∈ sf_T := sf_T_5 73 rfl rfl
theorem wt_1178 : (Cond.instanceMethod ({ cls := "StreamFuser", name := "mixRun", desc := "(J)J" } : MethodName)) ∈ sf_T := sf_T_5 75 rfl rfl
theorem wt_1179 : (Cond.code ({ cls := "StreamFuser", name := "mixRun", desc := "(J)J" } : MethodName) prog_1_method_26_code (7 : Nat) (Option.some FieldType.long)) ∈ sf_T := sf_T_5 76 rfl rfl
theorem wt_1180 : (Cond.methodLink "StreamFuser" (288 : Nat) ({ cls := "StreamFuser", name := "result", desc := "(I)J" } : MethodName)) ∈ sf_T := sf_T_5 77 rfl rfl
theorem wt_1181 : (Cond.methodLink "StreamFuser" (292 : Nat) ({ cls := "StreamFuser", name := "fold", desc := "(I)J" } : MethodName)) ∈ sf_T := sf_T_5 78 rfl rfl
theorem wt_1182 : (Cond.methodLink "StreamFuser" (295 : Nat) ({ cls := "StreamFuser", name := "failure", desc := "(I)I" } : MethodName)) ∈ sf_T := sf_T_5 79 rfl rfl
theorem wt_1183 : (Cond.methodLink "StreamFuser" (297 : Nat) ({ cls := "StreamFuser", name := "told", desc := "(I)I" } : MethodName)) ∈ sf_T := sf_T_5 80 rfl rfl
theorem wt_1184 : (Cond.methodLink "StreamFuser" (300 : Nat) ({ cls := "StreamFuser", name := "written", desc := "(II)J" } : MethodName)) ∈ sf_T := sf_T_5 81 rfl rfl
theorem wt_1185 : (Cond.methodLink "StreamFuser" (279 : Nat) ({ cls := "StreamFuser", name := "saves", desc := "(I)I" } : MethodName)) ∈ sf_T := sf_T_5 82 rfl rfl
theorem wt_1188 : (Cond.methodLink "StreamFuserLaw" (12 : Nat) ({ cls := "StreamFuserModel", name := "<init>", desc := "()V" } : MethodName)) ∈ sf_T := sf_T_5 85 rfl rfl
theorem wt_1189 : (Cond.instanceMethod ({ cls := "StreamFuserModel", name := "<init>", desc := "()V" } : MethodName)) ∈ sf_T := sf_T_5 86 rfl rfl
theorem wt_1191 : (Cond.methodLink "StreamFuserModel" (1 : Nat) ({ cls := "java/lang/Object", name := "<init>", desc := "()V" } : MethodName)) ∈ sf_T := sf_T_5 88 rfl rfl
theorem wt_1192 : (Cond.fieldLink "StreamFuserModel" (7 : Nat) "StreamFuserModel" "forms" "[I") ∈ sf_T := sf_T_5 89 rfl rfl
theorem wt_1193 : (Cond.fieldLink "StreamFuserModel" (13 : Nat) "StreamFuserModel" "sizes" "[I") ∈ sf_T := sf_T_5 90 rfl rfl
theorem wt_1194 : (Cond.fieldLink "StreamFuserModel" (16 : Nat) "StreamFuserModel" "items" "[I") ∈ sf_T := sf_T_5 91 rfl rfl
theorem wt_1195 : (Cond.fieldLink "StreamFuserModel" (19 : Nat) "StreamFuserModel" "moved" "[I") ∈ sf_T := sf_T_5 92 rfl rfl
theorem wt_1196 : (Cond.fieldLink "StreamFuserModel" (126 : Nat) "StreamFuserModel" "latest" "I") ∈ sf_T := sf_T_5 93 rfl rfl
theorem wt_1197 : (Cond.fieldLink "StreamFuserModel" (22 : Nat) "StreamFuserModel" "text" "[I") ∈ sf_T := sf_T_5 94 rfl rfl
theorem wt_1198 : (Cond.fieldLink "StreamFuserModel" (157 : Nat) "StreamFuserModel" "typed" "I") ∈ sf_T := sf_T_5 95 rfl rfl
theorem wt_1199 : (Cond.fieldLink "StreamFuserModel" (25 : Nat) "StreamFuserModel" "wants" "[I") ∈ sf_T := sf_T_5 96 rfl rfl
theorem wt_1200 : (Cond.fieldLink "StreamFuserModel" (160 : Nat) "StreamFuserModel" "wanted" "I") ∈ sf_T := sf_T_5 97 rfl rfl
theorem wt_1201 : (Cond.fieldLink "StreamFuserModel" (180 : Nat) "StreamFuserModel" "figures" "I") ∈ sf_T := sf_T_5 98 rfl rfl
theorem wt_1202 : (Cond.fieldLink "StreamFuserModel" (187 : Nat) "StreamFuserModel" "number" "I") ∈ sf_T := sf_T_5 99 rfl rfl
theorem wt_1203 : (Cond.fieldLink "StreamFuserModel" (183 : Nat) "StreamFuserModel" "below" "Z") ∈ sf_T := sf_T_5 100 rfl rfl
theorem wt_1204 : (Cond.fieldLink "StreamFuserModel" (28 : Nat) "StreamFuserModel" "readLetters" "[I") ∈ sf_T := sf_T_5 101 rfl rfl
theorem wt_1205 : (Cond.fieldLink "StreamFuserModel" (31 : Nat) "StreamFuserModel" "readSigns" "[I") ∈ sf_T := sf_T_5 102 rfl rfl
theorem wt_1206 : (Cond.fieldLink "StreamFuserModel" (34 : Nat) "StreamFuserModel" "readFirsts" "[I") ∈ sf_T := sf_T_5 103 rfl rfl
theorem wt_1207 : (Cond.fieldLink "StreamFuserModel" (37 : Nat) "StreamFuserModel" "readSeconds" "[I") ∈ sf_T := sf_T_5 104 rfl rfl
theorem wt_1208 : (Cond.fieldLink "StreamFuserModel" (169 : Nat) "StreamFuserModel" "read" "I") ∈ sf_T := sf_T_5 105 rfl rfl
theorem wt_1209 : (Cond.fieldLink "StreamFuserModel" (40 : Nat) "StreamFuserModel" "letters" "[I") ∈ sf_T := sf_T_5 106 rfl rfl
theorem wt_1210 : (Cond.fieldLink "StreamFuserModel" (43 : Nat) "StreamFuserModel" "signs" "[I") ∈ sf_T := sf_T_5 107 rfl rfl
theorem wt_1211 : (Cond.fieldLink "StreamFuserModel" (46 : Nat) "StreamFuserModel" "firsts" "[I") ∈ sf_T := sf_T_5 108 rfl rfl
theorem wt_1212 : (Cond.fieldLink "StreamFuserModel" (49 : Nat) "StreamFuserModel" "seconds" "[I") ∈ sf_T := sf_T_5 109 rfl rfl
theorem wt_1213 : (Cond.fieldLink "StreamFuserModel" (206 : Nat) "StreamFuserModel" "nodes" "I") ∈ sf_T := sf_T_5 110 rfl rfl
theorem wt_1214 : (Cond.fieldLink "StreamFuserModel" (52 : Nat) "StreamFuserModel" "sizes2" "[I") ∈ sf_T := sf_T_5 111 rfl rfl
theorem wt_1215 : (Cond.fieldLink "StreamFuserModel" (55 : Nat) "StreamFuserModel" "ps" "[I") ∈ sf_T := sf_T_5 112 rfl rfl
theorem wt_1216 : (Cond.fieldLink "StreamFuserModel" (58 : Nat) "StreamFuserModel" "qs" "[I") ∈ sf_T := sf_T_5 113 rfl rfl
theorem wt_1217 : (Cond.fieldLink "StreamFuserModel" (61 : Nat) "StreamFuserModel" "deeps" "[I") ∈ sf_T := sf_T_5 114 rfl rfl
theorem wt_1218 : (Cond.fieldLink "StreamFuserModel" (64 : Nat) "StreamFuserModel" "opens" "[I") ∈ sf_T := sf_T_5 115 rfl rfl
theorem wt_1219 : (Cond.fieldLink "StreamFuserModel" (67 : Nat) "StreamFuserModel" "binders" "[I") ∈ sf_T := sf_T_5 116 rfl rfl
theorem wt_1220 : (Cond.fieldLink "StreamFuserModel" (70 : Nat) "StreamFuserModel" "told" "[I") ∈ sf_T := sf_T_5 117 rfl rfl
theorem wt_1221 : (Cond.fieldLink "StreamFuserModel" (224 : Nat) "StreamFuserModel" "bytes" "I") ∈ sf_T := sf_T_5 118 rfl rfl
theorem wt_1222 : (Cond.fieldLink "StreamFuserModel" (73 : Nat) "StreamFuserModel" "used" "[I") ∈ sf_T := sf_T_5 119 rfl rfl
theorem wt_1223 : (Cond.fieldLink "StreamFuserModel" (76 : Nat) "StreamFuserModel" "latestUsed" "[I") ∈ sf_T := sf_T_5 120 rfl rfl
theorem wt_1224 : (Cond.fieldLink "StreamFuserModel" (289 : Nat) "StreamFuserModel" "usedAll" "I") ∈ sf_T := sf_T_5 121 rfl rfl
theorem wt_1225 : (Cond.fieldLink "StreamFuserModel" (79 : Nat) "StreamFuserModel" "kept" "[I") ∈ sf_T := sf_T_5 122 rfl rfl
theorem wt_1226 : (Cond.fieldLink "StreamFuserModel" (82 : Nat) "StreamFuserModel" "held" "[I") ∈ sf_T := sf_T_5 123 rfl rfl
theorem wt_1227 : (Cond.fieldLink "StreamFuserModel" (294 : Nat) "StreamFuserModel" "failure" "I") ∈ sf_T := sf_T_5 124 rfl rfl
theorem wt_1228 : (Cond.fieldLink "StreamFuserModel" (297 : Nat) "StreamFuserModel" "depth" "I") ∈ sf_T := sf_T_5 125 rfl rfl
theorem wt_1229 : (Cond.fieldLink "StreamFuserModel" (303 : Nat) "StreamFuserModel" "drawn" "I") ∈ sf_T := sf_T_5 126 rfl rfl
theorem wt_1230 : (Cond.fieldLink "StreamFuserModel" (325 : Nat) "StreamFuserModel" "counted" "I") ∈ sf_T := sf_T_5 127 rfl rfl
theorem wt_1231 : (Cond.fieldLink "StreamFuserModel" (385 : Nat) "StreamFuserModel" "cells" "I") ∈ sf_T := sf_T_5 128 rfl rfl
theorem wt_1232 : (Cond.fieldLink "StreamFuserModel" (85 : Nat) "StreamFuserModel" "results" "[I") ∈ sf_T := sf_T_5 129 rfl rfl
theorem wt_1233 : (Cond.fieldLink "StreamFuserModel" (388 : Nat) "StreamFuserModel" "got" "I") ∈ sf_T := sf_T_5 130 rfl rfl
theorem wt_1234 : (Cond.fieldLink "StreamFuserModel" (88 : Nat) "StreamFuserModel" "figuresDown" "[I") ∈ sf_T := sf_T_5 131 rfl rfl
theorem wt_1235 : (Cond.fieldLink "StreamFuserModel" (91 : Nat) "StreamFuserModel" "numbersDown" "[I") ∈ sf_T := sf_T_5 132 rfl rfl
theorem wt_1236 : (Cond.fieldLink "StreamFuserModel" (300 : Nat) "StreamFuserModel" "down" "I") ∈ sf_T := sf_T_5 133 rfl rfl
theorem wt_1237 : (Cond.fieldLink "StreamFuserModel" (309 : Nat) "StreamFuserModel" "has" "Z") ∈ sf_T := sf_T_5 134 rfl rfl
theorem wt_1238 : (Cond.fieldLink "StreamFuserModel" (312 : Nat) "StreamFuserModel" "value" "I") ∈ sf_T := sf_T_5 135 rfl rfl
theorem wt_1239 : (Cond.fieldLink "StreamFuserModel" (94 : Nat) "StreamFuserModel" "pile" "[I") ∈ sf_T := sf_T_5 136 rfl rfl
theorem wt_1240 : (Cond.fieldLink "StreamFuserModel" (349 : Nat) "StreamFuserModel" "high" "I") ∈ sf_T := sf_T_5 137 rfl rfl
theorem wt_1241 : (Cond.fieldLink "StreamFuserModel" (97 : Nat) "StreamFuserModel" "rows" "[I") ∈ sf_T := sf_T_5 138 rfl rfl
theorem wt_1242 : (Cond.fieldLink "StreamFuserModel" (100 : Nat) "StreamFuserModel" "longs" "[I") ∈ sf_T := sf_T_5 139 rfl rfl
theorem wt_1243 : (Cond.fieldLink "StreamFuserModel" (103 : Nat) "StreamFuserModel" "phases" "[I") ∈ sf_T := sf_T_5 140 rfl rfl
theorem wt_1244 : (Cond.fieldLink "StreamFuserModel" (106 : Nat) "StreamFuserModel" "at" "[I") ∈ sf_T := sf_T_5 141 rfl rfl
theorem wt_1245 : (Cond.fieldLink "StreamFuserModel" (109 : Nat) "StreamFuserModel" "latestTold" "[I") ∈ sf_T := sf_T_5 142 rfl rfl
theorem wt_1246 : (Cond.fieldLink "StreamFuserModel" (112 : Nat) "StreamFuserModel" "latestResults" "[I") ∈ sf_T := sf_T_5 143 rfl rfl
theorem wt_1247 : (Cond.fieldLink "StreamFuserModel" (408 : Nat) "StreamFuserModel" "latestGot" "I") ∈ sf_T := sf_T_5 144 rfl rfl
theorem wt_1248 : (Cond.fieldLink "StreamFuserModel" (115 : Nat) "StreamFuserModel" "latestFigures" "[I") ∈ sf_T := sf_T_5 145 rfl rfl
theorem wt_1249 : (Cond.fieldLink "StreamFuserModel" (118 : Nat) "StreamFuserModel" "latestNumbers" "[I") ∈ sf_T := sf_T_5 146 rfl rfl
theorem wt_1250 : (Cond.fieldLink "StreamFuserModel" (121 : Nat) "StreamFuserModel" "asideNodes" "[I") ∈ sf_T := sf_T_5 147 rfl rfl
theorem wt_1251 : (Cond.laysFinal "StreamFuserModel" "StreamFuserModel" "forms" "[I") ∈ sf_T := sf_T_5 148 rfl rfl
theorem wt_1253 : (Cond.laysFinal "StreamFuserModel" "StreamFuserModel" "sizes" "[I") ∈ sf_T := sf_T_5 150 rfl rfl
theorem wt_1255 : (Cond.laysFinal "StreamFuserModel" "StreamFuserModel" "items" "[I") ∈ sf_T := sf_T_5 152 rfl rfl
theorem wt_1257 : (Cond.laysFinal "StreamFuserModel" "StreamFuserModel" "moved" "[I") ∈ sf_T := sf_T_5 154 rfl rfl
theorem wt_1259 : (Cond.lays "StreamFuserModel" "StreamFuserModel" "latest" "I") ∈ sf_T := sf_T_5 156 rfl rfl
theorem wt_1261 : (Cond.laysFinal "StreamFuserModel" "StreamFuserModel" "text" "[I") ∈ sf_T := sf_T_5 158 rfl rfl
theorem wt_1263 : (Cond.lays "StreamFuserModel" "StreamFuserModel" "typed" "I") ∈ sf_T := sf_T_5 160 rfl rfl
theorem wt_1265 : (Cond.laysFinal "StreamFuserModel" "StreamFuserModel" "wants" "[I") ∈ sf_T := sf_T_5 162 rfl rfl
theorem wt_1267 : (Cond.lays "StreamFuserModel" "StreamFuserModel" "wanted" "I") ∈ sf_T := sf_T_5 164 rfl rfl
theorem wt_1269 : (Cond.lays "StreamFuserModel" "StreamFuserModel" "figures" "I") ∈ sf_T := sf_T_5 166 rfl rfl
theorem wt_1271 : (Cond.lays "StreamFuserModel" "StreamFuserModel" "number" "I") ∈ sf_T := sf_T_5 168 rfl rfl
theorem wt_1273 : (Cond.lays "StreamFuserModel" "StreamFuserModel" "below" "Z") ∈ sf_T := sf_T_5 170 rfl rfl
theorem wt_1275 : (Cond.laysFinal "StreamFuserModel" "StreamFuserModel" "readLetters" "[I") ∈ sf_T := sf_T_5 172 rfl rfl
theorem wt_1277 : (Cond.laysFinal "StreamFuserModel" "StreamFuserModel" "readSigns" "[I") ∈ sf_T := sf_T_5 174 rfl rfl
theorem wt_1279 : (Cond.laysFinal "StreamFuserModel" "StreamFuserModel" "readFirsts" "[I") ∈ sf_T := sf_T_5 176 rfl rfl
theorem wt_1281 : (Cond.laysFinal "StreamFuserModel" "StreamFuserModel" "readSeconds" "[I") ∈ sf_T := sf_T_5 178 rfl rfl
theorem wt_1283 : (Cond.lays "StreamFuserModel" "StreamFuserModel" "read" "I") ∈ sf_T := sf_T_5 180 rfl rfl
theorem wt_1285 : (Cond.laysFinal "StreamFuserModel" "StreamFuserModel" "letters" "[I") ∈ sf_T := sf_T_5 182 rfl rfl
theorem wt_1287 : (Cond.laysFinal "StreamFuserModel" "StreamFuserModel" "signs" "[I") ∈ sf_T := sf_T_5 184 rfl rfl
theorem wt_1289 : (Cond.laysFinal "StreamFuserModel" "StreamFuserModel" "firsts" "[I") ∈ sf_T := sf_T_5 186 rfl rfl
theorem wt_1291 : (Cond.laysFinal "StreamFuserModel" "StreamFuserModel" "seconds" "[I") ∈ sf_T := sf_T_5 188 rfl rfl
theorem wt_1293 : (Cond.lays "StreamFuserModel" "StreamFuserModel" "nodes" "I") ∈ sf_T := sf_T_5 190 rfl rfl
theorem wt_1295 : (Cond.laysFinal "StreamFuserModel" "StreamFuserModel" "sizes2" "[I") ∈ sf_T := sf_T_5 192 rfl rfl
theorem wt_1297 : (Cond.laysFinal "StreamFuserModel" "StreamFuserModel" "ps" "[I") ∈ sf_T := sf_T_5 194 rfl rfl
theorem wt_1299 : (Cond.laysFinal "StreamFuserModel" "StreamFuserModel" "qs" "[I") ∈ sf_T := sf_T_5 196 rfl rfl
theorem wt_1301 : (Cond.laysFinal "StreamFuserModel" "StreamFuserModel" "deeps" "[I") ∈ sf_T := sf_T_5 198 rfl rfl
theorem wt_1303 : (Cond.laysFinal "StreamFuserModel" "StreamFuserModel" "opens" "[I") ∈ sf_T := sf_T_5 200 rfl rfl
theorem wt_1305 : (Cond.laysFinal "StreamFuserModel" "StreamFuserModel" "binders" "[I") ∈ sf_T := sf_T_5 202 rfl rfl
theorem wt_1307 : (Cond.laysFinal "StreamFuserModel" "StreamFuserModel" "told" "[I") ∈ sf_T := sf_T_5 204 rfl rfl
theorem wt_1309 : (Cond.lays "StreamFuserModel" "StreamFuserModel" "bytes" "I") ∈ sf_T := sf_T_5 206 rfl rfl
theorem wt_1311 : (Cond.laysFinal "StreamFuserModel" "StreamFuserModel" "used" "[I") ∈ sf_T := sf_T_5 208 rfl rfl
theorem wt_1313 : (Cond.laysFinal "StreamFuserModel" "StreamFuserModel" "latestUsed" "[I") ∈ sf_T := sf_T_5 210 rfl rfl
theorem wt_1315 : (Cond.lays "StreamFuserModel" "StreamFuserModel" "usedAll" "I") ∈ sf_T := sf_T_5 212 rfl rfl
theorem wt_1317 : (Cond.laysFinal "StreamFuserModel" "StreamFuserModel" "kept" "[I") ∈ sf_T := sf_T_5 214 rfl rfl
theorem wt_1319 : (Cond.laysFinal "StreamFuserModel" "StreamFuserModel" "held" "[I") ∈ sf_T := sf_T_5 216 rfl rfl
theorem wt_1321 : (Cond.lays "StreamFuserModel" "StreamFuserModel" "failure" "I") ∈ sf_T := sf_T_5 218 rfl rfl
theorem wt_1323 : (Cond.lays "StreamFuserModel" "StreamFuserModel" "depth" "I") ∈ sf_T := sf_T_5 220 rfl rfl
theorem wt_1325 : (Cond.lays "StreamFuserModel" "StreamFuserModel" "drawn" "I") ∈ sf_T := sf_T_5 222 rfl rfl
theorem wt_1327 : (Cond.lays "StreamFuserModel" "StreamFuserModel" "counted" "I") ∈ sf_T := sf_T_5 224 rfl rfl
theorem wt_1329 : (Cond.lays "StreamFuserModel" "StreamFuserModel" "cells" "I") ∈ sf_T := sf_T_5 226 rfl rfl
theorem wt_1331 : (Cond.laysFinal "StreamFuserModel" "StreamFuserModel" "results" "[I") ∈ sf_T := sf_T_5 228 rfl rfl
theorem wt_1333 : (Cond.lays "StreamFuserModel" "StreamFuserModel" "got" "I") ∈ sf_T := sf_T_5 230 rfl rfl
theorem wt_1335 : (Cond.laysFinal "StreamFuserModel" "StreamFuserModel" "figuresDown" "[I") ∈ sf_T := sf_T_5 232 rfl rfl
theorem wt_1337 : (Cond.laysFinal "StreamFuserModel" "StreamFuserModel" "numbersDown" "[I") ∈ sf_T := sf_T_5 234 rfl rfl
theorem wt_1339 : (Cond.lays "StreamFuserModel" "StreamFuserModel" "down" "I") ∈ sf_T := sf_T_5 236 rfl rfl
theorem wt_1341 : (Cond.lays "StreamFuserModel" "StreamFuserModel" "has" "Z") ∈ sf_T := sf_T_5 238 rfl rfl
theorem wt_1343 : (Cond.lays "StreamFuserModel" "StreamFuserModel" "value" "I") ∈ sf_T := sf_T_6 0 rfl rfl
theorem wt_1345 : (Cond.laysFinal "StreamFuserModel" "StreamFuserModel" "pile" "[I") ∈ sf_T := sf_T_6 2 rfl rfl
theorem wt_1347 : (Cond.lays "StreamFuserModel" "StreamFuserModel" "high" "I") ∈ sf_T := sf_T_6 4 rfl rfl
theorem wt_1349 : (Cond.laysFinal "StreamFuserModel" "StreamFuserModel" "rows" "[I") ∈ sf_T := sf_T_6 6 rfl rfl
theorem wt_1351 : (Cond.laysFinal "StreamFuserModel" "StreamFuserModel" "longs" "[I") ∈ sf_T := sf_T_6 8 rfl rfl
theorem wt_1353 : (Cond.laysFinal "StreamFuserModel" "StreamFuserModel" "phases" "[I") ∈ sf_T := sf_T_6 10 rfl rfl
theorem wt_1355 : (Cond.laysFinal "StreamFuserModel" "StreamFuserModel" "at" "[I") ∈ sf_T := sf_T_6 12 rfl rfl
theorem wt_1357 : (Cond.laysFinal "StreamFuserModel" "StreamFuserModel" "latestTold" "[I") ∈ sf_T := sf_T_6 14 rfl rfl
theorem wt_1359 : (Cond.laysFinal "StreamFuserModel" "StreamFuserModel" "latestResults" "[I") ∈ sf_T := sf_T_6 16 rfl rfl
theorem wt_1361 : (Cond.lays "StreamFuserModel" "StreamFuserModel" "latestGot" "I") ∈ sf_T := sf_T_6 18 rfl rfl
theorem wt_1363 : (Cond.laysFinal "StreamFuserModel" "StreamFuserModel" "latestFigures" "[I") ∈ sf_T := sf_T_6 20 rfl rfl
theorem wt_1365 : (Cond.laysFinal "StreamFuserModel" "StreamFuserModel" "latestNumbers" "[I") ∈ sf_T := sf_T_6 22 rfl rfl
theorem wt_1367 : (Cond.laysFinal "StreamFuserModel" "StreamFuserModel" "asideNodes" "[I") ∈ sf_T := sf_T_6 24 rfl rfl
theorem wt_1370 : (Cond.methodLink "StreamFuserLaw" (82 : Nat) ({ cls := "StreamFuserModel", name := "sheet", desc := "(III)I" } : MethodName)) ∈ sf_T := sf_T_6 27 rfl rfl
theorem wt_1371 : (Cond.instanceMethod ({ cls := "StreamFuserModel", name := "sheet", desc := "(III)I" } : MethodName)) ∈ sf_T := sf_T_6 28 rfl rfl
theorem wt_1372 : (Cond.selects "StreamFuserModel" ({ cls := "StreamFuserModel", name := "sheet", desc := "(III)I" } : MethodName) ({ cls := "StreamFuserModel", name := "sheet", desc := "(III)I" } : MethodName)) ∈ sf_T := sf_T_6 29 rfl rfl
theorem wt_1373 : (Cond.code ({ cls := "StreamFuserModel", name := "sheet", desc := "(III)I" } : MethodName) prog_14_method_9_code (5 : Nat) (Option.some FieldType.int)) ∈ sf_T := sf_T_6 30 rfl rfl
theorem wt_1374 : (Cond.methodLink "StreamFuserModel" (136 : Nat) ({ cls := "StreamFuserModel", name := "isSheet", desc := "(I)Z" } : MethodName)) ∈ sf_T := sf_T_6 31 rfl rfl
theorem wt_1375 : (Cond.static ({ cls := "StreamFuserModel", name := "isSheet", desc := "(I)Z" } : MethodName)) ∈ sf_T := sf_T_6 32 rfl rfl
theorem wt_1376 : (Cond.code ({ cls := "StreamFuserModel", name := "isSheet", desc := "(I)Z" } : MethodName) prog_14_method_8_code (1 : Nat) (Option.some FieldType.boolean)) ∈ sf_T := sf_T_6 33 rfl rfl
theorem wt_1377 : (Cond.constantLong "StreamFuserModel" (130 : Nat) (3 : Int64)) ∈ sf_T := sf_T_6 34 rfl rfl
theorem wt_1378 : (Cond.methodLink "StreamFuserModel" (132 : Nat) ({ cls := "StreamFuserModel", name := "in", desc := "(JJJ)Z" } : MethodName)) ∈ sf_T := sf_T_6 35 rfl rfl
theorem wt_1379 : (Cond.static ({ cls := "StreamFuserModel", name := "in", desc := "(JJJ)Z" } : MethodName)) ∈ sf_T := sf_T_6 36 rfl rfl
theorem wt_1380 : (Cond.code ({ cls := "StreamFuserModel", name := "in", desc := "(JJJ)Z" } : MethodName) prog_14_method_3_code (6 : Nat) (Option.some FieldType.boolean)) ∈ sf_T := sf_T_6 37 rfl rfl
theorem wt_1381 : (Cond.constantLong "StreamFuserModel" (140 : Nat) (2 : Int64)) ∈ sf_T := sf_T_6 38 rfl rfl
theorem wt_1382 : (Cond.methodLink "StreamFuserModel" (142 : Nat) ({ cls := "StreamFuserModel", name := "finds", desc := "(I)I" } : MethodName)) ∈ sf_T := sf_T_6 39 rfl rfl
theorem wt_1384 : (Cond.instanceMethod ({ cls := "StreamFuserModel", name := "finds", desc := "(I)I" } : MethodName)) ∈ sf_T := sf_T_6 41 rfl rfl
theorem wt_1385 : (Cond.code ({ cls := "StreamFuserModel", name := "finds", desc := "(I)I" } : MethodName) prog_14_method_7_code (2 : Nat) (Option.some FieldType.int)) ∈ sf_T := sf_T_6 42 rfl rfl
theorem wt_1386 : (Cond.methodLink "StreamFuserLaw" (86 : Nat) ({ cls := "StreamFuserModel", name := "lose", desc := "(I)I" } : MethodName)) ∈ sf_T := sf_T_6 43 rfl rfl
theorem wt_1387 : (Cond.instanceMethod ({ cls := "StreamFuserModel", name := "lose", desc := "(I)I" } : MethodName)) ∈ sf_T := sf_T_6 44 rfl rfl
theorem wt_1388 : (Cond.selects "StreamFuserModel" ({ cls := "StreamFuserModel", name := "lose", desc := "(I)I" } : MethodName) ({ cls := "StreamFuserModel", name := "lose", desc := "(I)I" } : MethodName)) ∈ sf_T := sf_T_6 45 rfl rfl
theorem wt_1389 : (Cond.code ({ cls := "StreamFuserModel", name := "lose", desc := "(I)I" } : MethodName) prog_14_method_10_code (2 : Nat) (Option.some FieldType.int)) ∈ sf_T := sf_T_6 46 rfl rfl
theorem wt_1390 : (Cond.methodLink "StreamFuserLaw" (91 : Nat) ({ cls := "StreamFuserModel", name := "lay", desc := "(IIII)I" } : MethodName)) ∈ sf_T := sf_T_6 47 rfl rfl
theorem wt_1391 : (Cond.instanceMethod ({ cls := "StreamFuserModel", name := "lay", desc := "(IIII)I" } : MethodName)) ∈ sf_T := sf_T_6 48 rfl rfl
theorem wt_1392 : (Cond.selects "StreamFuserModel" ({ cls := "StreamFuserModel", name := "lay", desc := "(IIII)I" } : MethodName) ({ cls := "StreamFuserModel", name := "lay", desc := "(IIII)I" } : MethodName)) ∈ sf_T := sf_T_6 49 rfl rfl
theorem wt_1393 : (Cond.code ({ cls := "StreamFuserModel", name := "lay", desc := "(IIII)I" } : MethodName) prog_14_method_13_code (6 : Nat) (Option.some FieldType.int)) ∈ sf_T := sf_T_6 50 rfl rfl
theorem wt_1394 : (Cond.methodLink "StreamFuserModel" (146 : Nat) ({ cls := "StreamFuserModel", name := "lacks", desc := "(III)I" } : MethodName)) ∈ sf_T := sf_T_6 51 rfl rfl
theorem wt_1396 : (Cond.instanceMethod ({ cls := "StreamFuserModel", name := "lacks", desc := "(III)I" } : MethodName)) ∈ sf_T := sf_T_6 53 rfl rfl
theorem wt_1397 : (Cond.code ({ cls := "StreamFuserModel", name := "lacks", desc := "(III)I" } : MethodName) prog_14_method_11_code (4 : Nat) (Option.some FieldType.int)) ∈ sf_T := sf_T_6 54 rfl rfl
theorem wt_1398 : (Cond.methodLink "StreamFuserModel" (150 : Nat) ({ cls := "StreamFuserModel", name := "cut", desc := "(II)I" } : MethodName)) ∈ sf_T := sf_T_6 55 rfl rfl
theorem wt_1399 : (Cond.static ({ cls := "StreamFuserModel", name := "cut", desc := "(II)I" } : MethodName)) ∈ sf_T := sf_T_6 56 rfl rfl
theorem wt_1400 : (Cond.code ({ cls := "StreamFuserModel", name := "cut", desc := "(II)I" } : MethodName) prog_14_method_12_code (2 : Nat) (Option.some FieldType.int)) ∈ sf_T := sf_T_6 57 rfl rfl
theorem wt_1401 : (Cond.methodLink "StreamFuserLaw" (95 : Nat) ({ cls := "StreamFuserModel", name := "get", desc := "(III)I" } : MethodName)) ∈ sf_T := sf_T_6 58 rfl rfl
theorem wt_1402 : (Cond.instanceMethod ({ cls := "StreamFuserModel", name := "get", desc := "(III)I" } : MethodName)) ∈ sf_T := sf_T_6 59 rfl rfl
theorem wt_1403 : (Cond.selects "StreamFuserModel" ({ cls := "StreamFuserModel", name := "get", desc := "(III)I" } : MethodName) ({ cls := "StreamFuserModel", name := "get", desc := "(III)I" } : MethodName)) ∈ sf_T := sf_T_6 60 rfl rfl
theorem wt_1404 : (Cond.code ({ cls := "StreamFuserModel", name := "get", desc := "(III)I" } : MethodName) prog_14_method_14_code (4 : Nat) (Option.some FieldType.int)) ∈ sf_T := sf_T_6 61 rfl rfl
theorem wt_1405 : (Cond.constant "StreamFuserModel" (154 : Nat) (-2147483648 : Int32)) ∈ sf_T := sf_T_6 62 rfl rfl
theorem wt_1406 : (Cond.methodLink "StreamFuserLaw" (100 : Nat) ({ cls := "StreamFuserModel", name := "copy", desc := "(IIIII)I" } : MethodName)) ∈ sf_T := sf_T_6 63 rfl rfl
theorem wt_1407 : (Cond.instanceMethod ({ cls := "StreamFuserModel", name := "copy", desc := "(IIIII)I" } : MethodName)) ∈ sf_T := sf_T_6 64 rfl rfl
theorem wt_1408 : (Cond.selects "StreamFuserModel" ({ cls := "StreamFuserModel", name := "copy", desc := "(IIIII)I" } : MethodName) ({ cls := "StreamFuserModel", name := "copy", desc := "(IIIII)I" } : MethodName)) ∈ sf_T := sf_T_6 65 rfl rfl
theorem wt_1409 : (Cond.code ({ cls := "StreamFuserModel", name := "copy", desc := "(IIIII)I" } : MethodName) prog_14_method_15_code (7 : Nat) (Option.some FieldType.int)) ∈ sf_T := sf_T_6 66 rfl rfl
theorem wt_1410 : (Cond.methodLink "StreamFuserLaw" (17 : Nat) ({ cls := "StreamFuserModel", name := "type", desc := "(I)I" } : MethodName)) ∈ sf_T := sf_T_6 67 rfl rfl
theorem wt_1411 : (Cond.instanceMethod ({ cls := "StreamFuserModel", name := "type", desc := "(I)I" } : MethodName)) ∈ sf_T := sf_T_6 68 rfl rfl
theorem wt_1412 : (Cond.selects "StreamFuserModel" ({ cls := "StreamFuserModel", name := "type", desc := "(I)I" } : MethodName) ({ cls := "StreamFuserModel", name := "type", desc := "(I)I" } : MethodName)) ∈ sf_T := sf_T_6 69 rfl rfl
theorem wt_1413 : (Cond.code ({ cls := "StreamFuserModel", name := "type", desc := "(I)I" } : MethodName) prog_14_method_16_code (2 : Nat) (Option.some FieldType.int)) ∈ sf_T := sf_T_6 70 rfl rfl
theorem wt_1414 : (Cond.constantLong "StreamFuserModel" (155 : Nat) (255 : Int64)) ∈ sf_T := sf_T_6 71 rfl rfl
theorem wt_1415 : (Cond.methodLink "StreamFuserLaw" (22 : Nat) ({ cls := "StreamFuserModel", name := "wipe", desc := "()I" } : MethodName)) ∈ sf_T := sf_T_6 72 rfl rfl
theorem wt_1416 : (Cond.instanceMethod ({ cls := "StreamFuserModel", name := "wipe", desc := "()I" } : MethodName)) ∈ sf_T := sf_T_6 73 rfl rfl
theorem wt_1417 : (Cond.selects "StreamFuserModel" ({ cls := "StreamFuserModel", name := "wipe", desc := "()I" } : MethodName) ({ cls := "StreamFuserModel", name := "wipe", desc := "()I" } : MethodName)) ∈ sf_T := sf_T_6 74 rfl rfl
theorem wt_1418 : (Cond.code ({ cls := "StreamFuserModel", name := "wipe", desc := "()I" } : MethodName) prog_14_method_17_code (2 : Nat) (Option.some FieldType.int)) ∈ sf_T := sf_T_6 75 rfl rfl
theorem wt_1419 : (Cond.methodLink "StreamFuserLaw" (26 : Nat) ({ cls := "StreamFuserModel", name := "fault", desc := "()I" } : MethodName)) ∈ sf_T := sf_T_6 76 rfl rfl
theorem wt_1420 : (Cond.instanceMethod ({ cls := "StreamFuserModel", name := "fault", desc := "()I" } : MethodName)) ∈ sf_T := sf_T_6 77 rfl rfl
theorem wt_1421 : (Cond.selects "StreamFuserModel" ({ cls := "StreamFuserModel", name := "fault", desc := "()I" } : MethodName) ({ cls := "StreamFuserModel", name := "fault", desc := "()I" } : MethodName)) ∈ sf_T := sf_T_6 78 rfl rfl
theorem wt_1422 : (Cond.code ({ cls := "StreamFuserModel", name := "fault", desc := "()I" } : MethodName) prog_14_method_25_code (1 : Nat) (Option.some FieldType.int)) ∈ sf_T := sf_T_6 79 rfl rfl
theorem wt_1423 : (Cond.methodLink "StreamFuserModel" (202 : Nat) ({ cls := "StreamFuserModel", name := "faultNow", desc := "()I" } : MethodName)) ∈ sf_T := sf_T_6 80 rfl rfl
theorem wt_1425 : (Cond.instanceMethod ({ cls := "StreamFuserModel", name := "faultNow", desc := "()I" } : MethodName)) ∈ sf_T := sf_T_6 82 rfl rfl
theorem wt_1426 : (Cond.code ({ cls := "StreamFuserModel", name := "faultNow", desc := "()I" } : MethodName) prog_14_method_24_code (4 : Nat) (Option.some FieldType.int)) ∈ sf_T := sf_T_6 83 rfl rfl
theorem wt_1427 : (Cond.methodLink "StreamFuserModel" (192 : Nat) ({ cls := "StreamFuserModel", name := "takesLetter", desc := "(II)Z" } : MethodName)) ∈ sf_T := sf_T_6 84 rfl rfl
theorem wt_1429 : (Cond.instanceMethod ({ cls := "StreamFuserModel", name := "takesLetter", desc := "(II)Z" } : MethodName)) ∈ sf_T := sf_T_6 86 rfl rfl
theorem wt_1430 : (Cond.code ({ cls := "StreamFuserModel", name := "takesLetter", desc := "(II)Z" } : MethodName) prog_14_method_21_code (3 : Nat) (Option.some FieldType.boolean)) ∈ sf_T := sf_T_6 87 rfl rfl
theorem wt_1431 : (Cond.methodLink "StreamFuserModel" (163 : Nat) ({ cls := "StreamFuserModel", name := "partsOf", desc := "(I)I" } : MethodName)) ∈ sf_T := sf_T_6 88 rfl rfl
theorem wt_1432 : (Cond.static ({ cls := "StreamFuserModel", name := "partsOf", desc := "(I)I" } : MethodName)) ∈ sf_T := sf_T_6 89 rfl rfl
theorem wt_1433 : (Cond.code ({ cls := "StreamFuserModel", name := "partsOf", desc := "(I)I" } : MethodName) prog_14_method_18_code (1 : Nat) (Option.some FieldType.int)) ∈ sf_T := sf_T_6 90 rfl rfl
theorem wt_1434 : (Cond.methodLink "StreamFuserModel" (172 : Nat) ({ cls := "StreamFuserModel", name := "wantsBehind", desc := "(II)V" } : MethodName)) ∈ sf_T := sf_T_6 91 rfl rfl
theorem wt_1436 : (Cond.instanceMethod ({ cls := "StreamFuserModel", name := "wantsBehind", desc := "(II)V" } : MethodName)) ∈ sf_T := sf_T_6 93 rfl rfl
theorem wt_1437 : (Cond.code ({ cls := "StreamFuserModel", name := "wantsBehind", desc := "(II)V" } : MethodName) prog_14_method_20_code (5 : Nat) (Option.none : Option FieldType)) ∈ sf_T := sf_T_6 94 rfl rfl
theorem wt_1438 : (Cond.methodLink "StreamFuserModel" (166 : Nat) ({ cls := "StreamFuserModel", name := "wants", desc := "(I)V" } : MethodName)) ∈ sf_T := sf_T_6 95 rfl rfl
theorem wt_1440 : (Cond.instanceMethod ({ cls := "StreamFuserModel", name := "wants", desc := "(I)V" } : MethodName)) ∈ sf_T := sf_T_6 97 rfl rfl
theorem wt_1441 : (Cond.code ({ cls := "StreamFuserModel", name := "wants", desc := "(I)V" } : MethodName) prog_14_method_19_code (2 : Nat) (Option.none : Option FieldType)) ∈ sf_T := sf_T_6 98 rfl rfl
theorem wt_1442 : (Cond.methodLink "StreamFuserModel" (196 : Nat) ({ cls := "StreamFuserModel", name := "takesNumber", desc := "(II)Z" } : MethodName)) ∈ sf_T := sf_T_6 99 rfl rfl
theorem wt_1444 : (Cond.instanceMethod ({ cls := "StreamFuserModel", name := "takesNumber", desc := "(II)Z" } : MethodName)) ∈ sf_T := sf_T_6 101 rfl rfl
theorem wt_1445 : (Cond.code ({ cls := "StreamFuserModel", name := "takesNumber", desc := "(II)Z" } : MethodName) prog_14_method_22_code (5 : Nat) (Option.some FieldType.boolean)) ∈ sf_T := sf_T_6 102 rfl rfl
theorem wt_1446 : (Cond.constantLong "StreamFuserModel" (176 : Nat) (48 : Int64)) ∈ sf_T := sf_T_6 103 rfl rfl
theorem wt_1447 : (Cond.constantLong "StreamFuserModel" (178 : Nat) (57 : Int64)) ∈ sf_T := sf_T_6 104 rfl rfl
theorem wt_1448 : (Cond.methodLink "StreamFuserModel" (199 : Nat) ({ cls := "StreamFuserModel", name := "takesSign", desc := "(II)Z" } : MethodName)) ∈ sf_T := sf_T_6 105 rfl rfl
theorem wt_1450 : (Cond.instanceMethod ({ cls := "StreamFuserModel", name := "takesSign", desc := "(II)Z" } : MethodName)) ∈ sf_T := sf_T_6 107 rfl rfl
theorem wt_1451 : (Cond.code ({ cls := "StreamFuserModel", name := "takesSign", desc := "(II)Z" } : MethodName) prog_14_method_23_code (4 : Nat) (Option.some FieldType.boolean)) ∈ sf_T := sf_T_6 108 rfl rfl
theorem wt_1452 : (Cond.constantLong "StreamFuserModel" (190 : Nat) (51 : Int64)) ∈ sf_T := sf_T_6 109 rfl rfl
theorem wt_1453 : (Cond.methodLink "StreamFuserLaw" (30 : Nat) ({ cls := "StreamFuserModel", name := "plan", desc := "()I" } : MethodName)) ∈ sf_T := sf_T_6 110 rfl rfl
theorem wt_1454 : (Cond.instanceMethod ({ cls := "StreamFuserModel", name := "plan", desc := "()I" } : MethodName)) ∈ sf_T := sf_T_6 111 rfl rfl
theorem wt_1455 : (Cond.selects "StreamFuserModel" ({ cls := "StreamFuserModel", name := "plan", desc := "()I" } : MethodName) ({ cls := "StreamFuserModel", name := "plan", desc := "()I" } : MethodName)) ∈ sf_T := sf_T_6 112 rfl rfl
theorem wt_1456 : (Cond.code ({ cls := "StreamFuserModel", name := "plan", desc := "()I" } : MethodName) prog_14_method_28_code (3 : Nat) (Option.some FieldType.int)) ∈ sf_T := sf_T_6 113 rfl rfl
theorem wt_1457 : (Cond.methodLink "StreamFuserModel" (213 : Nat) ({ cls := "StreamFuserModel", name := "places", desc := "()V" } : MethodName)) ∈ sf_T := sf_T_6 114 rfl rfl
theorem wt_1459 : (Cond.instanceMethod ({ cls := "StreamFuserModel", name := "places", desc := "()V" } : MethodName)) ∈ sf_T := sf_T_6 116 rfl rfl
theorem wt_1460 : (Cond.code ({ cls := "StreamFuserModel", name := "places", desc := "()V" } : MethodName) prog_14_method_26_code (6 : Nat) (Option.none : Option FieldType)) ∈ sf_T := sf_T_6 117 rfl rfl
theorem wt_1461 : (Cond.methodLink "StreamFuserModel" (209 : Nat) ({ cls := "StreamFuserModel", name := "hangs", desc := "(IIZ)V" } : MethodName)) ∈ sf_T := sf_T_6 118 rfl rfl
theorem wt_1463 : (Cond.instanceMethod ({ cls := "StreamFuserModel", name := "hangs", desc := "(IIZ)V" } : MethodName)) ∈ sf_T := sf_T_6 120 rfl rfl
theorem wt_1464 : (Cond.code ({ cls := "StreamFuserModel", name := "hangs", desc := "(IIZ)V" } : MethodName) prog_14_method_27_code (4 : Nat) (Option.none : Option FieldType)) ∈ sf_T := sf_T_6 121 rfl rfl
theorem wt_1465 : (Cond.methodLink "StreamFuserLaw" (35 : Nat) ({ cls := "StreamFuserModel", name := "node", desc := "(II)I" } : MethodName)) ∈ sf_T := sf_T_6 122 rfl rfl
theorem wt_1466 : (Cond.instanceMethod ({ cls := "StreamFuserModel", name := "node", desc := "(II)I" } : MethodName)) ∈ sf_T := sf_T_6 123 rfl rfl
theorem wt_1467 : (Cond.selects "StreamFuserModel" ({ cls := "StreamFuserModel", name := "node", desc := "(II)I" } : MethodName) ({ cls := "StreamFuserModel", name := "node", desc := "(II)I" } : MethodName)) ∈ sf_T := sf_T_6 124 rfl rfl
theorem wt_1468 : (Cond.code ({ cls := "StreamFuserModel", name := "node", desc := "(II)I" } : MethodName) prog_14_method_31_code (3 : Nat) (Option.some FieldType.int)) ∈ sf_T := sf_T_6 125 rfl rfl
theorem wt_1469 : (Cond.constantLong "StreamFuserModel" (219 : Nat) (5 : Int64)) ∈ sf_T := sf_T_6 126 rfl rfl
theorem wt_1470 : (Cond.methodLink "StreamFuserModel" (221 : Nat) ({ cls := "StreamFuserModel", name := "nodeBy", desc := "(II)I" } : MethodName)) ∈ sf_T := sf_T_6 127 rfl rfl
theorem wt_1472 : (Cond.instanceMethod ({ cls := "StreamFuserModel", name := "nodeBy", desc := "(II)I" } : MethodName)) ∈ sf_T := sf_T_6 129 rfl rfl
theorem wt_1473 : (Cond.code ({ cls := "StreamFuserModel", name := "nodeBy", desc := "(II)I" } : MethodName) prog_14_method_30_code (3 : Nat) (Option.some FieldType.int)) ∈ sf_T := sf_T_6 130 rfl rfl
theorem wt_1474 : (Cond.methodLink "StreamFuserModel" (216 : Nat) ({ cls := "StreamFuserModel", name := "isPure", desc := "(I)Z" } : MethodName)) ∈ sf_T := sf_T_6 131 rfl rfl
theorem wt_1476 : (Cond.instanceMethod ({ cls := "StreamFuserModel", name := "isPure", desc := "(I)Z" } : MethodName)) ∈ sf_T := sf_T_6 133 rfl rfl
theorem wt_1477 : (Cond.code ({ cls := "StreamFuserModel", name := "isPure", desc := "(I)Z" } : MethodName) prog_14_method_29_code (3 : Nat) (Option.some FieldType.boolean)) ∈ sf_T := sf_T_6 134 rfl rfl
theorem wt_1478 : (Cond.methodLink "StreamFuserLaw" (39 : Nat) ({ cls := "StreamFuserModel", name := "text", desc := "(I)I" } : MethodName)) ∈ sf_T := sf_T_6 135 rfl rfl
theorem wt_1479 : (Cond.instanceMethod ({ cls := "StreamFuserModel", name := "text", desc := "(I)I" } : MethodName)) ∈ sf_T := sf_T_6 136 rfl rfl
theorem wt_1480 : (Cond.selects "StreamFuserModel" ({ cls := "StreamFuserModel", name := "text", desc := "(I)I" } : MethodName) ({ cls := "StreamFuserModel", name := "text", desc := "(I)I" } : MethodName)) ∈ sf_T := sf_T_6 137 rfl rfl
theorem wt_1481 : (Cond.code ({ cls := "StreamFuserModel", name := "text", desc := "(I)I" } : MethodName) prog_14_method_37_code (2 : Nat) (Option.some FieldType.int)) ∈ sf_T := sf_T_6 138 rfl rfl
theorem wt_1482 : (Cond.methodLink "StreamFuserModel" (238 : Nat) ({ cls := "StreamFuserModel", name := "writesPlan", desc := "()V" } : MethodName)) ∈ sf_T := sf_T_6 139 rfl rfl
theorem wt_1484 : (Cond.instanceMethod ({ cls := "StreamFuserModel", name := "writesPlan", desc := "()V" } : MethodName)) ∈ sf_T := sf_T_6 141 rfl rfl
theorem wt_1485 : (Cond.code ({ cls := "StreamFuserModel", name := "writesPlan", desc := "()V" } : MethodName) prog_14_method_35_code (2 : Nat) (Option.none : Option FieldType)) ∈ sf_T := sf_T_6 142 rfl rfl
theorem wt_1486 : (Cond.methodLink "StreamFuserModel" (227 : Nat) ({ cls := "StreamFuserModel", name := "tells", desc := "(I)V" } : MethodName)) ∈ sf_T := sf_T_6 143 rfl rfl
theorem wt_1488 : (Cond.instanceMethod ({ cls := "StreamFuserModel", name := "tells", desc := "(I)V" } : MethodName)) ∈ sf_T := sf_T_6 145 rfl rfl
theorem wt_1489 : (Cond.code ({ cls := "StreamFuserModel", name := "tells", desc := "(I)V" } : MethodName) prog_14_method_32_code (2 : Nat) (Option.none : Option FieldType)) ∈ sf_T := sf_T_6 146 rfl rfl
theorem wt_1490 : (Cond.methodLink "StreamFuserModel" (232 : Nat) ({ cls := "StreamFuserModel", name := "numbersOf", desc := "(I)I" } : MethodName)) ∈ sf_T := sf_T_6 147 rfl rfl
theorem wt_1491 : (Cond.static ({ cls := "StreamFuserModel", name := "numbersOf", desc := "(I)I" } : MethodName)) ∈ sf_T := sf_T_6 148 rfl rfl
theorem wt_1492 : (Cond.code ({ cls := "StreamFuserModel", name := "numbersOf", desc := "(I)I" } : MethodName) prog_14_method_34_code (1 : Nat) (Option.some FieldType.int)) ∈ sf_T := sf_T_6 149 rfl rfl
theorem wt_1493 : (Cond.methodLink "StreamFuserModel" (235 : Nat) ({ cls := "StreamFuserModel", name := "tellsNumber", desc := "(I)V" } : MethodName)) ∈ sf_T := sf_T_6 150 rfl rfl
theorem wt_1495 : (Cond.instanceMethod ({ cls := "StreamFuserModel", name := "tellsNumber", desc := "(I)V" } : MethodName)) ∈ sf_T := sf_T_6 152 rfl rfl
theorem wt_1496 : (Cond.code ({ cls := "StreamFuserModel", name := "tellsNumber", desc := "(I)V" } : MethodName) prog_14_method_33_code (7 : Nat) (Option.none : Option FieldType)) ∈ sf_T := sf_T_6 153 rfl rfl
theorem wt_1497 : (Cond.constantLong "StreamFuserModel" (230 : Nat) (10 : Int64)) ∈ sf_T := sf_T_6 154 rfl rfl
theorem wt_1498 : (Cond.methodLink "StreamFuserModel" (241 : Nat) ({ cls := "StreamFuserModel", name := "textBy", desc := "(I)I" } : MethodName)) ∈ sf_T := sf_T_6 155 rfl rfl
theorem wt_1500 : (Cond.instanceMethod ({ cls := "StreamFuserModel", name := "textBy", desc := "(I)I" } : MethodName)) ∈ sf_T := sf_T_6 157 rfl rfl
theorem wt_1501 : (Cond.code ({ cls := "StreamFuserModel", name := "textBy", desc := "(I)I" } : MethodName) prog_14_method_36_code (2 : Nat) (Option.some FieldType.int)) ∈ sf_T := sf_T_6 158 rfl rfl
theorem wt_1502 : (Cond.methodLink "StreamFuserLaw" (43 : Nat) ({ cls := "StreamFuserModel", name := "tidy", desc := "(I)I" } : MethodName)) ∈ sf_T := sf_T_6 159 rfl rfl
theorem wt_1503 : (Cond.instanceMethod ({ cls := "StreamFuserModel", name := "tidy", desc := "(I)I" } : MethodName)) ∈ sf_T := sf_T_6 160 rfl rfl
theorem wt_1504 : (Cond.selects "StreamFuserModel" ({ cls := "StreamFuserModel", name := "tidy", desc := "(I)I" } : MethodName) ({ cls := "StreamFuserModel", name := "tidy", desc := "(I)I" } : MethodName)) ∈ sf_T := sf_T_6 161 rfl rfl
theorem wt_1505 : (Cond.code ({ cls := "StreamFuserModel", name := "tidy", desc := "(I)I" } : MethodName) prog_14_method_50_code (3 : Nat) (Option.some FieldType.int)) ∈ sf_T := sf_T_6 162 rfl rfl
theorem wt_1506 : (Cond.methodLink "StreamFuserModel" (286 : Nat) ({ cls := "StreamFuserModel", name := "tidies", desc := "(I)I" } : MethodName)) ∈ sf_T := sf_T_6 163 rfl rfl
theorem wt_1508 : (Cond.instanceMethod ({ cls := "StreamFuserModel", name := "tidies", desc := "(I)I" } : MethodName)) ∈ sf_T := sf_T_6 165 rfl rfl
theorem wt_1509 : (Cond.code ({ cls := "StreamFuserModel", name := "tidies", desc := "(I)I" } : MethodName) prog_14_method_49_code (5 : Nat) (Option.some FieldType.int)) ∈ sf_T := sf_T_6 166 rfl rfl
theorem wt_1510 : (Cond.constant "StreamFuserModel" (282 : Nat) (1000000 : Int32)) ∈ sf_T := sf_T_6 167 rfl rfl
theorem wt_1511 : (Cond.methodLink "StreamFuserModel" (283 : Nat) ({ cls := "StreamFuserModel", name := "tidiesOnce", desc := "(I)Z" } : MethodName)) ∈ sf_T := sf_T_6 168 rfl rfl
theorem wt_1513 : (Cond.instanceMethod ({ cls := "StreamFuserModel", name := "tidiesOnce", desc := "(I)Z" } : MethodName)) ∈ sf_T := sf_T_6 170 rfl rfl
theorem wt_1514 : (Cond.code ({ cls := "StreamFuserModel", name := "tidiesOnce", desc := "(I)Z" } : MethodName) prog_14_method_48_code (5 : Nat) (Option.some FieldType.boolean)) ∈ sf_T := sf_T_6 171 rfl rfl
theorem wt_1515 : (Cond.methodLink "StreamFuserModel" (276 : Nat) ({ cls := "StreamFuserModel", name := "ruleAt", desc := "(I)I" } : MethodName)) ∈ sf_T := sf_T_6 172 rfl rfl
theorem wt_1517 : (Cond.instanceMethod ({ cls := "StreamFuserModel", name := "ruleAt", desc := "(I)I" } : MethodName)) ∈ sf_T := sf_T_6 174 rfl rfl
theorem wt_1518 : (Cond.code ({ cls := "StreamFuserModel", name := "ruleAt", desc := "(I)I" } : MethodName) prog_14_method_41_code (3 : Nat) (Option.some FieldType.int)) ∈ sf_T := sf_T_6 175 rfl rfl
theorem wt_1519 : (Cond.methodLink "StreamFuserModel" (247 : Nat) ({ cls := "StreamFuserModel", name := "isNil", desc := "(I)Z" } : MethodName)) ∈ sf_T := sf_T_6 176 rfl rfl
theorem wt_1521 : (Cond.instanceMethod ({ cls := "StreamFuserModel", name := "isNil", desc := "(I)Z" } : MethodName)) ∈ sf_T := sf_T_6 178 rfl rfl
theorem wt_1522 : (Cond.code ({ cls := "StreamFuserModel", name := "isNil", desc := "(I)Z" } : MethodName) prog_14_method_38_code (2 : Nat) (Option.some FieldType.boolean)) ∈ sf_T := sf_T_6 179 rfl rfl
theorem wt_1523 : (Cond.methodLink "StreamFuserModel" (250 : Nat) ({ cls := "StreamFuserModel", name := "ruleOfCut", desc := "(I)I" } : MethodName)) ∈ sf_T := sf_T_6 180 rfl rfl
theorem wt_1525 : (Cond.instanceMethod ({ cls := "StreamFuserModel", name := "ruleOfCut", desc := "(I)I" } : MethodName)) ∈ sf_T := sf_T_6 182 rfl rfl
theorem wt_1526 : (Cond.code ({ cls := "StreamFuserModel", name := "ruleOfCut", desc := "(I)I" } : MethodName) prog_14_method_40_code (4 : Nat) (Option.some FieldType.int)) ∈ sf_T := sf_T_6 183 rfl rfl
theorem wt_1527 : (Cond.methodLink "StreamFuserModel" (244 : Nat) ({ cls := "StreamFuserModel", name := "changes", desc := "(I)Z" } : MethodName)) ∈ sf_T := sf_T_6 184 rfl rfl
theorem wt_1528 : (Cond.static ({ cls := "StreamFuserModel", name := "changes", desc := "(I)Z" } : MethodName)) ∈ sf_T := sf_T_6 185 rfl rfl
theorem wt_1529 : (Cond.code ({ cls := "StreamFuserModel", name := "changes", desc := "(I)Z" } : MethodName) prog_14_method_39_code (1 : Nat) (Option.some FieldType.boolean)) ∈ sf_T := sf_T_6 186 rfl rfl
theorem wt_1530 : (Cond.methodLink "StreamFuserModel" (279 : Nat) ({ cls := "StreamFuserModel", name := "uses", desc := "(II)V" } : MethodName)) ∈ sf_T := sf_T_6 187 rfl rfl
theorem wt_1532 : (Cond.instanceMethod ({ cls := "StreamFuserModel", name := "uses", desc := "(II)V" } : MethodName)) ∈ sf_T := sf_T_6 189 rfl rfl
theorem wt_1533 : (Cond.code ({ cls := "StreamFuserModel", name := "uses", desc := "(II)V" } : MethodName) prog_14_method_46_code (4 : Nat) (Option.none : Option FieldType)) ∈ sf_T := sf_T_6 190 rfl rfl
theorem wt_1534 : (Cond.methodLink "StreamFuserModel" (253 : Nat) ({ cls := "StreamFuserModel", name := "becomes", desc := "(IIII)V" } : MethodName)) ∈ sf_T := sf_T_6 191 rfl rfl
theorem wt_1536 : (Cond.instanceMethod ({ cls := "StreamFuserModel", name := "becomes", desc := "(IIII)V" } : MethodName)) ∈ sf_T := sf_T_6 193 rfl rfl
theorem wt_1537 : (Cond.code ({ cls := "StreamFuserModel", name := "becomes", desc := "(IIII)V" } : MethodName) prog_14_method_43_code (5 : Nat) (Option.none : Option FieldType)) ∈ sf_T := sf_T_6 194 rfl rfl
theorem wt_1538 : (Cond.methodLink "StreamFuserModel" (260 : Nat) ({ cls := "StreamFuserModel", name := "lesser", desc := "(II)I" } : MethodName)) ∈ sf_T := sf_T_6 195 rfl rfl
theorem wt_1539 : (Cond.static ({ cls := "StreamFuserModel", name := "lesser", desc := "(II)I" } : MethodName)) ∈ sf_T := sf_T_6 196 rfl rfl
theorem wt_1540 : (Cond.code ({ cls := "StreamFuserModel", name := "lesser", desc := "(II)I" } : MethodName) prog_14_method_5_code (2 : Nat) (Option.some FieldType.int)) ∈ sf_T := sf_T_6 197 rfl rfl
theorem wt_1541 : (Cond.methodLink "StreamFuserModel" (257 : Nat) ({ cls := "StreamFuserModel", name := "cuts", desc := "(II)V" } : MethodName)) ∈ sf_T := sf_T_6 198 rfl rfl
theorem wt_1543 : (Cond.instanceMethod ({ cls := "StreamFuserModel", name := "cuts", desc := "(II)V" } : MethodName)) ∈ sf_T := sf_T_6 200 rfl rfl
theorem wt_1544 : (Cond.code ({ cls := "StreamFuserModel", name := "cuts", desc := "(II)V" } : MethodName) prog_14_method_42_code (4 : Nat) (Option.none : Option FieldType)) ∈ sf_T := sf_T_6 201 rfl rfl
theorem wt_1545 : (Cond.methodLink "StreamFuserModel" (263 : Nat) ({ cls := "StreamFuserModel", name := "turns", desc := "(I)V" } : MethodName)) ∈ sf_T := sf_T_6 202 rfl rfl
theorem wt_1547 : (Cond.instanceMethod ({ cls := "StreamFuserModel", name := "turns", desc := "(I)V" } : MethodName)) ∈ sf_T := sf_T_6 204 rfl rfl
theorem wt_1548 : (Cond.code ({ cls := "StreamFuserModel", name := "turns", desc := "(I)V" } : MethodName) prog_14_method_45_code (5 : Nat) (Option.none : Option FieldType)) ∈ sf_T := sf_T_6 205 rfl rfl
theorem wt_1549 : (Cond.methodLink "StreamFuserModel" (266 : Nat) ({ cls := "StreamFuserModel", name := "greater", desc := "(II)I" } : MethodName)) ∈ sf_T := sf_T_6 206 rfl rfl
theorem wt_1550 : (Cond.static ({ cls := "StreamFuserModel", name := "greater", desc := "(II)I" } : MethodName)) ∈ sf_T := sf_T_6 207 rfl rfl
theorem wt_1551 : (Cond.code ({ cls := "StreamFuserModel", name := "greater", desc := "(II)I" } : MethodName) prog_14_method_6_code (2 : Nat) (Option.some FieldType.int)) ∈ sf_T := sf_T_6 208 rfl rfl
theorem wt_1552 : (Cond.methodLink "StreamFuserModel" (269 : Nat) ({ cls := "StreamFuserModel", name := "usesMore", desc := "(III)V" } : MethodName)) ∈ sf_T := sf_T_6 209 rfl rfl
theorem wt_1554 : (Cond.instanceMethod ({ cls := "StreamFuserModel", name := "usesMore", desc := "(III)V" } : MethodName)) ∈ sf_T := sf_T_6 211 rfl rfl
theorem wt_1555 : (Cond.code ({ cls := "StreamFuserModel", name := "usesMore", desc := "(III)V" } : MethodName) prog_14_method_47_code (4 : Nat) (Option.none : Option FieldType)) ∈ sf_T := sf_T_6 212 rfl rfl
theorem wt_1556 : (Cond.methodLink "StreamFuserModel" (273 : Nat) ({ cls := "StreamFuserModel", name := "nil", desc := "(I)V" } : MethodName)) ∈ sf_T := sf_T_6 213 rfl rfl
theorem wt_1558 : (Cond.instanceMethod ({ cls := "StreamFuserModel", name := "nil", desc := "(I)V" } : MethodName)) ∈ sf_T := sf_T_6 215 rfl rfl
theorem wt_1559 : (Cond.code ({ cls := "StreamFuserModel", name := "nil", desc := "(I)V" } : MethodName) prog_14_method_44_code (3 : Nat) (Option.none : Option FieldType)) ∈ sf_T := sf_T_6 216 rfl rfl
theorem wt_1560 : (Cond.methodLink "StreamFuserLaw" (47 : Nat) ({ cls := "StreamFuserModel", name := "rules", desc := "(I)I" } : MethodName)) ∈ sf_T := sf_T_6 217 rfl rfl
theorem wt_1561 : (Cond.instanceMethod ({ cls := "StreamFuserModel", name := "rules", desc := "(I)I" } : MethodName)) ∈ sf_T := sf_T_6 218 rfl rfl
theorem wt_1562 : (Cond.selects "StreamFuserModel" ({ cls := "StreamFuserModel", name := "rules", desc := "(I)I" } : MethodName) ({ cls := "StreamFuserModel", name := "rules", desc := "(I)I" } : MethodName)) ∈ sf_T := sf_T_6 219 rfl rfl
theorem wt_1563 : (Cond.code ({ cls := "StreamFuserModel", name := "rules", desc := "(I)I" } : MethodName) prog_14_method_51_code (2 : Nat) (Option.some FieldType.int)) ∈ sf_T := sf_T_6 220 rfl rfl
theorem wt_1564 : (Cond.constantLong "StreamFuserModel" (292 : Nat) (12 : Int64)) ∈ sf_T := sf_T_6 221 rfl rfl
theorem wt_1565 : (Cond.methodLink "StreamFuserLaw" (55 : Nat) ({ cls := "StreamFuserModel", name := "run", desc := "(II)I" } : MethodName)) ∈ sf_T := sf_T_6 222 rfl rfl
theorem wt_1566 : (Cond.instanceMethod ({ cls := "StreamFuserModel", name := "run", desc := "(II)I" } : MethodName)) ∈ sf_T := sf_T_6 223 rfl rfl
theorem wt_1567 : (Cond.selects "StreamFuserModel" ({ cls := "StreamFuserModel", name := "run", desc := "(II)I" } : MethodName) ({ cls := "StreamFuserModel", name := "run", desc := "(II)I" } : MethodName)) ∈ sf_T := sf_T_6 224 rfl rfl
theorem wt_1568 : (Cond.code ({ cls := "StreamFuserModel", name := "run", desc := "(II)I" } : MethodName) prog_14_method_78_code (4 : Nat) (Option.some FieldType.int)) ∈ sf_T := sf_T_6 225 rfl rfl
theorem wt_1569 : (Cond.constantLong "StreamFuserModel" (400 : Nat) (40 : Int64)) ∈ sf_T := sf_T_6 226 rfl rfl
theorem wt_1570 : (Cond.methodLink "StreamFuserModel" (402 : Nat) ({ cls := "StreamFuserModel", name := "hasEndless", desc := "()Z" } : MethodName)) ∈ sf_T := sf_T_6 227 rfl rfl
theorem wt_1572 : (Cond.instanceMethod ({ cls := "StreamFuserModel", name := "hasEndless", desc := "()Z" } : MethodName)) ∈ sf_T := sf_T_6 229 rfl rfl
theorem wt_1573 : (Cond.code ({ cls := "StreamFuserModel", name := "hasEndless", desc := "()Z" } : MethodName) prog_14_method_77_code (2 : Nat) (Option.some FieldType.boolean)) ∈ sf_T := sf_T_6 230 rfl rfl
theorem wt_1574 : (Cond.methodLink "StreamFuserModel" (405 : Nat) ({ cls := "StreamFuserModel", name := "runs", desc := "(II)V" } : MethodName)) ∈ sf_T := sf_T_6 231 rfl rfl
theorem wt_1576 : (Cond.instanceMethod ({ cls := "StreamFuserModel", name := "runs", desc := "(II)V" } : MethodName)) ∈ sf_T := sf_T_6 233 rfl rfl
theorem wt_1577 : (Cond.code ({ cls := "StreamFuserModel", name := "runs", desc := "(II)V" } : MethodName) prog_14_method_76_code (6 : Nat) (Option.none : Option FieldType)) ∈ sf_T := sf_T_6 234 rfl rfl
theorem wt_1578 : (Cond.methodLink "StreamFuserModel" (322 : Nat) ({ cls := "StreamFuserModel", name := "begins", desc := "(II)V" } : MethodName)) ∈ sf_T := sf_T_6 235 rfl rfl
theorem wt_1580 : (Cond.instanceMethod ({ cls := "StreamFuserModel", name := "begins", desc := "(II)V" } : MethodName)) ∈ sf_T := sf_T_6 237 rfl rfl
theorem wt_1581 : (Cond.code ({ cls := "StreamFuserModel", name := "begins", desc := "(II)V" } : MethodName) prog_14_method_54_code (5 : Nat) (Option.none : Option FieldType)) ∈ sf_T := sf_T_6 238 rfl rfl
theorem wt_1582 : (Cond.methodLink "StreamFuserModel" (391 : Nat) ({ cls := "StreamFuserModel", name := "makesRows", desc := "()V" } : MethodName)) ∈ sf_T := sf_T_6 239 rfl rfl
theorem wt_1584 : (Cond.instanceMethod ({ cls := "StreamFuserModel", name := "makesRows", desc := "()V" } : MethodName)) ∈ sf_T := sf_T_7 1 rfl rfl
theorem wt_1585 : (Cond.code ({ cls := "StreamFuserModel", name := "makesRows", desc := "()V" } : MethodName) prog_14_method_75_code (4 : Nat) (Option.none : Option FieldType)) ∈ sf_T := sf_T_7 2 rfl rfl
theorem wt_1586 : (Cond.constant "StreamFuserModel" (352 : Nat) (100000000 : Int32)) ∈ sf_T := sf_T_7 3 rfl rfl
theorem wt_1587 : (Cond.methodLink "StreamFuserModel" (382 : Nat) ({ cls := "StreamFuserModel", name := "wantsRow", desc := "(I)I" } : MethodName)) ∈ sf_T := sf_T_7 4 rfl rfl
theorem wt_1589 : (Cond.instanceMethod ({ cls := "StreamFuserModel", name := "wantsRow", desc := "(I)I" } : MethodName)) ∈ sf_T := sf_T_7 6 rfl rfl
theorem wt_1590 : (Cond.code ({ cls := "StreamFuserModel", name := "wantsRow", desc := "(I)I" } : MethodName) prog_14_method_74_code (4 : Nat) (Option.some FieldType.int)) ∈ sf_T := sf_T_7 7 rfl rfl
theorem wt_1591 : (Cond.methodLink "StreamFuserModel" (370 : Nat) ({ cls := "StreamFuserModel", name := "opensRow", desc := "(I)I" } : MethodName)) ∈ sf_T := sf_T_7 8 rfl rfl
theorem wt_1593 : (Cond.instanceMethod ({ cls := "StreamFuserModel", name := "opensRow", desc := "(I)I" } : MethodName)) ∈ sf_T := sf_T_7 10 rfl rfl
theorem wt_1594 : (Cond.code ({ cls := "StreamFuserModel", name := "opensRow", desc := "(I)I" } : MethodName) prog_14_method_73_code (4 : Nat) (Option.some FieldType.int)) ∈ sf_T := sf_T_7 11 rfl rfl
theorem wt_1595 : (Cond.methodLink "StreamFuserModel" (306 : Nat) ({ cls := "StreamFuserModel", name := "fails", desc := "(II)V" } : MethodName)) ∈ sf_T := sf_T_7 12 rfl rfl
theorem wt_1597 : (Cond.instanceMethod ({ cls := "StreamFuserModel", name := "fails", desc := "(II)V" } : MethodName)) ∈ sf_T := sf_T_7 14 rfl rfl
theorem wt_1598 : (Cond.code ({ cls := "StreamFuserModel", name := "fails", desc := "(II)V" } : MethodName) prog_14_method_52_code (3 : Nat) (Option.none : Option FieldType)) ∈ sf_T := sf_T_7 15 rfl rfl
theorem wt_1599 : (Cond.methodLink "StreamFuserModel" (367 : Nat) ({ cls := "StreamFuserModel", name := "adds", desc := "(II)V" } : MethodName)) ∈ sf_T := sf_T_7 16 rfl rfl
theorem wt_1601 : (Cond.instanceMethod ({ cls := "StreamFuserModel", name := "adds", desc := "(II)V" } : MethodName)) ∈ sf_T := sf_T_7 18 rfl rfl
theorem wt_1602 : (Cond.code ({ cls := "StreamFuserModel", name := "adds", desc := "(II)V" } : MethodName) prog_14_method_69_code (3 : Nat) (Option.none : Option FieldType)) ∈ sf_T := sf_T_7 19 rfl rfl
theorem wt_1603 : (Cond.methodLink "StreamFuserModel" (373 : Nat) ({ cls := "StreamFuserModel", name := "fills", desc := "(I)V" } : MethodName)) ∈ sf_T := sf_T_7 20 rfl rfl
theorem wt_1605 : (Cond.instanceMethod ({ cls := "StreamFuserModel", name := "fills", desc := "(I)V" } : MethodName)) ∈ sf_T := sf_T_7 22 rfl rfl
theorem wt_1606 : (Cond.code ({ cls := "StreamFuserModel", name := "fills", desc := "(I)V" } : MethodName) prog_14_method_70_code (7 : Nat) (Option.none : Option FieldType)) ∈ sf_T := sf_T_7 23 rfl rfl
theorem wt_1607 : (Cond.constantLong "StreamFuserModel" (365 : Nat) (60 : Int64)) ∈ sf_T := sf_T_7 24 rfl rfl
theorem wt_1608 : (Cond.methodLink "StreamFuserModel" (315 : Nat) ({ cls := "StreamFuserModel", name := "draws", desc := "()Z" } : MethodName)) ∈ sf_T := sf_T_7 25 rfl rfl
theorem wt_1610 : (Cond.instanceMethod ({ cls := "StreamFuserModel", name := "draws", desc := "()Z" } : MethodName)) ∈ sf_T := sf_T_7 27 rfl rfl
theorem wt_1611 : (Cond.code ({ cls := "StreamFuserModel", name := "draws", desc := "()Z" } : MethodName) prog_14_method_55_code (1 : Nat) (Option.some FieldType.boolean)) ∈ sf_T := sf_T_7 28 rfl rfl
theorem wt_1612 : (Cond.methodLink "StreamFuserModel" (376 : Nat) ({ cls := "StreamFuserModel", name := "changesRow", desc := "(I)V" } : MethodName)) ∈ sf_T := sf_T_7 29 rfl rfl
theorem wt_1614 : (Cond.instanceMethod ({ cls := "StreamFuserModel", name := "changesRow", desc := "(I)V" } : MethodName)) ∈ sf_T := sf_T_7 31 rfl rfl
theorem wt_1615 : (Cond.code ({ cls := "StreamFuserModel", name := "changesRow", desc := "(I)V" } : MethodName) prog_14_method_71_code (9 : Nat) (Option.none : Option FieldType)) ∈ sf_T := sf_T_7 32 rfl rfl
theorem wt_1616 : (Cond.methodLink "StreamFuserModel" (331 : Nat) ({ cls := "StreamFuserModel", name := "passes", desc := "(II)Z" } : MethodName)) ∈ sf_T := sf_T_7 33 rfl rfl
theorem wt_1618 : (Cond.instanceMethod ({ cls := "StreamFuserModel", name := "passes", desc := "(II)Z" } : MethodName)) ∈ sf_T := sf_T_7 35 rfl rfl
theorem wt_1619 : (Cond.code ({ cls := "StreamFuserModel", name := "passes", desc := "(II)Z" } : MethodName) prog_14_method_58_code (4 : Nat) (Option.some FieldType.boolean)) ∈ sf_T := sf_T_7 36 rfl rfl
theorem wt_1620 : (Cond.methodLink "StreamFuserModel" (340 : Nat) ({ cls := "StreamFuserModel", name := "made", desc := "(II)I" } : MethodName)) ∈ sf_T := sf_T_7 37 rfl rfl
theorem wt_1622 : (Cond.instanceMethod ({ cls := "StreamFuserModel", name := "made", desc := "(II)I" } : MethodName)) ∈ sf_T := sf_T_7 39 rfl rfl
theorem wt_1623 : (Cond.code ({ cls := "StreamFuserModel", name := "made", desc := "(II)I" } : MethodName) prog_14_method_57_code (5 : Nat) (Option.some FieldType.int)) ∈ sf_T := sf_T_7 40 rfl rfl
theorem wt_1624 : (Cond.methodLink "StreamFuserModel" (319 : Nat) ({ cls := "StreamFuserModel", name := "writesDown", desc := "(II)V" } : MethodName)) ∈ sf_T := sf_T_7 41 rfl rfl
theorem wt_1626 : (Cond.instanceMethod ({ cls := "StreamFuserModel", name := "writesDown", desc := "(II)V" } : MethodName)) ∈ sf_T := sf_T_7 43 rfl rfl
theorem wt_1627 : (Cond.code ({ cls := "StreamFuserModel", name := "writesDown", desc := "(II)V" } : MethodName) prog_14_method_53_code (3 : Nat) (Option.none : Option FieldType)) ∈ sf_T := sf_T_7 44 rfl rfl
theorem wt_1628 : (Cond.methodLink "StreamFuserModel" (379 : Nat) ({ cls := "StreamFuserModel", name := "joinsRows", desc := "(I)V" } : MethodName)) ∈ sf_T := sf_T_7 45 rfl rfl
theorem wt_1630 : (Cond.instanceMethod ({ cls := "StreamFuserModel", name := "joinsRows", desc := "(I)V" } : MethodName)) ∈ sf_T := sf_T_7 47 rfl rfl
theorem wt_1631 : (Cond.code ({ cls := "StreamFuserModel", name := "joinsRows", desc := "(I)V" } : MethodName) prog_14_method_72_code (5 : Nat) (Option.none : Option FieldType)) ∈ sf_T := sf_T_7 48 rfl rfl
theorem wt_1632 : (Cond.methodLink "StreamFuserModel" (343 : Nat) ({ cls := "StreamFuserModel", name := "joined", desc := "(III)I" } : MethodName)) ∈ sf_T := sf_T_7 49 rfl rfl
theorem wt_1634 : (Cond.instanceMethod ({ cls := "StreamFuserModel", name := "joined", desc := "(III)I" } : MethodName)) ∈ sf_T := sf_T_7 51 rfl rfl
theorem wt_1635 : (Cond.code ({ cls := "StreamFuserModel", name := "joined", desc := "(III)I" } : MethodName) prog_14_method_59_code (4 : Nat) (Option.some FieldType.int)) ∈ sf_T := sf_T_7 52 rfl rfl
theorem wt_1636 : (Cond.methodLink "StreamFuserModel" (394 : Nat) ({ cls := "StreamFuserModel", name := "steps", desc := "()I" } : MethodName)) ∈ sf_T := sf_T_7 53 rfl rfl
theorem wt_1638 : (Cond.instanceMethod ({ cls := "StreamFuserModel", name := "steps", desc := "()I" } : MethodName)) ∈ sf_T := sf_T_7 55 rfl rfl
theorem wt_1639 : (Cond.code ({ cls := "StreamFuserModel", name := "steps", desc := "()I" } : MethodName) prog_14_method_68_code (5 : Nat) (Option.some FieldType.int)) ∈ sf_T := sf_T_7 56 rfl rfl
theorem wt_1640 : (Cond.methodLink "StreamFuserModel" (328 : Nat) ({ cls := "StreamFuserModel", name := "gives", desc := "(I)V" } : MethodName)) ∈ sf_T := sf_T_7 57 rfl rfl
theorem wt_1642 : (Cond.instanceMethod ({ cls := "StreamFuserModel", name := "gives", desc := "(I)V" } : MethodName)) ∈ sf_T := sf_T_7 59 rfl rfl
theorem wt_1643 : (Cond.code ({ cls := "StreamFuserModel", name := "gives", desc := "(I)V" } : MethodName) prog_14_method_56_code (3 : Nat) (Option.none : Option FieldType)) ∈ sf_T := sf_T_7 60 rfl rfl
theorem wt_1644 : (Cond.methodLink "StreamFuserModel" (362 : Nat) ({ cls := "StreamFuserModel", name := "after", desc := "(II)I" } : MethodName)) ∈ sf_T := sf_T_7 61 rfl rfl
theorem wt_1646 : (Cond.instanceMethod ({ cls := "StreamFuserModel", name := "after", desc := "(II)I" } : MethodName)) ∈ sf_T := sf_T_7 63 rfl rfl
theorem wt_1647 : (Cond.code ({ cls := "StreamFuserModel", name := "after", desc := "(II)I" } : MethodName) prog_14_method_66_code (4 : Nat) (Option.some FieldType.int)) ∈ sf_T := sf_T_7 64 rfl rfl
theorem wt_1648 : (Cond.methodLink "StreamFuserModel" (359 : Nat) ({ cls := "StreamFuserModel", name := "afterOne", desc := "(II)I" } : MethodName)) ∈ sf_T := sf_T_7 65 rfl rfl
theorem wt_1650 : (Cond.instanceMethod ({ cls := "StreamFuserModel", name := "afterOne", desc := "(II)I" } : MethodName)) ∈ sf_T := sf_T_7 67 rfl rfl
theorem wt_1651 : (Cond.code ({ cls := "StreamFuserModel", name := "afterOne", desc := "(II)I" } : MethodName) prog_14_method_67_code (3 : Nat) (Option.some FieldType.int)) ∈ sf_T := sf_T_7 68 rfl rfl
theorem wt_1652 : (Cond.methodLink "StreamFuserModel" (346 : Nat) ({ cls := "StreamFuserModel", name := "opensFor", desc := "(II)V" } : MethodName)) ∈ sf_T := sf_T_7 69 rfl rfl
theorem wt_1654 : (Cond.instanceMethod ({ cls := "StreamFuserModel", name := "opensFor", desc := "(II)V" } : MethodName)) ∈ sf_T := sf_T_7 71 rfl rfl
theorem wt_1655 : (Cond.code ({ cls := "StreamFuserModel", name := "opensFor", desc := "(II)V" } : MethodName) prog_14_method_60_code (3 : Nat) (Option.none : Option FieldType)) ∈ sf_T := sf_T_7 72 rfl rfl
theorem wt_1656 : (Cond.methodLink "StreamFuserModel" (397 : Nat) ({ cls := "StreamFuserModel", name := "asks", desc := "()Z" } : MethodName)) ∈ sf_T := sf_T_7 73 rfl rfl
theorem wt_1658 : (Cond.instanceMethod ({ cls := "StreamFuserModel", name := "asks", desc := "()Z" } : MethodName)) ∈ sf_T := sf_T_7 75 rfl rfl
theorem wt_1659 : (Cond.code ({ cls := "StreamFuserModel", name := "asks", desc := "()Z" } : MethodName) prog_14_method_65_code (5 : Nat) (Option.some FieldType.boolean)) ∈ sf_T := sf_T_7 76 rfl rfl
theorem wt_1660 : (Cond.methodLink "StreamFuserModel" (353 : Nat) ({ cls := "StreamFuserModel", name := "asksNext", desc := "(I)I" } : MethodName)) ∈ sf_T := sf_T_7 77 rfl rfl
theorem wt_1662 : (Cond.instanceMethod ({ cls := "StreamFuserModel", name := "asksNext", desc := "(I)I" } : MethodName)) ∈ sf_T := sf_T_7 79 rfl rfl
theorem wt_1663 : (Cond.code ({ cls := "StreamFuserModel", name := "asksNext", desc := "(I)I" } : MethodName) prog_14_method_61_code (3 : Nat) (Option.some FieldType.int)) ∈ sf_T := sf_T_7 80 rfl rfl
theorem wt_1664 : (Cond.methodLink "StreamFuserModel" (356 : Nat) ({ cls := "StreamFuserModel", name := "hears", desc := "(I)I" } : MethodName)) ∈ sf_T := sf_T_7 81 rfl rfl
theorem wt_1666 : (Cond.instanceMethod ({ cls := "StreamFuserModel", name := "hears", desc := "(I)I" } : MethodName)) ∈ sf_T := sf_T_7 83 rfl rfl
theorem wt_1667 : (Cond.code ({ cls := "StreamFuserModel", name := "hears", desc := "(I)I" } : MethodName) prog_14_method_62_code (2 : Nat) (Option.some FieldType.int)) ∈ sf_T := sf_T_7 84 rfl rfl
theorem wt_1668 : (Cond.methodLink "StreamFuserModel" (334 : Nat) ({ cls := "StreamFuserModel", name := "hearsOne", desc := "(I)I" } : MethodName)) ∈ sf_T := sf_T_7 85 rfl rfl
theorem wt_1670 : (Cond.instanceMethod ({ cls := "StreamFuserModel", name := "hearsOne", desc := "(I)I" } : MethodName)) ∈ sf_T := sf_T_7 87 rfl rfl
theorem wt_1671 : (Cond.code ({ cls := "StreamFuserModel", name := "hearsOne", desc := "(I)I" } : MethodName) prog_14_method_63_code (2 : Nat) (Option.some FieldType.int)) ∈ sf_T := sf_T_7 88 rfl rfl
theorem wt_1672 : (Cond.methodLink "StreamFuserModel" (337 : Nat) ({ cls := "StreamFuserModel", name := "hearsOpen", desc := "(I)I" } : MethodName)) ∈ sf_T := sf_T_7 89 rfl rfl
theorem wt_1674 : (Cond.instanceMethod ({ cls := "StreamFuserModel", name := "hearsOpen", desc := "(I)I" } : MethodName)) ∈ sf_T := sf_T_7 91 rfl rfl
theorem wt_1675 : (Cond.code ({ cls := "StreamFuserModel", name := "hearsOpen", desc := "(I)I" } : MethodName) prog_14_method_64_code (2 : Nat) (Option.some FieldType.int)) ∈ sf_T := sf_T_7 92 rfl rfl
theorem wt_1676 : (Cond.methodLink "StreamFuserLaw" (60 : Nat) ({ cls := "StreamFuserModel", name := "result", desc := "(I)J" } : MethodName)) ∈ sf_T := sf_T_7 93 rfl rfl
theorem wt_1677 : (Cond.instanceMethod ({ cls := "StreamFuserModel", name := "result", desc := "(I)J" } : MethodName)) ∈ sf_T := sf_T_7 94 rfl rfl
theorem wt_1678 : (Cond.selects "StreamFuserModel" ({ cls := "StreamFuserModel", name := "result", desc := "(I)J" } : MethodName) ({ cls := "StreamFuserModel", name := "result", desc := "(I)J" } : MethodName)) ∈ sf_T := sf_T_7 95 rfl rfl
theorem wt_1679 : (Cond.code ({ cls := "StreamFuserModel", name := "result", desc := "(I)J" } : MethodName) prog_14_method_79_code (2 : Nat) (Option.some FieldType.long)) ∈ sf_T := sf_T_7 96 rfl rfl
theorem wt_1680 : (Cond.methodLink "StreamFuserModel" (411 : Nat) ({ cls := "StreamFuserModel", name := "no", desc := "(I)J" } : MethodName)) ∈ sf_T := sf_T_7 97 rfl rfl
theorem wt_1681 : (Cond.static ({ cls := "StreamFuserModel", name := "no", desc := "(I)J" } : MethodName)) ∈ sf_T := sf_T_7 98 rfl rfl
theorem wt_1682 : (Cond.code ({ cls := "StreamFuserModel", name := "no", desc := "(I)J" } : MethodName) prog_14_method_4_code (1 : Nat) (Option.some FieldType.long)) ∈ sf_T := sf_T_7 99 rfl rfl
theorem wt_1683 : (Cond.constantLong "StreamFuserModel" (124 : Nat) (-9223372036854775808 : Int64)) ∈ sf_T := sf_T_7 100 rfl rfl
theorem wt_1684 : (Cond.methodLink "StreamFuserLaw" (64 : Nat) ({ cls := "StreamFuserModel", name := "fold", desc := "(I)J" } : MethodName)) ∈ sf_T := sf_T_7 101 rfl rfl
theorem wt_1685 : (Cond.instanceMethod ({ cls := "StreamFuserModel", name := "fold", desc := "(I)J" } : MethodName)) ∈ sf_T := sf_T_7 102 rfl rfl
theorem wt_1686 : (Cond.selects "StreamFuserModel" ({ cls := "StreamFuserModel", name := "fold", desc := "(I)J" } : MethodName) ({ cls := "StreamFuserModel", name := "fold", desc := "(I)J" } : MethodName)) ∈ sf_T := sf_T_7 103 rfl rfl
theorem wt_1687 : (Cond.code ({ cls := "StreamFuserModel", name := "fold", desc := "(I)J" } : MethodName) prog_14_method_81_code (2 : Nat) (Option.some FieldType.long)) ∈ sf_T := sf_T_7 104 rfl rfl
theorem wt_1688 : (Cond.methodLink "StreamFuserModel" (416 : Nat) ({ cls := "StreamFuserModel", name := "foldBy", desc := "(I)J" } : MethodName)) ∈ sf_T := sf_T_7 105 rfl rfl
theorem wt_1690 : (Cond.instanceMethod ({ cls := "StreamFuserModel", name := "foldBy", desc := "(I)J" } : MethodName)) ∈ sf_T := sf_T_7 107 rfl rfl
theorem wt_1691 : (Cond.code ({ cls := "StreamFuserModel", name := "foldBy", desc := "(I)J" } : MethodName) prog_14_method_80_code (7 : Nat) (Option.some FieldType.long)) ∈ sf_T := sf_T_7 108 rfl rfl
theorem wt_1692 : (Cond.constant "StreamFuserModel" (415 : Nat) (2147483647 : Int32)) ∈ sf_T := sf_T_7 109 rfl rfl
theorem wt_1693 : (Cond.methodLink "StreamFuserLaw" (68 : Nat) ({ cls := "StreamFuserModel", name := "failure", desc := "(I)I" } : MethodName)) ∈ sf_T := sf_T_7 110 rfl rfl
theorem wt_1694 : (Cond.instanceMethod ({ cls := "StreamFuserModel", name := "failure", desc := "(I)I" } : MethodName)) ∈ sf_T := sf_T_7 111 rfl rfl
theorem wt_1695 : (Cond.selects "StreamFuserModel" ({ cls := "StreamFuserModel", name := "failure", desc := "(I)I" } : MethodName) ({ cls := "StreamFuserModel", name := "failure", desc := "(I)I" } : MethodName)) ∈ sf_T := sf_T_7 112 rfl rfl
theorem wt_1696 : (Cond.code ({ cls := "StreamFuserModel", name := "failure", desc := "(I)I" } : MethodName) prog_14_method_82_code (2 : Nat) (Option.some FieldType.int)) ∈ sf_T := sf_T_7 113 rfl rfl
theorem wt_1697 : (Cond.methodLink "StreamFuserLaw" (72 : Nat) ({ cls := "StreamFuserModel", name := "told", desc := "(I)I" } : MethodName)) ∈ sf_T := sf_T_7 114 rfl rfl
theorem wt_1698 : (Cond.instanceMethod ({ cls := "StreamFuserModel", name := "told", desc := "(I)I" } : MethodName)) ∈ sf_T := sf_T_7 115 rfl rfl
theorem wt_1699 : (Cond.selects "StreamFuserModel" ({ cls := "StreamFuserModel", name := "told", desc := "(I)I" } : MethodName) ({ cls := "StreamFuserModel", name := "told", desc := "(I)I" } : MethodName)) ∈ sf_T := sf_T_7 116 rfl rfl
theorem wt_1700 : (Cond.code ({ cls := "StreamFuserModel", name := "told", desc := "(I)I" } : MethodName) prog_14_method_83_code (2 : Nat) (Option.some FieldType.int)) ∈ sf_T := sf_T_7 117 rfl rfl
theorem wt_1701 : (Cond.methodLink "StreamFuserLaw" (77 : Nat) ({ cls := "StreamFuserModel", name := "written", desc := "(II)J" } : MethodName)) ∈ sf_T := sf_T_7 118 rfl rfl
theorem wt_1702 : (Cond.instanceMethod ({ cls := "StreamFuserModel", name := "written", desc := "(II)J" } : MethodName)) ∈ sf_T := sf_T_7 119 rfl rfl
theorem wt_1703 : (Cond.selects "StreamFuserModel" ({ cls := "StreamFuserModel", name := "written", desc := "(II)J" } : MethodName) ({ cls := "StreamFuserModel", name := "written", desc := "(II)J" } : MethodName)) ∈ sf_T := sf_T_7 120 rfl rfl
theorem wt_1704 : (Cond.code ({ cls := "StreamFuserModel", name := "written", desc := "(II)J" } : MethodName) prog_14_method_86_code (3 : Nat) (Option.some FieldType.long)) ∈ sf_T := sf_T_7 121 rfl rfl
theorem wt_1705 : (Cond.methodLink "StreamFuserModel" (419 : Nat) ({ cls := "StreamFuserModel", name := "keptDown", desc := "()I" } : MethodName)) ∈ sf_T := sf_T_7 122 rfl rfl
theorem wt_1707 : (Cond.instanceMethod ({ cls := "StreamFuserModel", name := "keptDown", desc := "()I" } : MethodName)) ∈ sf_T := sf_T_7 124 rfl rfl
theorem wt_1708 : (Cond.code ({ cls := "StreamFuserModel", name := "keptDown", desc := "()I" } : MethodName) prog_14_method_85_code (1 : Nat) (Option.some FieldType.int)) ∈ sf_T := sf_T_7 125 rfl rfl
theorem wt_1709 : (Cond.methodLink "StreamFuserModel" (422 : Nat) ({ cls := "StreamFuserModel", name := "writtenBy", desc := "(II)J" } : MethodName)) ∈ sf_T := sf_T_7 126 rfl rfl
theorem wt_1711 : (Cond.instanceMethod ({ cls := "StreamFuserModel", name := "writtenBy", desc := "(II)J" } : MethodName)) ∈ sf_T := sf_T_7 128 rfl rfl
theorem wt_1712 : (Cond.code ({ cls := "StreamFuserModel", name := "writtenBy", desc := "(II)J" } : MethodName) prog_14_method_84_code (3 : Nat) (Option.some FieldType.long)) ∈ sf_T := sf_T_7 129 rfl rfl
theorem wt_1713 : (Cond.methodLink "StreamFuserLaw" (104 : Nat) ({ cls := "StreamFuserModel", name := "write", desc := "(I)I" } : MethodName)) ∈ sf_T := sf_T_7 130 rfl rfl
theorem wt_1714 : (Cond.instanceMethod ({ cls := "StreamFuserModel", name := "write", desc := "(I)I" } : MethodName)) ∈ sf_T := sf_T_7 131 rfl rfl
theorem wt_1715 : (Cond.selects "StreamFuserModel" ({ cls := "StreamFuserModel", name := "write", desc := "(I)I" } : MethodName) ({ cls := "StreamFuserModel", name := "write", desc := "(I)I" } : MethodName)) ∈ sf_T := sf_T_7 132 rfl rfl
theorem wt_1716 : (Cond.code ({ cls := "StreamFuserModel", name := "write", desc := "(I)I" } : MethodName) prog_14_method_87_code (4 : Nat) (Option.some FieldType.int)) ∈ sf_T := sf_T_7 133 rfl rfl
theorem wt_1717 : (Cond.methodLink "StreamFuserLaw" (51 : Nat) ({ cls := "StreamFuserModel", name := "saves", desc := "(I)I" } : MethodName)) ∈ sf_T := sf_T_7 134 rfl rfl
theorem wt_1718 : (Cond.instanceMethod ({ cls := "StreamFuserModel", name := "saves", desc := "(I)I" } : MethodName)) ∈ sf_T := sf_T_7 135 rfl rfl
theorem wt_1719 : (Cond.selects "StreamFuserModel" ({ cls := "StreamFuserModel", name := "saves", desc := "(I)I" } : MethodName) ({ cls := "StreamFuserModel", name := "saves", desc := "(I)I" } : MethodName)) ∈ sf_T := sf_T_7 136 rfl rfl
theorem wt_1720 : (Cond.code ({ cls := "StreamFuserModel", name := "saves", desc := "(I)I" } : MethodName) prog_14_method_90_code (2 : Nat) (Option.some FieldType.int)) ∈ sf_T := sf_T_7 137 rfl rfl
theorem wt_1721 : (Cond.methodLink "StreamFuserModel" (430 : Nat) ({ cls := "StreamFuserModel", name := "savesBy", desc := "(I)I" } : MethodName)) ∈ sf_T := sf_T_7 138 rfl rfl
theorem wt_1723 : (Cond.instanceMethod ({ cls := "StreamFuserModel", name := "savesBy", desc := "(I)I" } : MethodName)) ∈ sf_T := sf_T_7 140 rfl rfl
theorem wt_1724 : (Cond.code ({ cls := "StreamFuserModel", name := "savesBy", desc := "(I)I" } : MethodName) prog_14_method_89_code (4 : Nat) (Option.some FieldType.int)) ∈ sf_T := sf_T_7 141 rfl rfl
theorem wt_1725 : (Cond.methodLink "StreamFuserModel" (426 : Nat) ({ cls := "StreamFuserModel", name := "lays", desc := "(ZI)V" } : MethodName)) ∈ sf_T := sf_T_7 142 rfl rfl
theorem wt_1727 : (Cond.instanceMethod ({ cls := "StreamFuserModel", name := "lays", desc := "(ZI)V" } : MethodName)) ∈ sf_T := sf_T_7 144 rfl rfl
theorem wt_1728 : (Cond.code ({ cls := "StreamFuserModel", name := "lays", desc := "(ZI)V" } : MethodName) prog_14_method_88_code (4 : Nat) (Option.none : Option FieldType)) ∈ sf_T := sf_T_7 145 rfl rfl
theorem wt_1729 : (Cond.methodLink "StreamFuserLaw" (108 : Nat) ({ cls := "StreamFuserModel", name := "count", desc := "(I)I" } : MethodName)) ∈ sf_T := sf_T_7 146 rfl rfl
theorem wt_1730 : (Cond.instanceMethod ({ cls := "StreamFuserModel", name := "count", desc := "(I)I" } : MethodName)) ∈ sf_T := sf_T_7 147 rfl rfl
theorem wt_1731 : (Cond.selects "StreamFuserModel" ({ cls := "StreamFuserModel", name := "count", desc := "(I)I" } : MethodName) ({ cls := "StreamFuserModel", name := "count", desc := "(I)I" } : MethodName)) ∈ sf_T := sf_T_7 148 rfl rfl
theorem wt_1732 : (Cond.code ({ cls := "StreamFuserModel", name := "count", desc := "(I)I" } : MethodName) prog_14_method_92_code (2 : Nat) (Option.some FieldType.int)) ∈ sf_T := sf_T_7 149 rfl rfl
theorem wt_1733 : (Cond.methodLink "StreamFuserModel" (433 : Nat) ({ cls := "StreamFuserModel", name := "deepest", desc := "()I" } : MethodName)) ∈ sf_T := sf_T_7 150 rfl rfl
theorem wt_1735 : (Cond.instanceMethod ({ cls := "StreamFuserModel", name := "deepest", desc := "()I" } : MethodName)) ∈ sf_T := sf_T_7 152 rfl rfl
theorem wt_1736 : (Cond.code ({ cls := "StreamFuserModel", name := "deepest", desc := "()I" } : MethodName) prog_14_method_91_code (3 : Nat) (Option.some FieldType.int)) ∈ sf_T := sf_T_7 153 rfl rfl
theorem wt_1737 : (Cond.methodLink "StreamFuserLaw" (113 : Nat) ({ cls := "StreamFuserModel", name := "digest", desc := "()J" } : MethodName)) ∈ sf_T := sf_T_7 154 rfl rfl
theorem wt_1738 : (Cond.instanceMethod ({ cls := "StreamFuserModel", name := "digest", desc := "()J" } : MethodName)) ∈ sf_T := sf_T_7 155 rfl rfl
theorem wt_1739 : (Cond.selects "StreamFuserModel" ({ cls := "StreamFuserModel", name := "digest", desc := "()J" } : MethodName) ({ cls := "StreamFuserModel", name := "digest", desc := "()J" } : MethodName)) ∈ sf_T := sf_T_7 156 rfl rfl
theorem wt_1740 : (Cond.code ({ cls := "StreamFuserModel", name := "digest", desc := "()J" } : MethodName) prog_14_method_94_code (4 : Nat) (Option.some FieldType.long)) ∈ sf_T := sf_T_7 157 rfl rfl
theorem wt_1741 : (Cond.constantLong "StreamFuserModel" (438 : Nat) (17 : Int64)) ∈ sf_T := sf_T_7 158 rfl rfl
theorem wt_1742 : (Cond.constantLong "StreamFuserModel" (436 : Nat) (31 : Int64)) ∈ sf_T := sf_T_7 159 rfl rfl
theorem wt_1743 : (Cond.methodLink "StreamFuserModel" (440 : Nat) ({ cls := "StreamFuserModel", name := "count", desc := "(I)I" } : MethodName)) ∈ sf_T := sf_T_7 160 rfl rfl
theorem wt_1744 : (Cond.methodLink "StreamFuserModel" (443 : Nat) ({ cls := "StreamFuserModel", name := "planTells", desc := "(J)J" } : MethodName)) ∈ sf_T := sf_T_7 161 rfl rfl
theorem wt_1746 : (Cond.instanceMethod ({ cls := "StreamFuserModel", name := "planTells", desc := "(J)J" } : MethodName)) ∈ sf_T := sf_T_7 163 rfl rfl
theorem wt_1747 : (Cond.code ({ cls := "StreamFuserModel", name := "planTells", desc := "(J)J" } : MethodName) prog_14_method_93_code (7 : Nat) (Option.some FieldType.long)) ∈ sf_T := sf_T_7 164 rfl rfl
theorem wt_1748 : (Cond.sameMethod "StreamFuser$Way" "StreamFuser$Way" "divide" "(III)Z") ∈ sf_T := sf_T_7 165 rfl rfl
theorem wt_1749 : (Cond.sameMethod "StreamFuser$Walk" "StreamFuser$Walk" "restart" "(II)V") ∈ sf_T := sf_T_7 166 rfl rfl
theorem wt_1750 : (Cond.selects "StreamFuser$Asker" ({ cls := "StreamFuser$Walk", name := "restart", desc := "(II)V" } : MethodName) ({ cls := "StreamFuser$Walk", name := "restart", desc := "(II)V" } : MethodName)) ∈ sf_T := sf_T_7 167 rfl rfl
theorem wt_1751 : (Cond.selects "StreamFuser$Stepper" ({ cls := "StreamFuser$Walk", name := "restart", desc := "(II)V" } : MethodName) ({ cls := "StreamFuser$Walk", name := "restart", desc := "(II)V" } : MethodName)) ∈ sf_T := sf_T_7 168 rfl rfl
