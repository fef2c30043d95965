/-! the words of the tables, by their places -/
def sf_nest : Cond → Bool
  | .fieldLinkNest _ _ _ _ _ _ => true
  | .methodLinkNest _ _ _ _ => true
  | _ => false
/-- private methods of a superclass, called on its heirs: true at the law's entry, by sf_selP -/
def sf_more : List Cond := [.selects "StreamFuser$Asker" ⟨"StreamFuser$Way", "divide", "(III)Z"⟩ ⟨"StreamFuser$Way", "divide", "(III)Z"⟩, .selects "StreamFuser$Maker" ⟨"StreamFuser$Way", "divide", "(III)Z"⟩ ⟨"StreamFuser$Way", "divide", "(III)Z"⟩, .selects "StreamFuser$Stepper" ⟨"StreamFuser$Way", "divide", "(III)Z"⟩ ⟨"StreamFuser$Way", "divide", "(III)Z"⟩]
def sf_all : List Cond := lw_tbl ++ sf_more
def sf_T : List Cond := sf_all.filter goodWord
def sf_N : List Cond := sf_all.filter sf_nest
theorem sf_T_in {w : Cond} (h : w ∈ tables_1) (hg : goodWord w = true) : w ∈ sf_T := List.mem_filter.mpr ⟨List.mem_append_left _ (List.mem_append_right _ h), hg⟩
theorem sf_N_in {w : Cond} (h : w ∈ tables_1) (hg : sf_nest w = true) : w ∈ sf_N := List.mem_filter.mpr ⟨List.mem_append_left _ (List.mem_append_right _ h), hg⟩
theorem sf_S_in {q : MethodName × Nat} (h : q ∈ lw_privs) : Cond.selects q.1.cls q.1 q.1 ∈ sf_T := List.mem_filter.mpr ⟨List.mem_append_left _ (List.mem_append_left _ (List.mem_map.mpr ⟨q, h, rfl⟩)), rfl⟩
theorem sf_M_of {w : Cond} (i : Nat) (h : sf_more[i]? = some w) (hg : goodWord w = true) : w ∈ sf_T := List.mem_filter.mpr ⟨List.mem_append_right _ (List.mem_of_getElem? h), hg⟩
theorem sf_T_1 {w : Cond} (i : Nat) (h : tables_1_1[i]? = some w) (hg : goodWord w = true) : w ∈ sf_T := sf_T_in (List.mem_append_left _ (List.mem_of_getElem? h)) hg
theorem sf_N_1 {w : Cond} (i : Nat) (h : tables_1_1[i]? = some w) (hg : sf_nest w = true) : w ∈ sf_N := sf_N_in (List.mem_append_left _ (List.mem_of_getElem? h)) hg
theorem sf_T_2 {w : Cond} (i : Nat) (h : tables_1_2[i]? = some w) (hg : goodWord w = true) : w ∈ sf_T := sf_T_in (List.mem_append_right _ (List.mem_append_left _ (List.mem_of_getElem? h))) hg
theorem sf_N_2 {w : Cond} (i : Nat) (h : tables_1_2[i]? = some w) (hg : sf_nest w = true) : w ∈ sf_N := sf_N_in (List.mem_append_right _ (List.mem_append_left _ (List.mem_of_getElem? h))) hg
theorem sf_T_3 {w : Cond} (i : Nat) (h : tables_1_3[i]? = some w) (hg : goodWord w = true) : w ∈ sf_T := sf_T_in (List.mem_append_right _ (List.mem_append_right _ (List.mem_append_left _ (List.mem_of_getElem? h)))) hg
theorem sf_N_3 {w : Cond} (i : Nat) (h : tables_1_3[i]? = some w) (hg : sf_nest w = true) : w ∈ sf_N := sf_N_in (List.mem_append_right _ (List.mem_append_right _ (List.mem_append_left _ (List.mem_of_getElem? h)))) hg
theorem sf_T_4 {w : Cond} (i : Nat) (h : tables_1_4[i]? = some w) (hg : goodWord w = true) : w ∈ sf_T := sf_T_in (List.mem_append_right _ (List.mem_append_right _ (List.mem_append_right _ (List.mem_append_left _ (List.mem_of_getElem? h))))) hg
theorem sf_N_4 {w : Cond} (i : Nat) (h : tables_1_4[i]? = some w) (hg : sf_nest w = true) : w ∈ sf_N := sf_N_in (List.mem_append_right _ (List.mem_append_right _ (List.mem_append_right _ (List.mem_append_left _ (List.mem_of_getElem? h))))) hg
theorem sf_T_5 {w : Cond} (i : Nat) (h : tables_1_5[i]? = some w) (hg : goodWord w = true) : w ∈ sf_T := sf_T_in (List.mem_append_right _ (List.mem_append_right _ (List.mem_append_right _ (List.mem_append_right _ ((List.mem_of_getElem? h)))))) hg
theorem sf_N_5 {w : Cond} (i : Nat) (h : tables_1_5[i]? = some w) (hg : sf_nest w = true) : w ∈ sf_N := sf_N_in (List.mem_append_right _ (List.mem_append_right _ (List.mem_append_right _ (List.mem_append_right _ ((List.mem_of_getElem? h)))))) hg
theorem sf_S_1 {q : MethodName × Nat} (i : Nat) (h : lw_privs_1[i]? = some q) : Cond.selects q.1.cls q.1 q.1 ∈ sf_T := sf_S_in (List.mem_append_left _ (List.mem_of_getElem? h))
theorem sf_S_2 {q : MethodName × Nat} (i : Nat) (h : lw_privs_2[i]? = some q) : Cond.selects q.1.cls q.1 q.1 ∈ sf_T := sf_S_in (List.mem_append_right _ (List.mem_append_left _ (List.mem_of_getElem? h)))
theorem sf_S_3 {q : MethodName × Nat} (i : Nat) (h : lw_privs_3[i]? = some q) : Cond.selects q.1.cls q.1 q.1 ∈ sf_T := sf_S_in (List.mem_append_right _ (List.mem_append_right _ (List.mem_append_left _ (List.mem_of_getElem? h))))
theorem sf_S_4 {q : MethodName × Nat} (i : Nat) (h : lw_privs_4[i]? = some q) : Cond.selects q.1.cls q.1 q.1 ∈ sf_T := sf_S_in (List.mem_append_right _ (List.mem_append_right _ (List.mem_append_right _ (List.mem_append_left _ (List.mem_of_getElem? h)))))
theorem sf_S_5 {q : MethodName × Nat} (i : Nat) (h : lw_privs_5[i]? = some q) : Cond.selects q.1.cls q.1 q.1 ∈ sf_T := sf_S_in (List.mem_append_right _ (List.mem_append_right _ (List.mem_append_right _ (List.mem_append_right _ ((List.mem_of_getElem? h))))))
theorem wt_0 : (Cond.selects "StreamFuser$Plan" ({ cls := "StreamFuser$Plan", name := "has", desc := "(I)Z" } : MethodName) ({ cls := "StreamFuser$Plan", name := "has", desc := "(I)Z" } : MethodName)) ∈ sf_T := sf_S_1 (q := (⟨"StreamFuser$Plan", "has", "(I)Z"⟩, 12)) 0 rfl
theorem wt_1 : (Cond.selects "StreamFuser$Rewriter" ({ cls := "StreamFuser$Rewriter", name := "simplify", desc := "(Z)V" } : MethodName) ({ cls := "StreamFuser$Rewriter", name := "simplify", desc := "(Z)V" } : MethodName)) ∈ sf_T := sf_S_1 (q := (⟨"StreamFuser$Rewriter", "simplify", "(Z)V"⟩, 3)) 1 rfl
theorem wt_2 : (Cond.selects "StreamFuser$Rewriter" ({ cls := "StreamFuser$Rewriter", name := "place", desc := "(Z)I" } : MethodName) ({ cls := "StreamFuser$Rewriter", name := "place", desc := "(Z)I" } : MethodName)) ∈ sf_T := sf_S_1 (q := (⟨"StreamFuser$Rewriter", "place", "(Z)I"⟩, 3)) 2 rfl
theorem wt_3 : (Cond.selects "StreamFuser$Rewriter" ({ cls := "StreamFuser$Rewriter", name := "ruleFor", desc := "(I)I" } : MethodName) ({ cls := "StreamFuser$Rewriter", name := "ruleFor", desc := "(I)I" } : MethodName)) ∈ sf_T := sf_S_1 (q := (⟨"StreamFuser$Rewriter", "ruleFor", "(I)I"⟩, 3)) 3 rfl
theorem wt_4 : (Cond.selects "StreamFuser$Plan" ({ cls := "StreamFuser$Plan", name := "isNil", desc := "(I)Z" } : MethodName) ({ cls := "StreamFuser$Plan", name := "isNil", desc := "(I)Z" } : MethodName)) ∈ sf_T := sf_S_1 (q := (⟨"StreamFuser$Plan", "isNil", "(I)Z"⟩, 12)) 4 rfl
theorem wt_5 : (Cond.selects "StreamFuser$Rewriter" ({ cls := "StreamFuser$Rewriter", name := "ruleForTake", desc := "(I)I" } : MethodName) ({ cls := "StreamFuser$Rewriter", name := "ruleForTake", desc := "(I)I" } : MethodName)) ∈ sf_T := sf_S_1 (q := (⟨"StreamFuser$Rewriter", "ruleForTake", "(I)I"⟩, 3)) 5 rfl
theorem wt_6 : (Cond.selects "StreamFuser$Plan" ({ cls := "StreamFuser$Plan", name := "letterAt", desc := "(I)I" } : MethodName) ({ cls := "StreamFuser$Plan", name := "letterAt", desc := "(I)I" } : MethodName)) ∈ sf_T := sf_S_1 (q := (⟨"StreamFuser$Plan", "letterAt", "(I)I"⟩, 12)) 6 rfl
theorem wt_7 : (Cond.selects "StreamFuser$Rewriter" ({ cls := "StreamFuser$Rewriter", name := "ruleForDrop", desc := "(I)I" } : MethodName) ({ cls := "StreamFuser$Rewriter", name := "ruleForDrop", desc := "(I)I" } : MethodName)) ∈ sf_T := sf_S_1 (q := (⟨"StreamFuser$Rewriter", "ruleForDrop", "(I)I"⟩, 3)) 7 rfl
theorem wt_8 : (Cond.selects "StreamFuser$Plan" ({ cls := "StreamFuser$Plan", name := "secondPart", desc := "(I)I" } : MethodName) ({ cls := "StreamFuser$Plan", name := "secondPart", desc := "(I)I" } : MethodName)) ∈ sf_T := sf_S_1 (q := (⟨"StreamFuser$Plan", "secondPart", "(I)I"⟩, 12)) 8 rfl
theorem wt_9 : (Cond.selects "StreamFuser$Plan" ({ cls := "StreamFuser$Plan", name := "input", desc := "(I)I" } : MethodName) ({ cls := "StreamFuser$Plan", name := "input", desc := "(I)I" } : MethodName)) ∈ sf_T := sf_S_1 (q := (⟨"StreamFuser$Plan", "input", "(I)I"⟩, 12)) 9 rfl
theorem wt_10 : (Cond.selects "StreamFuser$Rewriter" ({ cls := "StreamFuser$Rewriter", name := "apply", desc := "(II)V" } : MethodName) ({ cls := "StreamFuser$Rewriter", name := "apply", desc := "(II)V" } : MethodName)) ∈ sf_T := sf_S_1 (q := (⟨"StreamFuser$Rewriter", "apply", "(II)V"⟩, 3)) 10 rfl
theorem wt_11 : (Cond.selects "StreamFuser$Plan" ({ cls := "StreamFuser$Plan", name := "makeNil", desc := "(I)V" } : MethodName) ({ cls := "StreamFuser$Plan", name := "makeNil", desc := "(I)V" } : MethodName)) ∈ sf_T := sf_S_1 (q := (⟨"StreamFuser$Plan", "makeNil", "(I)V"⟩, 12)) 11 rfl
theorem wt_12 : (Cond.selects "StreamFuser$Plan" ({ cls := "StreamFuser$Plan", name := "cut", desc := "(II)V" } : MethodName) ({ cls := "StreamFuser$Plan", name := "cut", desc := "(II)V" } : MethodName)) ∈ sf_T := sf_S_1 (q := (⟨"StreamFuser$Plan", "cut", "(II)V"⟩, 12)) 12 rfl
theorem wt_13 : (Cond.selects "StreamFuser$Plan" ({ cls := "StreamFuser$Plan", name := "moveNode", desc := "(II)V" } : MethodName) ({ cls := "StreamFuser$Plan", name := "moveNode", desc := "(II)V" } : MethodName)) ∈ sf_T := sf_S_1 (q := (⟨"StreamFuser$Plan", "moveNode", "(II)V"⟩, 12)) 13 rfl
theorem wt_14 : (Cond.selects "StreamFuser$Plan" ({ cls := "StreamFuser$Plan", name := "swapWithNext", desc := "(I)V" } : MethodName) ({ cls := "StreamFuser$Plan", name := "swapWithNext", desc := "(I)V" } : MethodName)) ∈ sf_T := sf_S_1 (q := (⟨"StreamFuser$Plan", "swapWithNext", "(I)V"⟩, 12)) 14 rfl
theorem wt_15 : (Cond.selects "StreamFuser$Rewriter" ({ cls := "StreamFuser$Rewriter", name := "swapDropWithTake", desc := "(I)V" } : MethodName) ({ cls := "StreamFuser$Rewriter", name := "swapDropWithTake", desc := "(I)V" } : MethodName)) ∈ sf_T := sf_S_1 (q := (⟨"StreamFuser$Rewriter", "swapDropWithTake", "(I)V"⟩, 3)) 15 rfl
theorem wt_16 : (Cond.selects "StreamFuser$Rewriter" ({ cls := "StreamFuser$Rewriter", name := "keepOnePart", desc := "(I)V" } : MethodName) ({ cls := "StreamFuser$Rewriter", name := "keepOnePart", desc := "(I)V" } : MethodName)) ∈ sf_T := sf_S_2 (q := (⟨"StreamFuser$Rewriter", "keepOnePart", "(I)V"⟩, 3)) 0 rfl
theorem wt_17 : (Cond.selects "StreamFuser$Rewriter" ({ cls := "StreamFuser$Rewriter", name := "mergeWithNext", desc := "(II)V" } : MethodName) ({ cls := "StreamFuser$Rewriter", name := "mergeWithNext", desc := "(II)V" } : MethodName)) ∈ sf_T := sf_S_2 (q := (⟨"StreamFuser$Rewriter", "mergeWithNext", "(II)V"⟩, 3)) 1 rfl
theorem wt_18 : (Cond.selects "StreamFuser$Plan" ({ cls := "StreamFuser$Plan", name := "measure", desc := "()V" } : MethodName) ({ cls := "StreamFuser$Plan", name := "measure", desc := "()V" } : MethodName)) ∈ sf_T := sf_S_2 (q := (⟨"StreamFuser$Plan", "measure", "()V"⟩, 12)) 2 rfl
theorem wt_19 : (Cond.selects "StreamFuser$Plan" ({ cls := "StreamFuser$Plan", name := "measureFromParts", desc := "(I)V" } : MethodName) ({ cls := "StreamFuser$Plan", name := "measureFromParts", desc := "(I)V" } : MethodName)) ∈ sf_T := sf_S_2 (q := (⟨"StreamFuser$Plan", "measureFromParts", "(I)V"⟩, 12)) 3 rfl
theorem wt_20 : (Cond.selects "StreamFuser$Plan" ({ cls := "StreamFuser$Plan", name := "measureParts", desc := "(I)V" } : MethodName) ({ cls := "StreamFuser$Plan", name := "measureParts", desc := "(I)V" } : MethodName)) ∈ sf_T := sf_S_2 (q := (⟨"StreamFuser$Plan", "measureParts", "(I)V"⟩, 12)) 4 rfl
theorem wt_21 : (Cond.selects "StreamFuser$Printer" ({ cls := "StreamFuser$Printer", name := "print", desc := "()V" } : MethodName) ({ cls := "StreamFuser$Printer", name := "print", desc := "()V" } : MethodName)) ∈ sf_T := sf_S_2 (q := (⟨"StreamFuser$Printer", "print", "()V"⟩, 3)) 5 rfl
theorem wt_22 : (Cond.selects "StreamFuser$Printer" ({ cls := "StreamFuser$Printer", name := "printNode", desc := "(I)V" } : MethodName) ({ cls := "StreamFuser$Printer", name := "printNode", desc := "(I)V" } : MethodName)) ∈ sf_T := sf_S_2 (q := (⟨"StreamFuser$Printer", "printNode", "(I)V"⟩, 3)) 6 rfl
theorem wt_23 : (Cond.selects "StreamFuser$Printer" ({ cls := "StreamFuser$Printer", name := "put", desc := "(I)V" } : MethodName) ({ cls := "StreamFuser$Printer", name := "put", desc := "(I)V" } : MethodName)) ∈ sf_T := sf_S_2 (q := (⟨"StreamFuser$Printer", "put", "(I)V"⟩, 3)) 7 rfl
theorem wt_24 : (Cond.selects "StreamFuser$Printer" ({ cls := "StreamFuser$Printer", name := "putNumber", desc := "(I)V" } : MethodName) ({ cls := "StreamFuser$Printer", name := "putNumber", desc := "(I)V" } : MethodName)) ∈ sf_T := sf_S_2 (q := (⟨"StreamFuser$Printer", "putNumber", "(I)V"⟩, 3)) 8 rfl
theorem wt_25 : (Cond.selects "StreamFuser$Plan" ({ cls := "StreamFuser$Plan", name := "takeFrom", desc := "(LStreamFuser$Plan;)V" } : MethodName) ({ cls := "StreamFuser$Plan", name := "takeFrom", desc := "(LStreamFuser$Plan;)V" } : MethodName)) ∈ sf_T := sf_S_2 (q := (⟨"StreamFuser$Plan", "takeFrom", "(LStreamFuser$Plan;)V"⟩, 12)) 9 rfl
theorem wt_26 : (Cond.selects "StreamFuser$Plan" ({ cls := "StreamFuser$Plan", name := "add", desc := "(IIII)V" } : MethodName) ({ cls := "StreamFuser$Plan", name := "add", desc := "(IIII)V" } : MethodName)) ∈ sf_T := sf_S_2 (q := (⟨"StreamFuser$Plan", "add", "(IIII)V"⟩, 12)) 10 rfl
theorem wt_27 : (Cond.selects "StreamFuser$Asker" ({ cls := "StreamFuser$Asker", name := "play", desc := "(I)V" } : MethodName) ({ cls := "StreamFuser$Asker", name := "play", desc := "(I)V" } : MethodName)) ∈ sf_T := sf_S_2 (q := (⟨"StreamFuser$Asker", "play", "(I)V"⟩, 7)) 11 rfl
theorem wt_28 : (Cond.selects "StreamFuser$Run" ({ cls := "StreamFuser$Run", name := "begin", desc := "()V" } : MethodName) ({ cls := "StreamFuser$Run", name := "begin", desc := "()V" } : MethodName)) ∈ sf_T := sf_S_2 (q := (⟨"StreamFuser$Run", "begin", "()V"⟩, 10)) 12 rfl
theorem wt_29 : (Cond.selects "StreamFuser$Asker" ({ cls := "StreamFuser$Asker", name := "ask", desc := "(II)Z" } : MethodName) ({ cls := "StreamFuser$Asker", name := "ask", desc := "(II)Z" } : MethodName)) ∈ sf_T := sf_S_2 (q := (⟨"StreamFuser$Asker", "ask", "(II)Z"⟩, 7)) 13 rfl
theorem wt_30 : (Cond.selects "StreamFuser$Run" ({ cls := "StreamFuser$Run", name := "fail", desc := "(II)V" } : MethodName) ({ cls := "StreamFuser$Run", name := "fail", desc := "(II)V" } : MethodName)) ∈ sf_T := sf_S_2 (q := (⟨"StreamFuser$Run", "fail", "(II)V"⟩, 10)) 14 rfl
theorem wt_31 : (Cond.selects "StreamFuser$Run" ({ cls := "StreamFuser$Run", name := "note", desc := "(II)V" } : MethodName) ({ cls := "StreamFuser$Run", name := "note", desc := "(II)V" } : MethodName)) ∈ sf_T := sf_S_2 (q := (⟨"StreamFuser$Run", "note", "(II)V"⟩, 10)) 15 rfl
theorem wt_32 : (Cond.selects "StreamFuser$Asker" ({ cls := "StreamFuser$Asker", name := "askFilter", desc := "(II)Z" } : MethodName) ({ cls := "StreamFuser$Asker", name := "askFilter", desc := "(II)Z" } : MethodName)) ∈ sf_T := sf_S_3 (q := (⟨"StreamFuser$Asker", "askFilter", "(II)Z"⟩, 7)) 0 rfl
theorem wt_33 : (Cond.selects "StreamFuser$Asker" ({ cls := "StreamFuser$Asker", name := "askWhile", desc := "(II)Z" } : MethodName) ({ cls := "StreamFuser$Asker", name := "askWhile", desc := "(II)Z" } : MethodName)) ∈ sf_T := sf_S_3 (q := (⟨"StreamFuser$Asker", "askWhile", "(II)Z"⟩, 7)) 1 rfl
theorem wt_34 : (Cond.selects "StreamFuser$Asker" ({ cls := "StreamFuser$Asker", name := "askTake", desc := "(II)Z" } : MethodName) ({ cls := "StreamFuser$Asker", name := "askTake", desc := "(II)Z" } : MethodName)) ∈ sf_T := sf_S_3 (q := (⟨"StreamFuser$Asker", "askTake", "(II)Z"⟩, 7)) 2 rfl
theorem wt_35 : (Cond.selects "StreamFuser$Asker" ({ cls := "StreamFuser$Asker", name := "askDrop", desc := "(II)Z" } : MethodName) ({ cls := "StreamFuser$Asker", name := "askDrop", desc := "(II)Z" } : MethodName)) ∈ sf_T := sf_S_3 (q := (⟨"StreamFuser$Asker", "askDrop", "(II)Z"⟩, 7)) 3 rfl
theorem wt_36 : (Cond.selects "StreamFuser$Asker" ({ cls := "StreamFuser$Asker", name := "askChain", desc := "(II)Z" } : MethodName) ({ cls := "StreamFuser$Asker", name := "askChain", desc := "(II)Z" } : MethodName)) ∈ sf_T := sf_S_3 (q := (⟨"StreamFuser$Asker", "askChain", "(II)Z"⟩, 7)) 4 rfl
theorem wt_37 : (Cond.selects "StreamFuser$Run" ({ cls := "StreamFuser$Run", name := "failed", desc := "()Z" } : MethodName) ({ cls := "StreamFuser$Run", name := "failed", desc := "()Z" } : MethodName)) ∈ sf_T := sf_S_3 (q := (⟨"StreamFuser$Run", "failed", "()Z"⟩, 10)) 5 rfl
theorem wt_38 : (Cond.selects "StreamFuser$Asker" ({ cls := "StreamFuser$Asker", name := "askZip", desc := "(II)Z" } : MethodName) ({ cls := "StreamFuser$Asker", name := "askZip", desc := "(II)Z" } : MethodName)) ∈ sf_T := sf_S_3 (q := (⟨"StreamFuser$Asker", "askZip", "(II)Z"⟩, 7)) 6 rfl
theorem wt_39 : (Cond.selects "StreamFuser$Asker" ({ cls := "StreamFuser$Asker", name := "askOpener", desc := "(II)Z" } : MethodName) ({ cls := "StreamFuser$Asker", name := "askOpener", desc := "(II)Z" } : MethodName)) ∈ sf_T := sf_S_3 (q := (⟨"StreamFuser$Asker", "askOpener", "(II)Z"⟩, 7)) 7 rfl
theorem wt_40 : (Cond.selects "StreamFuser$Sheets" ({ cls := "StreamFuser$Sheets", name := "isLost", desc := "(I)Z" } : MethodName) ({ cls := "StreamFuser$Sheets", name := "isLost", desc := "(I)Z" } : MethodName)) ∈ sf_T := sf_S_3 (q := (⟨"StreamFuser$Sheets", "isLost", "(I)Z"⟩, 3)) 8 rfl
theorem wt_41 : (Cond.selects "StreamFuser$Run" ({ cls := "StreamFuser$Run", name := "draw", desc := "(I)Z" } : MethodName) ({ cls := "StreamFuser$Run", name := "draw", desc := "(I)Z" } : MethodName)) ∈ sf_T := sf_S_3 (q := (⟨"StreamFuser$Run", "draw", "(I)Z"⟩, 10)) 9 rfl
theorem wt_42 : (Cond.selects "StreamFuser$Sheets" ({ cls := "StreamFuser$Sheets", name := "at", desc := "(II)I" } : MethodName) ({ cls := "StreamFuser$Sheets", name := "at", desc := "(II)I" } : MethodName)) ∈ sf_T := sf_S_3 (q := (⟨"StreamFuser$Sheets", "at", "(II)I"⟩, 3)) 10 rfl
theorem wt_43 : (Cond.selects "StreamFuser$Run" ({ cls := "StreamFuser$Run", name := "give", desc := "(I)V" } : MethodName) ({ cls := "StreamFuser$Run", name := "give", desc := "(I)V" } : MethodName)) ∈ sf_T := sf_S_3 (q := (⟨"StreamFuser$Run", "give", "(I)V"⟩, 10)) 11 rfl
theorem wt_44 : (Cond.selects "StreamFuser$Stepper" ({ cls := "StreamFuser$Stepper", name := "play", desc := "(I)V" } : MethodName) ({ cls := "StreamFuser$Stepper", name := "play", desc := "(I)V" } : MethodName)) ∈ sf_T := sf_S_3 (q := (⟨"StreamFuser$Stepper", "play", "(I)V"⟩, 8)) 12 rfl
theorem wt_45 : (Cond.selects "StreamFuser$Stepper" ({ cls := "StreamFuser$Stepper", name := "step", desc := "(II)I" } : MethodName) ({ cls := "StreamFuser$Stepper", name := "step", desc := "(II)I" } : MethodName)) ∈ sf_T := sf_S_3 (q := (⟨"StreamFuser$Stepper", "step", "(II)I"⟩, 8)) 13 rfl
theorem wt_46 : (Cond.selects "StreamFuser$Stepper" ({ cls := "StreamFuser$Stepper", name := "stepChain", desc := "(II)I" } : MethodName) ({ cls := "StreamFuser$Stepper", name := "stepChain", desc := "(II)I" } : MethodName)) ∈ sf_T := sf_S_3 (q := (⟨"StreamFuser$Stepper", "stepChain", "(II)I"⟩, 8)) 14 rfl
theorem wt_47 : (Cond.selects "StreamFuser$Stepper" ({ cls := "StreamFuser$Stepper", name := "stepZip", desc := "(II)I" } : MethodName) ({ cls := "StreamFuser$Stepper", name := "stepZip", desc := "(II)I" } : MethodName)) ∈ sf_T := sf_S_3 (q := (⟨"StreamFuser$Stepper", "stepZip", "(II)I"⟩, 8)) 15 rfl
theorem wt_48 : (Cond.selects "StreamFuser$Stepper" ({ cls := "StreamFuser$Stepper", name := "stepOpener", desc := "(II)I" } : MethodName) ({ cls := "StreamFuser$Stepper", name := "stepOpener", desc := "(II)I" } : MethodName)) ∈ sf_T := sf_S_4 (q := (⟨"StreamFuser$Stepper", "stepOpener", "(II)I"⟩, 8)) 0 rfl
theorem wt_49 : (Cond.selects "StreamFuser$Stepper" ({ cls := "StreamFuser$Stepper", name := "given", desc := "(Z)I" } : MethodName) ({ cls := "StreamFuser$Stepper", name := "given", desc := "(Z)I" } : MethodName)) ∈ sf_T := sf_S_4 (q := (⟨"StreamFuser$Stepper", "given", "(Z)I"⟩, 8)) 1 rfl
theorem wt_50 : (Cond.selects "StreamFuser$Stepper" ({ cls := "StreamFuser$Stepper", name := "stepOne", desc := "(II)I" } : MethodName) ({ cls := "StreamFuser$Stepper", name := "stepOne", desc := "(II)I" } : MethodName)) ∈ sf_T := sf_S_4 (q := (⟨"StreamFuser$Stepper", "stepOne", "(II)I"⟩, 8)) 2 rfl
theorem wt_51 : (Cond.selects "StreamFuser$Maker" ({ cls := "StreamFuser$Maker", name := "play", desc := "(I)V" } : MethodName) ({ cls := "StreamFuser$Maker", name := "play", desc := "(I)V" } : MethodName)) ∈ sf_T := sf_S_4 (q := (⟨"StreamFuser$Maker", "play", "(I)V"⟩, 7)) 3 rfl
theorem wt_52 : (Cond.selects "StreamFuser$Maker" ({ cls := "StreamFuser$Maker", name := "make", desc := "(II)Z" } : MethodName) ({ cls := "StreamFuser$Maker", name := "make", desc := "(II)Z" } : MethodName)) ∈ sf_T := sf_S_4 (q := (⟨"StreamFuser$Maker", "make", "(II)Z"⟩, 7)) 4 rfl
theorem wt_53 : (Cond.selects "StreamFuser$Maker" ({ cls := "StreamFuser$Maker", name := "fill", desc := "(II)Z" } : MethodName) ({ cls := "StreamFuser$Maker", name := "fill", desc := "(II)Z" } : MethodName)) ∈ sf_T := sf_S_4 (q := (⟨"StreamFuser$Maker", "fill", "(II)Z"⟩, 7)) 5 rfl
theorem wt_54 : (Cond.selects "StreamFuser$Maker" ({ cls := "StreamFuser$Maker", name := "fillFromProducer", desc := "(I)Z" } : MethodName) ({ cls := "StreamFuser$Maker", name := "fillFromProducer", desc := "(I)Z" } : MethodName)) ∈ sf_T := sf_S_4 (q := (⟨"StreamFuser$Maker", "fillFromProducer", "(I)Z"⟩, 7)) 6 rfl
theorem wt_55 : (Cond.selects "StreamFuser$Maker" ({ cls := "StreamFuser$Maker", name := "add", desc := "(II)V" } : MethodName) ({ cls := "StreamFuser$Maker", name := "add", desc := "(II)V" } : MethodName)) ∈ sf_T := sf_S_4 (q := (⟨"StreamFuser$Maker", "add", "(II)V"⟩, 7)) 7 rfl
theorem wt_56 : (Cond.selects "StreamFuser$Maker" ({ cls := "StreamFuser$Maker", name := "fillByOpening", desc := "(II)Z" } : MethodName) ({ cls := "StreamFuser$Maker", name := "fillByOpening", desc := "(II)Z" } : MethodName)) ∈ sf_T := sf_S_4 (q := (⟨"StreamFuser$Maker", "fillByOpening", "(II)Z"⟩, 7)) 8 rfl
theorem wt_57 : (Cond.selects "StreamFuser$Maker" ({ cls := "StreamFuser$Maker", name := "element", desc := "(II)I" } : MethodName) ({ cls := "StreamFuser$Maker", name := "element", desc := "(II)I" } : MethodName)) ∈ sf_T := sf_S_4 (q := (⟨"StreamFuser$Maker", "element", "(II)I"⟩, 7)) 9 rfl
theorem wt_58 : (Cond.selects "StreamFuser$Maker" ({ cls := "StreamFuser$Maker", name := "addRow", desc := "(II)Z" } : MethodName) ({ cls := "StreamFuser$Maker", name := "addRow", desc := "(II)Z" } : MethodName)) ∈ sf_T := sf_S_4 (q := (⟨"StreamFuser$Maker", "addRow", "(II)Z"⟩, 7)) 10 rfl
theorem wt_59 : (Cond.selects "StreamFuser$Maker" ({ cls := "StreamFuser$Maker", name := "fillFromInput", desc := "(I)Z" } : MethodName) ({ cls := "StreamFuser$Maker", name := "fillFromInput", desc := "(I)Z" } : MethodName)) ∈ sf_T := sf_S_4 (q := (⟨"StreamFuser$Maker", "fillFromInput", "(I)Z"⟩, 7)) 11 rfl
theorem wt_60 : (Cond.selects "StreamFuser$Maker" ({ cls := "StreamFuser$Maker", name := "zip", desc := "(II)V" } : MethodName) ({ cls := "StreamFuser$Maker", name := "zip", desc := "(II)V" } : MethodName)) ∈ sf_T := sf_S_4 (q := (⟨"StreamFuser$Maker", "zip", "(II)V"⟩, 7)) 12 rfl
theorem wt_61 : (Cond.selects "StreamFuser$Reader" ({ cls := "StreamFuser$Reader", name := "append", desc := "(I)Z" } : MethodName) ({ cls := "StreamFuser$Reader", name := "append", desc := "(I)Z" } : MethodName)) ∈ sf_T := sf_S_4 (q := (⟨"StreamFuser$Reader", "append", "(I)Z"⟩, 7)) 13 rfl
theorem wt_62 : (Cond.selects "StreamFuser$Reader" ({ cls := "StreamFuser$Reader", name := "read", desc := "()I" } : MethodName) ({ cls := "StreamFuser$Reader", name := "read", desc := "()I" } : MethodName)) ∈ sf_T := sf_S_4 (q := (⟨"StreamFuser$Reader", "read", "()I"⟩, 7)) 14 rfl
theorem wt_63 : (Cond.selects "StreamFuser$Reader" ({ cls := "StreamFuser$Reader", name := "expect", desc := "(I)V" } : MethodName) ({ cls := "StreamFuser$Reader", name := "expect", desc := "(I)V" } : MethodName)) ∈ sf_T := sf_S_4 (q := (⟨"StreamFuser$Reader", "expect", "(I)V"⟩, 7)) 15 rfl
theorem wt_64 : (Cond.selects "StreamFuser$Reader" ({ cls := "StreamFuser$Reader", name := "readNode", desc := "()V" } : MethodName) ({ cls := "StreamFuser$Reader", name := "readNode", desc := "()V" } : MethodName)) ∈ sf_T := sf_S_5 (q := (⟨"StreamFuser$Reader", "readNode", "()V"⟩, 7)) 0 rfl
theorem wt_65 : (Cond.selects "StreamFuser$Reader" ({ cls := "StreamFuser$Reader", name := "peek", desc := "()I" } : MethodName) ({ cls := "StreamFuser$Reader", name := "peek", desc := "()I" } : MethodName)) ∈ sf_T := sf_S_5 (q := (⟨"StreamFuser$Reader", "peek", "()I"⟩, 7)) 1 rfl
theorem wt_66 : (Cond.selects "StreamFuser$Reader" ({ cls := "StreamFuser$Reader", name := "accept", desc := "(Z)V" } : MethodName) ({ cls := "StreamFuser$Reader", name := "accept", desc := "(Z)V" } : MethodName)) ∈ sf_T := sf_S_5 (q := (⟨"StreamFuser$Reader", "accept", "(Z)V"⟩, 7)) 2 rfl
theorem wt_67 : (Cond.selects "StreamFuser$Reader" ({ cls := "StreamFuser$Reader", name := "readMark", desc := "(I)I" } : MethodName) ({ cls := "StreamFuser$Reader", name := "readMark", desc := "(I)I" } : MethodName)) ∈ sf_T := sf_S_5 (q := (⟨"StreamFuser$Reader", "readMark", "(I)I"⟩, 7)) 3 rfl
theorem wt_68 : (Cond.selects "StreamFuser$Reader" ({ cls := "StreamFuser$Reader", name := "readNumber", desc := "(I)I" } : MethodName) ({ cls := "StreamFuser$Reader", name := "readNumber", desc := "(I)I" } : MethodName)) ∈ sf_T := sf_S_5 (q := (⟨"StreamFuser$Reader", "readNumber", "(I)I"⟩, 7)) 4 rfl
theorem wt_69 : (Cond.selects "StreamFuser$Reader" ({ cls := "StreamFuser$Reader", name := "expectParts", desc := "(II)V" } : MethodName) ({ cls := "StreamFuser$Reader", name := "expectParts", desc := "(II)V" } : MethodName)) ∈ sf_T := sf_S_5 (q := (⟨"StreamFuser$Reader", "expectParts", "(II)V"⟩, 7)) 5 rfl
theorem wt_70 : (Cond.selects "StreamFuser$Run" ({ cls := "StreamFuser$Run", name := "kept", desc := "()I" } : MethodName) ({ cls := "StreamFuser$Run", name := "kept", desc := "()I" } : MethodName)) ∈ sf_T := sf_S_5 (q := (⟨"StreamFuser$Run", "kept", "()I"⟩, 10)) 6 rfl
theorem wt_71 : (Cond.selects "StreamFuser" ({ cls := "StreamFuser", name := "find", desc := "(I)I" } : MethodName) ({ cls := "StreamFuser", name := "find", desc := "(I)I" } : MethodName)) ∈ sf_T := sf_S_5 (q := (⟨"StreamFuser", "find", "(I)I"⟩, 14)) 7 rfl
theorem wt_72 : (Cond.selects "StreamFuser$Sheets" ({ cls := "StreamFuser$Sheets", name := "renew", desc := "(III)V" } : MethodName) ({ cls := "StreamFuser$Sheets", name := "renew", desc := "(III)V" } : MethodName)) ∈ sf_T := sf_S_5 (q := (⟨"StreamFuser$Sheets", "renew", "(III)V"⟩, 3)) 8 rfl
theorem wt_73 : (Cond.selects "StreamFuser" ({ cls := "StreamFuser", name := "elementError", desc := "(III)I" } : MethodName) ({ cls := "StreamFuser", name := "elementError", desc := "(III)I" } : MethodName)) ∈ sf_T := sf_S_5 (q := (⟨"StreamFuser", "elementError", "(III)I"⟩, 14)) 9 rfl
theorem wt_74 : (Cond.selects "StreamFuser$Sheets" ({ cls := "StreamFuser$Sheets", name := "hasElement", desc := "(II)Z" } : MethodName) ({ cls := "StreamFuser$Sheets", name := "hasElement", desc := "(II)Z" } : MethodName)) ∈ sf_T := sf_S_5 (q := (⟨"StreamFuser$Sheets", "hasElement", "(II)Z"⟩, 3)) 10 rfl
theorem wt_75 : (Cond.selects "StreamFuser$Sheets" ({ cls := "StreamFuser$Sheets", name := "store", desc := "(III)V" } : MethodName) ({ cls := "StreamFuser$Sheets", name := "store", desc := "(III)V" } : MethodName)) ∈ sf_T := sf_S_5 (q := (⟨"StreamFuser$Sheets", "store", "(III)V"⟩, 3)) 11 rfl
theorem wt_76 : (Cond.initialized "StreamFuserLaw") ∈ sf_T := sf_T_1 0 rfl rfl
theorem wt_77 : (Cond.initialized "StreamFuser") ∈ sf_T := sf_T_1 1 rfl rfl
theorem wt_78 : (Cond.initialized "StreamFuser$Plan") ∈ sf_T := sf_T_1 2 rfl rfl
theorem wt_79 : (Cond.initialized "StreamFuser$Printer") ∈ sf_T := sf_T_1 3 rfl rfl
theorem wt_80 : (Cond.initialized "StreamFuser$Rewriter") ∈ sf_T := sf_T_1 4 rfl rfl
theorem wt_81 : (Cond.initialized "StreamFuser$Sheets") ∈ sf_T := sf_T_1 5 rfl rfl
theorem wt_82 : (Cond.initialized "StreamFuser$Run") ∈ sf_T := sf_T_1 6 rfl rfl
theorem wt_83 : (Cond.initialized "StreamFuser$Way") ∈ sf_T := sf_T_1 7 rfl rfl
theorem wt_84 : (Cond.initialized "StreamFuser$Walk") ∈ sf_T := sf_T_1 8 rfl rfl
theorem wt_85 : (Cond.initialized "StreamFuser$Asker") ∈ sf_T := sf_T_1 9 rfl rfl
theorem wt_86 : (Cond.initialized "StreamFuser$Stepper") ∈ sf_T := sf_T_1 10 rfl rfl
theorem wt_87 : (Cond.initialized "StreamFuser$Maker") ∈ sf_T := sf_T_1 11 rfl rfl
theorem wt_88 : (Cond.initialized "StreamFuser$Reader") ∈ sf_T := sf_T_1 12 rfl rfl
theorem wt_89 : (Cond.initialized "java/lang/Math") ∈ sf_T := sf_T_1 13 rfl rfl
theorem wt_90 : (Cond.initialized "java/lang/System") ∈ sf_T := sf_T_1 14 rfl rfl
theorem wt_93 : (Cond.methodLink "StreamFuserLaw" (71 : Nat) ({ cls := "StreamFuser", name := "<init>", desc := "()V" } : MethodName)) ∈ sf_T := sf_T_1 17 rfl rfl
theorem wt_94 : (Cond.instanceMethod ({ cls := "StreamFuser", name := "<init>", desc := "()V" } : MethodName)) ∈ sf_T := sf_T_1 18 rfl rfl
theorem wt_96 : (Cond.methodLink "StreamFuser" (7 : Nat) ({ cls := "java/lang/Object", name := "<init>", desc := "()V" } : MethodName)) ∈ sf_T := sf_T_1 20 rfl rfl
theorem wt_97 : (Cond.instanceMethod ({ cls := "java/lang/Object", name := "<init>", desc := "()V" } : MethodName)) ∈ sf_T := sf_T_1 21 rfl rfl
theorem wt_101 : (Cond.methodLinkNest "StreamFuser" (15 : Nat) ({ cls := "StreamFuser$Plan", name := "<init>", desc := "()V" } : MethodName) "StreamFuser") ∈ sf_N := sf_N_1 25 rfl rfl
theorem wt_102 : (Cond.instanceMethod ({ cls := "StreamFuser$Plan", name := "<init>", desc := "()V" } : MethodName)) ∈ sf_T := sf_T_1 26 rfl rfl
theorem wt_104 : (Cond.methodLink "StreamFuser$Plan" (3 : Nat) ({ cls := "java/lang/Object", name := "<init>", desc := "()V" } : MethodName)) ∈ sf_T := sf_T_1 28 rfl rfl
theorem wt_105 : (Cond.fieldLink "StreamFuser$Plan" (9 : Nat) "StreamFuser$Plan" "letter" "[I") ∈ sf_T := sf_T_1 29 rfl rfl
theorem wt_106 : (Cond.fieldLinkNest "StreamFuser$Printer" (30 : Nat) "StreamFuser$Plan" "letter" "[I" "StreamFuser") ∈ sf_N := sf_N_1 30 rfl rfl
theorem wt_107 : (Cond.fieldLinkNest "StreamFuser$Stepper" (59 : Nat) "StreamFuser$Plan" "letter" "[I" "StreamFuser") ∈ sf_N := sf_N_1 31 rfl rfl
theorem wt_108 : (Cond.fieldLinkNest "StreamFuser$Asker" (53 : Nat) "StreamFuser$Plan" "letter" "[I" "StreamFuser") ∈ sf_N := sf_N_1 32 rfl rfl
theorem wt_109 : (Cond.fieldLinkNest "StreamFuser$Maker" (56 : Nat) "StreamFuser$Plan" "letter" "[I" "StreamFuser") ∈ sf_N := sf_N_1 33 rfl rfl
theorem wt_110 : (Cond.fieldLinkNest "StreamFuser$Way" (61 : Nat) "StreamFuser$Plan" "letter" "[I" "StreamFuser") ∈ sf_N := sf_N_1 34 rfl rfl
theorem wt_111 : (Cond.fieldLinkNest "StreamFuser$Rewriter" (48 : Nat) "StreamFuser$Plan" "letter" "[I" "StreamFuser") ∈ sf_N := sf_N_1 35 rfl rfl
theorem wt_112 : (Cond.fieldLinkNest "StreamFuser" (117 : Nat) "StreamFuser$Plan" "letter" "[I" "StreamFuser") ∈ sf_N := sf_N_1 36 rfl rfl
theorem wt_113 : (Cond.fieldLink "StreamFuser$Plan" (15 : Nat) "StreamFuser$Plan" "mark" "[I") ∈ sf_T := sf_T_1 37 rfl rfl
theorem wt_114 : (Cond.fieldLinkNest "StreamFuser$Way" (40 : Nat) "StreamFuser$Plan" "mark" "[I" "StreamFuser") ∈ sf_N := sf_N_1 38 rfl rfl
theorem wt_115 : (Cond.fieldLinkNest "StreamFuser$Printer" (47 : Nat) "StreamFuser$Plan" "mark" "[I" "StreamFuser") ∈ sf_N := sf_N_1 39 rfl rfl
theorem wt_116 : (Cond.fieldLinkNest "StreamFuser" (121 : Nat) "StreamFuser$Plan" "mark" "[I" "StreamFuser") ∈ sf_N := sf_N_1 40 rfl rfl
theorem wt_117 : (Cond.fieldLink "StreamFuser$Plan" (18 : Nat) "StreamFuser$Plan" "first" "[I") ∈ sf_T := sf_T_1 41 rfl rfl
theorem wt_118 : (Cond.fieldLinkNest "StreamFuser$Printer" (53 : Nat) "StreamFuser$Plan" "first" "[I" "StreamFuser") ∈ sf_N := sf_N_1 42 rfl rfl
theorem wt_119 : (Cond.fieldLinkNest "StreamFuser$Stepper" (84 : Nat) "StreamFuser$Plan" "first" "[I" "StreamFuser") ∈ sf_N := sf_N_1 43 rfl rfl
theorem wt_120 : (Cond.fieldLinkNest "StreamFuser$Way" (67 : Nat) "StreamFuser$Plan" "first" "[I" "StreamFuser") ∈ sf_N := sf_N_1 44 rfl rfl
theorem wt_121 : (Cond.fieldLinkNest "StreamFuser$Rewriter" (54 : Nat) "StreamFuser$Plan" "first" "[I" "StreamFuser") ∈ sf_N := sf_N_1 45 rfl rfl
theorem wt_122 : (Cond.fieldLinkNest "StreamFuser$Asker" (95 : Nat) "StreamFuser$Plan" "first" "[I" "StreamFuser") ∈ sf_N := sf_N_1 46 rfl rfl
theorem wt_123 : (Cond.fieldLinkNest "StreamFuser" (124 : Nat) "StreamFuser$Plan" "first" "[I" "StreamFuser") ∈ sf_N := sf_N_1 47 rfl rfl
theorem wt_124 : (Cond.fieldLinkNest "StreamFuser$Maker" (116 : Nat) "StreamFuser$Plan" "first" "[I" "StreamFuser") ∈ sf_N := sf_N_1 48 rfl rfl
theorem wt_125 : (Cond.fieldLink "StreamFuser$Plan" (21 : Nat) "StreamFuser$Plan" "second" "[I") ∈ sf_T := sf_T_1 49 rfl rfl
theorem wt_126 : (Cond.fieldLinkNest "StreamFuser$Printer" (59 : Nat) "StreamFuser$Plan" "second" "[I" "StreamFuser") ∈ sf_N := sf_N_1 50 rfl rfl
theorem wt_127 : (Cond.fieldLinkNest "StreamFuser$Way" (64 : Nat) "StreamFuser$Plan" "second" "[I" "StreamFuser") ∈ sf_N := sf_N_1 51 rfl rfl
theorem wt_128 : (Cond.fieldLinkNest "StreamFuser$Rewriter" (51 : Nat) "StreamFuser$Plan" "second" "[I" "StreamFuser") ∈ sf_N := sf_N_1 52 rfl rfl
theorem wt_129 : (Cond.fieldLinkNest "StreamFuser" (127 : Nat) "StreamFuser$Plan" "second" "[I" "StreamFuser") ∈ sf_N := sf_N_1 53 rfl rfl
theorem wt_130 : (Cond.fieldLinkNest "StreamFuser$Way" (27 : Nat) "StreamFuser$Plan" "size" "I" "StreamFuser") ∈ sf_N := sf_N_1 54 rfl rfl
theorem wt_131 : (Cond.fieldLinkNest "StreamFuser$Printer" (21 : Nat) "StreamFuser$Plan" "size" "I" "StreamFuser") ∈ sf_N := sf_N_1 55 rfl rfl
theorem wt_132 : (Cond.fieldLinkNest "StreamFuser$Asker" (25 : Nat) "StreamFuser$Plan" "size" "I" "StreamFuser") ∈ sf_N := sf_N_1 56 rfl rfl
theorem wt_133 : (Cond.fieldLinkNest "StreamFuser$Stepper" (29 : Nat) "StreamFuser$Plan" "size" "I" "StreamFuser") ∈ sf_N := sf_N_1 57 rfl rfl
theorem wt_134 : (Cond.fieldLinkNest "StreamFuser$Walk" (29 : Nat) "StreamFuser$Plan" "size" "I" "StreamFuser") ∈ sf_N := sf_N_1 58 rfl rfl
theorem wt_135 : (Cond.fieldLinkNest "StreamFuser$Rewriter" (41 : Nat) "StreamFuser$Plan" "size" "I" "StreamFuser") ∈ sf_N := sf_N_1 59 rfl rfl
theorem wt_136 : (Cond.fieldLinkNest "StreamFuser$Reader" (26 : Nat) "StreamFuser$Plan" "size" "I" "StreamFuser") ∈ sf_N := sf_N_1 60 rfl rfl
theorem wt_137 : (Cond.fieldLink "StreamFuser$Plan" (44 : Nat) "StreamFuser$Plan" "size" "I") ∈ sf_T := sf_T_1 61 rfl rfl
theorem wt_138 : (Cond.fieldLinkNest "StreamFuser" (110 : Nat) "StreamFuser$Plan" "size" "I" "StreamFuser") ∈ sf_N := sf_N_1 62 rfl rfl
theorem wt_139 : (Cond.fieldLink "StreamFuser$Plan" (24 : Nat) "StreamFuser$Plan" "end" "[I") ∈ sf_T := sf_T_1 63 rfl rfl
theorem wt_140 : (Cond.fieldLink "StreamFuser$Plan" (27 : Nat) "StreamFuser$Plan" "within" "[I") ∈ sf_T := sf_T_1 64 rfl rfl
theorem wt_141 : (Cond.fieldLinkNest "StreamFuser" (130 : Nat) "StreamFuser$Plan" "within" "[I" "StreamFuser") ∈ sf_N := sf_N_1 65 rfl rfl
theorem wt_142 : (Cond.fieldLink "StreamFuser$Plan" (30 : Nat) "StreamFuser$Plan" "nested" "[I") ∈ sf_T := sf_T_1 66 rfl rfl
theorem wt_143 : (Cond.fieldLinkNest "StreamFuser$Way" (49 : Nat) "StreamFuser$Plan" "nested" "[I" "StreamFuser") ∈ sf_N := sf_N_1 67 rfl rfl
theorem wt_144 : (Cond.fieldLinkNest "StreamFuser$Maker" (94 : Nat) "StreamFuser$Plan" "nested" "[I" "StreamFuser") ∈ sf_N := sf_N_1 68 rfl rfl
theorem wt_145 : (Cond.fieldLink "StreamFuser$Plan" (33 : Nat) "StreamFuser$Plan" "opener" "[I") ∈ sf_T := sf_T_1 69 rfl rfl
theorem wt_146 : (Cond.fieldLinkNest "StreamFuser$Way" (33 : Nat) "StreamFuser$Plan" "opener" "[I" "StreamFuser") ∈ sf_N := sf_N_1 70 rfl rfl
theorem wt_147 : (Cond.fieldLink "StreamFuser$Plan" (36 : Nat) "StreamFuser$Plan" "pure" "[Z") ∈ sf_T := sf_T_1 71 rfl rfl
theorem wt_148 : (Cond.fieldLinkNest "StreamFuser$Rewriter" (75 : Nat) "StreamFuser$Plan" "pure" "[Z" "StreamFuser") ∈ sf_N := sf_N_1 72 rfl rfl
theorem wt_149 : (Cond.fieldLinkNest "StreamFuser" (133 : Nat) "StreamFuser$Plan" "pure" "[Z" "StreamFuser") ∈ sf_N := sf_N_1 73 rfl rfl
theorem wt_150 : (Cond.fieldLink "StreamFuser$Plan" (40 : Nat) "StreamFuser$Plan" "deepest" "I") ∈ sf_T := sf_T_1 74 rfl rfl
theorem wt_151 : (Cond.fieldLinkNest "StreamFuser" (253 : Nat) "StreamFuser$Plan" "deepest" "I" "StreamFuser") ∈ sf_N := sf_N_1 75 rfl rfl
theorem wt_152 : (Cond.fieldLinkNest "StreamFuser" (159 : Nat) "StreamFuser$Plan" "endless" "Z" "StreamFuser") ∈ sf_N := sf_N_1 76 rfl rfl
theorem wt_153 : (Cond.fieldLink "StreamFuser$Plan" (76 : Nat) "StreamFuser$Plan" "endless" "Z") ∈ sf_T := sf_T_1 77 rfl rfl
theorem wt_154 : (Cond.laysFinal "StreamFuser$Plan" "StreamFuser$Plan" "letter" "[I") ∈ sf_T := sf_T_1 78 rfl rfl
theorem wt_156 : (Cond.laysFinal "StreamFuser$Plan" "StreamFuser$Plan" "mark" "[I") ∈ sf_T := sf_T_1 80 rfl rfl
theorem wt_158 : (Cond.laysFinal "StreamFuser$Plan" "StreamFuser$Plan" "first" "[I") ∈ sf_T := sf_T_1 82 rfl rfl
theorem wt_160 : (Cond.laysFinal "StreamFuser$Plan" "StreamFuser$Plan" "second" "[I") ∈ sf_T := sf_T_1 84 rfl rfl
theorem wt_162 : (Cond.lays "StreamFuser$Plan" "StreamFuser$Plan" "size" "I") ∈ sf_T := sf_T_1 86 rfl rfl
theorem wt_164 : (Cond.laysFinal "StreamFuser$Plan" "StreamFuser$Plan" "end" "[I") ∈ sf_T := sf_T_1 88 rfl rfl
theorem wt_166 : (Cond.laysFinal "StreamFuser$Plan" "StreamFuser$Plan" "within" "[I") ∈ sf_T := sf_T_1 90 rfl rfl
theorem wt_168 : (Cond.laysFinal "StreamFuser$Plan" "StreamFuser$Plan" "nested" "[I") ∈ sf_T := sf_T_1 92 rfl rfl
theorem wt_170 : (Cond.laysFinal "StreamFuser$Plan" "StreamFuser$Plan" "opener" "[I") ∈ sf_T := sf_T_1 94 rfl rfl
theorem wt_172 : (Cond.laysFinal "StreamFuser$Plan" "StreamFuser$Plan" "pure" "[Z") ∈ sf_T := sf_T_1 96 rfl rfl
theorem wt_174 : (Cond.lays "StreamFuser$Plan" "StreamFuser$Plan" "deepest" "I") ∈ sf_T := sf_T_1 98 rfl rfl
theorem wt_176 : (Cond.lays "StreamFuser$Plan" "StreamFuser$Plan" "endless" "Z") ∈ sf_T := sf_T_1 100 rfl rfl
theorem wt_183 : (Cond.methodLinkNest "StreamFuser" (22 : Nat) ({ cls := "StreamFuser$Printer", name := "<init>", desc := "(LStreamFuser$Plan;)V" } : MethodName) "StreamFuser") ∈ sf_N := sf_N_1 107 rfl rfl
theorem wt_184 : (Cond.instanceMethod ({ cls := "StreamFuser$Printer", name := "<init>", desc := "(LStreamFuser$Plan;)V" } : MethodName)) ∈ sf_T := sf_T_1 108 rfl rfl
theorem wt_186 : (Cond.methodLink "StreamFuser$Printer" (1 : Nat) ({ cls := "java/lang/Object", name := "<init>", desc := "()V" } : MethodName)) ∈ sf_T := sf_T_1 110 rfl rfl
theorem wt_187 : (Cond.fieldLink "StreamFuser$Printer" (13 : Nat) "StreamFuser$Printer" "source" "LStreamFuser$Plan;") ∈ sf_T := sf_T_1 111 rfl rfl
theorem wt_188 : (Cond.fieldLink "StreamFuser$Printer" (9 : Nat) "StreamFuser$Printer" "bytes" "[B") ∈ sf_T := sf_T_1 112 rfl rfl
theorem wt_189 : (Cond.fieldLinkNest "StreamFuser" (138 : Nat) "StreamFuser$Printer" "bytes" "[B" "StreamFuser") ∈ sf_N := sf_N_1 113 rfl rfl
theorem wt_190 : (Cond.fieldLink "StreamFuser$Printer" (17 : Nat) "StreamFuser$Printer" "length" "I") ∈ sf_T := sf_T_1 114 rfl rfl
theorem wt_191 : (Cond.fieldLinkNest "StreamFuser" (137 : Nat) "StreamFuser$Printer" "length" "I" "StreamFuser") ∈ sf_N := sf_N_1 115 rfl rfl
theorem wt_192 : (Cond.laysFinal "StreamFuser$Printer" "StreamFuser$Printer" "source" "LStreamFuser$Plan;") ∈ sf_T := sf_T_1 116 rfl rfl
theorem wt_194 : (Cond.laysFinal "StreamFuser$Printer" "StreamFuser$Printer" "bytes" "[B") ∈ sf_T := sf_T_1 118 rfl rfl
theorem wt_196 : (Cond.lays "StreamFuser$Printer" "StreamFuser$Printer" "length" "I") ∈ sf_T := sf_T_1 120 rfl rfl
theorem wt_202 : (Cond.methodLinkNest "StreamFuser" (31 : Nat) ({ cls := "StreamFuser$Rewriter", name := "<init>", desc := "(LStreamFuser$Plan;)V" } : MethodName) "StreamFuser") ∈ sf_N := sf_N_1 126 rfl rfl
theorem wt_203 : (Cond.instanceMethod ({ cls := "StreamFuser$Rewriter", name := "<init>", desc := "(LStreamFuser$Plan;)V" } : MethodName)) ∈ sf_T := sf_T_1 127 rfl rfl
theorem wt_205 : (Cond.methodLink "StreamFuser$Rewriter" (3 : Nat) ({ cls := "java/lang/Object", name := "<init>", desc := "()V" } : MethodName)) ∈ sf_T := sf_T_1 129 rfl rfl
theorem wt_206 : (Cond.fieldLink "StreamFuser$Rewriter" (15 : Nat) "StreamFuser$Rewriter" "plan" "LStreamFuser$Plan;") ∈ sf_T := sf_T_1 130 rfl rfl
theorem wt_207 : (Cond.fieldLink "StreamFuser$Rewriter" (9 : Nat) "StreamFuser$Rewriter" "applied" "[I") ∈ sf_T := sf_T_1 131 rfl rfl
theorem wt_208 : (Cond.fieldLink "StreamFuser$Rewriter" (19 : Nat) "StreamFuser$Rewriter" "total" "I") ∈ sf_T := sf_T_1 132 rfl rfl
theorem wt_209 : (Cond.fieldLinkNest "StreamFuser" (146 : Nat) "StreamFuser$Rewriter" "total" "I" "StreamFuser") ∈ sf_N := sf_N_1 133 rfl rfl
theorem wt_210 : (Cond.laysFinal "StreamFuser$Rewriter" "StreamFuser$Rewriter" "plan" "LStreamFuser$Plan;") ∈ sf_T := sf_T_1 134 rfl rfl
theorem wt_212 : (Cond.laysFinal "StreamFuser$Rewriter" "StreamFuser$Rewriter" "applied" "[I") ∈ sf_T := sf_T_1 136 rfl rfl
theorem wt_214 : (Cond.lays "StreamFuser$Rewriter" "StreamFuser$Rewriter" "total" "I") ∈ sf_T := sf_T_1 138 rfl rfl
theorem wt_219 : (Cond.methodLinkNest "StreamFuser" (38 : Nat) ({ cls := "StreamFuser$Sheets", name := "<init>", desc := "()V" } : MethodName) "StreamFuser") ∈ sf_N := sf_N_1 143 rfl rfl
theorem wt_220 : (Cond.instanceMethod ({ cls := "StreamFuser$Sheets", name := "<init>", desc := "()V" } : MethodName)) ∈ sf_T := sf_T_1 144 rfl rfl
theorem wt_222 : (Cond.methodLink "StreamFuser$Sheets" (3 : Nat) ({ cls := "java/lang/Object", name := "<init>", desc := "()V" } : MethodName)) ∈ sf_T := sf_T_1 146 rfl rfl
theorem wt_223 : (Cond.fieldLink "StreamFuser$Sheets" (9 : Nat) "StreamFuser$Sheets" "form" "[I") ∈ sf_T := sf_T_1 147 rfl rfl
theorem wt_224 : (Cond.fieldLinkNest "StreamFuser" (237 : Nat) "StreamFuser$Sheets" "form" "[I" "StreamFuser") ∈ sf_N := sf_N_1 148 rfl rfl
theorem wt_225 : (Cond.fieldLink "StreamFuser$Sheets" (15 : Nat) "StreamFuser$Sheets" "length" "[I") ∈ sf_T := sf_T_1 149 rfl rfl
theorem wt_226 : (Cond.fieldLinkNest "StreamFuser$Way" (83 : Nat) "StreamFuser$Sheets" "length" "[I" "StreamFuser") ∈ sf_N := sf_N_1 150 rfl rfl
theorem wt_227 : (Cond.fieldLink "StreamFuser$Sheets" (18 : Nat) "StreamFuser$Sheets" "elements" "[I") ∈ sf_T := sf_T_1 151 rfl rfl
theorem wt_228 : (Cond.laysFinal "StreamFuser$Sheets" "StreamFuser$Sheets" "form" "[I") ∈ sf_T := sf_T_1 152 rfl rfl
theorem wt_230 : (Cond.laysFinal "StreamFuser$Sheets" "StreamFuser$Sheets" "length" "[I") ∈ sf_T := sf_T_1 154 rfl rfl
theorem wt_232 : (Cond.laysFinal "StreamFuser$Sheets" "StreamFuser$Sheets" "elements" "[I") ∈ sf_T := sf_T_1 156 rfl rfl
theorem wt_237 : (Cond.methodLinkNest "StreamFuser" (45 : Nat) ({ cls := "StreamFuser$Run", name := "<init>", desc := "()V" } : MethodName) "StreamFuser") ∈ sf_N := sf_N_1 161 rfl rfl
theorem wt_238 : (Cond.instanceMethod ({ cls := "StreamFuser$Run", name := "<init>", desc := "()V" } : MethodName)) ∈ sf_T := sf_T_1 162 rfl rfl
theorem wt_240 : (Cond.methodLink "StreamFuser$Run" (3 : Nat) ({ cls := "java/lang/Object", name := "<init>", desc := "()V" } : MethodName)) ∈ sf_T := sf_T_1 164 rfl rfl
theorem wt_241 : (Cond.fieldLink "StreamFuser$Run" (9 : Nat) "StreamFuser$Run" "numbers" "[I") ∈ sf_T := sf_T_1 165 rfl rfl
theorem wt_242 : (Cond.fieldLinkNest "StreamFuser" (166 : Nat) "StreamFuser$Run" "numbers" "[I" "StreamFuser") ∈ sf_N := sf_N_1 166 rfl rfl
theorem wt_243 : (Cond.fieldLink "StreamFuser$Run" (21 : Nat) "StreamFuser$Run" "size" "I") ∈ sf_T := sf_T_1 167 rfl rfl
theorem wt_244 : (Cond.fieldLinkNest "StreamFuser$Stepper" (40 : Nat) "StreamFuser$Run" "size" "I" "StreamFuser") ∈ sf_N := sf_N_1 168 rfl rfl
theorem wt_245 : (Cond.fieldLinkNest "StreamFuser" (165 : Nat) "StreamFuser$Run" "size" "I" "StreamFuser") ∈ sf_N := sf_N_1 169 rfl rfl
theorem wt_246 : (Cond.fieldLink "StreamFuser$Run" (25 : Nat) "StreamFuser$Run" "drawn" "I") ∈ sf_T := sf_T_1 170 rfl rfl
theorem wt_247 : (Cond.fieldLinkNest "StreamFuser" (156 : Nat) "StreamFuser$Run" "drawn" "I" "StreamFuser") ∈ sf_N := sf_N_1 171 rfl rfl
theorem wt_248 : (Cond.fieldLink "StreamFuser$Run" (28 : Nat) "StreamFuser$Run" "work" "I") ∈ sf_T := sf_T_1 172 rfl rfl
theorem wt_249 : (Cond.fieldLinkNest "StreamFuser$Stepper" (41 : Nat) "StreamFuser$Run" "work" "I" "StreamFuser") ∈ sf_N := sf_N_1 173 rfl rfl
theorem wt_250 : (Cond.fieldLinkNest "StreamFuser$Asker" (50 : Nat) "StreamFuser$Run" "work" "I" "StreamFuser") ∈ sf_N := sf_N_1 174 rfl rfl
theorem wt_251 : (Cond.fieldLinkNest "StreamFuser$Maker" (49 : Nat) "StreamFuser$Run" "work" "I" "StreamFuser") ∈ sf_N := sf_N_1 175 rfl rfl
theorem wt_252 : (Cond.fieldLinkNest "StreamFuser" (189 : Nat) "StreamFuser$Run" "work" "I" "StreamFuser") ∈ sf_N := sf_N_1 176 rfl rfl
theorem wt_253 : (Cond.fieldLink "StreamFuser$Run" (31 : Nat) "StreamFuser$Run" "elements" "I") ∈ sf_T := sf_T_1 177 rfl rfl
theorem wt_254 : (Cond.fieldLinkNest "StreamFuser$Maker" (53 : Nat) "StreamFuser$Run" "elements" "I" "StreamFuser") ∈ sf_N := sf_N_1 178 rfl rfl
theorem wt_255 : (Cond.fieldLinkNest "StreamFuser" (192 : Nat) "StreamFuser$Run" "elements" "I" "StreamFuser") ∈ sf_N := sf_N_1 179 rfl rfl
theorem wt_256 : (Cond.fieldLink "StreamFuser$Run" (34 : Nat) "StreamFuser$Run" "failure" "I") ∈ sf_T := sf_T_1 180 rfl rfl
theorem wt_257 : (Cond.fieldLinkNest "StreamFuser" (183 : Nat) "StreamFuser$Run" "failure" "I" "StreamFuser") ∈ sf_N := sf_N_1 181 rfl rfl
theorem wt_258 : (Cond.fieldLink "StreamFuser$Run" (37 : Nat) "StreamFuser$Run" "failureDepth" "I") ∈ sf_T := sf_T_1 182 rfl rfl
theorem wt_259 : (Cond.fieldLinkNest "StreamFuser" (186 : Nat) "StreamFuser$Run" "failureDepth" "I" "StreamFuser") ∈ sf_N := sf_N_1 183 rfl rfl
theorem wt_260 : (Cond.fieldLink "StreamFuser$Run" (15 : Nat) "StreamFuser$Run" "digits" "[I") ∈ sf_T := sf_T_1 184 rfl rfl
theorem wt_261 : (Cond.fieldLinkNest "StreamFuser" (201 : Nat) "StreamFuser$Run" "digits" "[I" "StreamFuser") ∈ sf_N := sf_N_1 185 rfl rfl
theorem wt_262 : (Cond.fieldLink "StreamFuser$Run" (18 : Nat) "StreamFuser$Run" "notes" "[I") ∈ sf_T := sf_T_1 186 rfl rfl
theorem wt_263 : (Cond.fieldLinkNest "StreamFuser" (204 : Nat) "StreamFuser$Run" "notes" "[I" "StreamFuser") ∈ sf_N := sf_N_1 187 rfl rfl
theorem wt_264 : (Cond.fieldLink "StreamFuser$Run" (40 : Nat) "StreamFuser$Run" "pairs" "I") ∈ sf_T := sf_T_1 188 rfl rfl
theorem wt_265 : (Cond.fieldLinkNest "StreamFuser" (195 : Nat) "StreamFuser$Run" "pairs" "I" "StreamFuser") ∈ sf_N := sf_N_1 189 rfl rfl
theorem wt_266 : (Cond.laysFinal "StreamFuser$Run" "StreamFuser$Run" "numbers" "[I") ∈ sf_T := sf_T_1 190 rfl rfl
theorem wt_268 : (Cond.lays "StreamFuser$Run" "StreamFuser$Run" "size" "I") ∈ sf_T := sf_T_1 192 rfl rfl
theorem wt_270 : (Cond.lays "StreamFuser$Run" "StreamFuser$Run" "drawn" "I") ∈ sf_T := sf_T_1 194 rfl rfl
theorem wt_272 : (Cond.lays "StreamFuser$Run" "StreamFuser$Run" "work" "I") ∈ sf_T := sf_T_1 196 rfl rfl
theorem wt_274 : (Cond.lays "StreamFuser$Run" "StreamFuser$Run" "elements" "I") ∈ sf_T := sf_T_1 198 rfl rfl
theorem wt_276 : (Cond.lays "StreamFuser$Run" "StreamFuser$Run" "failure" "I") ∈ sf_T := sf_T_1 200 rfl rfl
theorem wt_278 : (Cond.lays "StreamFuser$Run" "StreamFuser$Run" "failureDepth" "I") ∈ sf_T := sf_T_1 202 rfl rfl
theorem wt_280 : (Cond.laysFinal "StreamFuser$Run" "StreamFuser$Run" "digits" "[I") ∈ sf_T := sf_T_1 204 rfl rfl
theorem wt_282 : (Cond.laysFinal "StreamFuser$Run" "StreamFuser$Run" "notes" "[I") ∈ sf_T := sf_T_1 206 rfl rfl
theorem wt_284 : (Cond.lays "StreamFuser$Run" "StreamFuser$Run" "pairs" "I") ∈ sf_T := sf_T_1 208 rfl rfl
theorem wt_289 : (Cond.methodLinkNest "StreamFuser" (52 : Nat) ({ cls := "StreamFuser$Asker", name := "<init>", desc := "(LStreamFuser$Plan;LStreamFuser$Run;LStreamFuser$Sheets;)V" } : MethodName) "StreamFuser") ∈ sf_N := sf_N_1 213 rfl rfl
theorem wt_290 : (Cond.instanceMethod ({ cls := "StreamFuser$Asker", name := "<init>", desc := "(LStreamFuser$Plan;LStreamFuser$Run;LStreamFuser$Sheets;)V" } : MethodName)) ∈ sf_T := sf_T_1 214 rfl rfl
theorem wt_292 : (Cond.methodLink "StreamFuser$Asker" (3 : Nat) ({ cls := "StreamFuser$Walk", name := "<init>", desc := "(LStreamFuser$Plan;LStreamFuser$Run;LStreamFuser$Sheets;)V" } : MethodName)) ∈ sf_T := sf_T_1 216 rfl rfl
theorem wt_293 : (Cond.instanceMethod ({ cls := "StreamFuser$Walk", name := "<init>", desc := "(LStreamFuser$Plan;LStreamFuser$Run;LStreamFuser$Sheets;)V" } : MethodName)) ∈ sf_T := sf_T_1 217 rfl rfl
theorem wt_295 : (Cond.methodLink "StreamFuser$Walk" (3 : Nat) ({ cls := "StreamFuser$Way", name := "<init>", desc := "(LStreamFuser$Plan;LStreamFuser$Run;LStreamFuser$Sheets;)V" } : MethodName)) ∈ sf_T := sf_T_1 219 rfl rfl
theorem wt_296 : (Cond.instanceMethod ({ cls := "StreamFuser$Way", name := "<init>", desc := "(LStreamFuser$Plan;LStreamFuser$Run;LStreamFuser$Sheets;)V" } : MethodName)) ∈ sf_T := sf_T_1 220 rfl rfl
theorem wt_298 : (Cond.methodLink "StreamFuser$Way" (3 : Nat) ({ cls := "java/lang/Object", name := "<init>", desc := "()V" } : MethodName)) ∈ sf_T := sf_T_1 222 rfl rfl
theorem wt_299 : (Cond.fieldLink "StreamFuser$Walk" (9 : Nat) "StreamFuser$Walk" "used" "[I") ∈ sf_T := sf_T_1 223 rfl rfl
theorem wt_300 : (Cond.fieldLink "StreamFuser$Stepper" (81 : Nat) "StreamFuser$Stepper" "used" "[I") ∈ sf_T := sf_T_1 224 rfl rfl
theorem wt_301 : (Cond.sameField "StreamFuser$Stepper" "StreamFuser$Walk" "used" "[I") ∈ sf_T := sf_T_1 225 rfl rfl
theorem wt_302 : (Cond.fieldLink "StreamFuser$Asker" (92 : Nat) "StreamFuser$Asker" "used" "[I") ∈ sf_T := sf_T_1 226 rfl rfl
theorem wt_303 : (Cond.sameField "StreamFuser$Asker" "StreamFuser$Walk" "used" "[I") ∈ sf_T := sf_T_1 227 rfl rfl
theorem wt_304 : (Cond.fieldLink "StreamFuser$Walk" (15 : Nat) "StreamFuser$Walk" "turned" "[Z") ∈ sf_T := sf_T_1 228 rfl rfl
theorem wt_305 : (Cond.fieldLink "StreamFuser$Asker" (88 : Nat) "StreamFuser$Asker" "turned" "[Z") ∈ sf_T := sf_T_1 229 rfl rfl
theorem wt_306 : (Cond.sameField "StreamFuser$Asker" "StreamFuser$Walk" "turned" "[Z") ∈ sf_T := sf_T_1 230 rfl rfl
theorem wt_307 : (Cond.fieldLink "StreamFuser$Stepper" (98 : Nat) "StreamFuser$Stepper" "turned" "[Z") ∈ sf_T := sf_T_1 231 rfl rfl
theorem wt_308 : (Cond.sameField "StreamFuser$Stepper" "StreamFuser$Walk" "turned" "[Z") ∈ sf_T := sf_T_1 232 rfl rfl
theorem wt_309 : (Cond.fieldLink "StreamFuser$Way" (15 : Nat) "StreamFuser$Way" "plan" "LStreamFuser$Plan;") ∈ sf_T := sf_T_1 233 rfl rfl
theorem wt_310 : (Cond.fieldLink "StreamFuser$Asker" (21 : Nat) "StreamFuser$Asker" "plan" "LStreamFuser$Plan;") ∈ sf_T := sf_T_1 234 rfl rfl
theorem wt_311 : (Cond.sameField "StreamFuser$Asker" "StreamFuser$Way" "plan" "LStreamFuser$Plan;") ∈ sf_T := sf_T_1 235 rfl rfl
theorem wt_312 : (Cond.fieldLink "StreamFuser$Stepper" (25 : Nat) "StreamFuser$Stepper" "plan" "LStreamFuser$Plan;") ∈ sf_T := sf_T_1 236 rfl rfl
theorem wt_313 : (Cond.sameField "StreamFuser$Stepper" "StreamFuser$Way" "plan" "LStreamFuser$Plan;") ∈ sf_T := sf_T_1 237 rfl rfl
theorem wt_314 : (Cond.fieldLink "StreamFuser$Walk" (25 : Nat) "StreamFuser$Walk" "plan" "LStreamFuser$Plan;") ∈ sf_T := sf_T_1 238 rfl rfl
theorem wt_315 : (Cond.sameField "StreamFuser$Walk" "StreamFuser$Way" "plan" "LStreamFuser$Plan;") ∈ sf_T := sf_T_1 239 rfl rfl
theorem wt_316 : (Cond.fieldLink "StreamFuser$Maker" (36 : Nat) "StreamFuser$Maker" "plan" "LStreamFuser$Plan;") ∈ sf_T := sf_T_2 0 rfl rfl
theorem wt_317 : (Cond.sameField "StreamFuser$Maker" "StreamFuser$Way" "plan" "LStreamFuser$Plan;") ∈ sf_T := sf_T_2 1 rfl rfl
theorem wt_318 : (Cond.fieldLink "StreamFuser$Way" (19 : Nat) "StreamFuser$Way" "run" "LStreamFuser$Run;") ∈ sf_T := sf_T_2 2 rfl rfl
theorem wt_319 : (Cond.fieldLink "StreamFuser$Asker" (9 : Nat) "StreamFuser$Asker" "run" "LStreamFuser$Run;") ∈ sf_T := sf_T_2 3 rfl rfl
theorem wt_320 : (Cond.sameField "StreamFuser$Asker" "StreamFuser$Way" "run" "LStreamFuser$Run;") ∈ sf_T := sf_T_2 4 rfl rfl
theorem wt_321 : (Cond.fieldLink "StreamFuser$Stepper" (15 : Nat) "StreamFuser$Stepper" "run" "LStreamFuser$Run;") ∈ sf_T := sf_T_2 5 rfl rfl
theorem wt_322 : (Cond.sameField "StreamFuser$Stepper" "StreamFuser$Way" "run" "LStreamFuser$Run;") ∈ sf_T := sf_T_2 6 rfl rfl
theorem wt_323 : (Cond.fieldLink "StreamFuser$Maker" (18 : Nat) "StreamFuser$Maker" "run" "LStreamFuser$Run;") ∈ sf_T := sf_T_2 7 rfl rfl
theorem wt_324 : (Cond.sameField "StreamFuser$Maker" "StreamFuser$Way" "run" "LStreamFuser$Run;") ∈ sf_T := sf_T_2 8 rfl rfl
theorem wt_325 : (Cond.fieldLink "StreamFuser$Walk" (57 : Nat) "StreamFuser$Walk" "run" "LStreamFuser$Run;") ∈ sf_T := sf_T_2 9 rfl rfl
theorem wt_326 : (Cond.sameField "StreamFuser$Walk" "StreamFuser$Way" "run" "LStreamFuser$Run;") ∈ sf_T := sf_T_2 10 rfl rfl
theorem wt_327 : (Cond.fieldLink "StreamFuser$Way" (23 : Nat) "StreamFuser$Way" "sheets" "LStreamFuser$Sheets;") ∈ sf_T := sf_T_2 11 rfl rfl
theorem wt_328 : (Cond.fieldLink "StreamFuser$Way" (9 : Nat) "StreamFuser$Way" "opened" "[I") ∈ sf_T := sf_T_2 12 rfl rfl
theorem wt_329 : (Cond.fieldLink "StreamFuser$Walk" (39 : Nat) "StreamFuser$Walk" "opened" "[I") ∈ sf_T := sf_T_2 13 rfl rfl
theorem wt_330 : (Cond.sameField "StreamFuser$Walk" "StreamFuser$Way" "opened" "[I") ∈ sf_T := sf_T_2 14 rfl rfl
theorem wt_331 : (Cond.fieldLink "StreamFuser$Maker" (125 : Nat) "StreamFuser$Maker" "opened" "[I") ∈ sf_T := sf_T_2 15 rfl rfl
theorem wt_332 : (Cond.sameField "StreamFuser$Maker" "StreamFuser$Way" "opened" "[I") ∈ sf_T := sf_T_2 16 rfl rfl
theorem wt_333 : (Cond.fieldLink "StreamFuser$Asker" (39 : Nat) "StreamFuser$Asker" "value" "I") ∈ sf_T := sf_T_2 17 rfl rfl
theorem wt_334 : (Cond.sameField "StreamFuser$Asker" "StreamFuser$Way" "value" "I") ∈ sf_T := sf_T_2 18 rfl rfl
theorem wt_335 : (Cond.fieldLink "StreamFuser$Stepper" (48 : Nat) "StreamFuser$Stepper" "value" "I") ∈ sf_T := sf_T_2 19 rfl rfl
theorem wt_336 : (Cond.sameField "StreamFuser$Stepper" "StreamFuser$Way" "value" "I") ∈ sf_T := sf_T_2 20 rfl rfl
theorem wt_337 : (Cond.fieldLink "StreamFuser$Walk" (69 : Nat) "StreamFuser$Walk" "value" "I") ∈ sf_T := sf_T_2 21 rfl rfl
theorem wt_338 : (Cond.sameField "StreamFuser$Walk" "StreamFuser$Way" "value" "I") ∈ sf_T := sf_T_2 22 rfl rfl
theorem wt_339 : (Cond.fieldLink "StreamFuser$Way" (95 : Nat) "StreamFuser$Way" "value" "I") ∈ sf_T := sf_T_2 23 rfl rfl
theorem wt_340 : (Cond.fieldLink "StreamFuser$Maker" (122 : Nat) "StreamFuser$Maker" "value" "I") ∈ sf_T := sf_T_2 24 rfl rfl
theorem wt_341 : (Cond.sameField "StreamFuser$Maker" "StreamFuser$Way" "value" "I") ∈ sf_T := sf_T_2 25 rfl rfl
theorem wt_342 : (Cond.laysFinal "StreamFuser$Asker" "StreamFuser$Walk" "used" "[I") ∈ sf_T := sf_T_2 26 rfl rfl
theorem wt_344 : (Cond.laysFinal "StreamFuser$Asker" "StreamFuser$Walk" "turned" "[Z") ∈ sf_T := sf_T_2 28 rfl rfl
theorem wt_346 : (Cond.laysFinal "StreamFuser$Asker" "StreamFuser$Way" "plan" "LStreamFuser$Plan;") ∈ sf_T := sf_T_2 30 rfl rfl
theorem wt_348 : (Cond.laysFinal "StreamFuser$Asker" "StreamFuser$Way" "run" "LStreamFuser$Run;") ∈ sf_T := sf_T_2 32 rfl rfl
theorem wt_350 : (Cond.laysFinal "StreamFuser$Asker" "StreamFuser$Way" "sheets" "LStreamFuser$Sheets;") ∈ sf_T := sf_T_2 34 rfl rfl
theorem wt_352 : (Cond.laysFinal "StreamFuser$Asker" "StreamFuser$Way" "opened" "[I") ∈ sf_T := sf_T_2 36 rfl rfl
theorem wt_354 : (Cond.lays "StreamFuser$Asker" "StreamFuser$Way" "value" "I") ∈ sf_T := sf_T_2 38 rfl rfl
theorem wt_359 : (Cond.methodLinkNest "StreamFuser" (61 : Nat) ({ cls := "StreamFuser$Stepper", name := "<init>", desc := "(LStreamFuser$Plan;LStreamFuser$Run;LStreamFuser$Sheets;)V" } : MethodName) "StreamFuser") ∈ sf_N := sf_N_2 43 rfl rfl
theorem wt_360 : (Cond.instanceMethod ({ cls := "StreamFuser$Stepper", name := "<init>", desc := "(LStreamFuser$Plan;LStreamFuser$Run;LStreamFuser$Sheets;)V" } : MethodName)) ∈ sf_T := sf_T_2 44 rfl rfl
theorem wt_362 : (Cond.methodLink "StreamFuser$Stepper" (3 : Nat) ({ cls := "StreamFuser$Walk", name := "<init>", desc := "(LStreamFuser$Plan;LStreamFuser$Run;LStreamFuser$Sheets;)V" } : MethodName)) ∈ sf_T := sf_T_2 46 rfl rfl
theorem wt_363 : (Cond.fieldLink "StreamFuser$Stepper" (9 : Nat) "StreamFuser$Stepper" "held" "[I") ∈ sf_T := sf_T_2 47 rfl rfl
theorem wt_364 : (Cond.laysFinal "StreamFuser$Stepper" "StreamFuser$Stepper" "held" "[I") ∈ sf_T := sf_T_2 48 rfl rfl
theorem wt_366 : (Cond.laysFinal "StreamFuser$Stepper" "StreamFuser$Walk" "used" "[I") ∈ sf_T := sf_T_2 50 rfl rfl
theorem wt_367 : (Cond.laysFinal "StreamFuser$Stepper" "StreamFuser$Walk" "turned" "[Z") ∈ sf_T := sf_T_2 51 rfl rfl
theorem wt_368 : (Cond.laysFinal "StreamFuser$Stepper" "StreamFuser$Way" "plan" "LStreamFuser$Plan;") ∈ sf_T := sf_T_2 52 rfl rfl
theorem wt_369 : (Cond.laysFinal "StreamFuser$Stepper" "StreamFuser$Way" "run" "LStreamFuser$Run;") ∈ sf_T := sf_T_2 53 rfl rfl
theorem wt_370 : (Cond.laysFinal "StreamFuser$Stepper" "StreamFuser$Way" "sheets" "LStreamFuser$Sheets;") ∈ sf_T := sf_T_2 54 rfl rfl
theorem wt_371 : (Cond.laysFinal "StreamFuser$Stepper" "StreamFuser$Way" "opened" "[I") ∈ sf_T := sf_T_2 55 rfl rfl
theorem wt_372 : (Cond.lays "StreamFuser$Stepper" "StreamFuser$Way" "value" "I") ∈ sf_T := sf_T_2 56 rfl rfl
theorem wt_376 : (Cond.methodLinkNest "StreamFuser" (68 : Nat) ({ cls := "StreamFuser$Maker", name := "<init>", desc := "(LStreamFuser$Plan;LStreamFuser$Run;LStreamFuser$Sheets;)V" } : MethodName) "StreamFuser") ∈ sf_N := sf_N_2 60 rfl rfl
theorem wt_377 : (Cond.instanceMethod ({ cls := "StreamFuser$Maker", name := "<init>", desc := "(LStreamFuser$Plan;LStreamFuser$Run;LStreamFuser$Sheets;)V" } : MethodName)) ∈ sf_T := sf_T_2 61 rfl rfl
theorem wt_379 : (Cond.methodLink "StreamFuser$Maker" (3 : Nat) ({ cls := "StreamFuser$Way", name := "<init>", desc := "(LStreamFuser$Plan;LStreamFuser$Run;LStreamFuser$Sheets;)V" } : MethodName)) ∈ sf_T := sf_T_2 63 rfl rfl
theorem wt_380 : (Cond.fieldLink "StreamFuser$Maker" (9 : Nat) "StreamFuser$Maker" "rows" "[I") ∈ sf_T := sf_T_2 64 rfl rfl
theorem wt_381 : (Cond.fieldLink "StreamFuser$Maker" (15 : Nat) "StreamFuser$Maker" "length" "[I") ∈ sf_T := sf_T_2 65 rfl rfl
theorem wt_382 : (Cond.laysFinal "StreamFuser$Maker" "StreamFuser$Maker" "rows" "[I") ∈ sf_T := sf_T_2 66 rfl rfl
theorem wt_384 : (Cond.laysFinal "StreamFuser$Maker" "StreamFuser$Maker" "length" "[I") ∈ sf_T := sf_T_2 68 rfl rfl
theorem wt_386 : (Cond.laysFinal "StreamFuser$Maker" "StreamFuser$Way" "plan" "LStreamFuser$Plan;") ∈ sf_T := sf_T_2 70 rfl rfl
theorem wt_387 : (Cond.laysFinal "StreamFuser$Maker" "StreamFuser$Way" "run" "LStreamFuser$Run;") ∈ sf_T := sf_T_2 71 rfl rfl
theorem wt_388 : (Cond.laysFinal "StreamFuser$Maker" "StreamFuser$Way" "sheets" "LStreamFuser$Sheets;") ∈ sf_T := sf_T_2 72 rfl rfl
theorem wt_389 : (Cond.laysFinal "StreamFuser$Maker" "StreamFuser$Way" "opened" "[I") ∈ sf_T := sf_T_2 73 rfl rfl
theorem wt_390 : (Cond.lays "StreamFuser$Maker" "StreamFuser$Way" "value" "I") ∈ sf_T := sf_T_2 74 rfl rfl
theorem wt_394 : (Cond.methodLinkNest "StreamFuser" (78 : Nat) ({ cls := "StreamFuser$Reader", name := "<init>", desc := "(LStreamFuser$Plan;)V" } : MethodName) "StreamFuser") ∈ sf_N := sf_N_2 78 rfl rfl
theorem wt_395 : (Cond.instanceMethod ({ cls := "StreamFuser$Reader", name := "<init>", desc := "(LStreamFuser$Plan;)V" } : MethodName)) ∈ sf_T := sf_T_2 79 rfl rfl
theorem wt_397 : (Cond.methodLink "StreamFuser$Reader" (3 : Nat) ({ cls := "java/lang/Object", name := "<init>", desc := "()V" } : MethodName)) ∈ sf_T := sf_T_2 81 rfl rfl
theorem wt_398 : (Cond.fieldLink "StreamFuser$Reader" (18 : Nat) "StreamFuser$Reader" "target" "LStreamFuser$Plan;") ∈ sf_T := sf_T_2 82 rfl rfl
theorem wt_399 : (Cond.fieldLink "StreamFuser$Reader" (9 : Nat) "StreamFuser$Reader" "bytes" "[I") ∈ sf_T := sf_T_2 83 rfl rfl
theorem wt_400 : (Cond.fieldLink "StreamFuser$Reader" (22 : Nat) "StreamFuser$Reader" "length" "I") ∈ sf_T := sf_T_2 84 rfl rfl
theorem wt_401 : (Cond.fieldLinkNest "StreamFuser" (96 : Nat) "StreamFuser$Reader" "length" "I" "StreamFuser") ∈ sf_N := sf_N_2 85 rfl rfl
theorem wt_402 : (Cond.fieldLink "StreamFuser$Reader" (15 : Nat) "StreamFuser$Reader" "due" "[I") ∈ sf_T := sf_T_2 86 rfl rfl
theorem wt_403 : (Cond.fieldLink "StreamFuser$Reader" (37 : Nat) "StreamFuser$Reader" "dues" "I") ∈ sf_T := sf_T_2 87 rfl rfl
theorem wt_404 : (Cond.fieldLink "StreamFuser$Reader" (31 : Nat) "StreamFuser$Reader" "at" "I") ∈ sf_T := sf_T_2 88 rfl rfl
theorem wt_405 : (Cond.fieldLink "StreamFuser$Reader" (34 : Nat) "StreamFuser$Reader" "fault" "I") ∈ sf_T := sf_T_2 89 rfl rfl
theorem wt_406 : (Cond.laysFinal "StreamFuser$Reader" "StreamFuser$Reader" "target" "LStreamFuser$Plan;") ∈ sf_T := sf_T_2 90 rfl rfl
theorem wt_408 : (Cond.laysFinal "StreamFuser$Reader" "StreamFuser$Reader" "bytes" "[I") ∈ sf_T := sf_T_2 92 rfl rfl
theorem wt_410 : (Cond.lays "StreamFuser$Reader" "StreamFuser$Reader" "length" "I") ∈ sf_T := sf_T_2 94 rfl rfl
theorem wt_412 : (Cond.laysFinal "StreamFuser$Reader" "StreamFuser$Reader" "due" "[I") ∈ sf_T := sf_T_2 96 rfl rfl
theorem wt_414 : (Cond.lays "StreamFuser$Reader" "StreamFuser$Reader" "dues" "I") ∈ sf_T := sf_T_2 98 rfl rfl
theorem wt_416 : (Cond.lays "StreamFuser$Reader" "StreamFuser$Reader" "at" "I") ∈ sf_T := sf_T_2 100 rfl rfl
theorem wt_418 : (Cond.lays "StreamFuser$Reader" "StreamFuser$Reader" "fault" "I") ∈ sf_T := sf_T_2 102 rfl rfl
theorem wt_421 : (Cond.fieldLink "StreamFuser" (16 : Nat) "StreamFuser" "main" "LStreamFuser$Plan;") ∈ sf_T := sf_T_2 105 rfl rfl
theorem wt_422 : (Cond.fieldLink "StreamFuser" (25 : Nat) "StreamFuser" "printer" "LStreamFuser$Printer;") ∈ sf_T := sf_T_2 106 rfl rfl
theorem wt_423 : (Cond.fieldLink "StreamFuser" (32 : Nat) "StreamFuser" "rewriter" "LStreamFuser$Rewriter;") ∈ sf_T := sf_T_2 107 rfl rfl
theorem wt_424 : (Cond.fieldLink "StreamFuser" (39 : Nat) "StreamFuser" "sheets" "LStreamFuser$Sheets;") ∈ sf_T := sf_T_2 108 rfl rfl
theorem wt_425 : (Cond.fieldLink "StreamFuser" (46 : Nat) "StreamFuser" "latest" "LStreamFuser$Run;") ∈ sf_T := sf_T_2 109 rfl rfl
theorem wt_426 : (Cond.fieldLink "StreamFuser" (55 : Nat) "StreamFuser" "asker" "LStreamFuser$Asker;") ∈ sf_T := sf_T_2 110 rfl rfl
theorem wt_427 : (Cond.fieldLink "StreamFuser" (62 : Nat) "StreamFuser" "stepper" "LStreamFuser$Stepper;") ∈ sf_T := sf_T_2 111 rfl rfl
theorem wt_428 : (Cond.fieldLink "StreamFuser" (69 : Nat) "StreamFuser" "maker" "LStreamFuser$Maker;") ∈ sf_T := sf_T_2 112 rfl rfl
theorem wt_429 : (Cond.fieldLink "StreamFuser" (73 : Nat) "StreamFuser" "draft" "LStreamFuser$Plan;") ∈ sf_T := sf_T_2 113 rfl rfl
theorem wt_430 : (Cond.fieldLink "StreamFuser" (79 : Nat) "StreamFuser" "reader" "LStreamFuser$Reader;") ∈ sf_T := sf_T_2 114 rfl rfl
theorem wt_431 : (Cond.fieldLink "StreamFuser" (83 : Nat) "StreamFuser" "draftRewriter" "LStreamFuser$Rewriter;") ∈ sf_T := sf_T_2 115 rfl rfl
theorem wt_432 : (Cond.fieldLink "StreamFuser" (86 : Nat) "StreamFuser" "trial" "LStreamFuser$Run;") ∈ sf_T := sf_T_2 116 rfl rfl
theorem wt_433 : (Cond.fieldLink "StreamFuser" (89 : Nat) "StreamFuser" "trialAsker" "LStreamFuser$Asker;") ∈ sf_T := sf_T_2 117 rfl rfl
theorem wt_434 : (Cond.fieldLink "StreamFuser" (256 : Nat) "StreamFuser" "finding" "I") ∈ sf_T := sf_T_2 118 rfl rfl
theorem wt_435 : (Cond.laysFinal "StreamFuser" "StreamFuser" "main" "LStreamFuser$Plan;") ∈ sf_T := sf_T_2 119 rfl rfl
theorem wt_437 : (Cond.laysFinal "StreamFuser" "StreamFuser" "printer" "LStreamFuser$Printer;") ∈ sf_T := sf_T_2 121 rfl rfl
theorem wt_439 : (Cond.laysFinal "StreamFuser" "StreamFuser" "rewriter" "LStreamFuser$Rewriter;") ∈ sf_T := sf_T_2 123 rfl rfl
theorem wt_441 : (Cond.laysFinal "StreamFuser" "StreamFuser" "sheets" "LStreamFuser$Sheets;") ∈ sf_T := sf_T_2 125 rfl rfl
theorem wt_443 : (Cond.laysFinal "StreamFuser" "StreamFuser" "latest" "LStreamFuser$Run;") ∈ sf_T := sf_T_2 127 rfl rfl
theorem wt_445 : (Cond.laysFinal "StreamFuser" "StreamFuser" "asker" "LStreamFuser$Asker;") ∈ sf_T := sf_T_2 129 rfl rfl
theorem wt_447 : (Cond.laysFinal "StreamFuser" "StreamFuser" "stepper" "LStreamFuser$Stepper;") ∈ sf_T := sf_T_2 131 rfl rfl
theorem wt_449 : (Cond.laysFinal "StreamFuser" "StreamFuser" "maker" "LStreamFuser$Maker;") ∈ sf_T := sf_T_2 133 rfl rfl
theorem wt_451 : (Cond.laysFinal "StreamFuser" "StreamFuser" "draft" "LStreamFuser$Plan;") ∈ sf_T := sf_T_2 135 rfl rfl
theorem wt_453 : (Cond.laysFinal "StreamFuser" "StreamFuser" "reader" "LStreamFuser$Reader;") ∈ sf_T := sf_T_2 137 rfl rfl
theorem wt_455 : (Cond.laysFinal "StreamFuser" "StreamFuser" "draftRewriter" "LStreamFuser$Rewriter;") ∈ sf_T := sf_T_2 139 rfl rfl
theorem wt_457 : (Cond.laysFinal "StreamFuser" "StreamFuser" "trial" "LStreamFuser$Run;") ∈ sf_T := sf_T_2 141 rfl rfl
theorem wt_459 : (Cond.laysFinal "StreamFuser" "StreamFuser" "trialAsker" "LStreamFuser$Asker;") ∈ sf_T := sf_T_2 143 rfl rfl
theorem wt_461 : (Cond.lays "StreamFuser" "StreamFuser" "finding" "I") ∈ sf_T := sf_T_2 145 rfl rfl
theorem wt_464 : (Cond.methodLink "StreamFuserLaw" (87 : Nat) ({ cls := "StreamFuser", name := "node", desc := "(II)I" } : MethodName)) ∈ sf_T := sf_T_2 148 rfl rfl
theorem wt_465 : (Cond.instanceMethod ({ cls := "StreamFuser", name := "node", desc := "(II)I" } : MethodName)) ∈ sf_T := sf_T_2 149 rfl rfl
theorem wt_466 : (Cond.selects "StreamFuser" ({ cls := "StreamFuser", name := "node", desc := "(II)I" } : MethodName) ({ cls := "StreamFuser", name := "node", desc := "(II)I" } : MethodName)) ∈ sf_T := sf_T_2 150 rfl rfl
theorem wt_467 : (Cond.code ({ cls := "StreamFuser", name := "node", desc := "(II)I" } : MethodName) prog_1_method_6_code (3 : Nat) (Option.some FieldType.int)) ∈ sf_T := sf_T_2 151 rfl rfl
theorem wt_468 : (Cond.methodLinkNest "StreamFuser" (113 : Nat) ({ cls := "StreamFuser$Plan", name := "has", desc := "(I)Z" } : MethodName) "StreamFuser") ∈ sf_N := sf_N_2 152 rfl rfl
theorem wt_470 : (Cond.instanceMethod ({ cls := "StreamFuser$Plan", name := "has", desc := "(I)Z" } : MethodName)) ∈ sf_T := sf_T_2 154 rfl rfl
theorem wt_471 : (Cond.code ({ cls := "StreamFuser$Plan", name := "has", desc := "(I)Z" } : MethodName) prog_4_method_4_code (2 : Nat) (Option.some FieldType.boolean)) ∈ sf_T := sf_T_2 155 rfl rfl
theorem wt_472 : (Cond.constant "StreamFuser" (116 : Nat) (-2147483648 : Int32)) ∈ sf_T := sf_T_2 156 rfl rfl
theorem wt_473 : (Cond.methodLink "StreamFuserLaw" (43 : Nat) ({ cls := "StreamFuser", name := "text", desc := "(I)I" } : MethodName)) ∈ sf_T := sf_T_2 157 rfl rfl
theorem wt_474 : (Cond.instanceMethod ({ cls := "StreamFuser", name := "text", desc := "(I)I" } : MethodName)) ∈ sf_T := sf_T_2 158 rfl rfl
theorem wt_475 : (Cond.selects "StreamFuser" ({ cls := "StreamFuser", name := "text", desc := "(I)I" } : MethodName) ({ cls := "StreamFuser", name := "text", desc := "(I)I" } : MethodName)) ∈ sf_T := sf_T_2 159 rfl rfl
theorem wt_476 : (Cond.code ({ cls := "StreamFuser", name := "text", desc := "(I)I" } : MethodName) prog_1_method_7_code (2 : Nat) (Option.some FieldType.int)) ∈ sf_T := sf_T_2 160 rfl rfl
theorem wt_477 : (Cond.methodLink "StreamFuserLaw" (93 : Nat) ({ cls := "StreamFuser", name := "tidy", desc := "(I)I" } : MethodName)) ∈ sf_T := sf_T_2 161 rfl rfl
theorem wt_478 : (Cond.instanceMethod ({ cls := "StreamFuser", name := "tidy", desc := "(I)I" } : MethodName)) ∈ sf_T := sf_T_2 162 rfl rfl
theorem wt_479 : (Cond.selects "StreamFuser" ({ cls := "StreamFuser", name := "tidy", desc := "(I)I" } : MethodName) ({ cls := "StreamFuser", name := "tidy", desc := "(I)I" } : MethodName)) ∈ sf_T := sf_T_2 163 rfl rfl
theorem wt_480 : (Cond.code ({ cls := "StreamFuser", name := "tidy", desc := "(I)I" } : MethodName) prog_1_method_8_code (2 : Nat) (Option.some FieldType.int)) ∈ sf_T := sf_T_2 164 rfl rfl
theorem wt_481 : (Cond.methodLinkNest "StreamFuser" (142 : Nat) ({ cls := "StreamFuser$Rewriter", name := "simplify", desc := "(Z)V" } : MethodName) "StreamFuser") ∈ sf_N := sf_N_2 165 rfl rfl
theorem wt_483 : (Cond.instanceMethod ({ cls := "StreamFuser$Rewriter", name := "simplify", desc := "(Z)V" } : MethodName)) ∈ sf_T := sf_T_2 167 rfl rfl
theorem wt_484 : (Cond.code ({ cls := "StreamFuser$Rewriter", name := "simplify", desc := "(Z)V" } : MethodName) prog_7_method_2_code (5 : Nat) (Option.none : Option FieldType)) ∈ sf_T := sf_T_2 168 rfl rfl
theorem wt_485 : (Cond.constant "StreamFuser$Rewriter" (23 : Nat) (1000000 : Int32)) ∈ sf_T := sf_T_2 169 rfl rfl
theorem wt_486 : (Cond.methodLink "StreamFuser$Rewriter" (24 : Nat) ({ cls := "StreamFuser$Rewriter", name := "place", desc := "(Z)I" } : MethodName)) ∈ sf_T := sf_T_2 170 rfl rfl
theorem wt_488 : (Cond.instanceMethod ({ cls := "StreamFuser$Rewriter", name := "place", desc := "(Z)I" } : MethodName)) ∈ sf_T := sf_T_2 172 rfl rfl
theorem wt_489 : (Cond.code ({ cls := "StreamFuser$Rewriter", name := "place", desc := "(Z)I" } : MethodName) prog_7_method_3_code (5 : Nat) (Option.some FieldType.int)) ∈ sf_T := sf_T_2 173 rfl rfl
theorem wt_490 : (Cond.methodLink "StreamFuser$Rewriter" (28 : Nat) ({ cls := "StreamFuser$Rewriter", name := "ruleFor", desc := "(I)I" } : MethodName)) ∈ sf_T := sf_T_2 174 rfl rfl
theorem wt_492 : (Cond.instanceMethod ({ cls := "StreamFuser$Rewriter", name := "ruleFor", desc := "(I)I" } : MethodName)) ∈ sf_T := sf_T_2 176 rfl rfl
theorem wt_493 : (Cond.code ({ cls := "StreamFuser$Rewriter", name := "ruleFor", desc := "(I)I" } : MethodName) prog_7_method_4_code (2 : Nat) (Option.some FieldType.int)) ∈ sf_T := sf_T_2 177 rfl rfl
theorem wt_494 : (Cond.methodLinkNest "StreamFuser$Rewriter" (44 : Nat) ({ cls := "StreamFuser$Plan", name := "has", desc := "(I)Z" } : MethodName) "StreamFuser") ∈ sf_N := sf_N_2 178 rfl rfl
theorem wt_495 : (Cond.methodLinkNest "StreamFuser$Rewriter" (57 : Nat) ({ cls := "StreamFuser$Plan", name := "isNil", desc := "(I)Z" } : MethodName) "StreamFuser") ∈ sf_N := sf_N_2 179 rfl rfl
theorem wt_497 : (Cond.instanceMethod ({ cls := "StreamFuser$Plan", name := "isNil", desc := "(I)Z" } : MethodName)) ∈ sf_T := sf_T_2 181 rfl rfl
theorem wt_498 : (Cond.code ({ cls := "StreamFuser$Plan", name := "isNil", desc := "(I)Z" } : MethodName) prog_4_method_6_code (2 : Nat) (Option.some FieldType.boolean)) ∈ sf_T := sf_T_2 182 rfl rfl
theorem wt_499 : (Cond.methodLink "StreamFuser$Plan" (47 : Nat) ({ cls := "StreamFuser$Plan", name := "has", desc := "(I)Z" } : MethodName)) ∈ sf_T := sf_T_2 183 rfl rfl
theorem wt_500 : (Cond.methodLink "StreamFuser$Rewriter" (60 : Nat) ({ cls := "StreamFuser$Rewriter", name := "ruleForTake", desc := "(I)I" } : MethodName)) ∈ sf_T := sf_T_2 184 rfl rfl
theorem wt_502 : (Cond.instanceMethod ({ cls := "StreamFuser$Rewriter", name := "ruleForTake", desc := "(I)I" } : MethodName)) ∈ sf_T := sf_T_2 186 rfl rfl
theorem wt_503 : (Cond.code ({ cls := "StreamFuser$Rewriter", name := "ruleForTake", desc := "(I)I" } : MethodName) prog_7_method_5_code (2 : Nat) (Option.some FieldType.int)) ∈ sf_T := sf_T_2 187 rfl rfl
theorem wt_504 : (Cond.methodLinkNest "StreamFuser$Rewriter" (72 : Nat) ({ cls := "StreamFuser$Plan", name := "letterAt", desc := "(I)I" } : MethodName) "StreamFuser") ∈ sf_N := sf_N_2 188 rfl rfl
theorem wt_506 : (Cond.instanceMethod ({ cls := "StreamFuser$Plan", name := "letterAt", desc := "(I)I" } : MethodName)) ∈ sf_T := sf_T_2 190 rfl rfl
theorem wt_507 : (Cond.code ({ cls := "StreamFuser$Plan", name := "letterAt", desc := "(I)I" } : MethodName) prog_4_method_5_code (2 : Nat) (Option.some FieldType.int)) ∈ sf_T := sf_T_2 191 rfl rfl
theorem wt_508 : (Cond.methodLink "StreamFuser$Rewriter" (63 : Nat) ({ cls := "StreamFuser$Rewriter", name := "ruleForDrop", desc := "(I)I" } : MethodName)) ∈ sf_T := sf_T_2 192 rfl rfl
theorem wt_510 : (Cond.instanceMethod ({ cls := "StreamFuser$Rewriter", name := "ruleForDrop", desc := "(I)I" } : MethodName)) ∈ sf_T := sf_T_2 194 rfl rfl
theorem wt_511 : (Cond.code ({ cls := "StreamFuser$Rewriter", name := "ruleForDrop", desc := "(I)I" } : MethodName) prog_7_method_6_code (3 : Nat) (Option.some FieldType.int)) ∈ sf_T := sf_T_2 195 rfl rfl
theorem wt_512 : (Cond.methodLinkNest "StreamFuser$Rewriter" (66 : Nat) ({ cls := "StreamFuser$Plan", name := "secondPart", desc := "(I)I" } : MethodName) "StreamFuser") ∈ sf_N := sf_N_2 196 rfl rfl
theorem wt_514 : (Cond.instanceMethod ({ cls := "StreamFuser$Plan", name := "secondPart", desc := "(I)I" } : MethodName)) ∈ sf_T := sf_T_2 198 rfl rfl
theorem wt_515 : (Cond.code ({ cls := "StreamFuser$Plan", name := "secondPart", desc := "(I)I" } : MethodName) prog_4_method_7_code (2 : Nat) (Option.some FieldType.int)) ∈ sf_T := sf_T_2 199 rfl rfl
theorem wt_516 : (Cond.methodLinkNest "StreamFuser$Rewriter" (69 : Nat) ({ cls := "StreamFuser$Plan", name := "input", desc := "(I)I" } : MethodName) "StreamFuser") ∈ sf_N := sf_N_2 200 rfl rfl
theorem wt_518 : (Cond.instanceMethod ({ cls := "StreamFuser$Plan", name := "input", desc := "(I)I" } : MethodName)) ∈ sf_T := sf_T_2 202 rfl rfl
theorem wt_519 : (Cond.code ({ cls := "StreamFuser$Plan", name := "input", desc := "(I)I" } : MethodName) prog_4_method_8_code (2 : Nat) (Option.some FieldType.int)) ∈ sf_T := sf_T_2 203 rfl rfl
theorem wt_520 : (Cond.methodLink "StreamFuser$Plan" (51 : Nat) ({ cls := "StreamFuser$Plan", name := "letterAt", desc := "(I)I" } : MethodName)) ∈ sf_T := sf_T_2 204 rfl rfl
theorem wt_521 : (Cond.methodLink "StreamFuser$Plan" (55 : Nat) ({ cls := "StreamFuser$Plan", name := "secondPart", desc := "(I)I" } : MethodName)) ∈ sf_T := sf_T_2 205 rfl rfl
theorem wt_522 : (Cond.methodLink "StreamFuser$Rewriter" (32 : Nat) ({ cls := "StreamFuser$Rewriter", name := "apply", desc := "(II)V" } : MethodName)) ∈ sf_T := sf_T_2 206 rfl rfl
theorem wt_524 : (Cond.instanceMethod ({ cls := "StreamFuser$Rewriter", name := "apply", desc := "(II)V" } : MethodName)) ∈ sf_T := sf_T_2 208 rfl rfl
theorem wt_525 : (Cond.code ({ cls := "StreamFuser$Rewriter", name := "apply", desc := "(II)V" } : MethodName) prog_7_method_7_code (3 : Nat) (Option.none : Option FieldType)) ∈ sf_T := sf_T_2 209 rfl rfl
theorem wt_526 : (Cond.methodLinkNest "StreamFuser$Rewriter" (79 : Nat) ({ cls := "StreamFuser$Plan", name := "makeNil", desc := "(I)V" } : MethodName) "StreamFuser") ∈ sf_N := sf_N_2 210 rfl rfl
theorem wt_528 : (Cond.instanceMethod ({ cls := "StreamFuser$Plan", name := "makeNil", desc := "(I)V" } : MethodName)) ∈ sf_T := sf_T_2 212 rfl rfl
theorem wt_529 : (Cond.code ({ cls := "StreamFuser$Plan", name := "makeNil", desc := "(I)V" } : MethodName) prog_4_method_14_code (2 : Nat) (Option.none : Option FieldType)) ∈ sf_T := sf_T_2 213 rfl rfl
theorem wt_530 : (Cond.methodLink "StreamFuser$Plan" (69 : Nat) ({ cls := "StreamFuser$Plan", name := "cut", desc := "(II)V" } : MethodName)) ∈ sf_T := sf_T_2 214 rfl rfl
theorem wt_532 : (Cond.instanceMethod ({ cls := "StreamFuser$Plan", name := "cut", desc := "(II)V" } : MethodName)) ∈ sf_T := sf_T_2 216 rfl rfl
theorem wt_533 : (Cond.code ({ cls := "StreamFuser$Plan", name := "cut", desc := "(II)V" } : MethodName) prog_4_method_12_code (4 : Nat) (Option.none : Option FieldType)) ∈ sf_T := sf_T_2 217 rfl rfl
theorem wt_534 : (Cond.methodLink "StreamFuser$Plan" (65 : Nat) ({ cls := "StreamFuser$Plan", name := "moveNode", desc := "(II)V" } : MethodName)) ∈ sf_T := sf_T_2 218 rfl rfl
theorem wt_536 : (Cond.instanceMethod ({ cls := "StreamFuser$Plan", name := "moveNode", desc := "(II)V" } : MethodName)) ∈ sf_T := sf_T_2 220 rfl rfl
theorem wt_537 : (Cond.code ({ cls := "StreamFuser$Plan", name := "moveNode", desc := "(II)V" } : MethodName) prog_4_method_13_code (3 : Nat) (Option.none : Option FieldType)) ∈ sf_T := sf_T_2 221 rfl rfl
theorem wt_538 : (Cond.methodLinkNest "StreamFuser$Rewriter" (83 : Nat) ({ cls := "StreamFuser$Plan", name := "swapWithNext", desc := "(I)V" } : MethodName) "StreamFuser") ∈ sf_N := sf_N_2 222 rfl rfl
theorem wt_540 : (Cond.instanceMethod ({ cls := "StreamFuser$Plan", name := "swapWithNext", desc := "(I)V" } : MethodName)) ∈ sf_T := sf_T_2 224 rfl rfl
theorem wt_541 : (Cond.code ({ cls := "StreamFuser$Plan", name := "swapWithNext", desc := "(I)V" } : MethodName) prog_4_method_11_code (6 : Nat) (Option.none : Option FieldType)) ∈ sf_T := sf_T_2 225 rfl rfl
theorem wt_542 : (Cond.methodLink "StreamFuser$Rewriter" (86 : Nat) ({ cls := "StreamFuser$Rewriter", name := "swapDropWithTake", desc := "(I)V" } : MethodName)) ∈ sf_T := sf_T_2 226 rfl rfl
theorem wt_544 : (Cond.instanceMethod ({ cls := "StreamFuser$Rewriter", name := "swapDropWithTake", desc := "(I)V" } : MethodName)) ∈ sf_T := sf_T_2 228 rfl rfl
theorem wt_545 : (Cond.code ({ cls := "StreamFuser$Rewriter", name := "swapDropWithTake", desc := "(I)V" } : MethodName) prog_7_method_8_code (3 : Nat) (Option.none : Option FieldType)) ∈ sf_T := sf_T_2 229 rfl rfl
theorem wt_546 : (Cond.methodLink "StreamFuser$Rewriter" (98 : Nat) ({ cls := "java/lang/Math", name := "max", desc := "(II)I" } : MethodName)) ∈ sf_T := sf_T_2 230 rfl rfl
theorem wt_547 : (Cond.static ({ cls := "java/lang/Math", name := "max", desc := "(II)I" } : MethodName)) ∈ sf_T := sf_T_2 231 rfl rfl
theorem wt_548 : (Cond.code Lib.Math.max.name Lib.Math.max.code 2 (some .int)) ∈ sf_T := sf_T_2 232 (by decide +kernel) rfl
theorem wt_549 : (Cond.methodLinkNest "StreamFuser$Rewriter" (89 : Nat) ({ cls := "StreamFuser$Plan", name := "cut", desc := "(II)V" } : MethodName) "StreamFuser") ∈ sf_N := sf_N_2 233 rfl rfl
theorem wt_550 : (Cond.methodLink "StreamFuser$Rewriter" (92 : Nat) ({ cls := "StreamFuser$Rewriter", name := "keepOnePart", desc := "(I)V" } : MethodName)) ∈ sf_T := sf_T_2 234 rfl rfl
theorem wt_552 : (Cond.instanceMethod ({ cls := "StreamFuser$Rewriter", name := "keepOnePart", desc := "(I)V" } : MethodName)) ∈ sf_T := sf_T_2 236 rfl rfl
theorem wt_553 : (Cond.code ({ cls := "StreamFuser$Rewriter", name := "keepOnePart", desc := "(I)V" } : MethodName) prog_7_method_9_code (3 : Nat) (Option.none : Option FieldType)) ∈ sf_T := sf_T_2 237 rfl rfl
theorem wt_554 : (Cond.methodLink "StreamFuser$Rewriter" (95 : Nat) ({ cls := "StreamFuser$Rewriter", name := "mergeWithNext", desc := "(II)V" } : MethodName)) ∈ sf_T := sf_T_2 238 rfl rfl
theorem wt_556 : (Cond.instanceMethod ({ cls := "StreamFuser$Rewriter", name := "mergeWithNext", desc := "(II)V" } : MethodName)) ∈ sf_T := sf_T_3 0 rfl rfl
theorem wt_557 : (Cond.code ({ cls := "StreamFuser$Rewriter", name := "mergeWithNext", desc := "(II)V" } : MethodName) prog_7_method_10_code (7 : Nat) (Option.none : Option FieldType)) ∈ sf_T := sf_T_3 1 rfl rfl
theorem wt_558 : (Cond.methodLink "StreamFuser$Rewriter" (104 : Nat) ({ cls := "java/lang/Math", name := "min", desc := "(II)I" } : MethodName)) ∈ sf_T := sf_T_3 2 rfl rfl
theorem wt_559 : (Cond.static ({ cls := "java/lang/Math", name := "min", desc := "(II)I" } : MethodName)) ∈ sf_T := sf_T_3 3 rfl rfl
theorem wt_560 : (Cond.code Lib.Math.min.name Lib.Math.min.code 2 (some .int)) ∈ sf_T := sf_T_3 4 (by decide +kernel) rfl
theorem wt_561 : (Cond.methodLinkNest "StreamFuser$Rewriter" (36 : Nat) ({ cls := "StreamFuser$Plan", name := "measure", desc := "()V" } : MethodName) "StreamFuser") ∈ sf_N := sf_N_3 5 rfl rfl
theorem wt_563 : (Cond.instanceMethod ({ cls := "StreamFuser$Plan", name := "measure", desc := "()V" } : MethodName)) ∈ sf_T := sf_T_3 7 rfl rfl
theorem wt_564 : (Cond.code ({ cls := "StreamFuser$Plan", name := "measure", desc := "()V" } : MethodName) prog_4_method_15_code (2 : Nat) (Option.none : Option FieldType)) ∈ sf_T := sf_T_3 8 rfl rfl
theorem wt_565 : (Cond.methodLink "StreamFuser$Plan" (72 : Nat) ({ cls := "StreamFuser$Plan", name := "measureFromParts", desc := "(I)V" } : MethodName)) ∈ sf_T := sf_T_3 9 rfl rfl
theorem wt_567 : (Cond.instanceMethod ({ cls := "StreamFuser$Plan", name := "measureFromParts", desc := "(I)V" } : MethodName)) ∈ sf_T := sf_T_3 11 rfl rfl
theorem wt_568 : (Cond.code ({ cls := "StreamFuser$Plan", name := "measureFromParts", desc := "(I)V" } : MethodName) prog_4_method_16_code (6 : Nat) (Option.none : Option FieldType)) ∈ sf_T := sf_T_3 12 rfl rfl
theorem wt_569 : (Cond.methodLink "StreamFuser$Plan" (89 : Nat) ({ cls := "StreamFuser$Plan", name := "partsOf", desc := "(I)I" } : MethodName)) ∈ sf_T := sf_T_3 13 rfl rfl
theorem wt_570 : (Cond.static ({ cls := "StreamFuser$Plan", name := "partsOf", desc := "(I)I" } : MethodName)) ∈ sf_T := sf_T_3 14 rfl rfl
theorem wt_571 : (Cond.code ({ cls := "StreamFuser$Plan", name := "partsOf", desc := "(I)I" } : MethodName) prog_4_method_2_code (1 : Nat) (Option.some FieldType.int)) ∈ sf_T := sf_T_3 15 rfl rfl
theorem wt_572 : (Cond.methodLink "StreamFuser$Plan" (80 : Nat) ({ cls := "StreamFuser$Plan", name := "measureParts", desc := "(I)V" } : MethodName)) ∈ sf_T := sf_T_3 16 rfl rfl
theorem wt_574 : (Cond.instanceMethod ({ cls := "StreamFuser$Plan", name := "measureParts", desc := "(I)V" } : MethodName)) ∈ sf_T := sf_T_3 18 rfl rfl
theorem wt_575 : (Cond.code ({ cls := "StreamFuser$Plan", name := "measureParts", desc := "(I)V" } : MethodName) prog_4_method_17_code (6 : Nat) (Option.none : Option FieldType)) ∈ sf_T := sf_T_3 19 rfl rfl
theorem wt_576 : (Cond.methodLink "StreamFuser$Plan" (83 : Nat) ({ cls := "java/lang/Math", name := "max", desc := "(II)I" } : MethodName)) ∈ sf_T := sf_T_3 20 rfl rfl
theorem wt_577 : (Cond.methodLinkNest "StreamFuser" (107 : Nat) ({ cls := "StreamFuser$Printer", name := "print", desc := "()V" } : MethodName) "StreamFuser") ∈ sf_N := sf_N_3 21 rfl rfl
theorem wt_579 : (Cond.instanceMethod ({ cls := "StreamFuser$Printer", name := "print", desc := "()V" } : MethodName)) ∈ sf_T := sf_T_3 23 rfl rfl
theorem wt_580 : (Cond.code ({ cls := "StreamFuser$Printer", name := "print", desc := "()V" } : MethodName) prog_5_method_2_code (2 : Nat) (Option.none : Option FieldType)) ∈ sf_T := sf_T_3 24 rfl rfl
theorem wt_581 : (Cond.methodLink "StreamFuser$Printer" (26 : Nat) ({ cls := "StreamFuser$Printer", name := "printNode", desc := "(I)V" } : MethodName)) ∈ sf_T := sf_T_3 25 rfl rfl
theorem wt_583 : (Cond.instanceMethod ({ cls := "StreamFuser$Printer", name := "printNode", desc := "(I)V" } : MethodName)) ∈ sf_T := sf_T_3 27 rfl rfl
theorem wt_584 : (Cond.code ({ cls := "StreamFuser$Printer", name := "printNode", desc := "(I)V" } : MethodName) prog_5_method_3_code (4 : Nat) (Option.none : Option FieldType)) ∈ sf_T := sf_T_3 28 rfl rfl
theorem wt_585 : (Cond.methodLinkNest "StreamFuser$Printer" (34 : Nat) ({ cls := "StreamFuser$Plan", name := "numbersOf", desc := "(I)I" } : MethodName) "StreamFuser") ∈ sf_N := sf_N_3 29 rfl rfl
theorem wt_586 : (Cond.static ({ cls := "StreamFuser$Plan", name := "numbersOf", desc := "(I)I" } : MethodName)) ∈ sf_T := sf_T_3 30 rfl rfl
theorem wt_587 : (Cond.code ({ cls := "StreamFuser$Plan", name := "numbersOf", desc := "(I)I" } : MethodName) prog_4_method_3_code (1 : Nat) (Option.some FieldType.int)) ∈ sf_T := sf_T_3 31 rfl rfl
theorem wt_588 : (Cond.methodLink "StreamFuser$Printer" (38 : Nat) ({ cls := "StreamFuser$Printer", name := "put", desc := "(I)V" } : MethodName)) ∈ sf_T := sf_T_3 32 rfl rfl
theorem wt_590 : (Cond.instanceMethod ({ cls := "StreamFuser$Printer", name := "put", desc := "(I)V" } : MethodName)) ∈ sf_T := sf_T_3 34 rfl rfl
theorem wt_591 : (Cond.code ({ cls := "StreamFuser$Printer", name := "put", desc := "(I)V" } : MethodName) prog_5_method_4_code (2 : Nat) (Option.none : Option FieldType)) ∈ sf_T := sf_T_3 35 rfl rfl
theorem wt_592 : (Cond.methodLinkNest "StreamFuser$Printer" (41 : Nat) ({ cls := "StreamFuser$Reader", name := "hasDigit", desc := "(I)Z" } : MethodName) "StreamFuser") ∈ sf_N := sf_N_3 36 rfl rfl
theorem wt_593 : (Cond.static ({ cls := "StreamFuser$Reader", name := "hasDigit", desc := "(I)Z" } : MethodName)) ∈ sf_T := sf_T_3 37 rfl rfl
theorem wt_594 : (Cond.code ({ cls := "StreamFuser$Reader", name := "hasDigit", desc := "(I)Z" } : MethodName) prog_6_method_11_code (1 : Nat) (Option.some FieldType.boolean)) ∈ sf_T := sf_T_3 38 rfl rfl
theorem wt_595 : (Cond.methodLinkNest "StreamFuser$Printer" (50 : Nat) ({ cls := "StreamFuser$Reader", name := "hasMark", desc := "(I)Z" } : MethodName) "StreamFuser") ∈ sf_N := sf_N_3 39 rfl rfl
theorem wt_596 : (Cond.static ({ cls := "StreamFuser$Reader", name := "hasMark", desc := "(I)Z" } : MethodName)) ∈ sf_T := sf_T_3 40 rfl rfl
theorem wt_597 : (Cond.code ({ cls := "StreamFuser$Reader", name := "hasMark", desc := "(I)Z" } : MethodName) prog_6_method_10_code (1 : Nat) (Option.some FieldType.boolean)) ∈ sf_T := sf_T_3 41 rfl rfl
theorem wt_598 : (Cond.methodLink "StreamFuser$Reader" (84 : Nat) ({ cls := "StreamFuser$Reader", name := "hasDigit", desc := "(I)Z" } : MethodName)) ∈ sf_T := sf_T_3 42 rfl rfl
theorem wt_599 : (Cond.methodLink "StreamFuser$Printer" (56 : Nat) ({ cls := "StreamFuser$Printer", name := "putNumber", desc := "(I)V" } : MethodName)) ∈ sf_T := sf_T_3 43 rfl rfl
theorem wt_601 : (Cond.instanceMethod ({ cls := "StreamFuser$Printer", name := "putNumber", desc := "(I)V" } : MethodName)) ∈ sf_T := sf_T_3 45 rfl rfl
theorem wt_602 : (Cond.code ({ cls := "StreamFuser$Printer", name := "putNumber", desc := "(I)V" } : MethodName) prog_5_method_5_code (7 : Nat) (Option.none : Option FieldType)) ∈ sf_T := sf_T_3 46 rfl rfl
theorem wt_603 : (Cond.methodLink "StreamFuser$Printer" (62 : Nat) ({ cls := "java/lang/Math", name := "abs", desc := "(J)J" } : MethodName)) ∈ sf_T := sf_T_3 47 rfl rfl
theorem wt_604 : (Cond.static ({ cls := "java/lang/Math", name := "abs", desc := "(J)J" } : MethodName)) ∈ sf_T := sf_T_3 48 rfl rfl
theorem wt_605 : (Cond.code Lib.MathLoose.abs_long.x Lib.MathLoose.abs_long.code 2 (some .long)) ∈ sf_T := sf_T_3 49 (by decide +kernel) rfl
theorem wt_606 : (Cond.constantLong "StreamFuser$Printer" (68 : Nat) (10 : Int64)) ∈ sf_T := sf_T_3 50 rfl rfl
theorem wt_607 : (Cond.methodLink "StreamFuserLaw" (90 : Nat) ({ cls := "StreamFuser", name := "saves", desc := "(I)I" } : MethodName)) ∈ sf_T := sf_T_3 51 rfl rfl
theorem wt_608 : (Cond.instanceMethod ({ cls := "StreamFuser", name := "saves", desc := "(I)I" } : MethodName)) ∈ sf_T := sf_T_3 52 rfl rfl
theorem wt_609 : (Cond.selects "StreamFuser" ({ cls := "StreamFuser", name := "saves", desc := "(I)I" } : MethodName) ({ cls := "StreamFuser", name := "saves", desc := "(I)I" } : MethodName)) ∈ sf_T := sf_T_3 53 rfl rfl
theorem wt_610 : (Cond.code ({ cls := "StreamFuser", name := "saves", desc := "(I)I" } : MethodName) prog_1_method_10_code (3 : Nat) (Option.some FieldType.int)) ∈ sf_T := sf_T_3 54 rfl rfl
theorem wt_611 : (Cond.methodLinkNest "StreamFuser" (104 : Nat) ({ cls := "StreamFuser$Plan", name := "takeFrom", desc := "(LStreamFuser$Plan;)V" } : MethodName) "StreamFuser") ∈ sf_N := sf_N_3 55 rfl rfl
theorem wt_613 : (Cond.instanceMethod ({ cls := "StreamFuser$Plan", name := "takeFrom", desc := "(LStreamFuser$Plan;)V" } : MethodName)) ∈ sf_T := sf_T_3 57 rfl rfl
theorem wt_614 : (Cond.code ({ cls := "StreamFuser$Plan", name := "takeFrom", desc := "(LStreamFuser$Plan;)V" } : MethodName) prog_4_method_10_code (3 : Nat) (Option.none : Option FieldType)) ∈ sf_T := sf_T_3 58 rfl rfl
theorem wt_615 : (Cond.methodLink "StreamFuser$Plan" (58 : Nat) ({ cls := "StreamFuser$Plan", name := "add", desc := "(IIII)V" } : MethodName)) ∈ sf_T := sf_T_3 59 rfl rfl
theorem wt_617 : (Cond.instanceMethod ({ cls := "StreamFuser$Plan", name := "add", desc := "(IIII)V" } : MethodName)) ∈ sf_T := sf_T_3 61 rfl rfl
theorem wt_618 : (Cond.code ({ cls := "StreamFuser$Plan", name := "add", desc := "(IIII)V" } : MethodName) prog_4_method_9_code (5 : Nat) (Option.none : Option FieldType)) ∈ sf_T := sf_T_3 62 rfl rfl
theorem wt_619 : (Cond.methodLink "StreamFuser$Plan" (62 : Nat) ({ cls := "StreamFuser$Plan", name := "measure", desc := "()V" } : MethodName)) ∈ sf_T := sf_T_3 63 rfl rfl
theorem wt_620 : (Cond.methodLinkNest "StreamFuser" (152 : Nat) ({ cls := "StreamFuser$Asker", name := "play", desc := "(I)V" } : MethodName) "StreamFuser") ∈ sf_N := sf_N_3 64 rfl rfl
theorem wt_622 : (Cond.instanceMethod ({ cls := "StreamFuser$Asker", name := "play", desc := "(I)V" } : MethodName)) ∈ sf_T := sf_T_3 66 rfl rfl
theorem wt_623 : (Cond.code ({ cls := "StreamFuser$Asker", name := "play", desc := "(I)V" } : MethodName) prog_2_method_2_code (3 : Nat) (Option.none : Option FieldType)) ∈ sf_T := sf_T_3 67 rfl rfl
theorem wt_624 : (Cond.methodLinkNest "StreamFuser$Asker" (15 : Nat) ({ cls := "StreamFuser$Run", name := "begin", desc := "()V" } : MethodName) "StreamFuser") ∈ sf_N := sf_N_3 68 rfl rfl
theorem wt_626 : (Cond.instanceMethod ({ cls := "StreamFuser$Run", name := "begin", desc := "()V" } : MethodName)) ∈ sf_T := sf_T_3 70 rfl rfl
theorem wt_627 : (Cond.code ({ cls := "StreamFuser$Run", name := "begin", desc := "()V" } : MethodName) prog_8_method_2_code (1 : Nat) (Option.none : Option FieldType)) ∈ sf_T := sf_T_3 71 rfl rfl
theorem wt_628 : (Cond.methodLink "StreamFuser$Asker" (31 : Nat) ({ cls := "StreamFuser$Asker", name := "restart", desc := "(II)V" } : MethodName)) ∈ sf_T := sf_T_3 72 rfl rfl
theorem wt_629 : (Cond.sameMethod "StreamFuser$Asker" "StreamFuser$Walk" "restart" "(II)V") ∈ sf_T := sf_T_3 73 rfl rfl
theorem wt_631 : (Cond.selects "StreamFuser$Asker" ({ cls := "StreamFuser$Asker", name := "restart", desc := "(II)V" } : MethodName) ({ cls := "StreamFuser$Walk", name := "restart", desc := "(II)V" } : MethodName)) ∈ sf_T := sf_T_3 75 rfl rfl
theorem wt_632 : (Cond.instanceMethod ({ cls := "StreamFuser$Walk", name := "restart", desc := "(II)V" } : MethodName)) ∈ sf_T := sf_T_3 76 rfl rfl
theorem wt_633 : (Cond.code ({ cls := "StreamFuser$Walk", name := "restart", desc := "(II)V" } : MethodName) prog_11_method_2_code (4 : Nat) (Option.none : Option FieldType)) ∈ sf_T := sf_T_3 77 rfl rfl
theorem wt_634 : (Cond.methodLink "StreamFuser$Walk" (19 : Nat) ({ cls := "java/lang/Math", name := "max", desc := "(II)I" } : MethodName)) ∈ sf_T := sf_T_3 78 rfl rfl
theorem wt_635 : (Cond.methodLink "StreamFuser$Asker" (35 : Nat) ({ cls := "StreamFuser$Asker", name := "ask", desc := "(II)Z" } : MethodName)) ∈ sf_T := sf_T_3 79 rfl rfl
theorem wt_637 : (Cond.instanceMethod ({ cls := "StreamFuser$Asker", name := "ask", desc := "(II)Z" } : MethodName)) ∈ sf_T := sf_T_3 81 rfl rfl
theorem wt_638 : (Cond.code ({ cls := "StreamFuser$Asker", name := "ask", desc := "(II)Z" } : MethodName) prog_2_method_3_code (3 : Nat) (Option.some FieldType.boolean)) ∈ sf_T := sf_T_3 82 rfl rfl
theorem wt_639 : (Cond.methodLinkNest "StreamFuser$Asker" (46 : Nat) ({ cls := "StreamFuser$Plan", name := "has", desc := "(I)Z" } : MethodName) "StreamFuser") ∈ sf_N := sf_N_3 83 rfl rfl
theorem wt_640 : (Cond.methodLink "StreamFuser$Asker" (57 : Nat) ({ cls := "StreamFuser$Asker", name := "change", desc := "(II)Z" } : MethodName)) ∈ sf_T := sf_T_3 84 rfl rfl
theorem wt_641 : (Cond.sameMethod "StreamFuser$Asker" "StreamFuser$Way" "change" "(II)Z") ∈ sf_T := sf_T_3 85 rfl rfl
theorem wt_643 : (Cond.selects "StreamFuser$Asker" ({ cls := "StreamFuser$Asker", name := "change", desc := "(II)Z" } : MethodName) ({ cls := "StreamFuser$Way", name := "change", desc := "(II)Z" } : MethodName)) ∈ sf_T := sf_T_3 87 rfl rfl
theorem wt_644 : (Cond.instanceMethod ({ cls := "StreamFuser$Way", name := "change", desc := "(II)Z" } : MethodName)) ∈ sf_T := sf_T_3 88 rfl rfl
theorem wt_645 : (Cond.code ({ cls := "StreamFuser$Way", name := "change", desc := "(II)Z" } : MethodName) prog_12_method_6_code (4 : Nat) (Option.some FieldType.boolean)) ∈ sf_T := sf_T_3 89 rfl rfl
theorem wt_646 : (Cond.methodLinkNest "StreamFuser$Way" (58 : Nat) ({ cls := "StreamFuser$Plan", name := "has", desc := "(I)Z" } : MethodName) "StreamFuser") ∈ sf_N := sf_N_3 90 rfl rfl
theorem wt_647 : (Cond.methodLink "StreamFuser$Way" (98 : Nat) ({ cls := "StreamFuser$Way", name := "divide", desc := "(III)Z" } : MethodName)) ∈ sf_T := sf_T_3 91 rfl rfl
theorem wt_649 : (Cond.instanceMethod ({ cls := "StreamFuser$Way", name := "divide", desc := "(III)Z" } : MethodName)) ∈ sf_T := sf_T_3 93 rfl rfl
theorem wt_650 : (Cond.code ({ cls := "StreamFuser$Way", name := "divide", desc := "(III)Z" } : MethodName) prog_12_method_7_code (4 : Nat) (Option.some FieldType.boolean)) ∈ sf_T := sf_T_3 94 rfl rfl
theorem wt_651 : (Cond.methodLinkNest "StreamFuser$Way" (52 : Nat) ({ cls := "StreamFuser$Run", name := "fail", desc := "(II)V" } : MethodName) "StreamFuser") ∈ sf_N := sf_N_3 95 rfl rfl
theorem wt_653 : (Cond.instanceMethod ({ cls := "StreamFuser$Run", name := "fail", desc := "(II)V" } : MethodName)) ∈ sf_T := sf_T_3 97 rfl rfl
theorem wt_654 : (Cond.code ({ cls := "StreamFuser$Run", name := "fail", desc := "(II)V" } : MethodName) prog_8_method_5_code (3 : Nat) (Option.none : Option FieldType)) ∈ sf_T := sf_T_3 98 rfl rfl
theorem wt_655 : (Cond.methodLink "StreamFuser$Way" (102 : Nat) ({ cls := "StreamFuser$Way", name := "modulo", desc := "(II)I" } : MethodName)) ∈ sf_T := sf_T_3 99 rfl rfl
theorem wt_656 : (Cond.static ({ cls := "StreamFuser$Way", name := "modulo", desc := "(II)I" } : MethodName)) ∈ sf_T := sf_T_3 100 rfl rfl
theorem wt_657 : (Cond.code ({ cls := "StreamFuser$Way", name := "modulo", desc := "(II)I" } : MethodName) prog_12_method_8_code (2 : Nat) (Option.some FieldType.int)) ∈ sf_T := sf_T_3 101 rfl rfl
theorem wt_658 : (Cond.methodLink "StreamFuser$Way" (108 : Nat) ({ cls := "java/lang/Math", name := "floorMod", desc := "(II)I" } : MethodName)) ∈ sf_T := sf_T_3 102 rfl rfl
theorem wt_659 : (Cond.static ({ cls := "java/lang/Math", name := "floorMod", desc := "(II)I" } : MethodName)) ∈ sf_T := sf_T_3 103 rfl rfl
theorem wt_660 : (Cond.code ({ cls := "java/lang/Math", name := "floorMod", desc := "(II)I" } : MethodName) prog_15_method_50_code (3 : Nat) (Option.some FieldType.int)) ∈ sf_T := sf_T_3 104 rfl rfl
theorem wt_661 : (Cond.methodLinkNest "StreamFuser$Way" (105 : Nat) ({ cls := "StreamFuser$Run", name := "note", desc := "(II)V" } : MethodName) "StreamFuser") ∈ sf_N := sf_N_3 105 rfl rfl
theorem wt_663 : (Cond.instanceMethod ({ cls := "StreamFuser$Run", name := "note", desc := "(II)V" } : MethodName)) ∈ sf_T := sf_T_3 107 rfl rfl
theorem wt_664 : (Cond.code ({ cls := "StreamFuser$Run", name := "note", desc := "(II)V" } : MethodName) prog_8_method_7_code (3 : Nat) (Option.none : Option FieldType)) ∈ sf_T := sf_T_3 108 rfl rfl
theorem wt_665 : (Cond.methodLink "StreamFuser$Asker" (60 : Nat) ({ cls := "StreamFuser$Asker", name := "askFilter", desc := "(II)Z" } : MethodName)) ∈ sf_T := sf_T_3 109 rfl rfl
theorem wt_667 : (Cond.instanceMethod ({ cls := "StreamFuser$Asker", name := "askFilter", desc := "(II)Z" } : MethodName)) ∈ sf_T := sf_T_3 111 rfl rfl
theorem wt_668 : (Cond.code ({ cls := "StreamFuser$Asker", name := "askFilter", desc := "(II)Z" } : MethodName) prog_2_method_4_code (4 : Nat) (Option.some FieldType.boolean)) ∈ sf_T := sf_T_3 112 rfl rfl
theorem wt_669 : (Cond.constant "StreamFuser$Asker" (84 : Nat) (1000000 : Int32)) ∈ sf_T := sf_T_3 113 rfl rfl
theorem wt_670 : (Cond.methodLink "StreamFuser$Asker" (85 : Nat) ({ cls := "StreamFuser$Asker", name := "passes", desc := "(II)Z" } : MethodName)) ∈ sf_T := sf_T_3 114 rfl rfl
theorem wt_671 : (Cond.sameMethod "StreamFuser$Asker" "StreamFuser$Way" "passes" "(II)Z") ∈ sf_T := sf_T_3 115 rfl rfl
theorem wt_673 : (Cond.selects "StreamFuser$Asker" ({ cls := "StreamFuser$Asker", name := "passes", desc := "(II)Z" } : MethodName) ({ cls := "StreamFuser$Way", name := "passes", desc := "(II)Z" } : MethodName)) ∈ sf_T := sf_T_3 117 rfl rfl
theorem wt_674 : (Cond.instanceMethod ({ cls := "StreamFuser$Way", name := "passes", desc := "(II)Z" } : MethodName)) ∈ sf_T := sf_T_3 118 rfl rfl
theorem wt_675 : (Cond.code ({ cls := "StreamFuser$Way", name := "passes", desc := "(II)Z" } : MethodName) prog_12_method_9_code (4 : Nat) (Option.some FieldType.boolean)) ∈ sf_T := sf_T_3 119 rfl rfl
theorem wt_676 : (Cond.methodLink "StreamFuser$Asker" (63 : Nat) ({ cls := "StreamFuser$Asker", name := "askWhile", desc := "(II)Z" } : MethodName)) ∈ sf_T := sf_T_3 120 rfl rfl
theorem wt_678 : (Cond.instanceMethod ({ cls := "StreamFuser$Asker", name := "askWhile", desc := "(II)Z" } : MethodName)) ∈ sf_T := sf_T_3 122 rfl rfl
theorem wt_679 : (Cond.code ({ cls := "StreamFuser$Asker", name := "askWhile", desc := "(II)Z" } : MethodName) prog_2_method_5_code (3 : Nat) (Option.some FieldType.boolean)) ∈ sf_T := sf_T_3 123 rfl rfl
theorem wt_680 : (Cond.methodLink "StreamFuser$Asker" (66 : Nat) ({ cls := "StreamFuser$Asker", name := "askTake", desc := "(II)Z" } : MethodName)) ∈ sf_T := sf_T_3 124 rfl rfl
theorem wt_682 : (Cond.instanceMethod ({ cls := "StreamFuser$Asker", name := "askTake", desc := "(II)Z" } : MethodName)) ∈ sf_T := sf_T_3 126 rfl rfl
theorem wt_683 : (Cond.code ({ cls := "StreamFuser$Asker", name := "askTake", desc := "(II)Z" } : MethodName) prog_2_method_6_code (3 : Nat) (Option.some FieldType.boolean)) ∈ sf_T := sf_T_3 127 rfl rfl
theorem wt_684 : (Cond.methodLink "StreamFuser$Asker" (69 : Nat) ({ cls := "StreamFuser$Asker", name := "askDrop", desc := "(II)Z" } : MethodName)) ∈ sf_T := sf_T_3 128 rfl rfl
theorem wt_686 : (Cond.instanceMethod ({ cls := "StreamFuser$Asker", name := "askDrop", desc := "(II)Z" } : MethodName)) ∈ sf_T := sf_T_3 130 rfl rfl
theorem wt_687 : (Cond.code ({ cls := "StreamFuser$Asker", name := "askDrop", desc := "(II)Z" } : MethodName) prog_2_method_7_code (5 : Nat) (Option.some FieldType.boolean)) ∈ sf_T := sf_T_3 131 rfl rfl
theorem wt_688 : (Cond.methodLink "StreamFuser$Asker" (98 : Nat) ({ cls := "java/lang/Math", name := "min", desc := "(II)I" } : MethodName)) ∈ sf_T := sf_T_3 132 rfl rfl
theorem wt_689 : (Cond.methodLink "StreamFuser$Asker" (72 : Nat) ({ cls := "StreamFuser$Asker", name := "askChain", desc := "(II)Z" } : MethodName)) ∈ sf_T := sf_T_3 133 rfl rfl
theorem wt_691 : (Cond.instanceMethod ({ cls := "StreamFuser$Asker", name := "askChain", desc := "(II)Z" } : MethodName)) ∈ sf_T := sf_T_3 135 rfl rfl
theorem wt_692 : (Cond.code ({ cls := "StreamFuser$Asker", name := "askChain", desc := "(II)Z" } : MethodName) prog_2_method_8_code (3 : Nat) (Option.some FieldType.boolean)) ∈ sf_T := sf_T_3 136 rfl rfl
theorem wt_693 : (Cond.methodLinkNest "StreamFuser$Asker" (104 : Nat) ({ cls := "StreamFuser$Run", name := "failed", desc := "()Z" } : MethodName) "StreamFuser") ∈ sf_N := sf_N_3 137 rfl rfl
theorem wt_695 : (Cond.instanceMethod ({ cls := "StreamFuser$Run", name := "failed", desc := "()Z" } : MethodName)) ∈ sf_T := sf_T_3 139 rfl rfl
theorem wt_696 : (Cond.code ({ cls := "StreamFuser$Run", name := "failed", desc := "()Z" } : MethodName) prog_8_method_6_code (1 : Nat) (Option.some FieldType.boolean)) ∈ sf_T := sf_T_3 140 rfl rfl
theorem wt_697 : (Cond.methodLinkNest "StreamFuser$Asker" (108 : Nat) ({ cls := "StreamFuser$Plan", name := "secondPart", desc := "(I)I" } : MethodName) "StreamFuser") ∈ sf_N := sf_N_3 141 rfl rfl
theorem wt_698 : (Cond.methodLink "StreamFuser$Asker" (75 : Nat) ({ cls := "StreamFuser$Asker", name := "askZip", desc := "(II)Z" } : MethodName)) ∈ sf_T := sf_T_3 142 rfl rfl
theorem wt_700 : (Cond.instanceMethod ({ cls := "StreamFuser$Asker", name := "askZip", desc := "(II)Z" } : MethodName)) ∈ sf_T := sf_T_3 144 rfl rfl
theorem wt_701 : (Cond.code ({ cls := "StreamFuser$Asker", name := "askZip", desc := "(II)Z" } : MethodName) prog_2_method_9_code (4 : Nat) (Option.some FieldType.boolean)) ∈ sf_T := sf_T_3 145 rfl rfl
theorem wt_702 : (Cond.methodLink "StreamFuser$Asker" (112 : Nat) ({ cls := "StreamFuser$Asker", name := "join", desc := "(III)I" } : MethodName)) ∈ sf_T := sf_T_3 146 rfl rfl
theorem wt_703 : (Cond.sameMethod "StreamFuser$Asker" "StreamFuser$Way" "join" "(III)I") ∈ sf_T := sf_T_3 147 rfl rfl
theorem wt_705 : (Cond.selects "StreamFuser$Asker" ({ cls := "StreamFuser$Asker", name := "join", desc := "(III)I" } : MethodName) ({ cls := "StreamFuser$Way", name := "join", desc := "(III)I" } : MethodName)) ∈ sf_T := sf_T_3 149 rfl rfl
theorem wt_706 : (Cond.instanceMethod ({ cls := "StreamFuser$Way", name := "join", desc := "(III)I" } : MethodName)) ∈ sf_T := sf_T_3 150 rfl rfl
theorem wt_707 : (Cond.code ({ cls := "StreamFuser$Way", name := "join", desc := "(III)I" } : MethodName) prog_12_method_10_code (4 : Nat) (Option.some FieldType.int)) ∈ sf_T := sf_T_3 151 rfl rfl
theorem wt_708 : (Cond.methodLink "StreamFuser$Way" (111 : Nat) ({ cls := "java/lang/Math", name := "min", desc := "(II)I" } : MethodName)) ∈ sf_T := sf_T_3 152 rfl rfl
theorem wt_709 : (Cond.methodLink "StreamFuser$Asker" (78 : Nat) ({ cls := "StreamFuser$Asker", name := "askOpener", desc := "(II)Z" } : MethodName)) ∈ sf_T := sf_T_3 153 rfl rfl
theorem wt_711 : (Cond.instanceMethod ({ cls := "StreamFuser$Asker", name := "askOpener", desc := "(II)Z" } : MethodName)) ∈ sf_T := sf_T_3 155 rfl rfl
theorem wt_712 : (Cond.code ({ cls := "StreamFuser$Asker", name := "askOpener", desc := "(II)Z" } : MethodName) prog_2_method_10_code (4 : Nat) (Option.some FieldType.boolean)) ∈ sf_T := sf_T_3 156 rfl rfl
theorem wt_713 : (Cond.methodLinkNest "StreamFuser$Asker" (116 : Nat) ({ cls := "StreamFuser$Plan", name := "input", desc := "(I)I" } : MethodName) "StreamFuser") ∈ sf_N := sf_N_3 157 rfl rfl
theorem wt_714 : (Cond.methodLink "StreamFuser$Asker" (119 : Nat) ({ cls := "StreamFuser$Asker", name := "open", desc := "(II)V" } : MethodName)) ∈ sf_T := sf_T_3 158 rfl rfl
theorem wt_715 : (Cond.sameMethod "StreamFuser$Asker" "StreamFuser$Walk" "open" "(II)V") ∈ sf_T := sf_T_3 159 rfl rfl
theorem wt_717 : (Cond.selects "StreamFuser$Asker" ({ cls := "StreamFuser$Asker", name := "open", desc := "(II)V" } : MethodName) ({ cls := "StreamFuser$Walk", name := "open", desc := "(II)V" } : MethodName)) ∈ sf_T := sf_T_3 161 rfl rfl
theorem wt_718 : (Cond.instanceMethod ({ cls := "StreamFuser$Walk", name := "open", desc := "(II)V" } : MethodName)) ∈ sf_T := sf_T_3 162 rfl rfl
theorem wt_719 : (Cond.code ({ cls := "StreamFuser$Walk", name := "open", desc := "(II)V" } : MethodName) prog_11_method_3_code (3 : Nat) (Option.none : Option FieldType)) ∈ sf_T := sf_T_3 163 rfl rfl
theorem wt_720 : (Cond.methodLinkNest "StreamFuser$Walk" (35 : Nat) ({ cls := "StreamFuser$Plan", name := "has", desc := "(I)Z" } : MethodName) "StreamFuser") ∈ sf_N := sf_N_3 164 rfl rfl
theorem wt_721 : (Cond.methodLinkNest "StreamFuser$Walk" (42 : Nat) ({ cls := "StreamFuser$Plan", name := "secondPart", desc := "(I)I" } : MethodName) "StreamFuser") ∈ sf_N := sf_N_3 165 rfl rfl
theorem wt_722 : (Cond.methodLink "StreamFuser$Walk" (46 : Nat) ({ cls := "StreamFuser$Walk", name := "restart", desc := "(II)V" } : MethodName)) ∈ sf_T := sf_T_3 166 rfl rfl
theorem wt_723 : (Cond.methodLink "StreamFuser$Asker" (81 : Nat) ({ cls := "StreamFuser$Asker", name := "produce", desc := "(I)Z" } : MethodName)) ∈ sf_T := sf_T_3 167 rfl rfl
theorem wt_724 : (Cond.sameMethod "StreamFuser$Asker" "StreamFuser$Walk" "produce" "(I)Z") ∈ sf_T := sf_T_3 168 rfl rfl
theorem wt_726 : (Cond.selects "StreamFuser$Asker" ({ cls := "StreamFuser$Asker", name := "produce", desc := "(I)Z" } : MethodName) ({ cls := "StreamFuser$Walk", name := "produce", desc := "(I)Z" } : MethodName)) ∈ sf_T := sf_T_3 170 rfl rfl
theorem wt_727 : (Cond.instanceMethod ({ cls := "StreamFuser$Walk", name := "produce", desc := "(I)Z" } : MethodName)) ∈ sf_T := sf_T_3 171 rfl rfl
theorem wt_728 : (Cond.code ({ cls := "StreamFuser$Walk", name := "produce", desc := "(I)Z" } : MethodName) prog_11_method_4_code (2 : Nat) (Option.some FieldType.boolean)) ∈ sf_T := sf_T_3 172 rfl rfl
theorem wt_729 : (Cond.methodLink "StreamFuser$Walk" (50 : Nat) ({ cls := "StreamFuser$Walk", name := "isReady", desc := "(I)Z" } : MethodName)) ∈ sf_T := sf_T_3 173 rfl rfl
theorem wt_730 : (Cond.sameMethod "StreamFuser$Walk" "StreamFuser$Way" "isReady" "(I)Z") ∈ sf_T := sf_T_3 174 rfl rfl
theorem wt_732 : (Cond.selects "StreamFuser$Asker" ({ cls := "StreamFuser$Walk", name := "isReady", desc := "(I)Z" } : MethodName) ({ cls := "StreamFuser$Way", name := "isReady", desc := "(I)Z" } : MethodName)) ∈ sf_T := sf_T_3 176 rfl rfl
theorem wt_733 : (Cond.selects "StreamFuser$Stepper" ({ cls := "StreamFuser$Walk", name := "isReady", desc := "(I)Z" } : MethodName) ({ cls := "StreamFuser$Way", name := "isReady", desc := "(I)Z" } : MethodName)) ∈ sf_T := sf_T_3 177 rfl rfl
theorem wt_734 : (Cond.instanceMethod ({ cls := "StreamFuser$Way", name := "isReady", desc := "(I)Z" } : MethodName)) ∈ sf_T := sf_T_3 178 rfl rfl
theorem wt_735 : (Cond.code ({ cls := "StreamFuser$Way", name := "isReady", desc := "(I)Z" } : MethodName) prog_12_method_3_code (2 : Nat) (Option.some FieldType.boolean)) ∈ sf_T := sf_T_3 179 rfl rfl
theorem wt_736 : (Cond.methodLinkNest "StreamFuser$Way" (36 : Nat) ({ cls := "StreamFuser$Plan", name := "letterAt", desc := "(I)I" } : MethodName) "StreamFuser") ∈ sf_N := sf_N_3 180 rfl rfl
theorem wt_737 : (Cond.methodLinkNest "StreamFuser$Way" (43 : Nat) ({ cls := "StreamFuser$Sheets", name := "isLost", desc := "(I)Z" } : MethodName) "StreamFuser") ∈ sf_N := sf_N_3 181 rfl rfl
theorem wt_739 : (Cond.instanceMethod ({ cls := "StreamFuser$Sheets", name := "isLost", desc := "(I)Z" } : MethodName)) ∈ sf_T := sf_T_3 183 rfl rfl
theorem wt_740 : (Cond.code ({ cls := "StreamFuser$Sheets", name := "isLost", desc := "(I)Z" } : MethodName) prog_9_method_2_code (2 : Nat) (Option.some FieldType.boolean)) ∈ sf_T := sf_T_3 184 rfl rfl
theorem wt_741 : (Cond.methodLink "StreamFuser$Walk" (53 : Nat) ({ cls := "StreamFuser$Walk", name := "supply", desc := "(I)J" } : MethodName)) ∈ sf_T := sf_T_3 185 rfl rfl
theorem wt_742 : (Cond.sameMethod "StreamFuser$Walk" "StreamFuser$Way" "supply" "(I)J") ∈ sf_T := sf_T_3 186 rfl rfl
theorem wt_744 : (Cond.selects "StreamFuser$Asker" ({ cls := "StreamFuser$Walk", name := "supply", desc := "(I)J" } : MethodName) ({ cls := "StreamFuser$Way", name := "supply", desc := "(I)J" } : MethodName)) ∈ sf_T := sf_T_3 188 rfl rfl
theorem wt_745 : (Cond.selects "StreamFuser$Stepper" ({ cls := "StreamFuser$Walk", name := "supply", desc := "(I)J" } : MethodName) ({ cls := "StreamFuser$Way", name := "supply", desc := "(I)J" } : MethodName)) ∈ sf_T := sf_T_3 189 rfl rfl
theorem wt_746 : (Cond.instanceMethod ({ cls := "StreamFuser$Way", name := "supply", desc := "(I)J" } : MethodName)) ∈ sf_T := sf_T_3 190 rfl rfl
theorem wt_747 : (Cond.code ({ cls := "StreamFuser$Way", name := "supply", desc := "(I)J" } : MethodName) prog_12_method_4_code (2 : Nat) (Option.some FieldType.long)) ∈ sf_T := sf_T_3 191 rfl rfl
theorem wt_748 : (Cond.methodLink "StreamFuser$Way" (70 : Nat) ({ cls := "java/lang/Math", name := "max", desc := "(JJ)J" } : MethodName)) ∈ sf_T := sf_T_3 192 rfl rfl
theorem wt_749 : (Cond.static ({ cls := "java/lang/Math", name := "max", desc := "(JJ)J" } : MethodName)) ∈ sf_T := sf_T_3 193 rfl rfl
theorem wt_750 : (Cond.code Lib.MathLoose.max_long.x Lib.MathLoose.max_long.code 4 (some .long)) ∈ sf_T := sf_T_3 194 (by decide +kernel) rfl
theorem wt_751 : (Cond.constantLong "StreamFuser$Way" (78 : Nat) (9223372036854775807 : Int64)) ∈ sf_T := sf_T_3 195 rfl rfl
theorem wt_752 : (Cond.methodLinkNest "StreamFuser$Way" (80 : Nat) ({ cls := "StreamFuser", name := "isSheet", desc := "(I)Z" } : MethodName) "StreamFuser") ∈ sf_N := sf_N_3 196 rfl rfl
theorem wt_753 : (Cond.static ({ cls := "StreamFuser", name := "isSheet", desc := "(I)Z" } : MethodName)) ∈ sf_T := sf_T_3 197 rfl rfl
theorem wt_754 : (Cond.code ({ cls := "StreamFuser", name := "isSheet", desc := "(I)Z" } : MethodName) prog_1_method_29_code (1 : Nat) (Option.some FieldType.boolean)) ∈ sf_T := sf_T_3 198 rfl rfl
theorem wt_755 : (Cond.methodLink "StreamFuser$Way" (86 : Nat) ({ cls := "StreamFuser$Way", name := "openedFor", desc := "(I)I" } : MethodName)) ∈ sf_T := sf_T_3 199 rfl rfl
theorem wt_756 : (Cond.instanceMethod ({ cls := "StreamFuser$Way", name := "openedFor", desc := "(I)I" } : MethodName)) ∈ sf_T := sf_T_3 200 rfl rfl
theorem wt_757 : (Cond.sameMethod "StreamFuser$Way" "StreamFuser$Way" "openedFor" "(I)I") ∈ sf_T := sf_T_3 201 rfl rfl
theorem wt_758 : (Cond.selects "StreamFuser$Asker" ({ cls := "StreamFuser$Way", name := "openedFor", desc := "(I)I" } : MethodName) ({ cls := "StreamFuser$Way", name := "openedFor", desc := "(I)I" } : MethodName)) ∈ sf_T := sf_T_3 202 rfl rfl
theorem wt_759 : (Cond.selects "StreamFuser$Maker" ({ cls := "StreamFuser$Way", name := "openedFor", desc := "(I)I" } : MethodName) ({ cls := "StreamFuser$Way", name := "openedFor", desc := "(I)I" } : MethodName)) ∈ sf_T := sf_T_3 203 rfl rfl
theorem wt_760 : (Cond.selects "StreamFuser$Stepper" ({ cls := "StreamFuser$Way", name := "openedFor", desc := "(I)I" } : MethodName) ({ cls := "StreamFuser$Way", name := "openedFor", desc := "(I)I" } : MethodName)) ∈ sf_T := sf_T_3 204 rfl rfl
theorem wt_761 : (Cond.code ({ cls := "StreamFuser$Way", name := "openedFor", desc := "(I)I" } : MethodName) prog_12_method_2_code (3 : Nat) (Option.some FieldType.int)) ∈ sf_T := sf_T_3 205 rfl rfl
theorem wt_762 : (Cond.methodLink "StreamFuser$Way" (89 : Nat) ({ cls := "java/lang/Math", name := "max", desc := "(II)I" } : MethodName)) ∈ sf_T := sf_T_3 206 rfl rfl
theorem wt_763 : (Cond.methodLinkNest "StreamFuser$Walk" (61 : Nat) ({ cls := "StreamFuser$Run", name := "draw", desc := "(I)Z" } : MethodName) "StreamFuser") ∈ sf_N := sf_N_3 207 rfl rfl
theorem wt_765 : (Cond.instanceMethod ({ cls := "StreamFuser$Run", name := "draw", desc := "(I)Z" } : MethodName)) ∈ sf_T := sf_T_3 209 rfl rfl
theorem wt_766 : (Cond.code ({ cls := "StreamFuser$Run", name := "draw", desc := "(I)Z" } : MethodName) prog_8_method_4_code (2 : Nat) (Option.some FieldType.boolean)) ∈ sf_T := sf_T_3 210 rfl rfl
theorem wt_767 : (Cond.methodLink "StreamFuser$Run" (43 : Nat) ({ cls := "StreamFuser$Run", name := "fail", desc := "(II)V" } : MethodName)) ∈ sf_T := sf_T_3 211 rfl rfl
theorem wt_768 : (Cond.methodLink "StreamFuser$Walk" (66 : Nat) ({ cls := "StreamFuser$Walk", name := "supplied", desc := "(II)I" } : MethodName)) ∈ sf_T := sf_T_3 212 rfl rfl
theorem wt_769 : (Cond.sameMethod "StreamFuser$Walk" "StreamFuser$Way" "supplied" "(II)I") ∈ sf_T := sf_T_3 213 rfl rfl
theorem wt_771 : (Cond.selects "StreamFuser$Asker" ({ cls := "StreamFuser$Walk", name := "supplied", desc := "(II)I" } : MethodName) ({ cls := "StreamFuser$Way", name := "supplied", desc := "(II)I" } : MethodName)) ∈ sf_T := sf_T_3 215 rfl rfl
theorem wt_772 : (Cond.selects "StreamFuser$Stepper" ({ cls := "StreamFuser$Walk", name := "supplied", desc := "(II)I" } : MethodName) ({ cls := "StreamFuser$Way", name := "supplied", desc := "(II)I" } : MethodName)) ∈ sf_T := sf_T_3 216 rfl rfl
theorem wt_773 : (Cond.instanceMethod ({ cls := "StreamFuser$Way", name := "supplied", desc := "(II)I" } : MethodName)) ∈ sf_T := sf_T_3 217 rfl rfl
theorem wt_774 : (Cond.code ({ cls := "StreamFuser$Way", name := "supplied", desc := "(II)I" } : MethodName) prog_12_method_5_code (3 : Nat) (Option.some FieldType.int)) ∈ sf_T := sf_T_3 218 rfl rfl
theorem wt_775 : (Cond.methodLinkNest "StreamFuser$Way" (92 : Nat) ({ cls := "StreamFuser$Sheets", name := "at", desc := "(II)I" } : MethodName) "StreamFuser") ∈ sf_N := sf_N_3 219 rfl rfl
theorem wt_777 : (Cond.instanceMethod ({ cls := "StreamFuser$Sheets", name := "at", desc := "(II)I" } : MethodName)) ∈ sf_T := sf_T_3 221 rfl rfl
theorem wt_778 : (Cond.code ({ cls := "StreamFuser$Sheets", name := "at", desc := "(II)I" } : MethodName) prog_9_method_8_code (3 : Nat) (Option.some FieldType.int)) ∈ sf_T := sf_T_3 222 rfl rfl
theorem wt_779 : (Cond.methodLinkNest "StreamFuser$Asker" (42 : Nat) ({ cls := "StreamFuser$Run", name := "give", desc := "(I)V" } : MethodName) "StreamFuser") ∈ sf_N := sf_N_3 223 rfl rfl
theorem wt_781 : (Cond.instanceMethod ({ cls := "StreamFuser$Run", name := "give", desc := "(I)V" } : MethodName)) ∈ sf_T := sf_T_3 225 rfl rfl
theorem wt_782 : (Cond.code ({ cls := "StreamFuser$Run", name := "give", desc := "(I)V" } : MethodName) prog_8_method_3_code (2 : Nat) (Option.none : Option FieldType)) ∈ sf_T := sf_T_3 226 rfl rfl
theorem wt_783 : (Cond.methodLink "StreamFuserLaw" (80 : Nat) ({ cls := "StreamFuser", name := "run", desc := "(II)I" } : MethodName)) ∈ sf_T := sf_T_3 227 rfl rfl
theorem wt_784 : (Cond.instanceMethod ({ cls := "StreamFuser", name := "run", desc := "(II)I" } : MethodName)) ∈ sf_T := sf_T_3 228 rfl rfl
theorem wt_785 : (Cond.selects "StreamFuser" ({ cls := "StreamFuser", name := "run", desc := "(II)I" } : MethodName) ({ cls := "StreamFuser", name := "run", desc := "(II)I" } : MethodName)) ∈ sf_T := sf_T_3 229 rfl rfl
theorem wt_786 : (Cond.code ({ cls := "StreamFuser", name := "run", desc := "(II)I" } : MethodName) prog_1_method_11_code (3 : Nat) (Option.some FieldType.int)) ∈ sf_T := sf_T_3 230 rfl rfl
theorem wt_787 : (Cond.methodLinkNest "StreamFuser" (163 : Nat) ({ cls := "StreamFuser$Stepper", name := "play", desc := "(I)V" } : MethodName) "StreamFuser") ∈ sf_N := sf_N_3 231 rfl rfl
theorem wt_789 : (Cond.instanceMethod ({ cls := "StreamFuser$Stepper", name := "play", desc := "(I)V" } : MethodName)) ∈ sf_T := sf_T_3 233 rfl rfl
theorem wt_790 : (Cond.code ({ cls := "StreamFuser$Stepper", name := "play", desc := "(I)V" } : MethodName) prog_10_method_2_code (4 : Nat) (Option.none : Option FieldType)) ∈ sf_T := sf_T_3 234 rfl rfl
theorem wt_791 : (Cond.methodLinkNest "StreamFuser$Stepper" (19 : Nat) ({ cls := "StreamFuser$Run", name := "begin", desc := "()V" } : MethodName) "StreamFuser") ∈ sf_N := sf_N_3 235 rfl rfl
theorem wt_792 : (Cond.methodLink "StreamFuser$Stepper" (35 : Nat) ({ cls := "StreamFuser$Stepper", name := "restart", desc := "(II)V" } : MethodName)) ∈ sf_T := sf_T_3 236 rfl rfl
theorem wt_793 : (Cond.sameMethod "StreamFuser$Stepper" "StreamFuser$Walk" "restart" "(II)V") ∈ sf_T := sf_T_3 237 rfl rfl
theorem wt_794 : (Cond.selects "StreamFuser$Stepper" ({ cls := "StreamFuser$Stepper", name := "restart", desc := "(II)V" } : MethodName) ({ cls := "StreamFuser$Walk", name := "restart", desc := "(II)V" } : MethodName)) ∈ sf_T := sf_T_3 238 rfl rfl
theorem wt_795 : (Cond.constant "StreamFuser$Stepper" (39 : Nat) (1000000 : Int32)) ∈ sf_T := sf_T_3 239 rfl rfl
theorem wt_796 : (Cond.methodLink "StreamFuser$Stepper" (44 : Nat) ({ cls := "StreamFuser$Stepper", name := "step", desc := "(II)I" } : MethodName)) ∈ sf_T := sf_T_4 0 rfl rfl
theorem wt_798 : (Cond.instanceMethod ({ cls := "StreamFuser$Stepper", name := "step", desc := "(II)I" } : MethodName)) ∈ sf_T := sf_T_4 2 rfl rfl
theorem wt_799 : (Cond.code ({ cls := "StreamFuser$Stepper", name := "step", desc := "(II)I" } : MethodName) prog_10_method_3_code (3 : Nat) (Option.some FieldType.int)) ∈ sf_T := sf_T_4 3 rfl rfl
theorem wt_800 : (Cond.methodLinkNest "StreamFuser$Stepper" (55 : Nat) ({ cls := "StreamFuser$Plan", name := "has", desc := "(I)Z" } : MethodName) "StreamFuser") ∈ sf_N := sf_N_4 4 rfl rfl
theorem wt_801 : (Cond.methodLink "StreamFuser$Stepper" (62 : Nat) ({ cls := "StreamFuser$Stepper", name := "stepChain", desc := "(II)I" } : MethodName)) ∈ sf_T := sf_T_4 5 rfl rfl
theorem wt_803 : (Cond.instanceMethod ({ cls := "StreamFuser$Stepper", name := "stepChain", desc := "(II)I" } : MethodName)) ∈ sf_T := sf_T_4 7 rfl rfl
theorem wt_804 : (Cond.code ({ cls := "StreamFuser$Stepper", name := "stepChain", desc := "(II)I" } : MethodName) prog_10_method_6_code (4 : Nat) (Option.some FieldType.int)) ∈ sf_T := sf_T_4 8 rfl rfl
theorem wt_805 : (Cond.methodLinkNest "StreamFuser$Stepper" (102 : Nat) ({ cls := "StreamFuser$Plan", name := "secondPart", desc := "(I)I" } : MethodName) "StreamFuser") ∈ sf_N := sf_N_4 9 rfl rfl
theorem wt_806 : (Cond.methodLink "StreamFuser$Stepper" (65 : Nat) ({ cls := "StreamFuser$Stepper", name := "stepZip", desc := "(II)I" } : MethodName)) ∈ sf_T := sf_T_4 10 rfl rfl
theorem wt_808 : (Cond.instanceMethod ({ cls := "StreamFuser$Stepper", name := "stepZip", desc := "(II)I" } : MethodName)) ∈ sf_T := sf_T_4 12 rfl rfl
theorem wt_809 : (Cond.code ({ cls := "StreamFuser$Stepper", name := "stepZip", desc := "(II)I" } : MethodName) prog_10_method_7_code (4 : Nat) (Option.some FieldType.int)) ∈ sf_T := sf_T_4 13 rfl rfl
theorem wt_810 : (Cond.methodLink "StreamFuser$Stepper" (106 : Nat) ({ cls := "StreamFuser$Stepper", name := "join", desc := "(III)I" } : MethodName)) ∈ sf_T := sf_T_4 14 rfl rfl
theorem wt_811 : (Cond.sameMethod "StreamFuser$Stepper" "StreamFuser$Way" "join" "(III)I") ∈ sf_T := sf_T_4 15 rfl rfl
theorem wt_812 : (Cond.selects "StreamFuser$Stepper" ({ cls := "StreamFuser$Stepper", name := "join", desc := "(III)I" } : MethodName) ({ cls := "StreamFuser$Way", name := "join", desc := "(III)I" } : MethodName)) ∈ sf_T := sf_T_4 16 rfl rfl
theorem wt_813 : (Cond.methodLink "StreamFuser$Stepper" (68 : Nat) ({ cls := "StreamFuser$Stepper", name := "stepOpener", desc := "(II)I" } : MethodName)) ∈ sf_T := sf_T_4 17 rfl rfl
theorem wt_815 : (Cond.instanceMethod ({ cls := "StreamFuser$Stepper", name := "stepOpener", desc := "(II)I" } : MethodName)) ∈ sf_T := sf_T_4 19 rfl rfl
theorem wt_816 : (Cond.code ({ cls := "StreamFuser$Stepper", name := "stepOpener", desc := "(II)I" } : MethodName) prog_10_method_8_code (4 : Nat) (Option.some FieldType.int)) ∈ sf_T := sf_T_4 20 rfl rfl
theorem wt_817 : (Cond.methodLinkNest "StreamFuser$Stepper" (110 : Nat) ({ cls := "StreamFuser$Plan", name := "input", desc := "(I)I" } : MethodName) "StreamFuser") ∈ sf_N := sf_N_4 21 rfl rfl
theorem wt_818 : (Cond.methodLink "StreamFuser$Stepper" (113 : Nat) ({ cls := "StreamFuser$Stepper", name := "open", desc := "(II)V" } : MethodName)) ∈ sf_T := sf_T_4 22 rfl rfl
theorem wt_819 : (Cond.sameMethod "StreamFuser$Stepper" "StreamFuser$Walk" "open" "(II)V") ∈ sf_T := sf_T_4 23 rfl rfl
theorem wt_820 : (Cond.selects "StreamFuser$Stepper" ({ cls := "StreamFuser$Stepper", name := "open", desc := "(II)V" } : MethodName) ({ cls := "StreamFuser$Walk", name := "open", desc := "(II)V" } : MethodName)) ∈ sf_T := sf_T_4 24 rfl rfl
theorem wt_821 : (Cond.methodLink "StreamFuser$Stepper" (71 : Nat) ({ cls := "StreamFuser$Stepper", name := "produce", desc := "(I)Z" } : MethodName)) ∈ sf_T := sf_T_4 25 rfl rfl
theorem wt_822 : (Cond.sameMethod "StreamFuser$Stepper" "StreamFuser$Walk" "produce" "(I)Z") ∈ sf_T := sf_T_4 26 rfl rfl
theorem wt_823 : (Cond.selects "StreamFuser$Stepper" ({ cls := "StreamFuser$Stepper", name := "produce", desc := "(I)Z" } : MethodName) ({ cls := "StreamFuser$Walk", name := "produce", desc := "(I)Z" } : MethodName)) ∈ sf_T := sf_T_4 27 rfl rfl
theorem wt_824 : (Cond.methodLink "StreamFuser$Stepper" (74 : Nat) ({ cls := "StreamFuser$Stepper", name := "given", desc := "(Z)I" } : MethodName)) ∈ sf_T := sf_T_4 28 rfl rfl
theorem wt_826 : (Cond.instanceMethod ({ cls := "StreamFuser$Stepper", name := "given", desc := "(Z)I" } : MethodName)) ∈ sf_T := sf_T_4 30 rfl rfl
theorem wt_827 : (Cond.code ({ cls := "StreamFuser$Stepper", name := "given", desc := "(Z)I" } : MethodName) prog_10_method_5_code (2 : Nat) (Option.some FieldType.int)) ∈ sf_T := sf_T_4 31 rfl rfl
theorem wt_828 : (Cond.methodLinkNest "StreamFuser$Stepper" (94 : Nat) ({ cls := "StreamFuser$Run", name := "failed", desc := "()Z" } : MethodName) "StreamFuser") ∈ sf_N := sf_N_4 32 rfl rfl
theorem wt_829 : (Cond.methodLink "StreamFuser$Stepper" (78 : Nat) ({ cls := "StreamFuser$Stepper", name := "stepOne", desc := "(II)I" } : MethodName)) ∈ sf_T := sf_T_4 33 rfl rfl
theorem wt_831 : (Cond.instanceMethod ({ cls := "StreamFuser$Stepper", name := "stepOne", desc := "(II)I" } : MethodName)) ∈ sf_T := sf_T_4 35 rfl rfl
theorem wt_832 : (Cond.code ({ cls := "StreamFuser$Stepper", name := "stepOne", desc := "(II)I" } : MethodName) prog_10_method_4_code (4 : Nat) (Option.some FieldType.int)) ∈ sf_T := sf_T_4 36 rfl rfl
theorem wt_833 : (Cond.methodLink "StreamFuser$Stepper" (87 : Nat) ({ cls := "StreamFuser$Stepper", name := "passes", desc := "(II)Z" } : MethodName)) ∈ sf_T := sf_T_4 37 rfl rfl
theorem wt_834 : (Cond.sameMethod "StreamFuser$Stepper" "StreamFuser$Way" "passes" "(II)Z") ∈ sf_T := sf_T_4 38 rfl rfl
theorem wt_835 : (Cond.selects "StreamFuser$Stepper" ({ cls := "StreamFuser$Stepper", name := "passes", desc := "(II)Z" } : MethodName) ({ cls := "StreamFuser$Way", name := "passes", desc := "(II)Z" } : MethodName)) ∈ sf_T := sf_T_4 39 rfl rfl
theorem wt_836 : (Cond.methodLink "StreamFuser$Stepper" (91 : Nat) ({ cls := "StreamFuser$Stepper", name := "change", desc := "(II)Z" } : MethodName)) ∈ sf_T := sf_T_4 40 rfl rfl
theorem wt_837 : (Cond.sameMethod "StreamFuser$Stepper" "StreamFuser$Way" "change" "(II)Z") ∈ sf_T := sf_T_4 41 rfl rfl
theorem wt_838 : (Cond.selects "StreamFuser$Stepper" ({ cls := "StreamFuser$Stepper", name := "change", desc := "(II)Z" } : MethodName) ({ cls := "StreamFuser$Way", name := "change", desc := "(II)Z" } : MethodName)) ∈ sf_T := sf_T_4 42 rfl rfl
theorem wt_839 : (Cond.methodLinkNest "StreamFuser$Stepper" (51 : Nat) ({ cls := "StreamFuser$Run", name := "give", desc := "(I)V" } : MethodName) "StreamFuser") ∈ sf_N := sf_N_4 43 rfl rfl
theorem wt_840 : (Cond.methodLinkNest "StreamFuser" (164 : Nat) ({ cls := "StreamFuser$Maker", name := "play", desc := "(I)V" } : MethodName) "StreamFuser") ∈ sf_N := sf_N_4 44 rfl rfl
theorem wt_842 : (Cond.instanceMethod ({ cls := "StreamFuser$Maker", name := "play", desc := "(I)V" } : MethodName)) ∈ sf_T := sf_T_4 46 rfl rfl
theorem wt_843 : (Cond.code ({ cls := "StreamFuser$Maker", name := "play", desc := "(I)V" } : MethodName) prog_3_method_2_code (3 : Nat) (Option.none : Option FieldType)) ∈ sf_T := sf_T_4 47 rfl rfl
theorem wt_844 : (Cond.methodLinkNest "StreamFuser$Maker" (22 : Nat) ({ cls := "StreamFuser$Run", name := "begin", desc := "()V" } : MethodName) "StreamFuser") ∈ sf_N := sf_N_4 48 rfl rfl
theorem wt_845 : (Cond.methodLink "StreamFuser$Maker" (28 : Nat) ({ cls := "StreamFuser$Maker", name := "make", desc := "(II)Z" } : MethodName)) ∈ sf_T := sf_T_4 49 rfl rfl
theorem wt_847 : (Cond.instanceMethod ({ cls := "StreamFuser$Maker", name := "make", desc := "(II)Z" } : MethodName)) ∈ sf_T := sf_T_4 51 rfl rfl
theorem wt_848 : (Cond.code ({ cls := "StreamFuser$Maker", name := "make", desc := "(II)Z" } : MethodName) prog_3_method_3_code (3 : Nat) (Option.some FieldType.boolean)) ∈ sf_T := sf_T_4 52 rfl rfl
theorem wt_849 : (Cond.methodLinkNest "StreamFuser$Maker" (40 : Nat) ({ cls := "StreamFuser$Plan", name := "has", desc := "(I)Z" } : MethodName) "StreamFuser") ∈ sf_N := sf_N_4 53 rfl rfl
theorem wt_850 : (Cond.methodLink "StreamFuser$Maker" (46 : Nat) ({ cls := "StreamFuser$Maker", name := "fill", desc := "(II)Z" } : MethodName)) ∈ sf_T := sf_T_4 54 rfl rfl
theorem wt_852 : (Cond.instanceMethod ({ cls := "StreamFuser$Maker", name := "fill", desc := "(II)Z" } : MethodName)) ∈ sf_T := sf_T_4 56 rfl rfl
theorem wt_853 : (Cond.code ({ cls := "StreamFuser$Maker", name := "fill", desc := "(II)Z" } : MethodName) prog_3_method_4_code (5 : Nat) (Option.some FieldType.boolean)) ∈ sf_T := sf_T_4 57 rfl rfl
theorem wt_854 : (Cond.methodLinkNest "StreamFuser$Maker" (59 : Nat) ({ cls := "StreamFuser$Plan", name := "partsOf", desc := "(I)I" } : MethodName) "StreamFuser") ∈ sf_N := sf_N_4 58 rfl rfl
theorem wt_855 : (Cond.methodLink "StreamFuser$Maker" (63 : Nat) ({ cls := "StreamFuser$Maker", name := "fillFromProducer", desc := "(I)Z" } : MethodName)) ∈ sf_T := sf_T_4 59 rfl rfl
theorem wt_857 : (Cond.instanceMethod ({ cls := "StreamFuser$Maker", name := "fillFromProducer", desc := "(I)Z" } : MethodName)) ∈ sf_T := sf_T_4 61 rfl rfl
theorem wt_858 : (Cond.code ({ cls := "StreamFuser$Maker", name := "fillFromProducer", desc := "(I)Z" } : MethodName) prog_3_method_5_code (5 : Nat) (Option.some FieldType.boolean)) ∈ sf_T := sf_T_4 62 rfl rfl
theorem wt_859 : (Cond.methodLink "StreamFuser$Maker" (85 : Nat) ({ cls := "StreamFuser$Maker", name := "isReady", desc := "(I)Z" } : MethodName)) ∈ sf_T := sf_T_4 63 rfl rfl
theorem wt_860 : (Cond.sameMethod "StreamFuser$Maker" "StreamFuser$Way" "isReady" "(I)Z") ∈ sf_T := sf_T_4 64 rfl rfl
theorem wt_861 : (Cond.selects "StreamFuser$Maker" ({ cls := "StreamFuser$Maker", name := "isReady", desc := "(I)Z" } : MethodName) ({ cls := "StreamFuser$Way", name := "isReady", desc := "(I)Z" } : MethodName)) ∈ sf_T := sf_T_4 65 rfl rfl
theorem wt_862 : (Cond.methodLink "StreamFuser$Maker" (88 : Nat) ({ cls := "StreamFuser$Maker", name := "supply", desc := "(I)J" } : MethodName)) ∈ sf_T := sf_T_4 66 rfl rfl
theorem wt_863 : (Cond.sameMethod "StreamFuser$Maker" "StreamFuser$Way" "supply" "(I)J") ∈ sf_T := sf_T_4 67 rfl rfl
theorem wt_864 : (Cond.selects "StreamFuser$Maker" ({ cls := "StreamFuser$Maker", name := "supply", desc := "(I)J" } : MethodName) ({ cls := "StreamFuser$Way", name := "supply", desc := "(I)J" } : MethodName)) ∈ sf_T := sf_T_4 68 rfl rfl
theorem wt_865 : (Cond.constantLong "StreamFuser$Maker" (92 : Nat) (60 : Int64)) ∈ sf_T := sf_T_4 69 rfl rfl
theorem wt_866 : (Cond.methodLinkNest "StreamFuser$Maker" (97 : Nat) ({ cls := "StreamFuser$Run", name := "fail", desc := "(II)V" } : MethodName) "StreamFuser") ∈ sf_N := sf_N_4 70 rfl rfl
theorem wt_867 : (Cond.methodLinkNest "StreamFuser$Maker" (100 : Nat) ({ cls := "StreamFuser$Run", name := "draw", desc := "(I)Z" } : MethodName) "StreamFuser") ∈ sf_N := sf_N_4 71 rfl rfl
theorem wt_868 : (Cond.methodLink "StreamFuser$Maker" (103 : Nat) ({ cls := "StreamFuser$Maker", name := "supplied", desc := "(II)I" } : MethodName)) ∈ sf_T := sf_T_4 72 rfl rfl
theorem wt_869 : (Cond.sameMethod "StreamFuser$Maker" "StreamFuser$Way" "supplied" "(II)I") ∈ sf_T := sf_T_4 73 rfl rfl
theorem wt_870 : (Cond.selects "StreamFuser$Maker" ({ cls := "StreamFuser$Maker", name := "supplied", desc := "(II)I" } : MethodName) ({ cls := "StreamFuser$Way", name := "supplied", desc := "(II)I" } : MethodName)) ∈ sf_T := sf_T_4 74 rfl rfl
theorem wt_871 : (Cond.methodLink "StreamFuser$Maker" (107 : Nat) ({ cls := "StreamFuser$Maker", name := "add", desc := "(II)V" } : MethodName)) ∈ sf_T := sf_T_4 75 rfl rfl
theorem wt_873 : (Cond.instanceMethod ({ cls := "StreamFuser$Maker", name := "add", desc := "(II)V" } : MethodName)) ∈ sf_T := sf_T_4 77 rfl rfl
theorem wt_874 : (Cond.code ({ cls := "StreamFuser$Maker", name := "add", desc := "(II)V" } : MethodName) prog_3_method_11_code (3 : Nat) (Option.none : Option FieldType)) ∈ sf_T := sf_T_4 78 rfl rfl
theorem wt_875 : (Cond.methodLinkNest "StreamFuser$Maker" (66 : Nat) ({ cls := "StreamFuser$Plan", name := "input", desc := "(I)I" } : MethodName) "StreamFuser") ∈ sf_N := sf_N_4 79 rfl rfl
theorem wt_876 : (Cond.methodLink "StreamFuser$Maker" (69 : Nat) ({ cls := "StreamFuser$Maker", name := "fillByOpening", desc := "(II)Z" } : MethodName)) ∈ sf_T := sf_T_4 80 rfl rfl
theorem wt_878 : (Cond.instanceMethod ({ cls := "StreamFuser$Maker", name := "fillByOpening", desc := "(II)Z" } : MethodName)) ∈ sf_T := sf_T_4 82 rfl rfl
theorem wt_879 : (Cond.code ({ cls := "StreamFuser$Maker", name := "fillByOpening", desc := "(II)Z" } : MethodName) prog_3_method_7_code (5 : Nat) (Option.some FieldType.boolean)) ∈ sf_T := sf_T_4 83 rfl rfl
theorem wt_880 : (Cond.methodLink "StreamFuser$Maker" (110 : Nat) ({ cls := "StreamFuser$Maker", name := "element", desc := "(II)I" } : MethodName)) ∈ sf_T := sf_T_4 84 rfl rfl
theorem wt_882 : (Cond.instanceMethod ({ cls := "StreamFuser$Maker", name := "element", desc := "(II)I" } : MethodName)) ∈ sf_T := sf_T_4 86 rfl rfl
theorem wt_883 : (Cond.code ({ cls := "StreamFuser$Maker", name := "element", desc := "(II)I" } : MethodName) prog_3_method_10_code (3 : Nat) (Option.some FieldType.int)) ∈ sf_T := sf_T_4 87 rfl rfl
theorem wt_884 : (Cond.methodLink "StreamFuser$Maker" (78 : Nat) ({ cls := "StreamFuser$Maker", name := "addRow", desc := "(II)Z" } : MethodName)) ∈ sf_T := sf_T_4 88 rfl rfl
theorem wt_886 : (Cond.instanceMethod ({ cls := "StreamFuser$Maker", name := "addRow", desc := "(II)Z" } : MethodName)) ∈ sf_T := sf_T_4 90 rfl rfl
theorem wt_887 : (Cond.code ({ cls := "StreamFuser$Maker", name := "addRow", desc := "(II)Z" } : MethodName) prog_3_method_8_code (3 : Nat) (Option.some FieldType.boolean)) ∈ sf_T := sf_T_4 91 rfl rfl
theorem wt_888 : (Cond.methodLink "StreamFuser$Maker" (128 : Nat) ({ cls := "java/lang/System", name := "arraycopy", desc := "(Ljava/lang/Object;ILjava/lang/Object;II)V" } : MethodName)) ∈ sf_T := sf_T_4 92 rfl rfl
theorem wt_889 : (Cond.static ({ cls := "java/lang/System", name := "arraycopy", desc := "(Ljava/lang/Object;ILjava/lang/Object;II)V" } : MethodName)) ∈ sf_T := sf_T_4 93 rfl rfl
theorem wt_890 : (Cond.native ({ cls := "java/lang/System", name := "arraycopy", desc := "(Ljava/lang/Object;ILjava/lang/Object;II)V" } : MethodName)) ∈ sf_T := sf_T_4 94 rfl rfl
theorem wt_891 : (Cond.methodLink "StreamFuser$Maker" (72 : Nat) ({ cls := "StreamFuser$Maker", name := "fillFromInput", desc := "(I)Z" } : MethodName)) ∈ sf_T := sf_T_4 95 rfl rfl
theorem wt_893 : (Cond.instanceMethod ({ cls := "StreamFuser$Maker", name := "fillFromInput", desc := "(I)Z" } : MethodName)) ∈ sf_T := sf_T_4 97 rfl rfl
theorem wt_894 : (Cond.code ({ cls := "StreamFuser$Maker", name := "fillFromInput", desc := "(I)Z" } : MethodName) prog_3_method_6_code (5 : Nat) (Option.some FieldType.boolean)) ∈ sf_T := sf_T_4 98 rfl rfl
theorem wt_895 : (Cond.methodLink "StreamFuser$Maker" (113 : Nat) ({ cls := "StreamFuser$Maker", name := "passes", desc := "(II)Z" } : MethodName)) ∈ sf_T := sf_T_4 99 rfl rfl
theorem wt_896 : (Cond.sameMethod "StreamFuser$Maker" "StreamFuser$Way" "passes" "(II)Z") ∈ sf_T := sf_T_4 100 rfl rfl
theorem wt_897 : (Cond.selects "StreamFuser$Maker" ({ cls := "StreamFuser$Maker", name := "passes", desc := "(II)Z" } : MethodName) ({ cls := "StreamFuser$Way", name := "passes", desc := "(II)Z" } : MethodName)) ∈ sf_T := sf_T_4 101 rfl rfl
theorem wt_898 : (Cond.methodLink "StreamFuser$Maker" (119 : Nat) ({ cls := "StreamFuser$Maker", name := "change", desc := "(II)Z" } : MethodName)) ∈ sf_T := sf_T_4 102 rfl rfl
theorem wt_899 : (Cond.sameMethod "StreamFuser$Maker" "StreamFuser$Way" "change" "(II)Z") ∈ sf_T := sf_T_4 103 rfl rfl
theorem wt_900 : (Cond.selects "StreamFuser$Maker" ({ cls := "StreamFuser$Maker", name := "change", desc := "(II)Z" } : MethodName) ({ cls := "StreamFuser$Way", name := "change", desc := "(II)Z" } : MethodName)) ∈ sf_T := sf_T_4 104 rfl rfl
theorem wt_901 : (Cond.methodLinkNest "StreamFuser$Maker" (75 : Nat) ({ cls := "StreamFuser$Plan", name := "secondPart", desc := "(I)I" } : MethodName) "StreamFuser") ∈ sf_N := sf_N_4 105 rfl rfl
theorem wt_902 : (Cond.methodLink "StreamFuser$Maker" (81 : Nat) ({ cls := "StreamFuser$Maker", name := "zip", desc := "(II)V" } : MethodName)) ∈ sf_T := sf_T_4 106 rfl rfl
theorem wt_904 : (Cond.instanceMethod ({ cls := "StreamFuser$Maker", name := "zip", desc := "(II)V" } : MethodName)) ∈ sf_T := sf_T_4 108 rfl rfl
theorem wt_905 : (Cond.code ({ cls := "StreamFuser$Maker", name := "zip", desc := "(II)V" } : MethodName) prog_3_method_9_code (6 : Nat) (Option.none : Option FieldType)) ∈ sf_T := sf_T_4 109 rfl rfl
theorem wt_906 : (Cond.methodLink "StreamFuser$Maker" (134 : Nat) ({ cls := "java/lang/Math", name := "min", desc := "(II)I" } : MethodName)) ∈ sf_T := sf_T_4 110 rfl rfl
theorem wt_907 : (Cond.methodLink "StreamFuser$Maker" (139 : Nat) ({ cls := "StreamFuser$Maker", name := "join", desc := "(III)I" } : MethodName)) ∈ sf_T := sf_T_4 111 rfl rfl
theorem wt_908 : (Cond.sameMethod "StreamFuser$Maker" "StreamFuser$Way" "join" "(III)I") ∈ sf_T := sf_T_4 112 rfl rfl
theorem wt_909 : (Cond.selects "StreamFuser$Maker" ({ cls := "StreamFuser$Maker", name := "join", desc := "(III)I" } : MethodName) ({ cls := "StreamFuser$Way", name := "join", desc := "(III)I" } : MethodName)) ∈ sf_T := sf_T_4 113 rfl rfl
theorem wt_910 : (Cond.methodLinkNest "StreamFuser$Maker" (32 : Nat) ({ cls := "StreamFuser$Run", name := "give", desc := "(I)V" } : MethodName) "StreamFuser") ∈ sf_N := sf_N_4 114 rfl rfl
theorem wt_911 : (Cond.methodLink "StreamFuserLaw" (49 : Nat) ({ cls := "StreamFuser", name := "result", desc := "(I)J" } : MethodName)) ∈ sf_T := sf_T_4 115 rfl rfl
theorem wt_912 : (Cond.instanceMethod ({ cls := "StreamFuser", name := "result", desc := "(I)J" } : MethodName)) ∈ sf_T := sf_T_4 116 rfl rfl
theorem wt_913 : (Cond.selects "StreamFuser" ({ cls := "StreamFuser", name := "result", desc := "(I)J" } : MethodName) ({ cls := "StreamFuser", name := "result", desc := "(I)J" } : MethodName)) ∈ sf_T := sf_T_4 117 rfl rfl
theorem wt_914 : (Cond.code ({ cls := "StreamFuser", name := "result", desc := "(I)J" } : MethodName) prog_1_method_12_code (2 : Nat) (Option.some FieldType.long)) ∈ sf_T := sf_T_4 118 rfl rfl
theorem wt_915 : (Cond.constantLong "StreamFuser" (169 : Nat) (-9223372036854775806 : Int64)) ∈ sf_T := sf_T_4 119 rfl rfl
theorem wt_916 : (Cond.methodLink "StreamFuserLaw" (60 : Nat) ({ cls := "StreamFuser", name := "failure", desc := "(I)I" } : MethodName)) ∈ sf_T := sf_T_4 120 rfl rfl
theorem wt_917 : (Cond.instanceMethod ({ cls := "StreamFuser", name := "failure", desc := "(I)I" } : MethodName)) ∈ sf_T := sf_T_4 121 rfl rfl
theorem wt_918 : (Cond.selects "StreamFuser" ({ cls := "StreamFuser", name := "failure", desc := "(I)I" } : MethodName) ({ cls := "StreamFuser", name := "failure", desc := "(I)I" } : MethodName)) ∈ sf_T := sf_T_4 122 rfl rfl
theorem wt_919 : (Cond.code ({ cls := "StreamFuser", name := "failure", desc := "(I)I" } : MethodName) prog_1_method_14_code (2 : Nat) (Option.some FieldType.int)) ∈ sf_T := sf_T_4 123 rfl rfl
theorem wt_920 : (Cond.methodLink "StreamFuserLaw" (53 : Nat) ({ cls := "StreamFuser", name := "told", desc := "(I)I" } : MethodName)) ∈ sf_T := sf_T_4 124 rfl rfl
theorem wt_921 : (Cond.instanceMethod ({ cls := "StreamFuser", name := "told", desc := "(I)I" } : MethodName)) ∈ sf_T := sf_T_4 125 rfl rfl
theorem wt_922 : (Cond.selects "StreamFuser" ({ cls := "StreamFuser", name := "told", desc := "(I)I" } : MethodName) ({ cls := "StreamFuser", name := "told", desc := "(I)I" } : MethodName)) ∈ sf_T := sf_T_4 126 rfl rfl
theorem wt_923 : (Cond.code ({ cls := "StreamFuser", name := "told", desc := "(I)I" } : MethodName) prog_1_method_15_code (2 : Nat) (Option.some FieldType.int)) ∈ sf_T := sf_T_4 127 rfl rfl
theorem wt_924 : (Cond.methodLink "StreamFuserLaw" (46 : Nat) ({ cls := "StreamFuser", name := "count", desc := "(I)I" } : MethodName)) ∈ sf_T := sf_T_4 128 rfl rfl
theorem wt_925 : (Cond.instanceMethod ({ cls := "StreamFuser", name := "count", desc := "(I)I" } : MethodName)) ∈ sf_T := sf_T_4 129 rfl rfl
theorem wt_926 : (Cond.selects "StreamFuser" ({ cls := "StreamFuser", name := "count", desc := "(I)I" } : MethodName) ({ cls := "StreamFuser", name := "count", desc := "(I)I" } : MethodName)) ∈ sf_T := sf_T_4 130 rfl rfl
theorem wt_927 : (Cond.code ({ cls := "StreamFuser", name := "count", desc := "(I)I" } : MethodName) prog_1_method_23_code (2 : Nat) (Option.some FieldType.int)) ∈ sf_T := sf_T_4 131 rfl rfl
theorem wt_928 : (Cond.methodLink "StreamFuserLaw" (25 : Nat) ({ cls := "StreamFuserLaw", name := "cell", desc := "([II)I" } : MethodName)) ∈ sf_T := sf_T_4 132 rfl rfl
theorem wt_929 : (Cond.static ({ cls := "StreamFuserLaw", name := "cell", desc := "([II)I" } : MethodName)) ∈ sf_T := sf_T_4 133 rfl rfl
theorem wt_930 : (Cond.code ({ cls := "StreamFuserLaw", name := "cell", desc := "([II)I" } : MethodName) method_2_code (2 : Nat) (Option.some FieldType.int)) ∈ sf_T := sf_T_4 134 rfl rfl
theorem wt_931 : (Cond.constant "StreamFuserLaw" (7 : Nat) (763049417 : Int32)) ∈ sf_T := sf_T_4 135 rfl rfl
theorem wt_932 : (Cond.methodLink "StreamFuserLaw" (15 : Nat) ({ cls := "StreamFuserLaw", name := "up", desc := "(II)I" } : MethodName)) ∈ sf_T := sf_T_4 136 rfl rfl
theorem wt_933 : (Cond.static ({ cls := "StreamFuserLaw", name := "up", desc := "(II)I" } : MethodName)) ∈ sf_T := sf_T_4 137 rfl rfl
theorem wt_934 : (Cond.code ({ cls := "StreamFuserLaw", name := "up", desc := "(II)I" } : MethodName) method_3_code (2 : Nat) (Option.some FieldType.int)) ∈ sf_T := sf_T_4 138 rfl rfl
theorem wt_935 : (Cond.constant "StreamFuserLaw" (8 : Nat) (2147483647 : Int32)) ∈ sf_T := sf_T_4 139 rfl rfl
theorem wt_936 : (Cond.methodLink "StreamFuserLaw" (72 : Nat) ({ cls := "StreamFuserLaw", name := "plans", desc := "(LStreamFuser;[II)I" } : MethodName)) ∈ sf_T := sf_T_4 140 rfl rfl
theorem wt_937 : (Cond.static ({ cls := "StreamFuserLaw", name := "plans", desc := "(LStreamFuser;[II)I" } : MethodName)) ∈ sf_T := sf_T_4 141 rfl rfl
theorem wt_938 : (Cond.code ({ cls := "StreamFuserLaw", name := "plans", desc := "(LStreamFuser;[II)I" } : MethodName) method_6_code (14 : Nat) (Option.some FieldType.int)) ∈ sf_T := sf_T_4 142 rfl rfl
theorem wt_939 : (Cond.methodLink "StreamFuserLaw" (21 : Nat) ({ cls := "StreamFuser", name := "wipe", desc := "()I" } : MethodName)) ∈ sf_T := sf_T_4 143 rfl rfl
theorem wt_940 : (Cond.instanceMethod ({ cls := "StreamFuser", name := "wipe", desc := "()I" } : MethodName)) ∈ sf_T := sf_T_4 144 rfl rfl
theorem wt_941 : (Cond.selects "StreamFuser" ({ cls := "StreamFuser", name := "wipe", desc := "()I" } : MethodName) ({ cls := "StreamFuser", name := "wipe", desc := "()I" } : MethodName)) ∈ sf_T := sf_T_4 145 rfl rfl
theorem wt_942 : (Cond.code ({ cls := "StreamFuser", name := "wipe", desc := "()I" } : MethodName) prog_1_method_3_code (2 : Nat) (Option.some FieldType.int)) ∈ sf_T := sf_T_4 146 rfl rfl
theorem wt_943 : (Cond.methodLink "StreamFuserLaw" (29 : Nat) ({ cls := "StreamFuserLaw", name := "letter", desc := "(IZZ)I" } : MethodName)) ∈ sf_T := sf_T_4 147 rfl rfl
theorem wt_944 : (Cond.static ({ cls := "StreamFuserLaw", name := "letter", desc := "(IZZ)I" } : MethodName)) ∈ sf_T := sf_T_4 148 rfl rfl
theorem wt_945 : (Cond.code ({ cls := "StreamFuserLaw", name := "letter", desc := "(IZZ)I" } : MethodName) method_5_code (4 : Nat) (Option.some FieldType.int)) ∈ sf_T := sf_T_4 149 rfl rfl
theorem wt_946 : (Cond.methodLink "StreamFuserLaw" (33 : Nat) ({ cls := "StreamFuserLaw", name := "types", desc := "(LStreamFuser;II)I" } : MethodName)) ∈ sf_T := sf_T_4 150 rfl rfl
theorem wt_947 : (Cond.static ({ cls := "StreamFuserLaw", name := "types", desc := "(LStreamFuser;II)I" } : MethodName)) ∈ sf_T := sf_T_4 151 rfl rfl
theorem wt_948 : (Cond.code ({ cls := "StreamFuserLaw", name := "types", desc := "(LStreamFuser;II)I" } : MethodName) method_4_code (9 : Nat) (Option.some FieldType.int)) ∈ sf_T := sf_T_4 152 rfl rfl
theorem wt_949 : (Cond.methodLink "StreamFuserLaw" (9 : Nat) ({ cls := "StreamFuser", name := "type", desc := "(I)I" } : MethodName)) ∈ sf_T := sf_T_4 153 rfl rfl
theorem wt_950 : (Cond.instanceMethod ({ cls := "StreamFuser", name := "type", desc := "(I)I" } : MethodName)) ∈ sf_T := sf_T_4 154 rfl rfl
theorem wt_951 : (Cond.selects "StreamFuser" ({ cls := "StreamFuser", name := "type", desc := "(I)I" } : MethodName) ({ cls := "StreamFuser", name := "type", desc := "(I)I" } : MethodName)) ∈ sf_T := sf_T_4 155 rfl rfl
theorem wt_952 : (Cond.code ({ cls := "StreamFuser", name := "type", desc := "(I)I" } : MethodName) prog_1_method_2_code (2 : Nat) (Option.some FieldType.int)) ∈ sf_T := sf_T_4 156 rfl rfl
theorem wt_953 : (Cond.methodLinkNest "StreamFuser" (92 : Nat) ({ cls := "StreamFuser$Reader", name := "append", desc := "(I)Z" } : MethodName) "StreamFuser") ∈ sf_N := sf_N_4 157 rfl rfl
theorem wt_955 : (Cond.instanceMethod ({ cls := "StreamFuser$Reader", name := "append", desc := "(I)Z" } : MethodName)) ∈ sf_T := sf_T_4 159 rfl rfl
theorem wt_956 : (Cond.code ({ cls := "StreamFuser$Reader", name := "append", desc := "(I)Z" } : MethodName) prog_6_method_2_code (2 : Nat) (Option.some FieldType.boolean)) ∈ sf_T := sf_T_4 160 rfl rfl
theorem wt_957 : (Cond.methodLink "StreamFuserLaw" (37 : Nat) ({ cls := "StreamFuser", name := "fault", desc := "()I" } : MethodName)) ∈ sf_T := sf_T_4 161 rfl rfl
theorem wt_958 : (Cond.instanceMethod ({ cls := "StreamFuser", name := "fault", desc := "()I" } : MethodName)) ∈ sf_T := sf_T_4 162 rfl rfl
theorem wt_959 : (Cond.selects "StreamFuser" ({ cls := "StreamFuser", name := "fault", desc := "()I" } : MethodName) ({ cls := "StreamFuser", name := "fault", desc := "()I" } : MethodName)) ∈ sf_T := sf_T_4 163 rfl rfl
theorem wt_960 : (Cond.code ({ cls := "StreamFuser", name := "fault", desc := "()I" } : MethodName) prog_1_method_4_code (1 : Nat) (Option.some FieldType.int)) ∈ sf_T := sf_T_4 164 rfl rfl
theorem wt_961 : (Cond.methodLinkNest "StreamFuser" (100 : Nat) ({ cls := "StreamFuser$Reader", name := "read", desc := "()I" } : MethodName) "StreamFuser") ∈ sf_N := sf_N_4 165 rfl rfl
theorem wt_963 : (Cond.instanceMethod ({ cls := "StreamFuser$Reader", name := "read", desc := "()I" } : MethodName)) ∈ sf_T := sf_T_4 167 rfl rfl
theorem wt_964 : (Cond.code ({ cls := "StreamFuser$Reader", name := "read", desc := "()I" } : MethodName) prog_6_method_3_code (2 : Nat) (Option.some FieldType.int)) ∈ sf_T := sf_T_4 168 rfl rfl
theorem wt_965 : (Cond.methodLink "StreamFuser$Reader" (40 : Nat) ({ cls := "StreamFuser$Reader", name := "expect", desc := "(I)V" } : MethodName)) ∈ sf_T := sf_T_4 169 rfl rfl
theorem wt_967 : (Cond.instanceMethod ({ cls := "StreamFuser$Reader", name := "expect", desc := "(I)V" } : MethodName)) ∈ sf_T := sf_T_4 171 rfl rfl
theorem wt_968 : (Cond.code ({ cls := "StreamFuser$Reader", name := "expect", desc := "(I)V" } : MethodName) prog_6_method_4_code (2 : Nat) (Option.none : Option FieldType)) ∈ sf_T := sf_T_4 172 rfl rfl
theorem wt_969 : (Cond.methodLink "StreamFuser$Reader" (44 : Nat) ({ cls := "StreamFuser$Reader", name := "readNode", desc := "()V" } : MethodName)) ∈ sf_T := sf_T_4 173 rfl rfl
theorem wt_971 : (Cond.instanceMethod ({ cls := "StreamFuser$Reader", name := "readNode", desc := "()V" } : MethodName)) ∈ sf_T := sf_T_4 175 rfl rfl
theorem wt_972 : (Cond.code ({ cls := "StreamFuser$Reader", name := "readNode", desc := "()V" } : MethodName) prog_6_method_5_code (7 : Nat) (Option.none : Option FieldType)) ∈ sf_T := sf_T_4 176 rfl rfl
theorem wt_973 : (Cond.methodLink "StreamFuser$Reader" (47 : Nat) ({ cls := "StreamFuser$Reader", name := "peek", desc := "()I" } : MethodName)) ∈ sf_T := sf_T_4 177 rfl rfl
theorem wt_975 : (Cond.instanceMethod ({ cls := "StreamFuser$Reader", name := "peek", desc := "()I" } : MethodName)) ∈ sf_T := sf_T_4 179 rfl rfl
theorem wt_976 : (Cond.code ({ cls := "StreamFuser$Reader", name := "peek", desc := "()I" } : MethodName) prog_6_method_7_code (1 : Nat) (Option.some FieldType.int)) ∈ sf_T := sf_T_4 180 rfl rfl
theorem wt_977 : (Cond.methodLink "StreamFuser$Reader" (51 : Nat) ({ cls := "StreamFuser$Reader", name := "isLetter", desc := "(II)Z" } : MethodName)) ∈ sf_T := sf_T_4 181 rfl rfl
theorem wt_978 : (Cond.static ({ cls := "StreamFuser$Reader", name := "isLetter", desc := "(II)Z" } : MethodName)) ∈ sf_T := sf_T_4 182 rfl rfl
theorem wt_979 : (Cond.code ({ cls := "StreamFuser$Reader", name := "isLetter", desc := "(II)Z" } : MethodName) prog_6_method_9_code (2 : Nat) (Option.some FieldType.boolean)) ∈ sf_T := sf_T_4 183 rfl rfl
theorem wt_980 : (Cond.methodLinkNest "StreamFuser$Reader" (81 : Nat) ({ cls := "StreamFuser$Plan", name := "partsOf", desc := "(I)I" } : MethodName) "StreamFuser") ∈ sf_N := sf_N_4 184 rfl rfl
theorem wt_981 : (Cond.methodLinkNest "StreamFuser$Reader" (67 : Nat) ({ cls := "StreamFuser$Plan", name := "numbersOf", desc := "(I)I" } : MethodName) "StreamFuser") ∈ sf_N := sf_N_4 185 rfl rfl
theorem wt_982 : (Cond.methodLink "StreamFuser$Reader" (55 : Nat) ({ cls := "StreamFuser$Reader", name := "accept", desc := "(Z)V" } : MethodName)) ∈ sf_T := sf_T_4 186 rfl rfl
theorem wt_984 : (Cond.instanceMethod ({ cls := "StreamFuser$Reader", name := "accept", desc := "(Z)V" } : MethodName)) ∈ sf_T := sf_T_4 188 rfl rfl
theorem wt_985 : (Cond.code ({ cls := "StreamFuser$Reader", name := "accept", desc := "(Z)V" } : MethodName) prog_6_method_8_code (2 : Nat) (Option.none : Option FieldType)) ∈ sf_T := sf_T_4 189 rfl rfl
theorem wt_986 : (Cond.methodLink "StreamFuser$Reader" (59 : Nat) ({ cls := "StreamFuser$Reader", name := "hasMark", desc := "(I)Z" } : MethodName)) ∈ sf_T := sf_T_4 190 rfl rfl
theorem wt_987 : (Cond.methodLink "StreamFuser$Reader" (63 : Nat) ({ cls := "StreamFuser$Reader", name := "readMark", desc := "(I)I" } : MethodName)) ∈ sf_T := sf_T_4 191 rfl rfl
theorem wt_989 : (Cond.instanceMethod ({ cls := "StreamFuser$Reader", name := "readMark", desc := "(I)I" } : MethodName)) ∈ sf_T := sf_T_4 193 rfl rfl
theorem wt_990 : (Cond.code ({ cls := "StreamFuser$Reader", name := "readMark", desc := "(I)I" } : MethodName) prog_6_method_12_code (3 : Nat) (Option.some FieldType.int)) ∈ sf_T := sf_T_4 194 rfl rfl
theorem wt_991 : (Cond.methodLink "StreamFuser$Reader" (87 : Nat) ({ cls := "StreamFuser$Reader", name := "fitsMark", desc := "(II)Z" } : MethodName)) ∈ sf_T := sf_T_4 195 rfl rfl
theorem wt_992 : (Cond.static ({ cls := "StreamFuser$Reader", name := "fitsMark", desc := "(II)Z" } : MethodName)) ∈ sf_T := sf_T_4 196 rfl rfl
theorem wt_993 : (Cond.code ({ cls := "StreamFuser$Reader", name := "fitsMark", desc := "(II)Z" } : MethodName) prog_6_method_13_code (2 : Nat) (Option.some FieldType.boolean)) ∈ sf_T := sf_T_4 197 rfl rfl
theorem wt_994 : (Cond.methodLink "StreamFuser$Reader" (90 : Nat) ({ cls := "StreamFuser$Reader", name := "isDigit", desc := "(I)Z" } : MethodName)) ∈ sf_T := sf_T_4 198 rfl rfl
theorem wt_995 : (Cond.static ({ cls := "StreamFuser$Reader", name := "isDigit", desc := "(I)Z" } : MethodName)) ∈ sf_T := sf_T_4 199 rfl rfl
theorem wt_996 : (Cond.code ({ cls := "StreamFuser$Reader", name := "isDigit", desc := "(I)Z" } : MethodName) prog_6_method_14_code (1 : Nat) (Option.some FieldType.boolean)) ∈ sf_T := sf_T_4 200 rfl rfl
theorem wt_997 : (Cond.methodLink "StreamFuser$Reader" (70 : Nat) ({ cls := "StreamFuser$Reader", name := "readNumber", desc := "(I)I" } : MethodName)) ∈ sf_T := sf_T_4 201 rfl rfl
theorem wt_999 : (Cond.instanceMethod ({ cls := "StreamFuser$Reader", name := "readNumber", desc := "(I)I" } : MethodName)) ∈ sf_T := sf_T_4 203 rfl rfl
theorem wt_1000 : (Cond.code ({ cls := "StreamFuser$Reader", name := "readNumber", desc := "(I)I" } : MethodName) prog_6_method_15_code (9 : Nat) (Option.some FieldType.int)) ∈ sf_T := sf_T_4 204 rfl rfl
theorem wt_1001 : (Cond.methodLinkNest "StreamFuser$Reader" (73 : Nat) ({ cls := "StreamFuser$Plan", name := "add", desc := "(IIII)V" } : MethodName) "StreamFuser") ∈ sf_N := sf_N_4 205 rfl rfl
theorem wt_1002 : (Cond.methodLink "StreamFuser$Reader" (77 : Nat) ({ cls := "StreamFuser$Reader", name := "expectParts", desc := "(II)V" } : MethodName)) ∈ sf_T := sf_T_4 206 rfl rfl
theorem wt_1004 : (Cond.instanceMethod ({ cls := "StreamFuser$Reader", name := "expectParts", desc := "(II)V" } : MethodName)) ∈ sf_T := sf_T_4 208 rfl rfl
theorem wt_1005 : (Cond.code ({ cls := "StreamFuser$Reader", name := "expectParts", desc := "(II)V" } : MethodName) prog_6_method_6_code (4 : Nat) (Option.none : Option FieldType)) ∈ sf_T := sf_T_4 209 rfl rfl
theorem wt_1006 : (Cond.methodLink "StreamFuserLaw" (40 : Nat) ({ cls := "StreamFuser", name := "plan", desc := "()I" } : MethodName)) ∈ sf_T := sf_T_4 210 rfl rfl
theorem wt_1007 : (Cond.instanceMethod ({ cls := "StreamFuser", name := "plan", desc := "()I" } : MethodName)) ∈ sf_T := sf_T_4 211 rfl rfl
theorem wt_1008 : (Cond.selects "StreamFuser" ({ cls := "StreamFuser", name := "plan", desc := "()I" } : MethodName) ({ cls := "StreamFuser", name := "plan", desc := "()I" } : MethodName)) ∈ sf_T := sf_T_4 212 rfl rfl
theorem wt_1009 : (Cond.code ({ cls := "StreamFuser", name := "plan", desc := "()I" } : MethodName) prog_1_method_5_code (2 : Nat) (Option.some FieldType.int)) ∈ sf_T := sf_T_4 213 rfl rfl
theorem wt_1010 : (Cond.methodLink "StreamFuserLaw" (83 : Nat) ({ cls := "StreamFuserLaw", name := "same", desc := "(LStreamFuser;LStreamFuser;)Z" } : MethodName)) ∈ sf_T := sf_T_4 214 rfl rfl
theorem wt_1011 : (Cond.static ({ cls := "StreamFuserLaw", name := "same", desc := "(LStreamFuser;LStreamFuser;)Z" } : MethodName)) ∈ sf_T := sf_T_4 215 rfl rfl
theorem wt_1012 : (Cond.code ({ cls := "StreamFuserLaw", name := "same", desc := "(LStreamFuser;LStreamFuser;)Z" } : MethodName) method_7_code (3 : Nat) (Option.some FieldType.boolean)) ∈ sf_T := sf_T_4 216 rfl rfl
theorem wt_1013 : (Cond.methodLink "StreamFuserLaw" (56 : Nat) ({ cls := "StreamFuser", name := "written", desc := "(II)J" } : MethodName)) ∈ sf_T := sf_T_4 217 rfl rfl
theorem wt_1014 : (Cond.instanceMethod ({ cls := "StreamFuser", name := "written", desc := "(II)J" } : MethodName)) ∈ sf_T := sf_T_4 218 rfl rfl
theorem wt_1015 : (Cond.selects "StreamFuser" ({ cls := "StreamFuser", name := "written", desc := "(II)J" } : MethodName) ({ cls := "StreamFuser", name := "written", desc := "(II)J" } : MethodName)) ∈ sf_T := sf_T_4 219 rfl rfl
theorem wt_1016 : (Cond.code ({ cls := "StreamFuser", name := "written", desc := "(II)J" } : MethodName) prog_1_method_16_code (3 : Nat) (Option.some FieldType.long)) ∈ sf_T := sf_T_4 220 rfl rfl
theorem wt_1017 : (Cond.methodLinkNest "StreamFuser" (198 : Nat) ({ cls := "StreamFuser$Run", name := "kept", desc := "()I" } : MethodName) "StreamFuser") ∈ sf_N := sf_N_4 221 rfl rfl
theorem wt_1019 : (Cond.instanceMethod ({ cls := "StreamFuser$Run", name := "kept", desc := "()I" } : MethodName)) ∈ sf_T := sf_T_4 223 rfl rfl
theorem wt_1020 : (Cond.code ({ cls := "StreamFuser$Run", name := "kept", desc := "()I" } : MethodName) prog_8_method_8_code (1 : Nat) (Option.some FieldType.int)) ∈ sf_T := sf_T_4 224 rfl rfl
theorem wt_1021 : (Cond.methodLink "StreamFuser$Run" (47 : Nat) ({ cls := "java/lang/Math", name := "min", desc := "(II)I" } : MethodName)) ∈ sf_T := sf_T_4 225 rfl rfl
theorem wt_1022 : (Cond.methodLink "StreamFuserLaw" (76 : Nat) ({ cls := "StreamFuserLaw", name := "sheets", desc := "(LStreamFuser;I)Z" } : MethodName)) ∈ sf_T := sf_T_4 226 rfl rfl
theorem wt_1023 : (Cond.static ({ cls := "StreamFuserLaw", name := "sheets", desc := "(LStreamFuser;I)Z" } : MethodName)) ∈ sf_T := sf_T_4 227 rfl rfl
theorem wt_1024 : (Cond.code ({ cls := "StreamFuserLaw", name := "sheets", desc := "(LStreamFuser;I)Z" } : MethodName) method_8_code (6 : Nat) (Option.some FieldType.boolean)) ∈ sf_T := sf_T_4 228 rfl rfl
theorem wt_1025 : (Cond.methodLink "StreamFuserLaw" (63 : Nat) ({ cls := "StreamFuser", name := "sheet", desc := "(III)I" } : MethodName)) ∈ sf_T := sf_T_4 229 rfl rfl
theorem wt_1026 : (Cond.instanceMethod ({ cls := "StreamFuser", name := "sheet", desc := "(III)I" } : MethodName)) ∈ sf_T := sf_T_4 230 rfl rfl
theorem wt_1027 : (Cond.selects "StreamFuser" ({ cls := "StreamFuser", name := "sheet", desc := "(III)I" } : MethodName) ({ cls := "StreamFuser", name := "sheet", desc := "(III)I" } : MethodName)) ∈ sf_T := sf_T_4 231 rfl rfl
theorem wt_1028 : (Cond.code ({ cls := "StreamFuser", name := "sheet", desc := "(III)I" } : MethodName) prog_1_method_17_code (4 : Nat) (Option.some FieldType.int)) ∈ sf_T := sf_T_4 232 rfl rfl
theorem wt_1029 : (Cond.methodLink "StreamFuser" (207 : Nat) ({ cls := "StreamFuser", name := "isSheet", desc := "(I)Z" } : MethodName)) ∈ sf_T := sf_T_4 233 rfl rfl
theorem wt_1030 : (Cond.methodLink "StreamFuser" (210 : Nat) ({ cls := "StreamFuser", name := "isForm", desc := "(I)Z" } : MethodName)) ∈ sf_T := sf_T_4 234 rfl rfl
theorem wt_1031 : (Cond.static ({ cls := "StreamFuser", name := "isForm", desc := "(I)Z" } : MethodName)) ∈ sf_T := sf_T_4 235 rfl rfl
theorem wt_1032 : (Cond.code ({ cls := "StreamFuser", name := "isForm", desc := "(I)Z" } : MethodName) prog_1_method_30_code (1 : Nat) (Option.some FieldType.boolean)) ∈ sf_T := sf_T_4 236 rfl rfl
theorem wt_1033 : (Cond.methodLink "StreamFuser" (213 : Nat) ({ cls := "StreamFuser", name := "find", desc := "(I)I" } : MethodName)) ∈ sf_T := sf_T_4 237 rfl rfl
theorem wt_1035 : (Cond.instanceMethod ({ cls := "StreamFuser", name := "find", desc := "(I)I" } : MethodName)) ∈ sf_T := sf_T_4 239 rfl rfl
theorem wt_1036 : (Cond.code ({ cls := "StreamFuser", name := "find", desc := "(I)I" } : MethodName) prog_1_method_27_code (2 : Nat) (Option.some FieldType.int)) ∈ sf_T := sf_T_5 0 rfl rfl
theorem wt_1037 : (Cond.methodLinkNest "StreamFuser" (217 : Nat) ({ cls := "StreamFuser$Sheets", name := "renew", desc := "(III)V" } : MethodName) "StreamFuser") ∈ sf_N := sf_N_5 1 rfl rfl
theorem wt_1039 : (Cond.instanceMethod ({ cls := "StreamFuser$Sheets", name := "renew", desc := "(III)V" } : MethodName)) ∈ sf_T := sf_T_5 3 rfl rfl
theorem wt_1040 : (Cond.code ({ cls := "StreamFuser$Sheets", name := "renew", desc := "(III)V" } : MethodName) prog_9_method_5_code (5 : Nat) (Option.none : Option FieldType)) ∈ sf_T := sf_T_5 4 rfl rfl
theorem wt_1041 : (Cond.methodLink "StreamFuserLaw" (67 : Nat) ({ cls := "StreamFuser", name := "lay", desc := "(IIII)I" } : MethodName)) ∈ sf_T := sf_T_5 5 rfl rfl
theorem wt_1042 : (Cond.instanceMethod ({ cls := "StreamFuser", name := "lay", desc := "(IIII)I" } : MethodName)) ∈ sf_T := sf_T_5 6 rfl rfl
theorem wt_1043 : (Cond.selects "StreamFuser" ({ cls := "StreamFuser", name := "lay", desc := "(IIII)I" } : MethodName) ({ cls := "StreamFuser", name := "lay", desc := "(IIII)I" } : MethodName)) ∈ sf_T := sf_T_5 7 rfl rfl
theorem wt_1044 : (Cond.code ({ cls := "StreamFuser", name := "lay", desc := "(IIII)I" } : MethodName) prog_1_method_19_code (6 : Nat) (Option.some FieldType.int)) ∈ sf_T := sf_T_5 8 rfl rfl
theorem wt_1045 : (Cond.methodLink "StreamFuser" (226 : Nat) ({ cls := "StreamFuser", name := "elementError", desc := "(III)I" } : MethodName)) ∈ sf_T := sf_T_5 9 rfl rfl
theorem wt_1047 : (Cond.instanceMethod ({ cls := "StreamFuser", name := "elementError", desc := "(III)I" } : MethodName)) ∈ sf_T := sf_T_5 11 rfl rfl
theorem wt_1048 : (Cond.code ({ cls := "StreamFuser", name := "elementError", desc := "(III)I" } : MethodName) prog_1_method_28_code (4 : Nat) (Option.some FieldType.int)) ∈ sf_T := sf_T_5 12 rfl rfl
theorem wt_1049 : (Cond.methodLinkNest "StreamFuser" (221 : Nat) ({ cls := "StreamFuser$Sheets", name := "isLost", desc := "(I)Z" } : MethodName) "StreamFuser") ∈ sf_N := sf_N_5 13 rfl rfl
theorem wt_1050 : (Cond.methodLinkNest "StreamFuser" (304 : Nat) ({ cls := "StreamFuser$Sheets", name := "hasElement", desc := "(II)Z" } : MethodName) "StreamFuser") ∈ sf_N := sf_N_5 14 rfl rfl
theorem wt_1052 : (Cond.instanceMethod ({ cls := "StreamFuser$Sheets", name := "hasElement", desc := "(II)Z" } : MethodName)) ∈ sf_T := sf_T_5 16 rfl rfl
theorem wt_1053 : (Cond.code ({ cls := "StreamFuser$Sheets", name := "hasElement", desc := "(II)Z" } : MethodName) prog_9_method_3_code (3 : Nat) (Option.some FieldType.boolean)) ∈ sf_T := sf_T_5 17 rfl rfl
theorem wt_1054 : (Cond.methodLinkNest "StreamFuser" (230 : Nat) ({ cls := "StreamFuser$Sheets", name := "store", desc := "(III)V" } : MethodName) "StreamFuser") ∈ sf_N := sf_N_5 18 rfl rfl
theorem wt_1056 : (Cond.instanceMethod ({ cls := "StreamFuser$Sheets", name := "store", desc := "(III)V" } : MethodName)) ∈ sf_T := sf_T_5 20 rfl rfl
theorem wt_1057 : (Cond.code ({ cls := "StreamFuser$Sheets", name := "store", desc := "(III)V" } : MethodName) prog_9_method_6_code (4 : Nat) (Option.none : Option FieldType)) ∈ sf_T := sf_T_5 21 rfl rfl
theorem wt_1058 : (Cond.methodLink "StreamFuser$Sheets" (21 : Nat) ({ cls := "StreamFuser$Sheets", name := "hasElement", desc := "(II)Z" } : MethodName)) ∈ sf_T := sf_T_5 22 rfl rfl
theorem wt_1059 : (Cond.methodLink "StreamFuser$Sheets" (25 : Nat) ({ cls := "StreamFuser$Sheets", name := "cast", desc := "(II)I" } : MethodName)) ∈ sf_T := sf_T_5 23 rfl rfl
theorem wt_1060 : (Cond.static ({ cls := "StreamFuser$Sheets", name := "cast", desc := "(II)I" } : MethodName)) ∈ sf_T := sf_T_5 24 rfl rfl
theorem wt_1061 : (Cond.code ({ cls := "StreamFuser$Sheets", name := "cast", desc := "(II)I" } : MethodName) prog_9_method_7_code (2 : Nat) (Option.some FieldType.int)) ∈ sf_T := sf_T_5 25 rfl rfl
theorem wt_1062 : (Cond.sameMethod "StreamFuser$Way" "StreamFuser$Way" "divide" "(III)Z") ∈ sf_T := sf_T_5 26 rfl rfl
theorem wt_1063 : (Cond.sameMethod "StreamFuser$Walk" "StreamFuser$Walk" "restart" "(II)V") ∈ sf_T := sf_T_5 27 rfl rfl
theorem wt_1064 : (Cond.selects "StreamFuser$Asker" ({ cls := "StreamFuser$Walk", name := "restart", desc := "(II)V" } : MethodName) ({ cls := "StreamFuser$Walk", name := "restart", desc := "(II)V" } : MethodName)) ∈ sf_T := sf_T_5 28 rfl rfl
theorem wt_1065 : (Cond.selects "StreamFuser$Stepper" ({ cls := "StreamFuser$Walk", name := "restart", desc := "(II)V" } : MethodName) ({ cls := "StreamFuser$Walk", name := "restart", desc := "(II)V" } : MethodName)) ∈ sf_T := sf_T_5 29 rfl rfl
