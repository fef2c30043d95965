/-! the law's entry: our own words -/
theorem sf_all_hold {args : Array Value} {s : State} (hts : ∀ w ∈ lw_tbl, w.before args s = true) : ∀ w ∈ sf_all, w.before args s = true := by
  intro w hw
  rcases List.mem_append.mp hw with h | h
  · exact hts w h
  · have hp : (Cond.privateMethod ⟨"StreamFuser$Way", "divide", "(III)Z"⟩).before args s = true := hts _ (by decide +kernel)
    have hi : (Cond.instanceMethod ⟨"StreamFuser$Way", "divide", "(III)Z"⟩).before args s = true := hts _ (by decide +kernel)
    simp only [sf_more, List.mem_cons, List.not_mem_nil, or_false] at h
    rcases h with rfl | rfl | rfl
    · exact sf_selP (x2 := ⟨"StreamFuser$Asker", "", ""⟩) (z := ⟨"StreamFuser$Way", "openedFor", "(I)I"⟩) (n := 7) (by decide +kernel) (by decide +kernel) (hts _ (by decide +kernel)) hp hi (hts _ (by decide +kernel)) rfl
    · exact sf_selP (x2 := ⟨"StreamFuser$Maker", "", ""⟩) (z := ⟨"StreamFuser$Way", "openedFor", "(I)I"⟩) (n := 7) (by decide +kernel) (by decide +kernel) (hts _ (by decide +kernel)) hp hi (hts _ (by decide +kernel)) rfl
    · exact sf_selP (x2 := ⟨"StreamFuser$Stepper", "", ""⟩) (z := ⟨"StreamFuser$Way", "openedFor", "(I)I"⟩) (n := 8) (by decide +kernel) (by decide +kernel) (hts _ (by decide +kernel)) hp hi (hts _ (by decide +kernel)) rfl
theorem sf_T_hold {args : Array Value} {s : State} (hts : ∀ w ∈ lw_tbl, w.before args s = true) : ∀ w ∈ sf_T, w.before args s = true := fun w hw => sf_all_hold hts w (List.mem_filter.mp hw).1
/-! the law's entry: the nest words, the classes that are known -/
theorem sf_N_hold {args : Array Value} {s : State} (hts : ∀ w ∈ lw_tbl, w.before args s = true) : ∀ w ∈ sf_N, va_Nw w s := by
  intro w hw
  obtain ⟨h1, h2⟩ := List.mem_filter.mp hw
  have h := sf_all_hold hts w h1
  cases w with
  | fieldLinkNest a b c d e f => exact va_Nw.of rfl h
  | methodLinkNest a b c d => exact va_Nw.of rfl h
  | _ => cases h2
theorem sf_D_of {s : State} (cl : List vw_C) (h : ∀ q ∈ cl, ∃ (cC : ClassId) (iS : Nat → Nat), u_Kn s q.1 q.2.1 q.2.2 cC iS) (c0 : ClassId) : ∃ D : va_G, ∀ (c : Nat) (q : vw_C), cl[c]? = some q → u_Kn s q.1 q.2.1 q.2.2 (D.1 c) (D.2 c) := by
  have h1 : ∀ c : Nat, ∃ x : ClassId × (Nat → Nat), ∀ q, cl[c]? = some q → u_Kn s q.1 q.2.1 q.2.2 x.1 x.2 := by
    intro c
    cases e : cl[c]? with
    | none => exact ⟨(c0, fun _ => 0), fun _ h => by cases h⟩
    | some q =>
      obtain ⟨a, b, hh⟩ := h q (List.mem_of_getElem? e)
      exact ⟨(a, b), fun q2 h2 => by cases h2; exact hh⟩
  obtain ⟨f, hf⟩ := Classical.axiomOfChoice h1
  exact ⟨(fun c => (f c).1, fun c => (f c).2), fun c q hq => hf c q hq⟩
theorem sf_known {args : Array Value} {s : State} (hts : ∀ w ∈ lw_tbl, w.before args s = true) : ∃ D : va_G, ∀ (c : Nat) (q : vw_C), vwCl[c]? = some q → u_Kn s q.1 q.2.1 q.2.2 (D.1 c) (D.2 c) := by
  have k0 := u_known (sf_T_hold hts) sf_in0 (hts _ (by decide +kernel : Cond.instantiable RX0 7 ∈ lw_tbl))
  have k1 := u_known (sf_T_hold hts) sf_in1 (hts _ (by decide +kernel : Cond.instantiable RX1 7 ∈ lw_tbl))
  have k2 := u_known (sf_T_hold hts) sf_in2 (hts _ (by decide +kernel : Cond.instantiable RX2 12 ∈ lw_tbl))
  have k3 := u_known (sf_T_hold hts) sf_in3 (hts _ (by decide +kernel : Cond.instantiable RX3 3 ∈ lw_tbl))
  have k4 := u_known (sf_T_hold hts) sf_in4 (hts _ (by decide +kernel : Cond.instantiable RX4 7 ∈ lw_tbl))
  have k5 := u_known (sf_T_hold hts) sf_in5 (hts _ (by decide +kernel : Cond.instantiable RX5 3 ∈ lw_tbl))
  have k6 := u_known (sf_T_hold hts) sf_in6 (hts _ (by decide +kernel : Cond.instantiable RX6 10 ∈ lw_tbl))
  have k7 := u_known (sf_T_hold hts) sf_in7 (hts _ (by decide +kernel : Cond.instantiable RX7 3 ∈ lw_tbl))
  have k8 := u_known (sf_T_hold hts) sf_in8 (hts _ (by decide +kernel : Cond.instantiable RX8 8 ∈ lw_tbl))
  have k11 := u_known (sf_T_hold hts) sf_in11 (hts _ (by decide +kernel : Cond.instantiable RX11 14 ∈ lw_tbl))
  obtain ⟨c0, _, _⟩ := id k0
  exact sf_D_of vwCl (List.forall_mem_cons.mpr ⟨k0, List.forall_mem_cons.mpr ⟨k1, List.forall_mem_cons.mpr ⟨k2, List.forall_mem_cons.mpr ⟨k3, List.forall_mem_cons.mpr ⟨k4, List.forall_mem_cons.mpr ⟨k5, List.forall_mem_cons.mpr ⟨k6, List.forall_mem_cons.mpr ⟨k7, List.forall_mem_cons.mpr ⟨k8, List.forall_mem_cons.mpr ⟨k11, fun _ h => absurd h List.not_mem_nil⟩⟩⟩⟩⟩⟩⟩⟩⟩⟩) c0
/-! the law's entry: the arrays' classes, and all that is known -/
theorem sf_arrT {args : Array Value} {s : State} {ty : FieldType} (harr : (Cond.arrayClass ty).before args s = true) (hty : ∀ C, ty ≠ .object C) : ∃ cA, ArrOfT s cA ty ∧ va_RA s cA ty := by
  obtain ⟨cA, kA, comp, h1, h2, h3⟩ := Cond.arrayClass_spec harr
  refine ⟨cA, fun n z => ⟨fun k h => (by cases h), kA, h2, comp, h3⟩, ?_⟩
  cases ty with
  | object C => exact absurd rfl (hty C)
  | _ => exact h1
theorem sf_knows {args : Array Value} {s : State} (hts : ∀ w ∈ lw_tbl, w.before args s = true) : ∃ (D : va_G) (cy : Nat → ClassId), va_K D vwCl (sf_ty cy) s := by
  obtain ⟨D, hD⟩ := sf_known hts
  have hT := sf_T_hold hts
  obtain ⟨a0, x0, y0⟩ := sf_arrT (hT _ sd_arr.1) (fun _ h => by cases h)
  obtain ⟨a1, x1, y1⟩ := sf_arrT (hT _ sd_arr.2.1) (fun _ h => by cases h)
  obtain ⟨a2, x2, y2⟩ := sf_arrT (hT _ sd_arr.2.2) (fun _ h => by cases h)
  refine ⟨D, fun k => match k with
    | 0 => a0
    | 1 => a1
    | _ => a2, hD, fun k q hk => ?_⟩
  match k, hk with
  | 0, hk => cases hk; exact ⟨x0, y0⟩
  | 1, hk => cases hk; exact ⟨x1, y1⟩
  | 2, hk => cases hk; exact ⟨x2, y2⟩
  | k + 3, hk => cases hk
