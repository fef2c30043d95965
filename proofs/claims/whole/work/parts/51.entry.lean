/-! the law's entry: our own words -/
theorem sf_all_hold {args : Array Value} {s : State} (hts : ∀ w ∈ lw_tbl, w.before args s = true) : ∀ w ∈ sf_all, w.before args s = true := by
  intro w hw
  rcases List.mem_append.mp hw with h | h
  · exact hts w h
  · have hp : (Cond.privateMethod ⟨"StreamFuser$Way", "divide", "(III)Z"⟩).before args s = true := hts _ (by decide +kernel)
    have hi : (Cond.instanceMethod ⟨"StreamFuser$Way", "divide", "(III)Z"⟩).before args s = true := hts _ (by decide +kernel)
    simp only [sf_more, List.mem_cons, List.not_mem_nil, or_false] at h
    rcases h with rfl | rfl | rfl
    · exact sf_selP (x2 := ⟨"StreamFuser$Asker", "", ""⟩) (z := ⟨"StreamFuser$Way", "openedFor", "(I)I"⟩) (n := 7) (by decide +kernel) (by decide +kernel) (hts _ (by decide +kernel)) hp hi (hts _ (by decide +kernel)) rfl
    · exact sf_selP (x2 := ⟨"StreamFuser$Maker", "", ""⟩) (z := ⟨"StreamFuser$Way", "openedFor", "(I)I"⟩) (n := 7) (by decide +kernel) (by decide +kernel) (hts _ (by decide +kernel)) hp hi (hts _ (by decide +kernel)) rfl
    · exact sf_selP (x2 := ⟨"StreamFuser$Stepper", "", ""⟩) (z := ⟨"StreamFuser$Way", "openedFor", "(I)I"⟩) (n := 8) (by decide +kernel) (by decide +kernel) (hts _ (by decide +kernel)) hp hi (hts _ (by decide +kernel)) rfl
theorem sf_T_hold {args : Array Value} {s : State} (hts : ∀ w ∈ lw_tbl, w.before args s = true) : ∀ w ∈ sf_T, w.before args s = true := fun w hw => sf_all_hold hts w (List.mem_filter.mp hw).1
