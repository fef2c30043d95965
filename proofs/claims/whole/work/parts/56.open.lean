/-! the law's opening: its first object -/
theorem sd_make {p : Program} {l : Launch} {e : Env} {s : State} {m : MethodId} {args : Array Value} {below : List Frame} {meth : Method} {c : Code} {Q : State → Prop} {D : va_G} {cy : Nat → ClassId} {A : Nat → Prop} {as0 : Nat → Nat} {Pl : Array Slot → Prop} {own : String} {cc : ByteArray} {nL pc mc ms k1 k2 z : Nat} {n0 : Nat} {L : sf_L} {rm : Room} {F : List Value → sd_D → Option sd_R} {Δ0 Δ2 : sd_D} (hj : sd_JEl Pl l own cc nL rm pc (sd_jc 1 mc ms F)) (h0 : sd_At p s m args c own cc nL D cy A) (hN : ∀ w ∈ sf_N, va_Nw w s)
    (hF : F [.ref z] Δ0 = some (Δ2, mc, ms)) (hb : sd_b L [.ref z, .ref z] Δ0 = true) (h1 : k1 + mc ≤ rm.cells) (h2 : k2 + ms ≤ rm.slots)
    (k : sd_Wl Pl p l e rm s m args below meth c Q nL D cy A n0 as0 (pc + 3) L [.ref z] Δ2 (k1 + mc) (k2 + ms)) : sd_Wl Pl p l e rm s m args below meth c Q nL D cy A n0 as0 pc L [.ref z, .ref z] Δ0 k1 k2 := by
  have hq := hj p e s m args below meth c Q D cy A n0 as0 h0 hN L [.ref z, .ref z] Δ0 k1 k2 (fun st2 Δ' dc ds => if st2 = [.ref z] ∧ dc = mc ∧ ds = ms then some (Δ', rm.cells, rm.slots) else none) (Δ2, rm.cells, rm.slots) rfl rfl hb
    (by simp [sd_jc, sf_pop, sf_l4, hF])
    (by
      intro st2 Δ' dc ds h
      split at h
      · rename_i h3
        obtain ⟨rfl, rfl, rfl⟩ := h3
        have e1 : Δ' = Δ2 := congrArg Prod.fst (Option.some.inj h)
        subst e1
        exact ⟨⟨h1, h2⟩, k⟩
      · cases h)
  exact hq.2
