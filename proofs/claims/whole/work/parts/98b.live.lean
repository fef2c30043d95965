/-! the state of the nodes (sc_N0) and which of them may still be asked (sc_Lv) -/
def sc_a1 (c tu : Int32) : Prop := sc_p c = 1 ∨ c = 122 ∨ (c = 99 ∧ tu = 0) ∨ (c = 120 ∧ tu ≠ 0)
/-- us used, tu turned, ke kept, op he for whom the Q is open, hc hk what z holds -/
def sc_NT : Type := Int32 → Int32 → Int32 → Nat → Int32 → Int32 → Int32 → Int32 → Int32 → Int32 → Int32 → Prop
def sc_Nat (X : sc_X) (N : sc_NT) (D : Nat) (σ τ : sf_S) (k : Nat) : Prop := N (X.L k) (X.f k) (X.s k) D (σ (X.q + 1) k) (σ (X.q + 2) k) (τ 24 k) (σ (X.q + 3) (X.o k).toNatClampNeg) (τ 25 (X.o k).toNatClampNeg) (σ (X.q + 4) k) (τ 25 k)
def sc_Lv (X : sc_X) (N : sc_NT) (D : Nat) (σ τ : sf_S) (k : Nat) : Prop := ∃ S : Nat → Prop, S k ∧ ∀ j, S j → sc_Nat X N D σ τ j ∧ (sc_a1 (X.L j) (σ (X.q + 2) j) → S (j + 1)) ∧ (sc_p (X.L j) = 2 → S (X.E (j + 1)))
theorem sc_Lv.inv {X : sc_X} {N : sc_NT} {D k : Nat} {σ τ : sf_S} (h : sc_Lv X N D σ τ k) : sc_Nat X N D σ τ k ∧ (sc_a1 (X.L k) (σ (X.q + 2) k) → sc_Lv X N D σ τ (k + 1)) ∧ (sc_p (X.L k) = 2 → sc_Lv X N D σ τ (X.E (k + 1))) := by
  obtain ⟨S, h1, h2⟩ := h
  obtain ⟨a1, a2, a3⟩ := h2 k h1
  exact ⟨a1, fun q => ⟨S, a2 q, h2⟩, fun q => ⟨S, a3 q, h2⟩⟩
theorem sc_Lv.mk {X : sc_X} {N : sc_NT} {D k : Nat} {σ τ : sf_S} (h0 : sc_Nat X N D σ τ k) (h1 : sc_a1 (X.L k) (σ (X.q + 2) k) → sc_Lv X N D σ τ (k + 1)) (h2 : sc_p (X.L k) = 2 → sc_Lv X N D σ τ (X.E (k + 1))) : sc_Lv X N D σ τ k := by
  refine ⟨fun j => j = k ∨ sc_Lv X N D σ τ j, Or.inl rfl, fun j hj => ?_⟩
  rcases hj with rfl | hj
  · exact ⟨h0, fun q => Or.inr (h1 q), fun q => Or.inr (h2 q)⟩
  · obtain ⟨b1, b2, b3⟩ := hj.inv
    exact ⟨b1, fun q => Or.inr (b2 q), fun q => Or.inr (b3 q)⟩
theorem sc_a1_p {c tu : Int32} (h : sc_a1 c tu) : 1 ≤ sc_p c := by
  rcases h with h | h | ⟨h, -⟩ | ⟨h, -⟩
  · omega
  all_goals rw [h]; decide +kernel
/-- what the subtree of k reads is the same -/
def sc_eqs (X : sc_X) (lo hi : Nat) (σ τ σ' τ' : sf_S) : Prop := ∀ j, lo ≤ j → j < hi → σ' (X.q + 1) j = σ (X.q + 1) j ∧ σ' (X.q + 2) j = σ (X.q + 2) j ∧ τ' 24 j = τ 24 j ∧ σ' (X.q + 3) j = σ (X.q + 3) j ∧ τ' 25 j = τ 25 j ∧ σ' (X.q + 4) j = σ (X.q + 4) j
theorem sc_Lv.tr {X : sc_X} {N : sc_NT} {D D' k : Nat} {σ τ σ' τ' : sf_S} (hm : ∀ {a b c d d' e f g h i j k}, d ≤ d' → N a b c d e f g h i j k → N a b c d' e f g h i j k) (hT : sc_T X.n X.L X.E) (hk : k < X.n) (h : sc_Lv X N D σ τ k) (hD : D ≤ D') (hs : sc_eqs X k (X.E k) σ τ σ' τ')
    (ho : ∀ j, k ≤ j → j < X.E k → σ' (X.q + 3) (X.o j).toNatClampNeg = σ (X.q + 3) (X.o j).toNatClampNeg ∧ τ' 25 (X.o j).toNatClampNeg = τ 25 (X.o j).toNatClampNeg) : sc_Lv X N D' σ' τ' k := by
  obtain ⟨S, h1, h2⟩ := h
  refine ⟨fun j => S j ∧ k ≤ j ∧ j < X.E k, ⟨h1, Nat.le_refl _, (hT.lt hk).1⟩, fun j hj => ?_⟩
  obtain ⟨j1, j2, j3⟩ := hj
  obtain ⟨a1, a2, a3⟩ := h2 j j1
  obtain ⟨s1, s2, s3, s4, s5, s6⟩ := hs j j2 j3
  obtain ⟨o1, o2⟩ := ho j j2 j3
  have hjn : j < X.n := by have := (hT.lt hk).2; omega
  have hE := hT.nest k hk j j2 j3
  refine ⟨?_, fun q => ⟨a2 (by rwa [s2] at q), by omega, ?_⟩, fun q => ⟨a3 q, ?_, ?_⟩⟩
  · unfold sc_Nat at a1 ⊢
    rw [s1, s2, s3, s5, s6, o1, o2]
    exact hm hD a1
  · have hp := sc_a1_p q
    rcases sc_p3 (X.L j) with e | e | e
    · omega
    · obtain ⟨q1, q2⟩ := hT.p1 hjn e
      have := (hT.lt q1).1
      omega
    · have := hT.p2 hjn e
      omega
  · have := hT.p2 hjn q
    omega
  · have := hT.p2 hjn q
    omega
/-- the state of a producer that has given u -/
def sc_Np (c f s ke op he : Int32) (u : Nat) : Prop := (c = 114 → ke = f + nI u ∧ (u = 0 ∨ f.toInt + u ≤ s.toInt)) ∧ (c = 105 → ke = f + nI u * s) ∧ (c = 115 ∨ c = 117 ∨ c = 118 → ke = nI u) ∧ (c = 117 ∨ c = 118 → op = he)
/-- the state of a node in way 0 -/
def sc_N0 : sc_NT := fun c f s D us tu ke op he _ _ => ∃ u : Nat, u ≤ D ∧ us = nI u ∧ sc_Np c f s ke op he u ∧
  (c = 116 → ke = nI u ∧ (u : Int) ≤ f.toInt) ∧ (c = 100 → tu = 0 ∧ ke = f - nI u ∧ (u = 0 ∨ (u : Int) ≤ f.toInt)) ∧ (c = 119 → tu = 0 ∧ ke = 0) ∧ (c = 99 ∨ c = 120 → ∃ t : Bool, tu = sc_b t ∧ ke = sc_b t)
theorem sc_N0_mono {a b c : Int32} {d d' : Nat} {e f g h i j k : Int32} (hd : d ≤ d') (hN : sc_N0 a b c d e f g h i j k) : sc_N0 a b c d' e f g h i j k := by
  obtain ⟨u, h1, h2⟩ := hN
  exact ⟨u, by omega, h2⟩
