/-! the two sides' little methods of a run -/
theorem sc_Cy.has {X : sc_X} {σ τ : sf_S} (h : sc_Cy X σ τ) {k : Nat} (hk : k < X.n) : dX2_has (sf_pl X.q) (nI k) σ = some (1, σ) := by
  have := h.n40
  rw [sc_has h.n40 h.c4 (by omega), decide_eq_true hk]; rfl
theorem sc_Cy.lat {X : sc_X} {σ τ : sf_S} (h : sc_Cy X σ τ) {k : Nat} (hk : k < X.n) : dX2_letterAt (sf_pl X.q) (nI k) σ = some (X.L k, σ) := by
  have h4 := h.c4
  have := h.n40
  unfold dX2_letterAt
  rw [if_neg (nI_pos (by omega)), show σ (sf_pl X.q) 4 = nI X.n from h4, if_neg (nI_ge hk (by omega)), if_pos (sc_inI (by omega) (by omega)), sc_cl (by omega), show σ (sf_pl X.q + 1) k = X.L k from (h.c1 k hk).1]
theorem sc_Cy.snd {X : sc_X} {σ τ : sf_S} (h : sc_Cy X σ τ) {k : Nat} (hk : k + 1 < X.n) : dX2_secondPart (sf_pl X.q) (nI k) σ = some (nI (X.E (k + 1)), σ) := by
  have h4 := h.c4
  have := h.n40
  unfold dX2_secondPart
  rw [if_neg (nI_pos (by omega)), show σ (sf_pl X.q) 4 = nI X.n from h4, nI_1, if_neg (nI_ge hk (by omega)), if_pos (sc_inI (by omega) (by omega)), sc_cl (by omega), show σ (sf_pl X.q + 5) (k + 1) = nI (X.E (k + 1)) from (h.c5 (k + 1) hk).1]
theorem sc_Cy.inp {X : sc_X} {σ τ : sf_S} (h : sc_Cy X σ τ) {k : Nat} (hk : k < X.n) (hp : 1 ≤ sc_p (X.L k)) : dX2_input (sf_pl X.q) (nI k) σ = some (nI (sc_ps X.L X.E k), σ) := by
  have := h.n40
  unfold dX2_input
  rw [h.lat hk]
  simp only [Option.bind_some, sc_ps]
  by_cases e : X.L k = 120
  · rw [if_neg (not_not_intro e), if_pos e, h.snd (h.T.p2 hk (sc_p120 e)).1]; rfl
  · rw [if_pos e, if_neg e, nI_1]
theorem sc_Cy.nin {X : sc_X} {σ τ : sf_S} (h : sc_Cy X σ τ) {k : Nat} (hk : k < X.n) : sf_in (nI k) 40 = true := sc_inI (by have := h.n40; omega) (by omega)
theorem sc_Cy.ncl {X : sc_X} {σ τ : sf_S} (h : sc_Cy X σ τ) {k : Nat} (hk : k < X.n) : (nI k).toNatClampNeg = k := sc_cl (by have := h.n40; omega)
/-- whose Q a u or v stands in -/
theorem sc_Cy.ow {X : sc_X} {σ τ : sf_S} (h : sc_Cy X σ τ) {k : Nat} (hk : k < X.n) (hu : X.L k = 117 ∨ X.L k = 118) : ∃ x, X.o k = nI x ∧ X.L x = 120 ∧ x + 1 ≤ k ∧ k < X.E (x + 1) ∧ x < X.n := by
  obtain ⟨w, o2, hD⟩ := h.D
  obtain ⟨a, Y, d, e1, e2, e3, e4, e5⟩ := sc_D_sem h.G h.T hD k hk
  obtain ⟨a', Y', g1, -, -, -, -, -, -, g2⟩ := h.T k hk
  rw [e1] at g1; cases g1
  rcases e5 with ⟨-, rfl⟩ | ⟨x, x1, x2, x3, x4, -⟩
  · exact absurd ⟨decide_eq_true hu, rfl⟩ g2
  · exact ⟨x, x1, x2, x3, x4, by omega⟩
theorem sc_mulI (a : Int32) : (0 : Int32) * a = 0 := by simp
theorem sc_stepI (f s : Int32) (u : Nat) : f + nI u * s + s = f + nI (u + 1) * s := by
  rw [nI_succ, Int32.add_mul, Int32.one_mul, Int32.add_assoc]
theorem sc_addI (f : Int32) (u : Nat) : f + nI u + 1 = f + nI (u + 1) := by
  rw [nI_succ, Int32.add_assoc]
theorem sc_sumI {f s : Int32} {u : Nat} (hu : u ≤ 1000) (h : u = 0 ∨ f.toInt + u ≤ s.toInt) : (f + nI u).toInt = f.toInt + u := by
  have h1 := f.le_toInt
  have h3 := f.toInt_lt
  have h2 := s.toInt_lt
  rw [Int32.toInt_add, nI_toInt (by omega)]
  apply Int.bmod_eq_of_le <;> omega
