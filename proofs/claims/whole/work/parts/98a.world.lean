/-! RUNS: what a run reads (sc_Cy), what it counts (sc_W) -/
def sc_X : Type := Nat × Nat × (Nat → Nat) × (Nat → Int32) × (Nat → Int32) × (Nat → Int32) × (Nat → Int32) × (Nat → Int32) × (Nat → Int32)
abbrev sc_X.q (X : sc_X) : Nat := X.1
abbrev sc_X.n (X : sc_X) : Nat := X.2.1
abbrev sc_X.E (X : sc_X) : Nat → Nat := X.2.2.1
abbrev sc_X.L (X : sc_X) : Nat → Int32 := X.2.2.2.1
abbrev sc_X.mk (X : sc_X) : Nat → Int32 := X.2.2.2.2.1
abbrev sc_X.f (X : sc_X) : Nat → Int32 := X.2.2.2.2.2.1
abbrev sc_X.s (X : sc_X) : Nat → Int32 := X.2.2.2.2.2.2.1
abbrev sc_X.o (X : sc_X) : Nat → Int32 := X.2.2.2.2.2.2.2.1
abbrev sc_X.dp (X : sc_X) : Nat → Int32 := X.2.2.2.2.2.2.2.2
def sc_qok (q : Nat) : Prop := 18 < sf_rn q ∧ sf_rn q + 3 < q ∧ q + 4 < 60 ∧ sf_pl q + 9 < sf_rn q ∧ (sf_pl q + 9 < 16 ∨ 18 < sf_pl q) ∧ 0 < sf_pl q
theorem sc_q23 : sc_qok 23 := by unfold sc_qok; decide
theorem sc_q27 : sc_qok 27 := by unfold sc_qok; decide
theorem sc_q32 : sc_qok 32 := by unfold sc_qok; decide
theorem sc_q55 : sc_qok 55 := by unfold sc_qok; decide
def sc_Cy (X : sc_X) (σ τ : sf_S) : Prop := (sc_qok X.q) ∧ (0 < X.n) ∧ (X.n ≤ 40) ∧ (σ (sf_pl X.q) 4 = nI X.n) ∧ (τ 0 21 = nI X.n) ∧ (sc_G X.n X.L) ∧ (sc_T X.n X.L X.E) ∧ (∃ w o2, sc_D X.n X.L X.E w o2 X.o) ∧ (∀ j, j < X.n → sc_vn (X.L j) (X.mk j) (X.f j) (X.s j)) ∧ (∀ j, j < X.n → σ ((sf_pl X.q) + 1) j = X.L j ∧ σ ((sf_pl X.q) + 2) j = X.mk j ∧ σ ((sf_pl X.q) + 3) j = X.f j ∧ σ ((sf_pl X.q) + 4) j = X.s j) ∧ (∀ j, j < X.n → σ ((sf_pl X.q) + 5) j = nI (X.E j) ∧ σ ((sf_pl X.q) + 7) j = X.dp j ∧ σ ((sf_pl X.q) + 8) j = X.o j) ∧ (∀ j, j < X.n → τ 11 j = X.L j ∧ τ 12 j = X.mk j ∧ τ 13 j = X.f j ∧ τ 14 j = X.s j) ∧ (∀ j, j < X.n → τ 15 j = nI (X.E j - j) ∧ τ 16 j = nI (sc_ps X.L X.E j) ∧ τ 17 j = nI (sc_qs X.L X.E j) ∧ τ 19 j = X.dp j ∧ τ 20 j = X.o j) ∧ (sc_Sh σ τ)
theorem sc_Cy.ok {X : sc_X} {σ τ : sf_S} (h : sc_Cy X σ τ) : sc_qok X.q := h.1
theorem sc_Cy.n0 {X : sc_X} {σ τ : sf_S} (h : sc_Cy X σ τ) : 0 < X.n := h.2.1
theorem sc_Cy.n40 {X : sc_X} {σ τ : sf_S} (h : sc_Cy X σ τ) : X.n ≤ 40 := h.2.2.1
theorem sc_Cy.c4 {X : sc_X} {σ τ : sf_S} (h : sc_Cy X σ τ) : σ (sf_pl X.q) 4 = nI X.n := h.2.2.2.1
theorem sc_Cy.c21 {X : sc_X} {σ τ : sf_S} (h : sc_Cy X σ τ) : τ 0 21 = nI X.n := h.2.2.2.2.1
theorem sc_Cy.G {X : sc_X} {σ τ : sf_S} (h : sc_Cy X σ τ) : sc_G X.n X.L := h.2.2.2.2.2.1
theorem sc_Cy.T {X : sc_X} {σ τ : sf_S} (h : sc_Cy X σ τ) : sc_T X.n X.L X.E := h.2.2.2.2.2.2.1
theorem sc_Cy.D {X : sc_X} {σ τ : sf_S} (h : sc_Cy X σ τ) : ∃ w o2, sc_D X.n X.L X.E w o2 X.o := h.2.2.2.2.2.2.2.1
theorem sc_Cy.vn {X : sc_X} {σ τ : sf_S} (h : sc_Cy X σ τ) : ∀ j, j < X.n → sc_vn (X.L j) (X.mk j) (X.f j) (X.s j) := h.2.2.2.2.2.2.2.2.1
theorem sc_Cy.c1 {X : sc_X} {σ τ : sf_S} (h : sc_Cy X σ τ) : ∀ j, j < X.n → σ ((sf_pl X.q) + 1) j = X.L j ∧ σ ((sf_pl X.q) + 2) j = X.mk j ∧ σ ((sf_pl X.q) + 3) j = X.f j ∧ σ ((sf_pl X.q) + 4) j = X.s j := h.2.2.2.2.2.2.2.2.2.1
theorem sc_Cy.c5 {X : sc_X} {σ τ : sf_S} (h : sc_Cy X σ τ) : ∀ j, j < X.n → σ ((sf_pl X.q) + 5) j = nI (X.E j) ∧ σ ((sf_pl X.q) + 7) j = X.dp j ∧ σ ((sf_pl X.q) + 8) j = X.o j := h.2.2.2.2.2.2.2.2.2.2.1
theorem sc_Cy.r1 {X : sc_X} {σ τ : sf_S} (h : sc_Cy X σ τ) : ∀ j, j < X.n → τ 11 j = X.L j ∧ τ 12 j = X.mk j ∧ τ 13 j = X.f j ∧ τ 14 j = X.s j := h.2.2.2.2.2.2.2.2.2.2.2.1
theorem sc_Cy.r5 {X : sc_X} {σ τ : sf_S} (h : sc_Cy X σ τ) : ∀ j, j < X.n → τ 15 j = nI (X.E j - j) ∧ τ 16 j = nI (sc_ps X.L X.E j) ∧ τ 17 j = nI (sc_qs X.L X.E j) ∧ τ 19 j = X.dp j ∧ τ 20 j = X.o j := h.2.2.2.2.2.2.2.2.2.2.2.2.1
theorem sc_Cy.sh {X : sc_X} {σ τ : sf_S} (h : sc_Cy X σ τ) : sc_Sh σ τ := h.2.2.2.2.2.2.2.2.2.2.2.2.2
theorem sc_Cy_ex {q n : Nat} {E : Nat → Nat} {σ τ : sf_S} (ok : sc_qok q) (h : sc_Pq (sf_pl q) n E σ τ) (hs : sc_Sh σ τ) : sc_Cy ⟨q, n, E, τ 11, τ 12, τ 13, τ 14, τ 20, τ 19⟩ σ τ := by
  obtain ⟨p1, p2, p3, p4, p5, p6, p7, p8, p9, p10⟩ := h
  have hu := sc_D_uniq p5 p6 p8.2.1 p9.2
  refine ⟨ok, p1, p2, p3, p4, p5, p6, ⟨_, _, p9.2⟩, fun j hj => (p7 j hj).2.2.2.2, fun j hj => ?_, fun j hj => ?_, fun j hj => ⟨rfl, rfl, rfl, rfl⟩, fun j hj => ?_, hs⟩
  · obtain ⟨a1, a2, a3, a4, -⟩ := p7 j hj
    exact ⟨a1, a2, a3, a4⟩
  · obtain ⟨u1, u2, u3⟩ := hu j hj
    exact ⟨(p8.1 j hj).1, u2.symm, u3.symm⟩
  · obtain ⟨a1, a2, a3⟩ := p9.1 j hj
    exact ⟨a1, a2, a3, rfl, rfl⟩
def sc_RC (q : Nat) : Nat → Nat → Bool := fun a _ => decide (sf_rn q ≤ a ∧ a ≤ sf_rn q + 3) || decide (q ≤ a ∧ a ≤ q + 4)
def sc_RM : Nat → Nat → Bool := fun a b => decide (24 ≤ a ∧ a ≤ 33) || decide (a = 0 ∧ 33 ≤ b ∧ b ≤ 50)
theorem sc_Cy.kept {X : sc_X} {σ τ σ' τ' : sf_S} (h : sc_Cy X σ τ) (h1 : sc_fr (sc_RC X.q) σ σ') (h2 : sc_fr sc_RM τ τ') : sc_Cy X σ' τ' := by
  obtain ⟨k1, k2, k3, k4, k5, k6⟩ := h.ok
  have A : ∀ a b, a ≤ sf_pl X.q + 9 → a < sf_rn X.q → σ' a b = σ a b := fun a b p1 p2 => h1 a b (by simp [sc_RC]; omega)
  have A' : ∀ a b, a = 16 ∨ a = 17 ∨ a = 18 → σ' a b = σ a b := fun a b p1 => h1 a b (by simp [sc_RC]; omega)
  have B : ∀ a b, 1 ≤ a → a ≤ 20 → τ' a b = τ a b := fun a b p1 p2 => h2 a b (by simp [sc_RM]; omega)
  refine ⟨h.ok, h.n0, h.n40, ?_, ?_, h.G, h.T, h.D, h.vn, fun j hj => ?_, fun j hj => ?_, fun j hj => ?_, fun j hj => ?_, h.sh.kept A' (fun a b hab => B a b (by omega) (by omega))⟩
  · rw [A _ _ (by show sf_pl X.q ≤ _; omega) (by show sf_pl X.q < _; omega)]; exact h.c4
  · rw [h2 0 21 (by decide)]; exact h.c21
  · rw [A _ _ (by show sf_pl X.q + 1 ≤ _; omega) (by show sf_pl X.q + 1 < _; omega), A _ _ (by show sf_pl X.q + 2 ≤ _; omega) (by show sf_pl X.q + 2 < _; omega), A _ _ (by show sf_pl X.q + 3 ≤ _; omega) (by show sf_pl X.q + 3 < _; omega), A _ _ (by show sf_pl X.q + 4 ≤ _; omega) (by show sf_pl X.q + 4 < _; omega)]
    exact h.c1 j hj
  · rw [A _ _ (by show sf_pl X.q + 5 ≤ _; omega) (by show sf_pl X.q + 5 < _; omega), A _ _ (by show sf_pl X.q + 7 ≤ _; omega) (by show sf_pl X.q + 7 < _; omega), A _ _ (by show sf_pl X.q + 8 ≤ _; omega) (by show sf_pl X.q + 8 < _; omega)]
    exact h.c5 j hj
  · rw [B _ _ (by omega) (by omega), B _ _ (by omega) (by omega), B _ _ (by omega) (by omega), B _ _ (by omega) (by omega)]
    exact h.r1 j hj
  · rw [B _ _ (by omega) (by omega), B _ _ (by omega) (by omega), B _ _ (by omega) (by omega), B _ _ (by omega) (by omega), B _ _ (by omega) (by omega)]
    exact h.r5 j hj
/-- the run's figures: drawn D, written down np, results g -/
def sc_W (X : sc_X) (D np g : Nat) (σ τ : sf_S) : Prop := (sc_Cy X σ τ) ∧ (D ≤ 500) ∧ (np ≤ 40 * D) ∧ (g ≤ 40) ∧ (σ (sf_rn X.q) 2 = nI D) ∧ (τ 0 37 = nI D) ∧ (σ (sf_rn X.q) 3 = τ 0 38) ∧ (σ (sf_rn X.q) 4 = τ 0 39) ∧ (σ (sf_rn X.q) 5 = τ 0 35) ∧ (σ (sf_rn X.q) 6 = τ 0 36) ∧ (σ (sf_rn X.q) 1 = nI g) ∧ (τ 0 41 = nI g) ∧ (∀ j, j < g → σ ((sf_rn X.q) + 1) j = τ 26 j) ∧ (σ (sf_rn X.q) 9 = nI np) ∧ (τ 0 44 = nI np) ∧ (∀ j, j < 40 → j < np → σ ((sf_rn X.q) + 2) j = τ 27 j ∧ σ ((sf_rn X.q) + 3) j = τ 28 j)
theorem sc_W.cy {X : sc_X} {D np g : Nat} {σ τ : sf_S} (h : sc_W X D np g σ τ) : sc_Cy X σ τ := h.1
theorem sc_W.D5 {X : sc_X} {D np g : Nat} {σ τ : sf_S} (h : sc_W X D np g σ τ) : D ≤ 500 := h.2.1
theorem sc_W.np4 {X : sc_X} {D np g : Nat} {σ τ : sf_S} (h : sc_W X D np g σ τ) : np ≤ 40 * D := h.2.2.1
theorem sc_W.g40 {X : sc_X} {D np g : Nat} {σ τ : sf_S} (h : sc_W X D np g σ τ) : g ≤ 40 := h.2.2.2.1
theorem sc_W.cD {X : sc_X} {D np g : Nat} {σ τ : sf_S} (h : sc_W X D np g σ τ) : σ (sf_rn X.q) 2 = nI D := h.2.2.2.2.1
theorem sc_W.rD {X : sc_X} {D np g : Nat} {σ τ : sf_S} (h : sc_W X D np g σ τ) : τ 0 37 = nI D := h.2.2.2.2.2.1
theorem sc_W.wk {X : sc_X} {D np g : Nat} {σ τ : sf_S} (h : sc_W X D np g σ τ) : σ (sf_rn X.q) 3 = τ 0 38 := h.2.2.2.2.2.2.1
theorem sc_W.el {X : sc_X} {D np g : Nat} {σ τ : sf_S} (h : sc_W X D np g σ τ) : σ (sf_rn X.q) 4 = τ 0 39 := h.2.2.2.2.2.2.2.1
theorem sc_W.fl {X : sc_X} {D np g : Nat} {σ τ : sf_S} (h : sc_W X D np g σ τ) : σ (sf_rn X.q) 5 = τ 0 35 := h.2.2.2.2.2.2.2.2.1
theorem sc_W.fd {X : sc_X} {D np g : Nat} {σ τ : sf_S} (h : sc_W X D np g σ τ) : σ (sf_rn X.q) 6 = τ 0 36 := h.2.2.2.2.2.2.2.2.2.1
theorem sc_W.cg {X : sc_X} {D np g : Nat} {σ τ : sf_S} (h : sc_W X D np g σ τ) : σ (sf_rn X.q) 1 = nI g := h.2.2.2.2.2.2.2.2.2.2.1
theorem sc_W.rg {X : sc_X} {D np g : Nat} {σ τ : sf_S} (h : sc_W X D np g σ τ) : τ 0 41 = nI g := h.2.2.2.2.2.2.2.2.2.2.2.1
theorem sc_W.re {X : sc_X} {D np g : Nat} {σ τ : sf_S} (h : sc_W X D np g σ τ) : ∀ j, j < g → σ ((sf_rn X.q) + 1) j = τ 26 j := h.2.2.2.2.2.2.2.2.2.2.2.2.1
theorem sc_W.cp {X : sc_X} {D np g : Nat} {σ τ : sf_S} (h : sc_W X D np g σ τ) : σ (sf_rn X.q) 9 = nI np := h.2.2.2.2.2.2.2.2.2.2.2.2.2.1
theorem sc_W.rp {X : sc_X} {D np g : Nat} {σ τ : sf_S} (h : sc_W X D np g σ τ) : τ 0 44 = nI np := h.2.2.2.2.2.2.2.2.2.2.2.2.2.2.1
theorem sc_W.nt {X : sc_X} {D np g : Nat} {σ τ : sf_S} (h : sc_W X D np g σ τ) : ∀ j, j < 40 → j < np → σ ((sf_rn X.q) + 2) j = τ 27 j ∧ σ ((sf_rn X.q) + 3) j = τ 28 j := h.2.2.2.2.2.2.2.2.2.2.2.2.2.2.2
def sc_LC (q : Nat) : Nat → Nat → Bool := fun a _ => decide (q ≤ a ∧ a ≤ q + 4)
def sc_LM : Nat → Nat → Bool := fun a b => decide (a = 24 ∨ a = 25 ∨ a = 29) || decide (a = 0 ∧ (b = 45 ∨ b = 46 ∨ b = 48))
theorem sc_LC_RC {q : Nat} {σ σ' : sf_S} (h : sc_fr (sc_LC q) σ σ') : sc_fr (sc_RC q) σ σ' := sc_fr_wk h (fun a b hab => by
  simp [sc_RC] at hab; simp [sc_LC]; omega)
theorem sc_LM_RM {τ τ' : sf_S} (h : sc_fr sc_LM τ τ') : sc_fr sc_RM τ τ' := sc_fr_wk h (fun a b hab => by
  simp [sc_RM] at hab; simp [sc_LM]; omega)
theorem sc_W.light {X : sc_X} {D np g : Nat} {σ τ σ' τ' : sf_S} (h : sc_W X D np g σ τ) (h1 : sc_fr (sc_LC X.q) σ σ') (h2 : sc_fr sc_LM τ τ') : sc_W X D np g σ' τ' := by
  obtain ⟨k1, k2, k3, k4, k5, k6⟩ := h.cy.ok
  have A : ∀ a b, a ≤ sf_rn X.q + 3 → σ' a b = σ a b := fun a b p1 => h1 a b (by simp [sc_LC]; omega)
  have A0 : ∀ b, σ' (sf_rn X.q) b = σ (sf_rn X.q) b := fun b => A _ _ (by show sf_rn X.q ≤ _; omega)
  have B0 : ∀ b, (b = 35 ∨ b = 36 ∨ b = 37 ∨ b = 38 ∨ b = 39 ∨ b = 41 ∨ b = 44) → τ' 0 b = τ 0 b := fun b p => h2 0 b (by simp [sc_LM]; omega)
  have B1 : ∀ a b, (a = 26 ∨ a = 27 ∨ a = 28) → τ' a b = τ a b := fun a b p => h2 a b (by simp [sc_LM]; omega)
  refine ⟨h.cy.kept (sc_LC_RC h1) (sc_LM_RM h2), h.D5, h.np4, h.g40, ?_, ?_, ?_, ?_, ?_, ?_, ?_, ?_, fun j hj => ?_, ?_, ?_, fun j hj hp => ?_⟩
  · rw [A0]; exact h.cD
  · rw [B0 _ (by simp)]; exact h.rD
  · rw [A0, B0 _ (by simp)]; exact h.wk
  · rw [A0, B0 _ (by simp)]; exact h.el
  · rw [A0, B0 _ (by simp)]; exact h.fl
  · rw [A0, B0 _ (by simp)]; exact h.fd
  · rw [A0]; exact h.cg
  · rw [B0 _ (by simp)]; exact h.rg
  · rw [A _ _ (by show sf_rn X.q + 1 ≤ _; omega), B1 _ _ (by simp)]; exact h.re j hj
  · rw [A0]; exact h.cp
  · rw [B0 _ (by simp)]; exact h.rp
  · rw [A _ _ (by show sf_rn X.q + 2 ≤ _; omega), A _ _ (by show sf_rn X.q + 3 ≤ _; omega), B1 _ _ (by simp), B1 _ _ (by simp)]; exact h.nt j hj hp
