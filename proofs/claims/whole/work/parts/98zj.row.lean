/-! RUNS, way 2: rows -/
theorem sc_r32 {X : sc_X} (hq : X.q = 32) : sf_pl X.q = 1 ∧ sf_rn X.q = 19 ∧ sf_vl X.q = 4 ∧ sf_op X.q = 33 := by
  rw [hq]; exact ⟨by decide, by decide, by decide, by decide⟩
def sc_LM2 : Nat → Nat → Bool := fun a b => decide ((24 ≤ a ∧ a ≤ 25) ∨ (29 ≤ a ∧ a ≤ 33)) || decide (a = 0 ∧ (b = 45 ∨ b = 46 ∨ b = 48))
theorem sc_LM2_RM {τ τ' : sf_S} (h : sc_fr sc_LM2 τ τ') : sc_fr sc_RM τ τ' := sc_fr_wk h (fun a b hab => by
  simp [sc_RM] at hab; simp [sc_LM2]; omega)
theorem sc_W.light2 {X : sc_X} {D np g : Nat} {σ τ σ' τ' : sf_S} (h : sc_W X D np g σ τ) (h1 : sc_fr (sc_LC X.q) σ σ') (h2 : sc_fr sc_LM2 τ τ') : sc_W X D np g σ' τ' := by
  obtain ⟨k1, k2, k3, k4, k5, k6⟩ := h.cy.ok
  have A : ∀ a b, a ≤ sf_rn X.q + 3 → σ' a b = σ a b := fun a b p1 => h1 a b (by simp [sc_LC]; omega)
  have A0 : ∀ b, σ' (sf_rn X.q) b = σ (sf_rn X.q) b := fun b => A _ _ (by show sf_rn X.q ≤ _; omega)
  have B0 : ∀ b, (b = 35 ∨ b = 36 ∨ b = 37 ∨ b = 38 ∨ b = 39 ∨ b = 41 ∨ b = 44) → τ' 0 b = τ 0 b := fun b p => h2 0 b (by simp [sc_LM2]; omega)
  have B1 : ∀ a b, (a = 26 ∨ a = 27 ∨ a = 28) → τ' a b = τ a b := fun a b p => h2 a b (by simp [sc_LM2]; omega)
  refine ⟨h.cy.kept (sc_LC_RC h1) (sc_LM2_RM h2), h.D5, h.np4, h.g40, ?_, ?_, ?_, ?_, ?_, ?_, ?_, ?_, fun j hj => ?_, ?_, ?_, fun j hj hp => ?_⟩
  · rw [A0]; exact h.cD
  · rw [B0 _ (by simp)]; exact h.rD
  · rw [A0, B0 _ (by simp)]; exact h.wk
  · rw [A0, B0 _ (by simp)]; exact h.el
  · rw [A0, B0 _ (by simp)]; exact h.fl
  · rw [A0, B0 _ (by simp)]; exact h.fd
  · rw [A0]; exact h.cg
  · rw [B0 _ (by simp)]; exact h.rg
  · rw [A _ _ (by show sf_rn X.q + 1 ≤ _; omega), B1 _ _ (by simp)]; exact h.re j hj
  · rw [A0]; exact h.cp
  · rw [B0 _ (by simp)]; exact h.rp
  · rw [A _ _ (by show sf_rn X.q + 2 ≤ _; omega), A _ _ (by show sf_rn X.q + 3 ≤ _; omega), B1 _ _ (by simp), B1 _ _ (by simp)]; exact h.nt j hj hp
def sc_row (j len : Nat) (σ τ : sf_S) : Prop := len ≤ 60 ∧ σ 35 j = nI len ∧ τ 31 j = nI len ∧ ∀ i, i < len → σ 34 (60 * j + i) = τ 30 (60 * j + i)
def sc_rwC (k : Nat) : Nat → Nat → Bool := fun a b => decide (a = 34 ∧ 60 * k ≤ b ∧ b < 60 * k + 60) || decide (a = 35 ∧ b = k)
def sc_rwM (k : Nat) : Nat → Nat → Bool := fun a b => decide (a = 30 ∧ 60 * k ≤ b ∧ b < 60 * k + 60) || decide (a = 31 ∧ b = k)
theorem sc_rwC_L {X : sc_X} (hq : X.q = 32) {k : Nat} {σ σ' : sf_S} (h : sc_fr (sc_rwC k) σ σ') : sc_fr (sc_LC X.q) σ σ' := sc_fr_wk h (fun a b hab => by
  simp [sc_LC] at hab; simp [sc_rwC]; omega)
theorem sc_rwM_L {k : Nat} {τ τ' : sf_S} (h : sc_fr (sc_rwM k) τ τ') : sc_fr sc_LM2 τ τ' := sc_fr_wk h (fun a b hab => by
  simp [sc_LM2] at hab; simp [sc_rwM]; omega)
theorem sc_row.kept {j len : Nat} {σ τ σ' τ' : sf_S} (h : sc_row j len σ τ) (h1 : ∀ a b, (a = 34 ∧ 60 * j ≤ b ∧ b < 60 * j + 60) ∨ (a = 35 ∧ b = j) → σ' a b = σ a b) (h2 : ∀ a b, (a = 30 ∧ 60 * j ≤ b ∧ b < 60 * j + 60) ∨ (a = 31 ∧ b = j) → τ' a b = τ a b) : sc_row j len σ' τ' := by
  obtain ⟨a1, a2, a3, a4⟩ := h
  refine ⟨a1, (h1 _ _ (Or.inr ⟨rfl, rfl⟩)).trans a2, (h2 _ _ (Or.inr ⟨rfl, rfl⟩)).trans a3, fun i hi => ?_⟩
  rw [h1 _ _ (Or.inl ⟨rfl, by omega, by omega⟩), h2 _ _ (Or.inl ⟨rfl, by omega, by omega⟩)]
  exact a4 i hi
theorem sc_row.far {j k len : Nat} {σ τ σ' τ' : sf_S} (h : sc_row j len σ τ) (hjk : j ≠ k) (h1 : sc_fr (sc_rwC k) σ σ') (h2 : sc_fr (sc_rwM k) τ τ') : sc_row j len σ' τ' :=
  h.kept (fun a b q => h1 a b (by simp [sc_rwC]; omega)) (fun a b q => h2 a b (by simp [sc_rwM]; omega))
theorem sc_add2 {X : sc_X} {D np g k len : Nat} {σ τ : sf_S} (hq : X.q = 32) (w : sc_W X D np g σ τ) (hk : k < X.n) (hr : sc_row k len σ τ) (hl : len < 60) (v : Int32) : ∃ σ' τ', dX1_add (nI k) v σ = some σ' ∧ dX12_adds (nI k) v τ = some τ' ∧ sc_W X D np g σ' τ' ∧ sc_row k (len + 1) σ' τ' ∧ sc_fr (sc_rwC k) σ σ' ∧ sc_fr (sc_rwM k) τ τ' := by
  obtain ⟨g1, g2, g3, g4⟩ := sc_r32 hq
  obtain ⟨a1, a2, a3, a4⟩ := hr
  have hn4 := w.cy.n40
  have hh := w.cy.has hk
  rw [g1] at hh
  have F1 : sc_fr (sc_rwC k) σ (sf_up (sf_up σ 34 (60 * k + len) v) 35 k (nI (len + 1))) := sc_fr_tr (sc_fr_up (by simp [sc_rwC]; omega)) (sc_fr_up (by simp [sc_rwC]))
  have F2 : sc_fr (sc_rwM k) τ (sf_up (sf_up τ 30 (60 * k + len) v) 31 k (nI (len + 1))) := sc_fr_tr (sc_fr_up (by simp [sc_rwM]; omega)) (sc_fr_up (by simp [sc_rwM]))
  refine ⟨_, _, ?_, ?_, w.light2 (sc_rwC_L hq F1) (sc_rwM_L F2), ⟨by omega, sc_upS, sc_upS, fun i hi => ?_⟩, F1, F2⟩
  · unfold dX1_add
    rw [hh]
    simp only [Option.bind_some]
    rw [if_neg (show ¬ (1 : Int32) = 0 by decide), if_pos (w.cy.nin hk), w.cy.ncl hk, a2, if_pos (show nI len < 60 from nI_lt (b := 60) hl (by decide)), sc_c60, sc_mul, nI_add, show k * 60 + len = 60 * k + len by omega]
    simp only [w.cy.nin hk, if_true, sc_inI (show 60 * k + len < 2400 by omega) (by omega : 2400 ≤ 10000), sc_cl (show 60 * k + len < 2 ^ 31 by omega)]
    rw [sc_upK (by decide), a2, nI_1]
  · unfold dX12_adds
    simp only [w.cy.nin hk, if_true, w.cy.ncl hk]
    rw [a3, sc_c60, sc_mul, nI_add]
    simp only [sc_inI (show 60 * k + len < 2400 by omega) (by omega : 2400 ≤ 10000), if_true, sc_cl (show 60 * k + len < 2 ^ 31 by omega)]
    rw [sc_upK (by decide), a3, nI_1]
  · rw [sc_upK (show (34 : Nat) ≠ 35 by decide), sc_upK (show (30 : Nat) ≠ 31 by decide)]
    by_cases q : i = len
    · rw [q, sc_upS, sc_upS]
    · rw [sc_upJ (by omega), sc_upJ (by omega)]; exact a4 i (by omega)
theorem sc_el2 {X : sc_X} {j len i : Nat} {σ τ : sf_S} (hq : X.q = 32) (hC : sc_Cy X σ τ) (hj : j < X.n) (hr : sc_row j len σ τ) (hi : i < len) : dX1_element (nI j) (nI i) σ = some (σ 34 (60 * j + i), σ) := by
  obtain ⟨g1, g2, g3, g4⟩ := sc_r32 hq
  obtain ⟨a1, a2, a3, a4⟩ := hr
  have hn4 := hC.n40
  have hh := hC.has hj
  rw [g1] at hh
  unfold dX1_element
  rw [hh]
  simp only [Option.bind_some]
  rw [if_neg (show ¬ (1 : Int32) = 0 by decide), if_neg (nI_pos (by omega)), if_pos (hC.nin hj), hC.ncl hj, a2, if_neg (nI_ge hi (by omega)), sc_c60, sc_mul, nI_add, show j * 60 + i = 60 * j + i by omega]
  simp only [sc_inI (show 60 * j + i < 2400 by omega) (by omega : 2400 ≤ 10000), if_true, sc_cl (show 60 * j + i < 2 ^ 31 by omega)]
theorem sc_madeN {X : sc_X} {k : Nat} {σ τ : sf_S} (h : sc_Cy X σ τ) (hk : k < X.n) (hL : ¬ (X.L k = 37 ∨ X.L k = 42 ∨ X.L k = 43 ∨ X.L k = 47 ∨ X.L k = 108)) (v : Int32) : dX12_made (nI k) v τ = some (v, τ) := by
  obtain ⟨r1, r2, r3, r4⟩ := h.r1 k hk
  simp only [not_or] at hL
  obtain ⟨h1, h2, h3, h4, h5⟩ := hL
  unfold dX12_made
  simp only [h.nin hk, if_true, h.ncl hk, r1]
  rw [if_neg h1, if_neg h2, if_neg h3, if_neg h4, if_neg h5]
theorem sc_passN {X : sc_X} {k : Nat} {σ τ : sf_S} (h : sc_Cy X σ τ) (hk : k < X.n) (hL : ¬ (X.L k = 63 ∨ X.L k = 107 ∨ X.L k = 119)) (v : Int32) : dX12_passes (nI k) v τ = some (1, τ) := by
  obtain ⟨r1, r2, r3, r4⟩ := h.r1 k hk
  simp only [not_or] at hL
  obtain ⟨h1, h2, h3⟩ := hL
  unfold dX12_passes
  simp only [h.nin hk, if_true, h.ncl hk, r1]
  rw [if_pos h2, if_neg h1, if_neg h3]
