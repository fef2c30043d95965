/-! way 2: the row of a producer -/
theorem sc_cmpL {a b : Int64} : lg_cmp a b ≤ 0 ↔ a.toInt ≤ b.toInt := by
  rw [← Int32.not_lt, lg_cmp_gt, Int64.lt_iff_toInt_lt]
  omega
theorem sc_Cy.ox {X : sc_X} {σ τ : sf_S} (h : sc_Cy X σ τ) {k : Nat} (hk : k < X.n) : X.o k = -1 ∨ ∃ x, X.o k = nI x ∧ X.L x = 120 ∧ x + 1 ≤ k ∧ k < X.E (x + 1) ∧ x < X.n := by
  obtain ⟨w, o2, hD⟩ := h.D
  obtain ⟨a, Y, d, e1, e2, e3, e4, e5⟩ := sc_D_sem h.G h.T hD k hk
  rcases e5 with ⟨q, -⟩ | ⟨x, x1, x2, x3, x4, -⟩
  · exact Or.inl q
  · exact Or.inr ⟨x, x1, x2, x3, x4, by omega⟩
theorem sc_W.drawN {X : sc_X} {D np g e : Nat} {σ τ : sf_S} (h : sc_W X D np g σ τ) (hD : D + e ≤ 500) : sc_W X (D + e) np g (sf_up σ (sf_rn X.q) 2 (nI (D + e))) (sf_up τ 0 37 (nI (D + e))) := by
  refine ⟨h.cy.kept (sc_fr_up (by simp [sc_RC])) (sc_fr_up (by simp [sc_RM])), hD, by have := h.np4; omega, h.g40, ?_, ?_, ?_, ?_, ?_, ?_, ?_, ?_, fun j hj => ?_, ?_, ?_, fun j hj hp => ?_⟩
  all_goals simp (disch := omega) only [sc_upK, sc_upJ, sc_upS]
  · exact h.wk
  · exact h.el
  · exact h.fl
  · exact h.fd
  · exact h.cg
  · exact h.rg
  · exact h.re j hj
  · exact h.cp
  · exact h.rp
  · exact h.nt j hj hp
/-- the class fills its row -/
theorem sc_fpLC {k n : Nat} {S : Int64} {v : Nat → Int32} {σ0 : sf_S} (hk : k < 40) (hn : n ≤ 60) (hS : S.toInt = n) (hhas : ∀ σ1 : sf_S, (∀ a b, a ≠ 34 → a ≠ 35 → σ1 a b = σ0 a b) → dX2_has 1 (nI k) σ1 = some (1, σ1)) (hv : ∀ σ1 : sf_S, (∀ a b, a ≠ 34 → a ≠ 35 → σ1 a b = σ0 a b) → ∀ i, i < n → dX10_supplied 32 (nI k) (nI i) σ1 = some (v i, σ1)) :
    ∀ r i m (σ : sf_S), i + r = n → r + 1 ≤ m → (∀ a b, a ≠ 34 → a ≠ 35 → σ a b = σ0 a b) → σ 35 k = nI i → ∃ σ', dX1_fillFromProducer_60 m (nI k) S (nI i) σ = some (1, σ') ∧ sc_fr (sc_rwC k) σ σ' ∧ σ' 35 k = nI n ∧ (∀ j, j < i → σ' 34 (60 * k + j) = σ 34 (60 * k + j)) ∧ ∀ j, i ≤ j → j < n → σ' 34 (60 * k + j) = v j := by
  intro r
  induction r with
  | zero =>
    intro i m σ h1 h2 h3 h4
    obtain ⟨m, rfl⟩ : ∃ m', m = m' + 1 := ⟨m - 1, by omega⟩
    unfold dX1_fillFromProducer_60
    rw [if_pos (sc_cmp.mpr (by rw [hS, Int32.toInt_toInt64, nI_toInt (by omega)]; omega))]
    exact ⟨σ, rfl, sc_fr_rf, by rw [h4, show i = n by omega], fun _ _ => rfl, fun j a b => by omega⟩
  | succ r ih =>
    intro i m σ h1 h2 h3 h4
    obtain ⟨m, rfl⟩ : ∃ m', m = m' + 1 := ⟨m - 1, by omega⟩
    unfold dX1_fillFromProducer_60
    rw [if_neg (fun q => by rw [sc_cmp, hS, Int32.toInt_toInt64, nI_toInt (by omega)] at q; omega), hv σ h3 i (by omega)]
    simp only [Option.bind_some]
    have ea : dX1_add (nI k) (v i) σ = some (sf_up (sf_up σ 34 (60 * k + i) (v i)) 35 k (nI (i + 1))) := by
      unfold dX1_add
      rw [hhas σ h3]
      simp only [Option.bind_some]
      rw [if_neg (show ¬ (1 : Int32) = 0 by decide)]
      simp only [sc_inI (show k < 40 from hk) (by omega : 40 ≤ 10000), if_true, sc_cl (show k < 2 ^ 31 by omega), h4]
      rw [if_pos (show nI i < 60 from nI_lt (b := 60) (by omega) (by decide)), sc_idx1]
      simp only [sc_inI (show 60 * k + i < 2400 by omega) (by omega : 2400 ≤ 10000), if_true, sc_cl (show 60 * k + i < 2 ^ 31 by omega)]
      rw [sc_upK (by decide), h4, nI_1]
    rw [ea]
    simp only [Option.bind_some, nI_1]
    obtain ⟨σ', e1, e2, e3, e4, e5⟩ := ih (i + 1) m (sf_up (sf_up σ 34 (60 * k + i) (v i)) 35 k (nI (i + 1))) (by omega) (by omega) (fun a b x y => by rw [sc_upK y, sc_upK x]; exact h3 a b x y) sc_upS
    refine ⟨σ', e1, sc_fr_tr (sc_fr_tr (sc_fr_up (by simp [sc_rwC]; omega)) (sc_fr_up (by simp [sc_rwC]))) e2, e3, fun j hj => ?_, fun j a b => ?_⟩
    · rw [e4 j (by omega), sc_upK (by decide), sc_upJ (by omega)]
    · by_cases q : j = i
      · rw [q, e4 i (by omega), sc_upK (by decide), sc_upS]
      · exact e5 j (by omega) b
def sc_fpV (X : sc_X) (k n : Nat) (x2 x3 : Int32) (v : Nat → Int32) (τ0 : sf_S) : Prop := (X.L k = 114 ∧ ∀ i, i < n → v i = X.f k + nI i) ∨ (X.L k = 115 ∧ ∃ m, x2 = nI m ∧ ∀ i, i < n → 60 * m + i < 240 ∧ v i = τ0 3 (60 * m + i)) ∨ (X.L k = 117 ∧ ∀ i, i < n → v i = nI i) ∨ (X.L k = 118 ∧ ∀ i, i < n → v i = x3)
def sc_fpM (k : Nat) : Nat → Nat → Bool := fun a b => sc_rwM k a b || decide (a = 0 ∧ (b = 35 ∨ b = 36 ∨ b = 37))
theorem sc_fpM_r {k : Nat} {τ τ' : sf_S} (h : sc_fr (sc_rwM k) τ τ') : sc_fr (sc_fpM k) τ τ' := sc_fr_wk h (fun a b hab => by
  simp only [sc_fpM, Bool.or_eq_false_iff] at hab; exact hab.1)
/-- the reference fills its row -/
theorem sc_fpLM {X : sc_X} {D k n : Nat} {x2 x3 : Int32} {S : Int64} {v : Nat → Int32} {τ0 : sf_S} (hk : k < 40) (hn : n ≤ 60) (hS : ∀ i : Nat, S.toInt ≤ (i : Int) ↔ n ≤ i) (h11 : τ0 11 k = X.L k) (h13 : τ0 13 k = X.f k) (hV : sc_fpV X k n x2 x3 v τ0) :
    ∀ r i m (τ : sf_S), i + r = n → r + 2 ≤ m → D + i ≤ 500 → (∀ a b, a ≠ 0 → a ≠ 30 → a ≠ 31 → τ a b = τ0 a b) → τ 0 37 = nI (D + i) → τ 0 35 = 0 → τ 31 k = nI i → ∃ τ', dX12_fills_171 m (nI k) x2 x3 S (nI i) τ = some τ' ∧ sc_fr (sc_fpM k) τ τ' ∧
      ((D + n ≤ 500 ∧ τ' 0 35 = 0 ∧ τ' 0 36 = τ 0 36 ∧ τ' 0 37 = nI (D + n) ∧ τ' 31 k = nI n ∧ (∀ j, j < i → τ' 30 (60 * k + j) = τ 30 (60 * k + j)) ∧ (∀ j, i ≤ j → j < n → τ' 30 (60 * k + j) = v j)) ∨ (500 < D + n ∧ τ' 0 35 = 3 ∧ τ' 0 36 = 0 ∧ τ' 0 37 = nI 500)) := by
  intro r
  induction r with
  | zero =>
    intro i m τ h1 h2 hD h3 h37 h35 h31
    obtain ⟨m, rfl⟩ : ∃ m', m = m' + 1 := ⟨m - 1, by omega⟩
    have e : i = n := by omega
    subst e
    unfold dX12_fills_171
    rw [if_pos (sc_cmp.mpr (by rw [Int32.toInt_toInt64, nI_toInt (by omega)]; exact (hS i).mpr (Nat.le_refl _)))]
    exact ⟨τ, rfl, sc_fr_rf, Or.inl ⟨hD, h35, rfl, h37, h31, fun _ _ => rfl, fun j a b => by omega⟩⟩
  | succ r ih =>
    intro i m τ h1 h2 hD h3 h37 h35 h31
    obtain ⟨m, rfl⟩ : ∃ m', m = m' + 1 := ⟨m - 1, by omega⟩
    have go : ¬ 0 ≤ lg_cmp (nI i).toInt64 S := fun q => by
      rw [sc_cmp, Int32.toInt_toInt64, nI_toInt (by omega), hS] at q; omega
    unfold dX12_fills_171
    rw [if_neg go, if_neg (not_not_intro h35)]
    unfold dX12_draws
    rw [h37, show (500 : Int32) = nI 500 by decide +kernel]
    by_cases h5 : D + i = 500
    · rw [h5, if_neg (not_not_intro rfl)]
      unfold dX12_fails
      rw [if_neg (show ¬ ¬ (3 : Int32) = 3 by decide)]
      simp only [Option.bind_some, if_true]
      obtain ⟨m, rfl⟩ : ∃ m', m = m' + 1 := ⟨m - 1, by omega⟩
      unfold dX12_fills_171
      have e35 : sf_up (sf_up τ 0 35 3) 0 36 0 0 35 = 3 := by rw [sc_upJ (by decide), sc_upS]
      refine ⟨_, (by first | rw [if_pos (show ¬ sf_up (sf_up τ 0 35 3) 0 36 0 0 35 = 0 by rw [e35]; decide), ite_self] | (split <;> first | rfl | rw [if_pos (show ¬ sf_up (sf_up τ 0 35 3) 0 36 0 0 35 = 0 by rw [e35]; decide)])), sc_fr_tr (sc_fr_up (by simp [sc_fpM])) (sc_fr_up (by simp [sc_fpM])), Or.inr ⟨by omega, e35, sc_upS, ?_⟩⟩
      rw [sc_upJ (by decide), sc_upJ (by decide), h37, h5]
    · rw [if_pos (fun q => h5 ((nI_eq (by omega) (by omega)).mp q))]
      simp only [Option.bind_some, nI_1]
      rw [if_neg (show ¬ (1 : Int32) = 0 by decide)]
      have ea : ∀ w : Int32, dX12_adds (nI k) w (sf_up τ 0 37 (nI (D + i + 1))) = some (sf_up (sf_up (sf_up τ 0 37 (nI (D + i + 1))) 30 (60 * k + i) w) 31 k (nI (i + 1))) := fun w => by
        unfold dX12_adds
        simp only [sc_inI (show k < 40 from hk) (by omega : 40 ≤ 10000), if_true, sc_cl (show k < 2 ^ 31 by omega)]
        rw [sc_upK (by decide), h31, sc_idx2]
        simp only [sc_inI (show 60 * k + i < 2400 by omega) (by omega : 2400 ≤ 10000), if_true, sc_cl (show 60 * k + i < 2 ^ 31 by omega)]
        rw [sc_upK (by decide), sc_upK (by decide), h31, nI_1]
      obtain ⟨τ', e1, e2, e3⟩ := ih (i + 1) m (sf_up (sf_up (sf_up τ 0 37 (nI (D + i + 1))) 30 (60 * k + i) (v i)) 31 k (nI (i + 1))) (by omega) (by omega) (by omega) (fun a b x y z => by rw [sc_upK z, sc_upK y, sc_upK x]; exact h3 a b x y z) (by rw [sc_upK (by decide), sc_upK (by decide), sc_upS]; rfl) (by rw [sc_upK (by decide), sc_upK (by decide), sc_upJ (by decide)]; exact h35) sc_upS
      have f0 : sc_fr (sc_fpM k) τ (sf_up (sf_up (sf_up τ 0 37 (nI (D + i + 1))) 30 (60 * k + i) (v i)) 31 k (nI (i + 1))) := sc_fr_tr (sc_fr_up (by simp [sc_fpM])) (sc_fr_tr (sc_fr_up (by simp [sc_fpM, sc_rwM]; omega)) (sc_fr_up (by simp [sc_fpM, sc_rwM])))
      refine ⟨τ', ?_, sc_fr_tr f0 e2, ?_⟩
      · rw [← e1]
        simp only [sc_inI (show k < 40 from hk) (by omega : 40 ≤ 10000), if_true, sc_cl (show k < 2 ^ 31 by omega)]
        rw [show sf_up τ 0 37 (nI (D + i + 1)) 11 k = X.L k by rw [sc_upK (by decide), h3 _ _ (by decide) (by decide) (by decide)]; exact h11, show sf_up τ 0 37 (nI (D + i + 1)) 13 k = X.f k by rw [sc_upK (by decide), h3 _ _ (by decide) (by decide) (by decide)]; exact h13]
        rcases hV with ⟨q, hv⟩ | ⟨q, m', e2', hv⟩ | ⟨q, hv⟩ | ⟨q, hv⟩
        · rw [if_neg (not_not_intro q), ea, ← hv i (by omega)]
          rfl
        · obtain ⟨v1, v2⟩ := hv i (by omega)
          rw [if_pos (by rw [q]; decide), if_neg (not_not_intro q), e2', sc_idx2, if_pos (sc_inI (by omega) (by omega)), sc_cl (by omega), sc_upK (by decide), h3 _ _ (by decide) (by decide) (by decide), ← v2, ea]
          rfl
        · rw [if_pos (by rw [q]; decide), if_pos (by rw [q]; decide), if_neg (not_not_intro q), ea, ← hv i (by omega)]
          rfl
        · rw [if_pos (by rw [q]; decide), if_pos (by rw [q]; decide), if_pos (by rw [q]; decide), ea, ← hv i (by omega)]
          rfl
      · rcases e3 with ⟨a1, a2, a3, a4, a5, a6, a7⟩ | e3
        · refine Or.inl ⟨a1, a2, ?_, a4, a5, fun j hj => ?_, fun j x y => ?_⟩
          · rw [a3, sc_upK (by decide), sc_upK (by decide), sc_upJ (by decide)]
          · rw [a6 j (by omega), sc_upK (by decide), sc_upJ (by omega), sc_upK (by decide)]
          · by_cases q : j = i
            · rw [q, a6 i (by omega), sc_upK (by decide), sc_upS]
            · exact a7 j (by omega) y
        · exact Or.inr e3
