/-! a producer gives -/
theorem sc_cmp {a b : Int64} : 0 ≤ lg_cmp a b ↔ b.toInt ≤ a.toInt := by
  rw [← Int32.not_lt, lg_cmp_lt, Int64.lt_iff_toInt_lt]
  omega
def sc_pCx (X : sc_X) (k : Nat) : Nat → Nat → Bool := fun a b => (a == X.q && b == sf_vl X.q) || (a == X.q + 1 && b == k) || (a == (sf_rn X.q) && (b == 2 || b == 5 || b == 6))
def sc_pMx (k : Nat) : Nat → Nat → Bool := fun a b => (a == 24 && b == k) || (a == 0 && (b == 35 || b == 36 || b == 37 || b == 45 || b == 46))
def sc_PR (X : sc_X) (D np g k u : Nat) (σ τ : sf_S) (x : Option (Int32 × sf_S)) (y : Option sf_S) : Prop := ∃ r σ' τ' dl, x = some (sc_b r, σ') ∧ y = some τ' ∧ sc_W X (D + dl) np g σ' τ' ∧ sc_fr (sc_pCx X k) σ σ' ∧ sc_fr (sc_pMx k) τ τ' ∧
  ((r = true ∧ dl = 1 ∧ σ' (X.q + 1) k = nI (u + 1) ∧ sc_Np (X.L k) (X.f k) (X.s k) (τ' 24 k) (σ (X.q + 3) (X.o k).toNatClampNeg) (τ 25 (X.o k).toNatClampNeg) (u + 1) ∧ σ' (sf_rn X.q) 5 = 0 ∧ σ' X.q (sf_vl X.q) = τ' 0 46 ∧ τ' 0 45 = 1) ∨
   (r = false ∧ dl = 0 ∧ σ' (sf_rn X.q) 5 = 0 ∧ τ' 0 45 = 0 ∧ σ' = σ) ∨ (r = false ∧ dl = 0 ∧ ¬ σ' (sf_rn X.q) 5 = 0))
/-- a failure, on both sides -/
theorem sc_W.fail {X : sc_X} {D np g : Nat} {σ τ : sf_S} (h : sc_W X D np g σ τ) (a d : Int32) : sc_W X D np g (sf_up (sf_up σ (sf_rn X.q) 5 a) (sf_rn X.q) 6 d) (sf_up (sf_up τ 0 35 a) 0 36 d) := by
  have hb : ∀ i, 1 ≤ i → (sf_rn X.q) + i ≠ (sf_rn X.q) := fun i hi => by omega
  refine ⟨h.cy.kept (sc_fr_tr (sc_fr_up (by simp [sc_RC])) (sc_fr_up (by simp [sc_RC]))) (sc_fr_tr (sc_fr_up (by simp [sc_RM])) (sc_fr_up (by simp [sc_RM]))), h.D5, h.np4, h.g40, ?_, ?_, ?_, ?_, ?_, ?_, ?_, ?_, fun j hj => ?_, ?_, ?_, fun j hj hp => ?_⟩
  all_goals simp (disch := omega) only [sc_upK, sc_upJ, sc_upS]
  · exact h.cD
  · exact h.rD
  · exact h.wk
  · exact h.el
  · exact h.cg
  · exact h.rg
  · exact h.re j hj
  · exact h.cp
  · exact h.rp
  · exact h.nt j hj hp
theorem sc_W.draw {X : sc_X} {D np g : Nat} {σ τ : sf_S} (h : sc_W X D np g σ τ) (hD : D + 1 ≤ 500) : sc_W X (D + 1) np g (sf_up σ (sf_rn X.q) 2 (nI (D + 1))) (sf_up τ 0 37 (nI (D + 1))) := by
  refine ⟨h.cy.kept (sc_fr_up (by simp [sc_RC])) (sc_fr_up (by simp [sc_RM])), hD, by have := h.np4; omega, h.g40, ?_, ?_, ?_, ?_, ?_, ?_, ?_, ?_, fun j hj => ?_, ?_, ?_, fun j hj hp => ?_⟩
  all_goals simp (disch := omega) only [sc_upK, sc_upJ, sc_upS]
  · exact h.wk
  · exact h.el
  · exact h.fl
  · exact h.fd
  · exact h.cg
  · exact h.rg
  · exact h.re j hj
  · exact h.cp
  · exact h.rp
  · exact h.nt j hj hp
theorem sc_prodT {X : sc_X} {D np g k u : Nat} {σ τ : sf_S} {av : Bool} {v : Int32} {S : Int64} (h : sc_W X D np g σ τ) (hk : k < X.n) (hu : σ (X.q + 1) k = nI u) (huD : u ≤ D) (hfl : σ (sf_rn X.q) 5 = 0)
    (hr : dX10_isReady X.q (nI k) σ = some (1, σ)) (hs : dX10_supply X.q (nI k) σ = some (S, σ)) (hS : S.toInt ≤ (u : Int) ↔ av = false) (hv : av = true → dX10_supplied X.q (nI k) (nI u) (sf_up σ (sf_rn X.q) 2 (nI (D + 1))) = some (v, sf_up σ (sf_rn X.q) 2 (nI (D + 1))))
    (hN : sc_Np (X.L k) (X.f k) (X.s k) (τ 24 k) (σ (X.q + 3) (X.o k).toNatClampNeg) (τ 25 (X.o k).toNatClampNeg) u)
    (hN' : av = true → sc_Np (X.L k) (X.f k) (X.s k) (if X.L k = 105 then τ 24 k + X.s k else τ 24 k + 1) (σ (X.q + 3) (X.o k).toNatClampNeg) (τ 25 (X.o k).toNatClampNeg) (u + 1)) {w : Int32} (hw : av = true → w = v) :
    sc_PR X D np g k u σ τ (dX9_produce X.q (nI k) σ) (dX12_gives_268 (nI k) (sf_up (sf_up τ 0 45 (sc_b av)) 0 46 w)) := by
  obtain ⟨k1, k2, k3, k4, k5, k6⟩ := h.cy.ok
  have hn4 := h.cy.n40
  have hD5 := h.D5
  have hW1 : sc_W X D np g σ (sf_up (sf_up τ 0 45 (sc_b av)) 0 46 w) := h.light sc_fr_rf (sc_fr_tr (sc_fr_up (by simp [sc_LM])) (sc_fr_up (by simp [sc_LM])))
  have hfM : (sf_up (sf_up τ 0 45 (sc_b av)) 0 46 w) 0 35 = 0 := by rw [← hW1.fl]; exact hfl
  have hMx : sc_fr (sc_pMx k) τ (sf_up (sf_up τ 0 45 (sc_b av)) 0 46 w) := sc_fr_tr (sc_fr_up (by simp [sc_pMx])) (sc_fr_up (by simp [sc_pMx]))
  unfold dX9_produce dX12_gives_268
  rw [h.cy.has hk]
  simp only [Option.bind_some]
  rw [if_neg (show ¬ (1 : Int32) = 0 by decide), hr]
  simp only [Option.bind_some]
  rw [if_pos (show ¬ (1 : Int32) = 0 by decide), if_pos (h.cy.nin hk), hs]
  simp only [Option.bind_some]
  rw [h.cy.ncl hk, hu, if_neg (not_not_intro hfM)]
  cases av with
  | false =>
    rw [if_pos (sc_cmp.mpr (by rw [Int32.toInt_toInt64, nI_toInt (by omega)]; exact hS.mpr rfl)), if_pos (by rw [sc_upJ (by omega), sc_upS]; rfl)]
    exact ⟨false, σ, _, 0, rfl, rfl, hW1, sc_fr_rf, hMx, Or.inr (Or.inl ⟨rfl, rfl, hfl, by rw [sc_upJ (by omega), sc_upS]; rfl, rfl⟩)⟩
  | true =>
    rw [if_neg (fun q => by rw [sc_cmp, Int32.toInt_toInt64, nI_toInt (by omega)] at q; cases hS.mp q), if_neg (by rw [sc_upJ (by omega), sc_upS]; decide)]
    unfold dX6_draw dX12_draws
    rw [show σ (sf_rn X.q) 2 = nI D from h.cD, show (sf_up (sf_up τ 0 45 (sc_b true)) 0 46 w) 0 37 = nI D from hW1.rD, show (500 : Int32) = nI 500 by decide +kernel]
    by_cases hD : D = 500
    · subst hD
      rw [if_neg (by decide +kernel), if_neg (by decide +kernel)]
      unfold dX6_fail dX12_fails
      simp only [Option.bind_some, not_true_eq_false, if_false, if_true]
      have e2 : sf_up σ (sf_rn X.q) 2 (nI 500) = σ := funext fun a => funext fun b => by
        simp only [sf_up]
        split
        · next q => rw [q.1, q.2]; exact h.cD.symm
        · rfl
      rw [e2]
      refine ⟨false, _, _, 0, rfl, rfl, hW1.fail 3 0, sc_fr_tr (sc_fr_up (by simp [sc_pCx])) (sc_fr_up (by simp [sc_pCx])), sc_fr_tr hMx (sc_fr_tr (sc_fr_up (by simp [sc_pMx])) (sc_fr_up (by simp [sc_pMx]))), Or.inr (Or.inr ⟨rfl, rfl, ?_⟩)⟩
      rw [sc_upJ (by omega), sc_upS]; decide
    · rw [if_pos (by rw [sc_1, Int32.le_iff_toInt_le, Int32.toInt_sub, nI_toInt (by omega), nI_toInt (by omega), nI_toInt (by omega), Int.bmod_eq_of_le (by omega) (by omega)]; omega), if_pos (fun q => hD ((nI_eq (by omega) (by omega)).mp q))]
      simp only [Option.bind_some, nI_1]
      rw [if_pos (show ¬ (1 : Int32) = 0 by decide), if_neg (show ¬ (1 : Int32) = 0 by decide)]
      simp only [h.cy.nin hk, if_true, h.cy.ncl hk]
      rw [show sf_up σ (sf_rn X.q) 2 (nI (D + 1)) (X.q + 1) k = nI u by rw [sc_upK (by omega), hu], hv rfl]
      simp only [Option.bind_some]
      have hW2 := hW1.draw (by omega)
      have hrL : (sf_up (sf_up (sf_up τ 0 45 (sc_b true)) 0 46 w) 0 37 (nI (D + 1))) 11 k = X.L k := (hW2.cy.r1 k hk).1
      have hrs : (sf_up (sf_up (sf_up τ 0 45 (sc_b true)) 0 46 w) 0 37 (nI (D + 1))) 14 k = X.s k := (hW2.cy.r1 k hk).2.2.2
      rw [hrL, hrs]
      have e1 : sf_up (sf_up σ (sf_rn X.q) 2 (nI (D + 1))) X.q (sf_vl X.q) v (X.q + 1) k = nI u := by rw [sc_upK (by omega), sc_upK (by omega), hu]
      rw [e1]
      have e24 : (sf_up (sf_up (sf_up τ 0 45 (sc_b true)) 0 46 w) 0 37 (nI (D + 1))) 24 k = τ 24 k := by rw [sc_upK (by omega), sc_upK (by omega), sc_upK (by omega)]
      rw [e24]
      have fC : sc_fr (sc_LC X.q) (sf_up σ (sf_rn X.q) 2 (nI (D + 1))) (sf_up (sf_up (sf_up σ (sf_rn X.q) 2 (nI (D + 1))) X.q (sf_vl X.q) v) (X.q + 1) k (nI u + 1)) := sc_fr_tr (sc_fr_up (by simp [sc_LC])) (sc_fr_up (by simp [sc_LC]))
      have fC' : sc_fr (sc_pCx X k) σ (sf_up (sf_up (sf_up σ (sf_rn X.q) 2 (nI (D + 1))) X.q (sf_vl X.q) v) (X.q + 1) k (nI u + 1)) := sc_fr_tr (sc_fr_up (by simp [sc_pCx])) (sc_fr_tr (sc_fr_up (by simp [sc_pCx])) (sc_fr_up (by simp [sc_pCx])))
      have hN1 := hN' rfl
      by_cases h5 : X.L k = 105
      · rw [if_neg (not_not_intro h5)]
        rw [if_pos h5] at hN1
        refine ⟨true, _, _, 1, rfl, rfl, hW2.light fC (sc_fr_up (by simp [sc_LM])), fC', sc_fr_tr hMx (sc_fr_tr (sc_fr_up (by simp [sc_pMx])) (sc_fr_up (by simp [sc_pMx]))), Or.inl ⟨rfl, rfl, ?_, ?_, ?_, ?_, ?_⟩⟩
        · rw [sc_upS, nI_1]
        · rw [sc_upS]; exact hN1
        · rw [sc_upK (by omega), sc_upK (by omega), sc_upJ (by omega)]; exact hfl
        · rw [sc_upK (by omega), sc_upS, sc_upK (by omega), sc_upJ (by omega), sc_upS, hw rfl]
        · rw [sc_upK (by omega), sc_upJ (by omega), sc_upJ (by omega), sc_upS]; rfl
      · rw [if_pos h5]
        rw [if_neg h5] at hN1
        refine ⟨true, _, _, 1, rfl, rfl, hW2.light fC (sc_fr_up (by simp [sc_LM])), fC', sc_fr_tr hMx (sc_fr_tr (sc_fr_up (by simp [sc_pMx])) (sc_fr_up (by simp [sc_pMx]))), Or.inl ⟨rfl, rfl, ?_, ?_, ?_, ?_, ?_⟩⟩
        · rw [sc_upS, nI_1]
        · rw [sc_upS]; exact hN1
        · rw [sc_upK (by omega), sc_upK (by omega), sc_upJ (by omega)]; exact hfl
        · rw [sc_upK (by omega), sc_upS, sc_upK (by omega), sc_upJ (by omega), sc_upS, hw rfl]
        · rw [sc_upK (by omega), sc_upJ (by omega), sc_upJ (by omega), sc_upS]; rfl
