def sc_CH (X : sc_X) (D np g : Nat) (σ τ : sf_S) (x y : Option (Int32 × sf_S)) : Prop := ∃ r σ' τ' w np', x = some (sc_b r, σ') ∧ y = some (w, τ') ∧ sc_W X D np' g σ' τ' ∧ sc_fr (sc_cC X) σ σ' ∧ sc_fr sc_cM τ τ' ∧
  ((r = true ∧ σ' (sf_rn X.q) 5 = 0 ∧ σ' X.q (sf_vl X.q) = w ∧ np ≤ np' ∧ np' ≤ np + 1) ∨ (r = false ∧ np' = np ∧ ¬ σ' (sf_rn X.q) 5 = 0))
theorem sc_val {X : sc_X} {D np g : Nat} {σ τ : sf_S} (h : sc_W X D np g σ τ) (v : Int32) : sc_W X D np g (sf_up σ X.q (sf_vl X.q) v) τ := h.light (sc_fr_up (by simp [sc_LC])) sc_fr_rf
theorem sc_change {X : sc_X} {D np g k : Nat} {σ τ : sf_S} (h : sc_W X D np g σ τ) (hnp : np + 1 ≤ 40 * D) (hk : k < X.n) (hfl : σ (sf_rn X.q) 5 = 0) (hL : X.L k = 37 ∨ X.L k = 42 ∨ X.L k = 43 ∨ X.L k = 47 ∨ X.L k = 108) (v : Int32) :
    sc_CH X D np g σ τ (dX10_change X.q (nI k) v σ) (dX12_made (nI k) v τ) := by
  obtain ⟨k1, k2, k3, k4, k5, k6⟩ := h.cy.ok
  have hn4 := h.cy.n40
  obtain ⟨c1, c2, c3, c4⟩ := h.cy.c1 k hk
  obtain ⟨r1, r2, r3, r4⟩ := h.cy.r1 k hk
  obtain ⟨r5, r6, r7, r8, r9⟩ := h.cy.r5 k hk
  have hW1 := sc_val h v
  have l1 : sf_up σ X.q (sf_vl X.q) v (sf_pl X.q + 1) k = X.L k := (hW1.cy.c1 k hk).1
  have l2 : sf_up σ X.q (sf_vl X.q) v (sf_pl X.q + 2) k = X.mk k := (hW1.cy.c1 k hk).2.1
  have l7 : sf_up σ X.q (sf_vl X.q) v (sf_pl X.q + 7) k = X.dp k := (hW1.cy.c5 k hk).2.1
  have hfl1 : sf_up σ X.q (sf_vl X.q) v (sf_rn X.q) 5 = 0 := by rw [sc_upK (by omega)]; exact hfl
  have fv : ∀ s w, sc_fr (sc_cC X) s (sf_up s X.q (sf_vl X.q) w) := fun s w => sc_fr_up (by simp [sc_cC])
  unfold dX10_change dX12_made
  rw [h.cy.has hk]
  simp only [Option.bind_some]
  rw [if_pos (show ¬ (1 : Int32) = 0 by decide), if_pos (h.cy.nin hk), h.cy.ncl hk, show σ (sf_pl X.q + 3) k = X.f k from c3]
  simp only [h.cy.nin hk, if_true, l1, r1, r3]
  have up2 : ∀ w, sf_up (sf_up σ X.q (sf_vl X.q) v) X.q (sf_vl X.q) w X.q (sf_vl X.q) = w := fun w => sc_upS
  have fl2 : ∀ w, sf_up (sf_up σ X.q (sf_vl X.q) v) X.q (sf_vl X.q) w (sf_rn X.q) 5 = 0 := fun w => by rw [sc_upK (by omega)]; exact hfl1
  rcases hL with hL | hL | hL | hL | hL
  · have hf : 1 ≤ (X.f k).toInt := (h.cy.vn k hk).2.2.2.2.2 (by rw [hL]; decide +kernel)
    have hf0 : ¬ X.f k = 0 := fun q => by rw [q] at hf; exact absurd hf (by decide)
    rw [if_pos hL, if_pos hL, sc_mod hf, if_neg hf0]
    simp only [Option.bind_some]
    refine ⟨true, _, τ, (if 0 ≤ v - v / X.f k * X.f k then v - v / X.f k * X.f k else v - v / X.f k * X.f k + X.f k), np, rfl, ?_, sc_val hW1 _, sc_fr_tr (fv _ _) (fv _ _), sc_fr_rf, Or.inl ⟨rfl, fl2 _, up2 _, by omega, by omega⟩⟩
    split <;> rfl
  · simp only [hL, show ¬ (42 : Int32) = 37 by decide, if_false, if_true]
    exact ⟨true, _, τ, _, np, rfl, rfl, sc_val hW1 _, sc_fr_tr (fv _ _) (fv _ _), sc_fr_rf, Or.inl ⟨rfl, fl2 _, up2 _, by omega, by omega⟩⟩
  · simp only [hL, show ¬ (43 : Int32) = 37 by decide, show ¬ (43 : Int32) = 42 by decide, if_false, if_true]
    exact ⟨true, _, τ, _, np, rfl, rfl, sc_val hW1 _, sc_fr_tr (fv _ _) (fv _ _), sc_fr_rf, Or.inl ⟨rfl, fl2 _, up2 _, by omega, by omega⟩⟩
  · simp only [hL, show ¬ (47 : Int32) = 37 by decide, show ¬ (47 : Int32) = 42 by decide, show ¬ (47 : Int32) = 43 by decide, if_false, if_true]
    unfold dX10_divide
    by_cases hv : v = 0
    · rw [if_neg (not_not_intro hv), if_neg (not_not_intro hv), if_pos (h.cy.nin hk), h.cy.ncl hk, l7]
      unfold dX6_fail dX12_fails
      simp only [Option.bind_some]
      rw [if_pos (show ¬ (1 : Int32) = 3 by decide), if_pos (h.cy.nin hk), h.cy.ncl hk]
      simp only [Option.bind_some]
      rw [sc_upK (by omega), r8, if_pos (show sf_01 0 = true from rfl)]
      refine ⟨false, _, _, 0, np, rfl, rfl, hW1.fail 1 (X.dp k), sc_fr_tr (fv _ _) (sc_fr_tr (sc_fr_up (by simp [sc_cC])) (sc_fr_up (by simp [sc_cC]))), sc_fr_tr (sc_fr_up (by simp [sc_cM])) (sc_fr_up (by simp [sc_cM])), Or.inr ⟨rfl, rfl, ?_⟩⟩
      rw [sc_upJ (by omega), sc_upS]; decide
    · rw [if_pos hv, if_neg hv, if_pos hv, if_neg hv]
      simp only [Option.bind_some]
      rw [if_pos (show sf_01 1 = true from rfl)]
      exact ⟨true, _, τ, _, np, rfl, rfl, sc_val hW1 _, sc_fr_tr (fv _ _) (fv _ _), sc_fr_rf, Or.inl ⟨rfl, fl2 _, up2 _, by omega, by omega⟩⟩
  · simp only [hL, show ¬ (108 : Int32) = 37 by decide, show ¬ (108 : Int32) = 42 by decide, show ¬ (108 : Int32) = 43 by decide, show ¬ (108 : Int32) = 47 by decide, if_false, if_true]
    rw [l2, r2]
    obtain ⟨σ', τ', e1, e2, e3, e4, e5⟩ := hW1.note hnp (X.mk k) v
    rw [e1, e2]
    simp only [Option.bind_some]
    refine ⟨true, _, _, v, np + 1, rfl, rfl, e3, sc_fr_tr (fv _ _) (sc_nC_c e4), sc_nM_c e5, Or.inl ⟨rfl, ?_, ?_, by omega, by omega⟩⟩
    · rw [e4 _ _ (by simp [sc_nC])]; exact hfl1
    · rw [e4 _ _ (by simp [sc_nC]; omega)]; exact sc_upS
theorem sc_pass {X : sc_X} {σ τ : sf_S} (h : sc_Cy X σ τ) {k : Nat} (hk : k < X.n) (hL : X.L k = 63 ∨ X.L k = 107 ∨ X.L k = 119) (v : Int32) : ∃ r, dX10_passes X.q (nI k) v σ = some (sc_b r, σ) ∧ dX12_passes (nI k) v τ = some (sc_b r, τ) := by
  obtain ⟨c1, c2, c3, c4⟩ := h.c1 k hk
  obtain ⟨r1, r2, r3, r4⟩ := h.r1 k hk
  unfold dX10_passes dX12_passes dX12_passes_54
  rw [h.has hk]
  simp only [Option.bind_some]
  rw [if_pos (show ¬ (1 : Int32) = 0 by decide), if_pos (h.nin hk), h.ncl hk, c1, c2, c3]
  simp only [h.nin hk, if_true, r1, r2, r3]
  by_cases h7 : X.L k = 107
  · have hf : 1 ≤ (X.f k).toInt := (h.vn k hk).2.2.2.2.2 (by rw [h7]; decide +kernel)
    have hf0 : ¬ X.f k = 0 := fun q => by rw [q] at hf; exact absurd hf (by decide)
    rw [if_neg (not_not_intro h7), if_neg (not_not_intro h7), sc_mod hf, if_neg hf0]
    simp only [Option.bind_some]
    obtain ⟨q1, q2⟩ := sc_rem (x := v) hf
    have f2 := (X.f k).toInt_lt
    by_cases h0 : v - v / X.f k * X.f k = 0
    · rw [h0, if_pos (show (0 : Int32) ≤ 0 by decide), if_neg (show ¬ ¬ (0 : Int32) = 0 by decide), if_neg (show ¬ ¬ (0 : Int32) = 0 by decide)]
      exact ⟨true, rfl, rfl⟩
    · rw [if_pos h0]
      by_cases hp : 0 ≤ v - v / X.f k * X.f k
      · rw [if_pos hp, if_pos h0]
        exact ⟨false, rfl, rfl⟩
      · rw [if_neg hp, if_pos]
        · exact ⟨false, rfl, rfl⟩
        · intro q
          rw [sc_le0] at hp
          by_cases hv : 0 ≤ v.toInt
          · exact hp (q1 hv)
          · have := q2 (by omega)
            have e := congrArg Int32.toInt q
            rw [Int32.toInt_add, sc_t0, Int.bmod_eq_of_le (by omega) (by omega)] at e
            omega
  · rw [if_pos h7, if_pos h7]
    have e : (if X.L k = 63 then (if ¬X.mk k = 60 then if ¬X.mk k = 62 then if ¬v = X.f k then some (0, τ) else some (1, τ) else if v ≤ X.f k then some (0, τ) else some (1, τ) else if X.f k ≤ v then some ((0 : Int32), τ) else some (1, τ)) else if X.L k = 119 then (if ¬X.mk k = 60 then if ¬X.mk k = 62 then if ¬v = X.f k then some (0, τ) else some (1, τ) else if v ≤ X.f k then some (0, τ) else some (1, τ) else if X.f k ≤ v then some ((0 : Int32), τ) else some (1, τ)) else some (1, τ)) = (if ¬X.mk k = 60 then if ¬X.mk k = 62 then if ¬v = X.f k then some (0, τ) else some (1, τ) else if v ≤ X.f k then some (0, τ) else some (1, τ) else if X.f k ≤ v then some ((0 : Int32), τ) else some (1, τ)) := by
      rcases hL with q | q | q
      · rw [if_pos q]
      · exact absurd q h7
      · rw [if_neg (by rw [q]; decide), if_pos q]
    rw [e]
    repeat' split
    all_goals first | exact ⟨false, rfl, rfl⟩ | exact ⟨true, rfl, rfl⟩
theorem sc_joinE {X : sc_X} {σ τ : sf_S} (h : sc_Cy X σ τ) {k : Nat} (hk : k < X.n) (a b : Int32) : ∃ w, dX10_join X.q (nI k) a b σ = some (w, σ) ∧ dX12_joined (nI k) a b τ = some (w, τ) := by
  obtain ⟨c1, c2, c3, c4⟩ := h.c1 k hk
  obtain ⟨r1, r2, r3, r4⟩ := h.r1 k hk
  unfold dX10_join dX12_joined
  rw [h.has hk]
  simp only [Option.bind_some]
  rw [if_pos (show ¬ (1 : Int32) = 0 by decide), if_pos (h.nin hk), if_pos (h.nin hk), h.ncl hk, c2]
  simp only [h.nin hk, if_true, r2, sc_lesser, Option.bind_some]
  by_cases h1 : X.mk k = 43
  · rw [if_neg (not_not_intro h1), if_neg (not_not_intro h1)]
    exact ⟨_, rfl, rfl⟩
  · rw [if_pos h1, if_pos h1]
    by_cases h2 : X.mk k = 42
    · rw [if_neg (not_not_intro h2), if_neg (not_not_intro h2)]
      exact ⟨_, rfl, rfl⟩
    · rw [if_pos h2, if_pos h2]
      refine ⟨_, rfl, ?_⟩
      congr 2
      by_cases q : b < a
      · rw [if_pos q, if_pos (by rw [Int32.le_iff_toInt_le]; rw [Int32.lt_iff_toInt_lt] at q; omega)]
      · rw [if_neg q]
        by_cases q2 : b ≤ a
        · rw [if_pos q2]
          rw [Int32.lt_iff_toInt_lt] at q
          rw [Int32.le_iff_toInt_le] at q2
          exact Int32.toInt_inj.mp (by omega)
        · rw [if_neg q2]
