theorem sc_loop1 {X : sc_X} {N : Nat} (hq : X.q = 27) (hd : ∀ j, j < X.n → X.L j = 100 → 0 ≤ (X.f j).toInt) (hN : N ≤ 40) : ∀ r T D np g n n' (σ τ : sf_S), T + r = 30000 → r + 1 ≤ n → r + 2 ≤ n' → T + sc_tm X σ X.n ≤ 41 * D + 40 → sc_W X D np g σ τ → sc_Lv X sc_N1 D σ τ 0 → σ (sf_rn X.q) 5 = 0 →
    ∃ σ' τ' D' np' g', dX8_play_21 n (nI N) (nI T) σ = some σ' ∧ dX12_runs_112 n' 1 (nI N) 1 (nI T) τ = some τ' ∧ sc_W X D' np' g' σ' τ' ∧ sc_fr (sc_RC X.q) σ σ' ∧ sc_fr sc_RM τ τ' := by
  intro r
  induction r with
  | zero =>
    intro T D np g n n' σ τ h1 h2 h3 hT w
    have := w.D5
    omega
  | succ r ih =>
    intro T D np g n n' σ τ h1 h2 h3 hT w lv hfl
    obtain ⟨n, rfl⟩ : ∃ m, n = m + 1 := ⟨n - 1, by omega⟩
    obtain ⟨n', rfl⟩ : ∃ m, n' = m + 1 := ⟨n' - 1, by omega⟩
    obtain ⟨g1, g2, g3, g4⟩ := sc_r27 hq
    have hD5 := w.D5
    have hg40 := w.g40
    have cg := w.cg
    rw [g2] at cg
    by_cases hgN : N ≤ g
    · refine ⟨σ, τ, D, np, g, ?_, ?_, w, sc_fr_rf, sc_fr_rf⟩
      · unfold dX8_play_21
        rw [sc_c6, if_neg (nI_ge (show T < 1000000 by omega) (by omega)), cg, if_pos (nI_le hgN (by omega))]
      · unfold dX12_runs_112
        rw [sc_c8, if_neg (nI_ge (show T < 100000000 by omega) (by omega)), if_neg (show ¬ (1 : Int32) = 0 by decide), w.rg, if_pos (nI_le hgN (by omega))]
    · obtain ⟨σ1, τ1, e, np1, w1, f1, f2, c⟩ := sc_steps1 hq hd w lv hfl
      have hng : ¬ nI N ≤ nI g := nI_ge (by omega) (by omega)
      have hsw : sf_up σ 19 3 (σ 19 3 + 1) = sc_w1 X σ := by unfold sc_w1; rw [g2]
      unfold dX8_play_21 dX12_runs_112
      rw [sc_c6, if_neg (nI_ge (show T < 1000000 by omega) (by omega)), cg, if_neg hng, hsw, sc_c8, if_neg (nI_ge (show T < 100000000 by omega) (by omega)), if_neg (show ¬ (1 : Int32) = 0 by decide), w.rg, if_neg hng, if_neg (show ¬ ¬ (1 : Int32) = 1 by decide)]
      have stop : ∀ gv, dX12_runs_176 (dX12_runs_112 n') 1 (nI N) (nI T) gv 0 τ1 = some τ1 := fun gv => by
        obtain ⟨n', rfl⟩ : ∃ m, n' = m + 1 := ⟨n' - 1, by omega⟩
        unfold dX12_runs_176
        rw [if_pos (show (0 : Int32) = 0 from rfl), nI_1]
        unfold dX12_runs_112
        rw [sc_c8, if_neg (nI_ge (show T + 1 < 100000000 by omega) (by omega)), if_pos (show (0 : Int32) = 0 from rfl)]
      rcases c with ⟨kd, hkd, x1, y1, c1, c2, c3, c4⟩ | ⟨x1, c1, gv, y1⟩
      · dsimp only
        rw [x1, y1]
        simp only [Option.bind_some]
        have h35 : ¬ ¬ τ1 0 35 = 0 := by rw [← w1.fl]; exact fun q => q c1
        unfold dX12_runs_156
        rw [if_neg h35]
        by_cases h2' : kd = 2
        · subst h2'
          rw [if_pos (show nI (2 - 2) = 0 from rfl), if_pos (show nI 2 = 2 from rfl), stop]
          exact ⟨σ1, τ1, D + e, np1, g, rfl, rfl, w1, f1, f2⟩
        · have hte : (e = 0 ∧ sc_tm X σ1 X.n + sc_sk kd ≤ sc_tm X σ X.n) ∨ 1 ≤ e := by
            by_cases q : e = 0
            · exact Or.inl ⟨q, c4 q⟩
            · exact Or.inr (by omega)
          have htm := sc_tm_le (X := X) (σ := σ1) X.n
          have hn4 := w.cy.n40
          rw [if_neg (sc_cd0 (by omega)), if_neg (sc_n2 (by omega))]
          unfold dX12_runs_176
          rw [if_neg (show ¬ (1 : Int32) = 0 by decide), nI_1]
          by_cases h0 : kd = 0
          · subst h0
            obtain ⟨he, hval⟩ := c2 rfl
            rw [if_pos (show ¬ nI (2 - 0) = 3 by decide), if_neg (show ¬ ¬ nI (2 - 0) = 2 by decide), if_neg (show ¬ ¬ nI 0 = 0 by decide), w1.rg]
            simp only [sc_inI (show g < 40 by omega) (show 40 ≤ 10000 by omega), if_true, sc_cl (show g < 2 ^ 31 by omega)]
            obtain ⟨σ2, τ2, z1, z2, w2, b1, b2, b3, b4, b5⟩ := w1.give (show g < 40 by omega) hval
            rw [hq] at z1
            rw [show dX6_give 19 (σ1 27 6) σ1 = some σ2 from z1]
            simp only [Option.bind_some]
            rw [show sf_up τ1 26 g (τ1 0 46) 0 41 = nI g by rw [sc_upK (by decide)]; exact w1.rg, nI_1, ← z2]
            have htm2 := sc_tm_same (X := X) (σ := σ1) (σ' := σ2) X.n (fun j hj => (b3 j (by omega)).2.1)
            obtain ⟨σ3, τ3, D3, np3, g3', u1, u2, u3, u4, u5⟩ := ih (T + 1) (D + e) np1 (g + 1) n n' σ2 τ2 (by omega) (by omega) (by omega) (by omega) w2 ((c3 (by omega)).same1 w.cy w.cy.n0 b3) (by rw [b4]; exact c1)
            exact ⟨σ3, τ3, D3, np3, g3', u1, u2, u3, sc_fr_tr f1 (sc_fr_tr b1 u4), sc_fr_tr f2 (sc_fr_tr b2 u5)⟩
          · have h1' : kd = 1 := by omega
            subst h1'
            rw [show sc_sk 1 = 1 from rfl] at hte
            rw [if_pos (show ¬ nI (2 - 1) = 3 by decide), if_pos (show ¬ nI (2 - 1) = 2 by decide), if_pos (show ¬ nI 1 = 0 by decide)]
            obtain ⟨σ3, τ3, D3, np3, g3', u1, u2, u3, u4, u5⟩ := ih (T + 1) (D + e) np1 g n n' σ1 τ1 (by omega) (by omega) (by omega) (by omega) w1 (c3 (by omega)) c1
            exact ⟨σ3, τ3, D3, np3, g3', u1, u2, u3, sc_fr_tr f1 u4, sc_fr_tr f2 u5⟩
      · dsimp only
        rw [x1, y1]
        simp only [Option.bind_some]
        have h35 : ¬ τ1 0 35 = 0 := by rw [← w1.fl]; exact c1
        unfold dX12_runs_156
        rw [if_neg (show ¬ (3 : Int32) = 0 by decide), if_neg (show ¬ ¬ True by simp), if_pos h35, stop]
        exact ⟨σ1, τ1, D + e, np1, g, rfl, rfl, w1, f1, f2⟩
theorem sc_play1 {X : sc_X} {N : Nat} {σ τ : sf_S} (hq : X.q = 27) (hd : ∀ j, j < X.n → X.L j = 100 → 0 ≤ (X.f j).toInt) (h : sc_Cy X σ τ) (hN : N ≤ 40) : ∃ σ' τ' D np g, dX8_play (nI N) σ = some σ' ∧ dX12_runs 1 (nI N) τ = some τ' ∧ sc_W X D np g σ' τ' ∧ sc_fr (sc_RC X.q) σ σ' ∧ sc_fr sc_RM τ τ' := by
  have hF := sf_F_le
  obtain ⟨σ1, τ1, a1, a2, a3, a4, a5, a6, a7⟩ := sc_start h
  have hv : sc_Lv X sc_N1 0 σ1 τ1 0 := sc_Lv_bg (N := sc_N1) (fun hv hh => sc_N1_bg hv hh) a3.cy h.n0 (a6.wk (h.T.lt h.n0).2) (Or.inl (sc_o0 h))
  have htm := sc_tm_le (X := X) (σ := σ1) X.n
  have hn4 := h.n40
  obtain ⟨σ2, τ2, D, np, g, b1, b2, b3, b4, b5⟩ := sc_loop1 hq hd hN 30000 0 0 0 0 sf_F sf_F σ1 τ1 (by omega) (by omega) (by omega) (by omega) a3 hv a7
  refine ⟨σ2, τ2, D, np, g, ?_, ?_, b3, sc_fr_tr a4 b4, sc_fr_tr a5 b5⟩
  · unfold dX8_play
    rw [hq] at a1
    rw [← Option.bind_assoc, show (dX6_begin 19 σ).bind (fun u => dX9_restart 27 0 (u 1 4) u) = some σ1 from a1]
    simp only [Option.bind_some]
    exact b1
  · unfold dX12_runs
    show (dX12_begins 0 (sc_rs τ 0 21) (sc_rs τ)).bind _ = _
    rw [a2]
    simp only [Option.bind_some]
    rw [if_pos (show ¬ (1 : Int32) = 2 by decide)]
    exact b2
