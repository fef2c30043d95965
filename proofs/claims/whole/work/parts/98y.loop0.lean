theorem sc_loop0 {X : sc_X} {N : Nat} (hop : sf_op X.q = X.q + 3) (hN : N ≤ 40) : ∀ r D np g n n' (σ τ : sf_S), g + r = N → r + 1 ≤ n → r + 2 ≤ n' → sc_W X D np g σ τ → sc_Lv X sc_N0 D σ τ 0 → σ (sf_rn X.q) 5 = 0 →
    ∃ σ' τ' D' np' g', dX0_play_21 X.q n (nI N) (nI g) σ = some σ' ∧ dX12_runs_112 n' 0 (nI N) 1 (nI g) τ = some τ' ∧ sc_W X D' np' g' σ' τ' ∧ sc_fr (sc_RC X.q) σ σ' ∧ sc_fr sc_RM τ τ' := by
  intro r
  induction r with
  | zero =>
    intro D np g n n' σ τ h1 h2 h3 w lv hfl
    obtain ⟨n, rfl⟩ : ∃ m, n = m + 1 := ⟨n - 1, by omega⟩
    obtain ⟨n', rfl⟩ : ∃ m, n' = m + 1 := ⟨n' - 1, by omega⟩
    refine ⟨σ, τ, D, np, g, ?_, ?_, w, sc_fr_rf, sc_fr_rf⟩
    · unfold dX0_play_21
      rw [if_pos (nI_le (by omega) (by omega))]
    · unfold dX12_runs_112
      rw [sc_c8, if_neg (nI_ge (show g < 100000000 by omega) (by omega)), if_neg (show ¬ (1 : Int32) = 0 by decide), w.rg, if_pos (nI_le (by omega) (by omega))]
  | succ r ih =>
    intro D np g n n' σ τ h1 h2 h3 w lv hfl
    obtain ⟨n, rfl⟩ : ∃ m, n = m + 1 := ⟨n - 1, by omega⟩
    obtain ⟨n', rfl⟩ : ∃ m, n' = m + 1 := ⟨n' - 1, by omega⟩
    obtain ⟨b, σ1, τ1, e, np1, x1, y1, w1, f1, f2, c⟩ := sc_asks0 hop w lv hfl
    have hng : ¬ nI N ≤ nI g := nI_ge (by omega) (by omega)
    unfold dX0_play_21 dX12_runs_112
    rw [if_neg hng, x1, sc_c8, if_neg (nI_ge (show g < 100000000 by omega) (by omega)), if_neg (show ¬ (1 : Int32) = 0 by decide), w.rg, if_neg hng, if_pos (show ¬ (0 : Int32) = 1 by decide), y1]
    simp only [Option.bind_some]
    cases b with
    | false =>
      rw [if_pos (show sc_b false = 0 from rfl), if_pos (show sc_b false = 0 from rfl)]
      refine ⟨σ1, τ1, D + e, np1, g, rfl, ?_, w1, f1, f2⟩
      obtain ⟨n', rfl⟩ : ∃ m, n' = m + 1 := ⟨n' - 1, by omega⟩
      have e0 : dX12_runs_176 (dX12_runs_112 (n' + 1)) 0 (nI N) (nI g) 2 0 τ1 = some τ1 := by
        unfold dX12_runs_176
        rw [if_pos (show (0 : Int32) = 0 from rfl), nI_1]
        unfold dX12_runs_112
        rw [sc_c8, if_neg (nI_ge (show g + 1 < 100000000 by omega) (by omega)), if_pos (show (0 : Int32) = 0 from rfl)]
      unfold dX12_runs_156
      rw [if_pos (show (2 : Int32) = 2 from rfl), e0]
      split <;> rfl
    | true =>
      rw [if_neg (show ¬ sc_b true = 0 by decide), if_neg (show ¬ sc_b true = 0 by decide)]
      obtain ⟨c1, c2, c3⟩ := c rfl
      obtain ⟨σ2, τ2, z1, z2, w2, g1, g2, g3, g4, -⟩ := w1.give (show g < 40 by omega) c3
      rw [z1]
      simp only [Option.bind_some]
      have h35 : ¬ ¬ τ1 0 35 = 0 := by rw [← w1.fl]; exact fun q => q c1
      unfold dX12_runs_156
      rw [if_neg h35, if_neg (show ¬ (0 : Int32) = 2 by decide)]
      unfold dX12_runs_176
      rw [if_neg (show ¬ (1 : Int32) = 0 by decide), if_neg (show ¬ ¬ (0 : Int32) = 0 by decide), w1.rg]
      simp only [sc_inI (show g < 40 by omega) (show 40 ≤ 10000 by omega), if_true, sc_cl (show g < 2 ^ 31 by omega)]
      rw [show sf_up τ1 26 g (τ1 0 46) 0 41 = nI g by rw [sc_upK (by decide)]; exact w1.rg, nI_1, ← z2]
      obtain ⟨σ3, τ3, D3, np3, g3', u1, u2, u3, u4, u5⟩ := ih (D + e) np1 (g + 1) n n' σ2 τ2 (by omega) (by omega) (by omega) w2 (c2.same w.cy w.cy.n0 g3) (by rw [g4]; exact c1)
      exact ⟨σ3, τ3, D3, np3, g3', u1, u2, u3, sc_fr_tr f1 (sc_fr_tr g1 u4), sc_fr_tr f2 (sc_fr_tr g2 u5)⟩
theorem sc_o0 {X : sc_X} {σ τ : sf_S} (h : sc_Cy X σ τ) : X.o 0 = -1 := by
  obtain ⟨w, o2, hD⟩ := h.D
  exact hD.1.2.2
theorem sc_Bg.wk {X : sc_X} {lo hi hi' : Nat} {σ τ : sf_S} (h : sc_Bg X lo hi σ τ) (h1 : hi' ≤ hi) : sc_Bg X lo hi' σ τ := fun j a b => h j a (by omega)
theorem sc_play0 {X : sc_X} {N : Nat} {σ τ : sf_S} (hop : sf_op X.q = X.q + 3) (h : sc_Cy X σ τ) (hN : N ≤ 40) : ∃ σ' τ' D np g, dX0_play X.q (nI N) σ = some σ' ∧ dX12_runs 0 (nI N) τ = some τ' ∧ sc_W X D np g σ' τ' ∧ sc_fr (sc_RC X.q) σ σ' ∧ sc_fr sc_RM τ τ' := by
  have hF := sf_F_le
  obtain ⟨σ1, τ1, a1, a2, a3, a4, a5, a6, a7⟩ := sc_start h
  have hv : sc_Lv X sc_N0 0 σ1 τ1 0 := sc_Lv_bg (N := sc_N0) (fun hv hh => sc_N0_bg hv hh) a3.cy h.n0 (a6.wk (h.T.lt h.n0).2) (Or.inl (sc_o0 h))
  obtain ⟨σ2, τ2, D, np, g, b1, b2, b3, b4, b5⟩ := sc_loop0 hop hN N 0 0 0 sf_F sf_F σ1 τ1 (by omega) (by omega) (by omega) a3 hv a7
  refine ⟨σ2, τ2, D, np, g, ?_, ?_, b3, sc_fr_tr a4 b4, sc_fr_tr a5 b5⟩
  · unfold dX0_play
    rw [← Option.bind_assoc, a1]
    simp only [Option.bind_some]
    exact b1
  · unfold dX12_runs
    show (dX12_begins 0 (sc_rs τ 0 21) (sc_rs τ)).bind _ = _
    rw [a2]
    simp only [Option.bind_some]
    rw [if_pos (show ¬ (0 : Int32) = 2 by decide)]
    exact b2
