/-- a filter asked -/
theorem sc_c6 : (1000000 : Int32) = nI 1000000 := by decide +kernel
theorem sc_filtL {X : sc_X} {D np g h k m lev : Nat} {σ0 τ0 : sf_S} (hI : sc_IH X (k + 1)) (hk : k < X.n) (hL : X.L k = 63 ∨ X.L k = 107) (hm : 41 ≤ m + 1 + k) (hlev : lev ≤ k) (hh : h ≤ k) : ∀ n e c t σ τ, 501 ≤ n + e → t ≤ e → sc_Mid X k h D np g e σ0 τ0 σ τ → sc_Go k τ0 c (nI (k + 1)) 1 τ → c ≤ 1 + 82 * ((X.E k - (k + 1)) * e) → sc_Lv X sc_N0 (D + e) σ τ (k + 1) → sc_Nat X sc_N0 (D + e) σ τ k →
    sc_Po X k h D np g σ0 τ0 (dX0_askFilter_2 (dX0_ask_R m) X.q n (nI k) (nI lev) (nI t) σ) := by
  intro n
  induction n with
  | zero =>
    intro e c t σ τ h1 h2 hM
    obtain ⟨⟨np', w, -⟩, -⟩ := hM
    have := w.D5
    omega
  | succ n ih =>
    intro e c t σ τ h1 h2 hM hg hc lv hN
    obtain ⟨⟨np0, w, -⟩, -⟩ := id hM
    have hn4 := w.cy.n40
    have hD5 := w.D5
    have hp : sc_p (X.L k) = 1 := by
      rcases hL with q | q <;> rw [q] <;> decide +kernel
    obtain ⟨q1, q2⟩ := w.cy.T.p1 hk hp
    have q3 := (w.cy.T.lt q1).1
    have q4 := (w.cy.T.lt q1).2
    have hps : sc_ps X.L X.E k = k + 1 := by rw [sc_ps, if_neg (by rcases hL with q | q <;> rw [q] <;> decide)]
    obtain ⟨r, σ', τ', dl, cc, x1, hcc, ho, cs⟩ := sc_child (m := m) (lev := lev + 1) hI hM hg hk (by omega) (by omega) q3 (by omega) (by omega) (by omega) lv
    rw [← q2] at hcc
    have hS : X.E k - k = (X.E k - (k + 1)) + 1 := by omega
    have hbd : c + cc + 1 + 1 ≤ 2 * (X.E k - k) + 80 * ((X.E k - k) * (e + dl)) := by
      rw [hS]
      exact sc_bd (by omega) (by omega)
    unfold dX0_askFilter_2
    rw [sc_c6, if_neg (nI_ge (show t < 1000000 by omega) (by omega)), nI_1, nI_1, x1]
    simp only [Option.bind_some]
    rcases cs with ⟨hM', h45, hg', hr⟩ | ⟨rfl, hf, hP⟩
    · obtain ⟨⟨np', w', -⟩, -⟩ := id hM'
      cases r with
      | false =>
        rw [if_neg (show ¬ ¬ sc_b false = 0 by decide)]
        exact sc_ret (r := false) hk hh hM' hg' (sc_hrF0 w'.cy hk hL h45) sc_fr_rf sc_fr_rf h45 hbd (fun q => absurd q (by decide))
      | true =>
        rw [if_pos (show ¬ sc_b true = 0 by decide)]
        obtain ⟨hdl, hlv, hval⟩ := hr rfl
        obtain ⟨r2, y1, y2⟩ := sc_pass w'.cy hk (by rcases hL with q | q; exact Or.inl q; exact Or.inr (Or.inl q)) (σ' X.q (sf_vl X.q))
        rw [y1]
        simp only [Option.bind_some]
        rw [hval] at y2
        have hN2 := hN.tr (D' := D + (e + dl)) (by omega) ho (by omega) (by omega)
        cases r2 with
        | true =>
          rw [if_neg (show ¬ sc_b true = 0 by decide)]
          exact sc_ret (r := true) hk hh hM' hg' (sc_hrF1 w'.cy hk hL h45 y2) sc_fr_rf sc_fr_rf h45 hbd (fun _ => ⟨by omega, sc_Lv.mk hN2 (fun _ => hlv) (fun q => by omega), hval⟩)
        | false =>
          rw [if_pos (show sc_b false = 0 from rfl), nI_1]
          have hear := sc_hrF2 w'.cy hk hL h45 y2
          rw [hps] at hear
          obtain ⟨hM2, hg2⟩ := sc_more hk hh hM' hg' (by omega) hear sc_fr_rf sc_fr_rf
          exact ih (e + dl) (c + cc + 1) (t + 1) σ' τ' (by omega) (by omega) hM2 hg2 (sc_bd2 hc (Nat.le_refl _) hcc hdl) hlv hN2
    · rw [if_neg (show ¬ ¬ sc_b false = 0 by decide)]
      exact hP (by omega) σ' sc_fr_rf
theorem sc_filt {X : sc_X} {D np g h k m lev : Nat} {σ τ : sf_S} (hI : sc_IH X (k + 1)) (w : sc_W X D np g σ τ) (hk : k < X.n) (hL : X.L k = 63 ∨ X.L k = 107) (hm : 41 ≤ m + 1 + k) (hlev : lev ≤ k) (hh : h ≤ k) (hfl : σ (sf_rn X.q) 5 = 0) (h48 : τ 0 48 = nI h) (hv : sc_Lv X sc_N0 D σ τ k) : sc_Po X k h D np g σ τ (dX0_ask_R (m + 1) X.q (nI k) (nI lev) σ) := by
  have hn4 := w.cy.n40
  have hp : sc_p (X.L k) = 1 := by
    rcases hL with q | q <;> rw [q] <;> decide +kernel
  have hx : X.L k ≠ 116 ∧ X.L k ≠ 119 ∧ X.L k ≠ 122 ∧ X.L k ≠ 99 ∧ X.L k ≠ 120 := by
    rcases hL with q | q <;> rw [q] <;> decide
  obtain ⟨q1, q2⟩ := w.cy.T.p1 hk hp
  obtain ⟨hN, l1, -⟩ := hv.inv
  have hps : sc_ps X.L X.E k = k + 1 := by rw [sc_ps, if_neg hx.2.2.2.2]
  have hnx := sc_nx w.cy hk (by omega) (fun q => absurd q hx.1) (fun q => absurd q hx.2.1) hx.2.2.1 (fun q => q.elim (fun q => absurd q hx.2.2.2.1) (fun q => absurd q hx.2.2.2.2))
  rw [hps] at hnx
  obtain ⟨hM, hg⟩ := sc_dwn w hk hfl h48 hh (a := k + 1) (by omega) sc_fr_rf hnx
  have hO := sc_dwO (σ := σ) (τ := τ) (h := h) (a := nI k) (b := nI (h + 1)) w.cy.ok
  rw [sc_askF w.cy hk (by omega) m hL]
  have hF := sf_F_le
  unfold dX0_askFilter
  exact (sc_filtL hI hk hL hm hlev hh sf_F 0 1 0 _ _ (by omega) (by omega) hM hg (by omega) ((l1 (Or.inl hp)).same w.cy q1 hO) (hN.tr (Nat.le_refl _) hO (by omega) (by omega))).chk
