/-- a changer asked -/
theorem sc_unary {X : sc_X} {D np g h k m lev : Nat} {σ τ : sf_S} (hI : sc_IH X (k + 1)) (w : sc_W X D np g σ τ) (hk : k < X.n) (hL : X.L k = 37 ∨ X.L k = 42 ∨ X.L k = 43 ∨ X.L k = 47 ∨ X.L k = 108) (hm : 41 ≤ m + 1 + k) (hlev : lev ≤ k) (hh : h ≤ k) (hfl : σ (sf_rn X.q) 5 = 0) (h48 : τ 0 48 = nI h) (hv : sc_Lv X sc_N0 D σ τ k) : sc_Po X k h D np g σ τ (dX0_ask_R (m + 1) X.q (nI k) (nI lev) σ) := by
  obtain ⟨k1, k2, k3, k4, k5, k6⟩ := w.cy.ok
  have hn4 := w.cy.n40
  have hp : sc_p (X.L k) = 1 := by
    rcases hL with q | q | q | q | q <;> rw [q] <;> decide +kernel
  have hx : X.L k ≠ 116 ∧ X.L k ≠ 119 ∧ X.L k ≠ 122 ∧ X.L k ≠ 99 ∧ X.L k ≠ 120 ∧ X.L k ≠ 100 := by
    rcases hL with q | q | q | q | q <;> rw [q] <;> decide
  obtain ⟨q1, q2⟩ := w.cy.T.p1 hk hp
  have q3 := (w.cy.T.lt q1).1
  obtain ⟨hN, l1, -⟩ := hv.inv
  have hps : sc_ps X.L X.E k = k + 1 := by rw [sc_ps, if_neg hx.2.2.2.2.1]
  have hnx := sc_nx w.cy hk (by omega) (fun q => absurd q hx.1) (fun q => absurd q hx.2.1) hx.2.2.1 (fun q => q.elim (fun q => absurd q hx.2.2.2.1) (fun q => absurd q hx.2.2.2.2.1))
  rw [hps] at hnx
  obtain ⟨hM, hg⟩ := sc_dwn w hk hfl h48 hh (a := k + 1) (by omega) sc_fr_rf hnx
  have lv2 := (l1 (Or.inl hp)).same w.cy q1 (sc_dwO (h := h) (a := nI k) (b := nI (h + 1)) w.cy.ok)
  rw [sc_askU w.cy hk (by omega) m hL, nI_1, nI_1]
  obtain ⟨r, σ', τ', dl, cc, x1, hcc, ho, c⟩ := sc_child (m := m) (lev := lev + 1) hI hM hg hk (by omega) (by omega) q3 (by omega) (by omega) (by omega) lv2
  rw [x1]
  simp only [Option.bind_some]
  have hS : X.E k - k = (X.E (k + 1) - (k + 1)) + 1 := by omega
  have hbd : 1 + cc + 1 + 1 ≤ 2 * (X.E k - k) + 80 * ((X.E k - k) * (0 + dl)) := by
    rw [hS]
    exact sc_bd (by have := (w.cy.T.lt q1).2; omega) (by omega)
  rcases c with ⟨hM', h45, hg', hr⟩ | ⟨rfl, hf, hP⟩
  · cases r with
    | false =>
      rw [if_pos (show sc_b false = 0 from rfl)]
      exact sc_ret (r := false) hk hh hM' hg' (sc_hrU0 (let ⟨⟨_, w', _⟩, _⟩ := hM'; w'.cy) hk hL h45) sc_fr_rf (sc_fr_up (by simp [sc_oM])) (by rw [sc_upJ (by decide)]; exact h45) hbd (fun q => absurd q (by decide))
    | true =>
      rw [if_neg (show ¬ sc_b true = 0 by decide)]
      obtain ⟨hdl, hlv, hval⟩ := hr rfl
      obtain ⟨⟨np', w', hn⟩, m2, m3, m4, m5, m6, m7, m8⟩ := hM'
      have hS9 : (X.E k - (k + 1)) * (0 + dl) ≤ 39 * (0 + dl) := Nat.mul_le_mul_right _ (by have := (w.cy.T.lt q1).2; omega)
      have hnp := w.np4
      have C := sc_change w' (k := k) (by omega) hk m6 hL (σ' X.q (sf_vl X.q))
      rw [hval] at C
      obtain ⟨r2, σ2, τ2, wv, np2, y1, y2, w2, f1, f2, c2⟩ := C
      have hear := sc_hrU1 w'.cy hk hL h45 y2
      rw [hval, y1]
      simp only [Option.bind_some]
      have hO := sc_c_Out w'.cy.ok f1 f2
      have hS2 : (X.E k - k) * (0 + dl) = (X.E k - (k + 1)) * (0 + dl) + (0 + dl) := by rw [show X.E k - k = X.E k - (k + 1) + 1 by omega, Nat.add_mul, Nat.one_mul]
      have w3 : sc_W X (D + (0 + dl)) np2 g σ2 (sf_up (sf_up τ2 0 46 wv) 0 48 (nI h)) := w2.light sc_fr_rf (sc_fr_tr (sc_fr_up (by simp [sc_LM])) (sc_fr_up (by simp [sc_LM])))
      have hO2 : sc_Out X 0 0 σ' τ' σ2 (sf_up (sf_up τ2 0 46 wv) 0 48 (nI h)) := hO.tr (lo' := 0) (hi' := 0) (fun b hb => ⟨rfl, rfl, by rw [sc_upK (by decide), sc_upK (by decide)], rfl, by rw [sc_upK (by decide), sc_upK (by decide)], rfl⟩) (Nat.le_refl _) (Nat.le_refl _)
      have hO3 : sc_Out X k (X.E k) σ τ σ2 (sf_up (sf_up τ2 0 46 wv) 0 48 (nI h)) := fun b hb => by
        obtain ⟨a1, a2, a3, a4, a5, a6⟩ := m4 b hb
        obtain ⟨b1, b2, b3, b4, b5, b6⟩ := hO2 b (by omega)
        exact ⟨b1.trans a1, b2.trans a2, b3.trans a3, b4.trans a4, b5.trans a5, b6.trans a6⟩
      have hp5 : ∀ j, j < h → sf_up (sf_up τ2 0 46 wv) 0 48 (nI h) 29 j = τ 29 j := fun j hj => by
        rw [sc_upK (by decide), sc_upK (by decide), f2 _ _ (by simp [sc_cM])]; exact m5 j hj
      have h48' : sf_up τ2 0 46 wv 0 48 = nI (h + 1) := by rw [sc_upJ (by decide), f2 _ _ (by simp [sc_cM])]; exact m7
      have st : ∀ N t, t < 100000000 → dX12_asks_11 (N + 1) (nI k) 0 (nI t) τ' = if (sf_up τ2 0 46 wv) 0 35 = 0 then dX12_asks_11 N (nI k) 0 (nI (t + 1)) (sf_up (sf_up τ2 0 46 wv) 0 48 (nI h)) else some (0, sf_up (sf_up τ2 0 46 wv) 0 48 (nI h)) := fun N t ht => sc_upE ht m7 (by omega) m8 hear h48'
      have h35 : (sf_up τ2 0 46 wv) 0 35 = σ2 (sf_rn X.q) 5 := by rw [sc_upJ (by decide), w2.fl]
      rw [h35] at st
      have F1 := sc_fr_tr m2 (sc_cC_RC w'.cy.ok f1)
      have F2 : sc_fr sc_RM τ (sf_up (sf_up τ2 0 46 wv) 0 48 (nI h)) := sc_fr_tr (sc_fr_tr m3 (sc_cM_RM f2)) (sc_fr_tr (sc_fr_up (by simp [sc_RM])) (sc_fr_up (by simp [sc_RM])))
      rcases c2 with ⟨rfl, b1, b2, b3, b4⟩ | ⟨rfl, b1, b2⟩
      · rw [if_neg (show ¬ sc_b true = 0 by decide)]
        refine ⟨true, σ2, sf_up (sf_up τ2 0 46 wv) 0 48 (nI h), 0 + dl, np2, 1 + cc + 1, rfl, w3, by omega, F1, F2, hO3, hp5, hbd, Or.inl ⟨b1, ?_, sc_upS, ?_, fun _ => ⟨by omega, sc_Lv.mk ?_ (fun _ => hlv.same w.cy q1 hO2) (fun q => by omega), ?_⟩⟩⟩
        · rw [sc_upJ (by decide), sc_upJ (by decide), f2 _ _ (by simp [sc_cM])]; exact h45
        · exact hg'.step (fun N t ht => by rw [st N t ht, if_pos b1])
        · have n2 := hN.tr (D' := D + (0 + dl)) (by omega) (sc_dwO (h := h) (a := nI k) (b := nI (h + 1)) w.cy.ok) (by omega) (by omega)
          have n3 := n2.tr (Nat.le_refl _) ho (by omega) (by omega)
          exact n3.tr (Nat.le_refl _) hO2 (by omega) (by omega)
        · rw [sc_upJ (by decide), sc_upS]; exact b2
      · rw [if_pos (show sc_b false = 0 from rfl)]
        refine ⟨false, σ2, sf_up (sf_up τ2 0 46 wv) 0 48 (nI h), 0 + dl, np2, 1 + cc + 1, rfl, w3, by omega, F1, F2, hO3, hp5, hbd, Or.inr ⟨rfl, b2, ?_⟩⟩
        exact hg'.stepF (fun N t ht => by rw [st N t ht, if_neg b2])
  · rw [if_pos (show sc_b false = 0 from rfl)]
    exact hP (by omega) σ' sc_fr_rf
