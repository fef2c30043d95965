/-- a zip asked -/
theorem sc_zip0 {X : sc_X} {D np g h k m lev : Nat} {σ τ : sf_S} (hI : ∀ a, k < a → a < X.n → sc_IH X a) (w : sc_W X D np g σ τ) (hk : k < X.n) (hL : X.L k = 122) (hm : 41 ≤ m + 1 + k) (hlev : lev ≤ k) (hh : h ≤ k) (hfl : σ (sf_rn X.q) 5 = 0) (h48 : τ 0 48 = nI h) (hv : sc_Lv X sc_N0 D σ τ k) : sc_Po X k h D np g σ τ (dX0_ask_R (m + 1) X.q (nI k) (nI lev) σ) := by
  have hn4 := w.cy.n40
  have hp : sc_p (X.L k) = 2 := by rw [hL]; decide +kernel
  have hz : ∀ c, c ≠ 122 → X.L k ≠ c := fun c q e => q (by rw [← e]; exact hL)
  obtain ⟨p1, p2, p3, p4, p5⟩ := w.cy.T.p2 hk hp
  have q4 := (w.cy.T.lt hk).2
  obtain ⟨k1, k2, k3, k4, k5, k6⟩ := w.cy.ok
  obtain ⟨hN, l1, l2⟩ := hv.inv
  obtain ⟨u, u1, u2, u3, u4, u5, u6, u7⟩ := id hN
  have hqs : sc_qs X.L X.E k = X.E (k + 1) := by rw [sc_qs, if_neg (hz 120 (by decide)), if_neg (by omega)]
  obtain ⟨hM, hg⟩ := sc_dwn w hk hfl h48 hh (a := k + 1) (by omega) (sc_fr_up (by simp [sc_oM]; omega)) (sc_nxz w.cy hk hL)
  have hO : sc_Out X k (k + 1) σ τ (sc_w1 X σ) (sf_up (sf_up (sf_up (sc_w2 τ) 24 k 0) 29 h (nI k)) 0 48 (nI (h + 1))) := fun b hb => by
    obtain ⟨a1, a2, a3, a4, a5, a6⟩ := sc_w_Out (X := X) (σ := σ) (τ := τ) (lo := 0) (hi := 0) w.cy.ok b (by omega)
    exact ⟨a1, a2, by rw [sc_upK (by decide), sc_upK (by decide), sc_upJ (by omega)]; exact a3, a4, by rw [sc_upK (by decide), sc_upK (by decide), sc_upK (by decide)]; exact a5, a6⟩
  have us1 : sc_w1 X σ (X.q + 1) k = nI u := by rw [sc_w1, sc_upK (by omega)]; exact u2
  have ke1 : (sf_up (sf_up (sf_up (sc_w2 τ) 24 k 0) 29 h (nI k)) 0 48 (nI (h + 1))) 24 k = 0 := by rw [sc_upK (by decide), sc_upK (by decide), sc_upS]
  have cl := sc_cl0 (X := X) (hz 120 (by decide))
  have lva := (l1 (Or.inr (Or.inl hL))).f0 w.cy p1 (Nat.le_refl _) hO cl (Or.inr (Nat.le_refl _))
  have lvb := (l2 hp).f0 w.cy p3 (Nat.le_refl _) hO cl (Or.inr (by omega))
  rw [sc_askZ w.cy hk (by omega) m hL]
  refine sc_Po.chk ?_
  unfold dX0_askZip
  obtain ⟨r, σ', τ', dl, cc, x1, hcc, ho, cs⟩ := sc_child (m := m) (lev := lev + 1) (hI _ (by omega) p1) hM hg hk (by omega) (by omega) (by omega) (by omega) (by omega) (by omega) lva
  have hS : X.E k - k = (X.E k - (k + 1)) + 1 := by omega
  have hle : (X.E (k + 1) - (k + 1)) * dl ≤ (X.E k - (k + 1)) * dl := Nat.mul_le_mul_right _ (by omega)
  have hbd : 1 + cc + 1 + 1 ≤ 2 * (X.E k - k) + 80 * ((X.E k - k) * (0 + dl)) := by
    rw [hS]
    exact sc_bd (by omega) (by omega)
  rw [nI_1, nI_1, x1]
  simp only [Option.bind_some]
  rcases cs with ⟨hM', h45, hg', hr⟩ | ⟨rfl, hf, hP⟩
  · obtain ⟨⟨np', w', -⟩, -, -, -, -, h5, -⟩ := id hM'
    have e1 : σ' (X.q + 1) k = nI u := by rw [(ho k (by omega)).1]; exact us1
    have e3 : τ' 24 k = 0 := by rw [(ho k (by omega)).2.2.1]; exact ke1
    cases r with
    | false =>
      rw [if_neg (show ¬ ¬ sc_b false = 0 by decide)]
      exact sc_ret (r := false) hk hh hM' hg' (sc_hrZ0 w'.cy hk hL h45) sc_fr_rf sc_fr_rf h45 hbd (fun q => absurd q (by decide))
    | true =>
      rw [if_pos (show ¬ sc_b true = 0 by decide), w'.cy.snd p1]
      obtain ⟨hdl, hlv, hval⟩ := hr rfl
      have hear := sc_hrZ1 w'.cy hk hL h45 e3
      rw [hqs] at hear
      obtain ⟨hM2, hg2⟩ := sc_more hk hh hM' hg' (by omega) hear (sc_fr_rf (σ := σ')) (sc_fr_tr (sc_fr_up (by simp [sc_oM]; omega)) (sc_fr_up (by simp [sc_oM]; omega)))
      have hO2 : sc_Out X k (k + 1) σ' τ' σ' (sf_up (sf_up τ' 25 k (τ' 0 46)) 24 k 1) := fun b hb => ⟨rfl, rfl, by rw [sc_upJ (by omega), sc_upJ (by omega)], rfl, by rw [sc_upJ (by omega), sc_upJ (by omega)], rfl⟩
      have lvb2 := (lvb.f0 w.cy p3 (D' := D + (0 + dl)) (by omega) ho (sc_cl1 w.cy p1) (Or.inr (Nat.le_refl _))).f0 w.cy p3 (Nat.le_refl _) hO2 cl (Or.inr (by omega))
      have lva2 := hlv.f0 w.cy p1 (Nat.le_refl _) hO2 cl (Or.inr (by omega))
      obtain ⟨r2, σ2, τ2, dl2, cc2, x2, hcc2, ho2, cs2⟩ := sc_child (m := m) (lev := lev + 1) (hI _ (by omega) p3) hM2 hg2 hk (by omega) (by omega) (by omega) (by omega) (by omega) (by omega) lvb2
      rw [← p5] at hcc2
      have hbd2 : 1 + cc + 1 + cc2 + 1 + 1 ≤ 2 * (X.E k - k) + 80 * ((X.E k - k) * (0 + dl + dl2)) := by
        rw [hS]
        exact sc_bd3 (s1 := X.E (k + 1) - (k + 1)) (by omega) (by omega) (by rw [Nat.zero_add]; omega) hcc2
      simp only [Option.bind_some]
      rw [x2]
      simp only [Option.bind_some]
      rcases cs2 with ⟨hM3, h452, hg3, hr2⟩ | ⟨rfl, hf, hP⟩
      · obtain ⟨⟨np2, w2, -⟩, -, -, -, -, h52, -⟩ := id hM3
        have g1 : σ2 (X.q + 1) k = nI u := by rw [(ho2 k (by omega)).1]; exact e1
        have g3 : τ2 24 k = 1 := by rw [(ho2 k (by omega)).2.2.1, sc_upS]
        have g4 : τ2 25 k = τ' 0 46 := by rw [(ho2 k (by omega)).2.2.2.2.1, sc_upK (by decide), sc_upS]
        cases r2 with
        | false =>
          rw [if_neg (show ¬ ¬ sc_b false = 0 by decide)]
          exact sc_ret (r := false) hk hh hM3 hg3 (sc_hrZ0 w2.cy hk hL h452) sc_fr_rf sc_fr_rf h452 hbd2 (fun q => absurd q (by decide))
        | true =>
          rw [if_pos (show ¬ sc_b true = 0 by decide)]
          obtain ⟨hdl2, hlv2, hval2⟩ := hr2 rfl
          obtain ⟨v, j1, j2⟩ := sc_joinE w2.cy hk (σ' X.q (sf_vl X.q)) (σ2 X.q (sf_vl X.q))
          rw [j1]
          simp only [Option.bind_some]
          rw [hval, hval2, ← g4] at j2
          have hO3 : sc_Out X 0 0 σ2 τ2 (sf_up σ2 X.q (sf_vl X.q) v) (sf_up τ2 0 46 v) := fun b hb => ⟨sc_upK (by omega), sc_upK (by omega), sc_upK (by decide), sc_upK (by omega), sc_upK (by decide), sc_upK (by omega)⟩
          refine sc_ret (r := true) hk hh hM3 hg3 (sc_hrZ2 w2.cy hk hL h452 g3 j2) (sc_fr_up (by simp [sc_oC])) (sc_fr_up (by simp [sc_oM])) (by rw [sc_upJ (by decide)]; exact h452) hbd2 (fun _ => ⟨by omega, sc_Lv.mk ?_ (fun _ => ?_) (fun _ => ?_), ?_⟩)
          · unfold sc_Nat
            rw [(hO3 k (by omega)).1]
            exact sc_N0_gen (by omega) (hz _ (by decide)) (hz _ (by decide)) (hz _ (by decide)) (show u ≤ _ by omega) g1 (fun q => q.elim (fun q => absurd q (hz _ (by decide))) (fun q => absurd q (hz _ (by decide))))
          · exact (lva2.f0 w.cy p1 (D' := D + (0 + dl + dl2)) (by omega) ho2 (sc_cl1 w.cy p3) (Or.inl (Nat.le_refl _))).same w.cy p1 hO3
          · exact hlv2.same w.cy p3 hO3
          · rw [sc_upS, sc_upS]
      · rw [if_neg (show ¬ ¬ sc_b false = 0 by decide)]
        exact hP (by omega) σ2 sc_fr_rf
  · rw [if_neg (show ¬ ¬ sc_b false = 0 by decide)]
    exact hP (by omega) σ' sc_fr_rf
