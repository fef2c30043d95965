/-! way 1: drop; changers -/
theorem sc_drop1 {X : sc_X} {D np g h k m lev : Nat} {σ τ : sf_S} (hq : X.q = 27) (hI : sc_I1 X (k + 1)) (w : sc_W X D np g σ τ) (hk : k < X.n) (hL : X.L k = 100) (hf0 : 0 ≤ (X.f k).toInt) (hm : 41 ≤ m + 1 + k) (hlev : lev ≤ k) (hh : h ≤ k) (hfl : σ (sf_rn X.q) 5 = 0) (h48 : τ 0 48 = nI h) (hv : sc_Lv X sc_N1 D σ τ k) : sc_P1 X k h D np g σ τ (dX8_step_R (m + 1) (nI k) (nI lev) σ) := by
  have hn4 := w.cy.n40
  have hD5 := w.D5
  have ho1 : sc_o1 (X.L k) := by rw [hL]; unfold sc_o1; decide
  have hz : ∀ c, c ≠ 100 → X.L k ≠ c := fun c q e => q (by rw [← e]; exact hL)
  obtain ⟨hp, z1, z2, z3⟩ := sc_o1_f ho1
  obtain ⟨g1, g2, g3, g4⟩ := sc_r27 hq
  obtain ⟨q1, q2⟩ := w.cy.T.p1 hk hp
  have hkE := (w.cy.T.lt hk).1
  obtain ⟨hN, -, -⟩ := hv.inv
  obtain ⟨u, u1, u2, u3, u4, u5, -⟩ := id hN
  obtain ⟨r, t0, t1, t2⟩ := u5 hL
  have hft := (X.f k).toInt_lt
  obtain ⟨σ', τ', e, ho, cs⟩ := sc_kidO (m := m) (lev := lev) hI w hfl hk ho1 hm hlev hh h48 hv (fun q => absurd q (hz _ (by decide)))
  rw [sc_stO hq w hk (by omega) ho1, if_pos (hz 116 (by decide))]
  rcases cs with ⟨kd, j, hkd, x1, hM, hgv, hlv, ht⟩ | ⟨x1, hP⟩
  · obtain ⟨⟨np', w', -⟩, -⟩ := id hM
    have hN2 := hN.t1 (D' := D + e) (by omega) ho (by omega) (by omega)
    by_cases h0 : kd = 0
    · subst h0
      obtain ⟨he, hval⟩ := hgv rfl
      have e1 : σ' (X.q + 1) k = nI u := by rw [(ho k (by omega)).1]; exact u2
      have e2 : τ' 24 k = X.f k - nI r := by rw [(ho k (by omega)).2.2.1]; exact t1
      have e1' : σ' 28 k = nI u := by rw [hq] at e1; exact e1
      obtain ⟨-, -, c3, -⟩ := w'.cy.c1 k hk
      rw [g1] at c3
      have hs : X.f k - nI r - 1 = X.f k - nI (r + 1) := by rw [← nI_1, ← Int32.sub_sub]
      have hsi : (X.f k - nI (r + 1)).toInt = (X.f k).toInt - (r + 1 : Nat) := by
        rw [Int32.toInt_sub, nI_toInt (by omega)]
        exact Int.bmod_eq_of_le (by omega) (by omega)
      have nd : ∀ {us op he hc hk tu} {u' : Nat}, us = nI u' → u' ≤ D + e → (u' = r + 1 ∨ ((X.f k).toInt ≤ u' ∧ (X.f k).toInt ≤ (r + 1 : Nat))) → sc_N1 (X.L k) (X.f k) (X.s k) (D + e) us tu (X.f k - nI (r + 1)) op he hc hk := fun {us op he hc hk tu u'} a1 a2 a3 => by
        refine ⟨u', a2, a1, ⟨fun q => absurd q (hz _ (by decide)), fun q => absurd q (hz _ (by decide)), fun q => ?_, fun q => ?_⟩, fun q => absurd q (hz _ (by decide)), fun _ => ⟨r + 1, by omega, rfl, a3⟩, fun q => ?_, fun q => absurd q (hz _ (by decide))⟩
        · rcases q with q | q | q <;> exact absurd q (hz _ (by decide))
        · rcases q with q | q <;> exact absurd q (hz _ (by decide))
        · rcases q with q | q <;> exact absurd q (hz _ (by decide))
      by_cases hlt : (u : Int) < (X.f k).toInt
      · have hur : u = r := by
          rcases t2 with t2 | t2
          · exact t2
          · omega
        rw [sc_s34D1 hq w'.cy hk x1 hL (by rw [e1', show σ' 4 k = X.f k from c3, Int32.lt_iff_toInt_lt, nI_toInt (by omega)]; exact hlt), e1', nI_1]
        have haf := sc_afD1 w'.cy hk hL (by rw [e2, hs, Int32.lt_iff_toInt_lt, hsi, show (0 : Int32).toInt = 0 from rfl]; omega)
        rw [e2, hs] at haf
        refine sc_ret1 (kd2 := 1) hk hh hM haf (sc_fr_up ?_) (sc_fr_up ?_) (by omega) (fun q => by omega) (fun _ => sc_Lv.mk ?_ (fun _ => ?_) (fun q => by omega)) (fun q => by omega)
        · simp [sc_oC, hq]; rw [hq] at *; omega
        · simp [sc_oM]; omega
        · unfold sc_Nat
          rw [sc_upS]
          exact nd (u' := u + 1) (by rw [hq]; exact sc_upS) (by omega) (Or.inl (by omega))
        · refine (hlv (by omega)).f1 w.cy q1 (Nat.le_refl _) (lo := k) (hi := k + 1) (fun b hb => ⟨sc_upJ (by omega), sc_upJ (by omega), sc_upJ (by omega), sc_upJ (by omega), sc_upK (by decide), sc_upJ (by omega)⟩) (sc_cl0 z2) (Or.inr (by omega))
      · have hfr : (X.f k).toInt ≤ r := by
          rcases t2 with t2 | t2
          · omega
          · exact t2.2
        rw [sc_s34D0 hq w'.cy hk x1 hL (by rw [e1', show σ' 4 k = X.f k from c3, Int32.lt_iff_toInt_lt, nI_toInt (by omega)]; exact hlt)]
        have haf := sc_afD0 w'.cy hk hL (by rw [e2, hs, Int32.lt_iff_toInt_lt, hsi, show (0 : Int32).toInt = 0 from rfl]; omega)
        rw [e2, hs] at haf
        refine sc_ret1 (kd2 := 0) hk hh hM haf sc_fr_rf (sc_fr_up ?_) (by omega) (fun _ => ⟨he, ?_⟩) (fun _ => sc_Lv.mk ?_ (fun _ => ?_) (fun q => by omega)) (fun q => by omega)
        · simp [sc_oM]; omega
        · rw [sc_upK (by decide)]; exact hval
        · unfold sc_Nat
          rw [sc_upS]
          exact nd (u' := u) e1 (by omega) (Or.inr ⟨by omega, by omega⟩)
        · refine (hlv (by omega)).f1 w.cy q1 (Nat.le_refl _) (lo := k) (hi := k + 1) (fun b hb => ⟨rfl, rfl, sc_upJ (by omega), rfl, sc_upK (by decide), rfl⟩) (sc_cl0 z2) (Or.inr (by omega))
    · rw [sc_s34n x1 (sc_cd (by omega) hkd)]
      exact sc_pon hk hh z1 z2 hM (by omega) hkd (fun q => sc_Lv.mk hN2 (fun _ => hlv q) (fun q => by omega)) ht
  · rw [sc_s34n x1 (by decide)]
    exact hP
theorem sc_unary1 {X : sc_X} {D np g h k m lev : Nat} {σ τ : sf_S} (hq : X.q = 27) (hI : sc_I1 X (k + 1)) (w : sc_W X D np g σ τ) (hk : k < X.n) (hL : X.L k = 37 ∨ X.L k = 42 ∨ X.L k = 43 ∨ X.L k = 47 ∨ X.L k = 108) (hm : 41 ≤ m + 1 + k) (hlev : lev ≤ k) (hh : h ≤ k) (hfl : σ (sf_rn X.q) 5 = 0) (h48 : τ 0 48 = nI h) (hv : sc_Lv X sc_N1 D σ τ k) : sc_P1 X k h D np g σ τ (dX8_step_R (m + 1) (nI k) (nI lev) σ) := by
  have hn4 := w.cy.n40
  have ho1 : sc_o1 (X.L k) := by
    rcases hL with q | q | q | q | q <;> rw [q] <;> (unfold sc_o1; decide)
  have h116 : X.L k ≠ 116 := by
    rcases hL with q | q | q | q | q <;> rw [q] <;> decide
  obtain ⟨hp, z1, z2, z3⟩ := sc_o1_f ho1
  obtain ⟨g1, g2, g3, g4⟩ := sc_r27 hq
  obtain ⟨k1, k2, k3, k4, k5, k6⟩ := w.cy.ok
  obtain ⟨q1, q2⟩ := w.cy.T.p1 hk hp
  have hkE := (w.cy.T.lt hk).1
  have hkn := (w.cy.T.lt hk).2
  obtain ⟨hN, -, -⟩ := hv.inv
  have hF := sf_F_le
  obtain ⟨σ', τ', e, ho, cs⟩ := sc_kidO (m := m) (lev := lev) hI w hfl hk ho1 hm hlev hh h48 hv (fun q => absurd q h116)
  rw [sc_stO hq w hk (by omega) ho1, if_pos h116]
  rcases cs with ⟨kd, j, hkd, x1, hM, hgv, hlv, ht⟩ | ⟨x1, hP⟩
  · have hM' := hM
    obtain ⟨⟨np', w', hnp'⟩, m2, m3, m4, m5, m6, m7, m8, m9, m10⟩ := hM'
    have hN2 := hN.t1 (D' := D + e) (by omega) ho (by omega) (by omega)
    by_cases h0 : kd = 0
    · subst h0
      obtain ⟨he, hval⟩ := hgv rfl
      have hS9 : (X.E k - (k + 1)) * e ≤ 39 * e := Nat.mul_le_mul_right _ (by omega)
      have hS2 : (X.E k - k) * e = (X.E k - (k + 1)) * e + e := by rw [show X.E k - k = X.E k - (k + 1) + 1 by omega, Nat.add_mul, Nat.one_mul]
      have hnp := w.np4
      have C := sc_change w' (k := k) (by omega) hk m6 hL (σ' X.q (sf_vl X.q))
      rw [hval] at C
      obtain ⟨r2, σ2, τ2, wv, np2, y1, y2, w2, f1, f2, c2⟩ := C
      have haf := sc_afU w'.cy hk hL y2
      rw [sc_s34U hq w'.cy hk x1 hL]
      have hv6 : σ' 27 6 = τ' 0 46 := by rw [← hval, hq]; rfl
      rw [hv6]
      rw [hq] at y1
      rw [y1]
      simp only [Option.bind_some]
      have hO := sc_c_Out w'.cy.ok f1 f2
      have w3 : sc_W X (D + e) np2 g σ2 (sf_up τ2 0 46 wv) := w2.light sc_fr_rf (sc_fr_up (by simp [sc_LM]))
      have hO2 : sc_Out X 0 0 σ' τ' σ2 (sf_up τ2 0 46 wv) := hO.tr (lo' := 0) (hi' := 0) (fun b hb => ⟨rfl, rfl, sc_upK (by decide), rfl, sc_upK (by decide), rfl⟩) (Nat.le_refl _) (Nat.le_refl _)
      have hO3 : sc_Out X k (X.E k) σ τ σ2 (sf_up τ2 0 46 wv) := fun b hb => by
        obtain ⟨a1, a2, a3, a4, a5, a6⟩ := m4 b hb
        obtain ⟨b1, b2, b3, b4, b5, b6⟩ := hO2 b (by omega)
        exact ⟨b1.trans a1, b2.trans a2, b3.trans a3, b4.trans a4, b5.trans a5, b6.trans a6⟩
      have hp5 : ∀ i, i < h → sf_up τ2 0 46 wv 29 i = τ 29 i := fun i hi => by
        rw [sc_upK (by decide), f2 _ _ (by simp [sc_cM])]; exact m5 i hi
      have hwk : σ2 (sf_rn X.q) 3 = σ (sf_rn X.q) 3 := by rw [f1 _ _ (by simp [sc_cC]; omega)]; exact m9
      have F1 := sc_fr_tr m2 (sc_cC_RC w'.cy.ok f1)
      have F2 : sc_fr sc_RM τ (sf_up τ2 0 46 wv) := sc_fr_tr (sc_fr_tr m3 (sc_cM_RM f2)) (sc_fr_up (by simp [sc_RM]))
      have up : ∀ N t, t ≤ k → 42 ≤ N + k → dX12_steps_21 N (nI k) (-1) (nI t) τ = dX12_steps_176 (sf_F - (j + 1)) (nI 0) (nI h + -1) (sf_up τ2 0 46 wv) := fun N t h1 h2 => by
        rw [m10 N t h1 h2]
        obtain ⟨F', hF'⟩ : ∃ F', sf_F - j = F' + 1 := ⟨sf_F - j - 1, by omega⟩
        rw [hF', show sf_F - (j + 1) = F' by omega]
        conv => lhs; unfold dX12_steps_176
        rw [if_neg (nI_pos (by omega)), if_neg (show ¬ ¬ τ' 0 35 = 0 by rw [← w'.fl]; exact fun q => q m6), if_pos (sc_inI (show h < 41 by omega) (by omega)), sc_cl (show h < 2 ^ 31 by omega), m7, haf]
        rfl
      rcases c2 with ⟨rfl, b1, b2, b3, b4⟩ | ⟨rfl, b1, b2⟩
      · rw [sc_gv2]
        refine ⟨σ2, sf_up τ2 0 46 wv, e, np2, j + 1, w3, by omega, F1, F2, hO3, hp5, by omega, hwk, Or.inl ⟨0, by omega, rfl, b1, up, fun _ => ⟨he, ?_⟩, fun _ => sc_Lv.mk ?_ (fun _ => ?_) (fun q => by omega), fun q => by omega⟩⟩
        · rw [sc_upS]; exact b2
        · exact hN2.t1 (Nat.le_refl _) hO2 (by omega) (by omega)
        · exact (hlv (by omega)).same1 w.cy q1 hO2
      · rw [sc_gv3 (by rw [g2] at b2; exact b2)]
        refine ⟨σ2, sf_up τ2 0 46 wv, e, np2, j + 1, w3, by omega, F1, F2, hO3, hp5, by omega, hwk, Or.inr ⟨rfl, b2, nI 0, fun N t h1 h2 => ?_⟩⟩
        rw [up N t h1 h2]
        obtain ⟨F', hF'⟩ : ∃ F', sf_F - (j + 1) = F' + 1 := ⟨sf_F - (j + 1) - 1, by omega⟩
        rw [hF']
        unfold dX12_steps_176
        rw [if_pos (show ¬ (sf_up τ2 0 46 wv) 0 35 = 0 by rw [← w3.fl]; exact b2)]
        split <;> rfl
    · rw [sc_s34n x1 (sc_cd (by omega) hkd)]
      exact sc_pon hk hh z1 z2 hM (by omega) hkd (fun q => sc_Lv.mk hN2 (fun _ => hlv q) (fun q => by omega)) ht
  · rw [sc_s34n x1 (by decide)]
    exact hP
