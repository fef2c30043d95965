/-! way 1: the nodes with one pipe, letter by letter -/
theorem sc_s34F1 {X : sc_X} {G : Int32 → Int32 → sf_S → Option (Int32 × sf_S)} {k lev : Nat} {σ σ' τ' : sf_S} (hq : X.q = 27) (h : sc_Cy X σ' τ') (hk : k < X.n) (x1 : G (nI (k + 1)) (nI (lev + 1)) σ = some (nI (2 - 0), σ')) (hL : X.L k = 63 ∨ X.L k = 107) (hp : dX10_passes 27 (nI k) (σ' 27 6) σ' = some (1, σ')) : dX8_stepOne_34 G (nI k) (nI lev) σ = some (2, σ') := by
  obtain ⟨g1, g2, g3, g4⟩ := sc_r27 hq
  have c1 := (h.c1 k hk).1
  rw [g1] at c1
  unfold dX8_stepOne_34
  rw [nI_1, nI_1, x1]
  simp only [Option.bind_some]
  rw [if_pos (show nI (2 - 0) = 2 from rfl)]
  simp only [h.nin hk, if_true, h.ncl hk]
  rw [show σ' 2 k = X.L k from c1]
  rcases hL with hL | hL
  · rw [hL, if_pos (show (63 : Int32) = 63 from rfl)]
    rw [hp]
    rfl
  · rw [hL, if_neg (show ¬ (107 : Int32) = 63 by decide), if_neg (show ¬ (107 : Int32) = 100 by decide), if_pos (show (107 : Int32) = 107 from rfl)]
    rw [hp]
    rfl
theorem sc_s34F0 {X : sc_X} {G : Int32 → Int32 → sf_S → Option (Int32 × sf_S)} {k lev : Nat} {σ σ' τ' : sf_S} (hq : X.q = 27) (h : sc_Cy X σ' τ') (hk : k < X.n) (x1 : G (nI (k + 1)) (nI (lev + 1)) σ = some (nI (2 - 0), σ')) (hL : X.L k = 63 ∨ X.L k = 107) (hp : dX10_passes 27 (nI k) (σ' 27 6) σ' = some (0, σ')) : dX8_stepOne_34 G (nI k) (nI lev) σ = some (1, σ') := by
  obtain ⟨g1, g2, g3, g4⟩ := sc_r27 hq
  have c1 := (h.c1 k hk).1
  rw [g1] at c1
  unfold dX8_stepOne_34
  rw [nI_1, nI_1, x1]
  simp only [Option.bind_some]
  rw [if_pos (show nI (2 - 0) = 2 from rfl)]
  simp only [h.nin hk, if_true, h.ncl hk]
  rw [show σ' 2 k = X.L k from c1]
  rcases hL with hL | hL
  · rw [hL, if_pos (show (63 : Int32) = 63 from rfl)]
    rw [hp]
    rfl
  · rw [hL, if_neg (show ¬ (107 : Int32) = 63 by decide), if_neg (show ¬ (107 : Int32) = 100 by decide), if_pos (show (107 : Int32) = 107 from rfl)]
    rw [hp]
    rfl
theorem sc_s34W1 {X : sc_X} {G : Int32 → Int32 → sf_S → Option (Int32 × sf_S)} {k lev : Nat} {σ σ' τ' : sf_S} (hq : X.q = 27) (h : sc_Cy X σ' τ') (hk : k < X.n) (x1 : G (nI (k + 1)) (nI (lev + 1)) σ = some (nI (2 - 0), σ')) (hL : X.L k = 119) (hp : dX10_passes 27 (nI k) (σ' 27 6) σ' = some (1, σ')) : dX8_stepOne_34 G (nI k) (nI lev) σ = some (2, σ') := by
  obtain ⟨g1, g2, g3, g4⟩ := sc_r27 hq
  have c1 := (h.c1 k hk).1
  rw [g1] at c1
  unfold dX8_stepOne_34
  rw [nI_1, nI_1, x1]
  simp only [Option.bind_some]
  rw [if_pos (show nI (2 - 0) = 2 from rfl)]
  simp only [h.nin hk, if_true, h.ncl hk]
  rw [show σ' 2 k = X.L k from c1]
  rw [hL, if_neg (show ¬ (119 : Int32) = 63 by decide), if_neg (show ¬ (119 : Int32) = 100 by decide), if_neg (show ¬ (119 : Int32) = 107 by decide), if_neg (show ¬ (119 : Int32) = 116 by decide), if_pos (show (119 : Int32) = 119 from rfl)]
  rw [hp]
  rfl
theorem sc_s34W0 {X : sc_X} {G : Int32 → Int32 → sf_S → Option (Int32 × sf_S)} {k lev : Nat} {σ σ' τ' : sf_S} (hq : X.q = 27) (h : sc_Cy X σ' τ') (hk : k < X.n) (x1 : G (nI (k + 1)) (nI (lev + 1)) σ = some (nI (2 - 0), σ')) (hL : X.L k = 119) (hp : dX10_passes 27 (nI k) (σ' 27 6) σ' = some (0, σ')) : dX8_stepOne_34 G (nI k) (nI lev) σ = some (0, σ') := by
  obtain ⟨g1, g2, g3, g4⟩ := sc_r27 hq
  have c1 := (h.c1 k hk).1
  rw [g1] at c1
  unfold dX8_stepOne_34
  rw [nI_1, nI_1, x1]
  simp only [Option.bind_some]
  rw [if_pos (show nI (2 - 0) = 2 from rfl)]
  simp only [h.nin hk, if_true, h.ncl hk]
  rw [show σ' 2 k = X.L k from c1]
  rw [hL, if_neg (show ¬ (119 : Int32) = 63 by decide), if_neg (show ¬ (119 : Int32) = 100 by decide), if_neg (show ¬ (119 : Int32) = 107 by decide), if_neg (show ¬ (119 : Int32) = 116 by decide), if_pos (show (119 : Int32) = 119 from rfl)]
  rw [hp]
  rfl
theorem sc_s34T {X : sc_X} {G : Int32 → Int32 → sf_S → Option (Int32 × sf_S)} {k lev : Nat} {σ σ' τ' : sf_S} (hq : X.q = 27) (h : sc_Cy X σ' τ') (hk : k < X.n) (x1 : G (nI (k + 1)) (nI (lev + 1)) σ = some (nI (2 - 0), σ')) (hL : X.L k = 116)  : dX8_stepOne_34 G (nI k) (nI lev) σ = some (2, sf_up σ' 28 k (σ' 28 k + 1)) := by
  obtain ⟨g1, g2, g3, g4⟩ := sc_r27 hq
  have c1 := (h.c1 k hk).1
  rw [g1] at c1
  unfold dX8_stepOne_34
  rw [nI_1, nI_1, x1]
  simp only [Option.bind_some]
  rw [if_pos (show nI (2 - 0) = 2 from rfl)]
  simp only [h.nin hk, if_true, h.ncl hk]
  rw [show σ' 2 k = X.L k from c1]
  rw [hL, if_neg (show ¬ (116 : Int32) = 63 by decide), if_neg (show ¬ (116 : Int32) = 100 by decide), if_neg (show ¬ (116 : Int32) = 107 by decide), if_pos (show (116 : Int32) = 116 from rfl)]
theorem sc_s34D1 {X : sc_X} {G : Int32 → Int32 → sf_S → Option (Int32 × sf_S)} {k lev : Nat} {σ σ' τ' : sf_S} (hq : X.q = 27) (h : sc_Cy X σ' τ') (hk : k < X.n) (x1 : G (nI (k + 1)) (nI (lev + 1)) σ = some (nI (2 - 0), σ')) (hL : X.L k = 100) (hd : σ' 28 k < σ' 4 k) : dX8_stepOne_34 G (nI k) (nI lev) σ = some (1, sf_up σ' 28 k (σ' 28 k + 1)) := by
  obtain ⟨g1, g2, g3, g4⟩ := sc_r27 hq
  have c1 := (h.c1 k hk).1
  rw [g1] at c1
  unfold dX8_stepOne_34
  rw [nI_1, nI_1, x1]
  simp only [Option.bind_some]
  rw [if_pos (show nI (2 - 0) = 2 from rfl)]
  simp only [h.nin hk, if_true, h.ncl hk]
  rw [show σ' 2 k = X.L k from c1]
  rw [hL, if_neg (show ¬ (100 : Int32) = 63 by decide), if_pos (show (100 : Int32) = 100 from rfl)]
  rw [if_pos hd]
theorem sc_s34D0 {X : sc_X} {G : Int32 → Int32 → sf_S → Option (Int32 × sf_S)} {k lev : Nat} {σ σ' τ' : sf_S} (hq : X.q = 27) (h : sc_Cy X σ' τ') (hk : k < X.n) (x1 : G (nI (k + 1)) (nI (lev + 1)) σ = some (nI (2 - 0), σ')) (hL : X.L k = 100) (hd : ¬ σ' 28 k < σ' 4 k) : dX8_stepOne_34 G (nI k) (nI lev) σ = some (2, σ') := by
  obtain ⟨g1, g2, g3, g4⟩ := sc_r27 hq
  have c1 := (h.c1 k hk).1
  rw [g1] at c1
  unfold dX8_stepOne_34
  rw [nI_1, nI_1, x1]
  simp only [Option.bind_some]
  rw [if_pos (show nI (2 - 0) = 2 from rfl)]
  simp only [h.nin hk, if_true, h.ncl hk]
  rw [show σ' 2 k = X.L k from c1]
  rw [hL, if_neg (show ¬ (100 : Int32) = 63 by decide), if_pos (show (100 : Int32) = 100 from rfl)]
  rw [if_neg hd]
theorem sc_s34U {X : sc_X} {G : Int32 → Int32 → sf_S → Option (Int32 × sf_S)} {k lev : Nat} {σ σ' τ' : sf_S} (hq : X.q = 27) (h : sc_Cy X σ' τ') (hk : k < X.n) (x1 : G (nI (k + 1)) (nI (lev + 1)) σ = some (nI (2 - 0), σ')) (hL : X.L k = 37 ∨ X.L k = 42 ∨ X.L k = 43 ∨ X.L k = 47 ∨ X.L k = 108)  : dX8_stepOne_34 G (nI k) (nI lev) σ = (dX10_change 27 (nI k) (σ' 27 6) σ').bind fun u => dX8_given u.1 u.2 := by
  obtain ⟨g1, g2, g3, g4⟩ := sc_r27 hq
  have c1 := (h.c1 k hk).1
  rw [g1] at c1
  unfold dX8_stepOne_34
  rw [nI_1, nI_1, x1]
  simp only [Option.bind_some]
  rw [if_pos (show nI (2 - 0) = 2 from rfl)]
  simp only [h.nin hk, if_true, h.ncl hk]
  rw [show σ' 2 k = X.L k from c1]
  rcases hL with hL | hL | hL | hL | hL
  · rw [hL, if_neg (show ¬ (37 : Int32) = 63 by decide), if_neg (show ¬ (37 : Int32) = 100 by decide), if_neg (show ¬ (37 : Int32) = 107 by decide), if_neg (show ¬ (37 : Int32) = 116 by decide), if_neg (show ¬ (37 : Int32) = 119 by decide)]
    simp only [sc_bid]
  · rw [hL, if_neg (show ¬ (42 : Int32) = 63 by decide), if_neg (show ¬ (42 : Int32) = 100 by decide), if_neg (show ¬ (42 : Int32) = 107 by decide), if_neg (show ¬ (42 : Int32) = 116 by decide), if_neg (show ¬ (42 : Int32) = 119 by decide)]
    simp only [sc_bid]
  · rw [hL, if_neg (show ¬ (43 : Int32) = 63 by decide), if_neg (show ¬ (43 : Int32) = 100 by decide), if_neg (show ¬ (43 : Int32) = 107 by decide), if_neg (show ¬ (43 : Int32) = 116 by decide), if_neg (show ¬ (43 : Int32) = 119 by decide)]
    simp only [sc_bid]
  · rw [hL, if_neg (show ¬ (47 : Int32) = 63 by decide), if_neg (show ¬ (47 : Int32) = 100 by decide), if_neg (show ¬ (47 : Int32) = 107 by decide), if_neg (show ¬ (47 : Int32) = 116 by decide), if_neg (show ¬ (47 : Int32) = 119 by decide)]
    simp only [sc_bid]
  · rw [hL, if_neg (show ¬ (108 : Int32) = 63 by decide), if_neg (show ¬ (108 : Int32) = 100 by decide), if_neg (show ¬ (108 : Int32) = 107 by decide), if_neg (show ¬ (108 : Int32) = 116 by decide), if_neg (show ¬ (108 : Int32) = 119 by decide)]
    simp only [sc_bid]
theorem sc_filt1 {X : sc_X} {D np g h k m lev : Nat} {σ τ : sf_S} (hq : X.q = 27) (hI : sc_I1 X (k + 1)) (w : sc_W X D np g σ τ) (hk : k < X.n) (hL : X.L k = 63 ∨ X.L k = 107 ∨ X.L k = 119) (hm : 41 ≤ m + 1 + k) (hlev : lev ≤ k) (hh : h ≤ k) (hfl : σ (sf_rn X.q) 5 = 0) (h48 : τ 0 48 = nI h) (hv : sc_Lv X sc_N1 D σ τ k) : sc_P1 X k h D np g σ τ (dX8_step_R (m + 1) (nI k) (nI lev) σ) := by
  have hn4 := w.cy.n40
  have ho1 : sc_o1 (X.L k) := by
    rcases hL with q | q | q <;> rw [q] <;> (unfold sc_o1; decide)
  have hx : X.L k ≠ 116 ∧ X.L k ≠ 100 := by
    rcases hL with q | q | q <;> rw [q] <;> decide
  obtain ⟨hp, z1, z2, z3⟩ := sc_o1_f ho1
  obtain ⟨g1, g2, g3, g4⟩ := sc_r27 hq
  obtain ⟨hN, -, -⟩ := hv.inv
  obtain ⟨σ', τ', e, ho, cs⟩ := sc_kidO (m := m) (lev := lev) hI w hfl hk ho1 hm hlev hh h48 hv (fun q => absurd q hx.1)
  rw [sc_stO hq w hk (by omega) ho1, if_pos hx.1]
  rcases cs with ⟨kd, j, hkd, x1, hM, hgv, hlv, ht⟩ | ⟨x1, hP⟩
  · obtain ⟨⟨np', w', -⟩, -⟩ := id hM
    have hN2 := hN.t1 (D' := D + e) (by omega) ho (by omega) (by omega)
    have hLk : kd ≤ 1 → sc_Lv X sc_N1 (D + e) σ' τ' k := fun q => sc_Lv.mk hN2 (fun _ => hlv q) (fun q => by omega)
    by_cases h0 : kd = 0
    · subst h0
      obtain ⟨he, hval⟩ := hgv rfl
      obtain ⟨r, y1, y2⟩ := sc_pass w'.cy hk (by rcases hL with q | q | q; exact Or.inl q; exact Or.inr (Or.inl q); exact Or.inr (Or.inr q)) (σ' X.q (sf_vl X.q))
      rw [hval] at y2
      rw [hq] at y1
      rw [show sf_vl 27 = 6 by decide] at y1
      by_cases h119 : X.L k = 119
      · cases r with
        | true =>
          rw [sc_s34W1 hq w'.cy hk x1 h119 y1]
          exact sc_ret1 (kd2 := 0) hk hh hM (sc_afW1 w'.cy hk h119 y2) sc_fr_rf sc_fr_rf (by omega) (fun _ => ⟨he, hval⟩) (fun _ => hLk (by omega)) (fun q => by omega)
        | false =>
          rw [sc_s34W0 hq w'.cy hk x1 h119 y1]
          exact sc_ret1 (kd2 := 2) hk hh hM (sc_afW0 w'.cy hk h119 y2) sc_fr_rf sc_fr_rf (by omega) (fun q => by omega) (fun q => by omega) (fun q => by omega)
      · have hF : X.L k = 63 ∨ X.L k = 107 := by
          rcases hL with q | q | q
          · exact Or.inl q
          · exact Or.inr q
          · exact absurd q h119
        cases r with
        | true =>
          rw [sc_s34F1 hq w'.cy hk x1 hF y1]
          exact sc_ret1 (kd2 := 0) hk hh hM (sc_afF1 w'.cy hk hF y2) sc_fr_rf sc_fr_rf (by omega) (fun _ => ⟨he, hval⟩) (fun _ => hLk (by omega)) (fun q => by omega)
        | false =>
          rw [sc_s34F0 hq w'.cy hk x1 hF y1]
          exact sc_ret1 (kd2 := 1) hk hh hM (sc_afF0 w'.cy hk hF y2) sc_fr_rf sc_fr_rf (by omega) (fun q => by omega) (fun _ => hLk (by omega)) (fun q => by omega)
    · rw [sc_s34n x1 (sc_cd (by omega) hkd)]
      exact sc_pon hk hh z1 z2 hM (by omega) hkd hLk ht
  · rw [sc_s34n x1 (by decide)]
    exact hP
theorem sc_take1 {X : sc_X} {D np g h k m lev : Nat} {σ τ : sf_S} (hq : X.q = 27) (hI : sc_I1 X (k + 1)) (w : sc_W X D np g σ τ) (hk : k < X.n) (hL : X.L k = 116) (hm : 41 ≤ m + 1 + k) (hlev : lev ≤ k) (hh : h ≤ k) (hfl : σ (sf_rn X.q) 5 = 0) (h48 : τ 0 48 = nI h) (hv : sc_Lv X sc_N1 D σ τ k) : sc_P1 X k h D np g σ τ (dX8_step_R (m + 1) (nI k) (nI lev) σ) := by
  have hn4 := w.cy.n40
  have hD5 := w.D5
  have ho1 : sc_o1 (X.L k) := by rw [hL]; unfold sc_o1; decide
  have hz : ∀ c, c ≠ 116 → X.L k ≠ c := fun c q e => q (by rw [← e]; exact hL)
  obtain ⟨hp, z1, z2, z3⟩ := sc_o1_f ho1
  obtain ⟨g1, g2, g3, g4⟩ := sc_r27 hq
  obtain ⟨r1, -, r3, -⟩ := w.cy.r1 k hk
  obtain ⟨q1, q2⟩ := w.cy.T.p1 hk hp
  have hkE := (w.cy.T.lt hk).1
  obtain ⟨hN, -, -⟩ := hv.inv
  obtain ⟨u, u1, u2, u3, u4, -⟩ := id hN
  obtain ⟨t1, t2⟩ := u4 hL
  rw [sc_stO hq w hk (by omega) ho1, if_neg (fun z => z hL), u2]
  by_cases hlt : (u : Int) < (X.f k).toInt
  · rw [if_pos (by rw [Int32.lt_iff_toInt_lt, nI_toInt (by omega)]; exact hlt)]
    have hne : ¬ τ 24 k = X.f k := fun q => by
      rw [t1] at q
      rw [← q, nI_toInt (by omega)] at hlt
      omega
    obtain ⟨σ', τ', e, ho, cs⟩ := sc_kidO (m := m) (lev := lev) hI w hfl hk ho1 hm hlev hh h48 hv (fun _ => hne)
    rcases cs with ⟨kd, j, hkd, x1, hM, hgv, hlv, ht⟩ | ⟨x1, hP⟩
    · obtain ⟨⟨np', w', -⟩, -⟩ := id hM
      have hN2 := hN.t1 (D' := D + e) (by omega) ho (by omega) (by omega)
      by_cases h0 : kd = 0
      · subst h0
        obtain ⟨he, hval⟩ := hgv rfl
        have e1 : σ' (X.q + 1) k = nI u := by rw [(ho k (by omega)).1]; exact u2
        have e2 : τ' 24 k = nI u := by rw [(ho k (by omega)).2.2.1]; exact t1
        have e1' : σ' 28 k = nI u := by rw [hq] at e1; exact e1
        rw [sc_s34T hq w'.cy hk x1 hL, e1', nI_1]
        have haf := sc_afT w'.cy hk hL
        rw [e2, nI_1] at haf
        refine sc_ret1 (kd2 := 0) hk hh hM haf (sc_fr_up ?_) (sc_fr_up ?_) (by omega) (fun _ => ⟨he, ?_⟩) (fun _ => sc_Lv.mk ?_ (fun _ => ?_) (fun q => by omega)) (fun q => by omega)
        · simp [sc_oC, hq]; rw [hq] at *; omega
        · simp [sc_oM]; omega
        · rw [sc_upK (by omega), sc_upK (by decide)]; exact hval
        · unfold sc_Nat
          rw [show sf_up σ' 28 k (nI (u + 1)) (X.q + 1) k = nI (u + 1) by rw [hq]; exact sc_upS, sc_upS]
          refine ⟨u + 1, by omega, rfl, ⟨fun q => absurd q (hz _ (by decide)), fun q => absurd q (hz _ (by decide)), fun q => ?_, fun q => ?_⟩, fun _ => ⟨rfl, by omega⟩, fun q => absurd q (hz _ (by decide)), fun q => ?_, fun q => absurd q (hz _ (by decide))⟩
          · rcases q with q | q | q <;> exact absurd q (hz _ (by decide))
          · rcases q with q | q <;> exact absurd q (hz _ (by decide))
          · rcases q with q | q <;> exact absurd q (hz _ (by decide))
        · refine (hlv (by omega)).f1 w.cy q1 (Nat.le_refl _) (lo := k) (hi := k + 1) (fun b hb => ⟨sc_upJ (by omega), sc_upJ (by omega), sc_upJ (by omega), sc_upJ (by omega), sc_upK (by decide), sc_upJ (by omega)⟩) (sc_cl0 z2) (Or.inr (by omega))
      · rw [sc_s34n x1 (sc_cd (by omega) hkd)]
        exact sc_pon hk hh z1 z2 hM (by omega) hkd (fun q => sc_Lv.mk hN2 (fun _ => hlv q) (fun q => by omega)) ht
    · rw [sc_s34n x1 (by decide)]
      exact hP
  · rw [if_neg (by rw [Int32.lt_iff_toInt_lt, nI_toInt (by omega)]; exact hlt)]
    have hfu : τ 24 k = X.f k := by
      rw [t1]
      apply Int32.toInt_inj.mp
      rw [nI_toInt (by omega)]
      omega
    refine ⟨σ, τ, 0, np, 0, w, by omega, sc_fr_rf, sc_fr_rf, sc_Out.rf, fun i _ => rfl, by omega, rfl, Or.inl ⟨2, by omega, rfl, hfl, fun N t ht hN => ?_, fun q => by omega, fun q => by omega, fun _ => Nat.le_refl _⟩⟩
    obtain ⟨N, rfl⟩ : ∃ N', N = N' + 1 + 1 := ⟨N - 2, by omega⟩
    conv => lhs; unfold dX12_steps_21
    rw [if_neg (show ¬ (41 : Int32) ≤ nI t from nI_ge (b := 41) (by omega) (by decide)), if_neg (show ¬ ¬ (-1 : Int32) = -1 by decide)]
    simp only [w.cy.nin hk, if_true, w.cy.ncl hk]
    rw [r1, sc_partsM, if_pos (w.cy.vn k hk).1]
    simp only [Option.bind_some]
    rw [hL, if_pos (show ¬ nI (sc_p 116) = 0 by decide +kernel), if_neg (show ¬ ¬ (116 : Int32) = 116 by decide), r3, if_neg (fun z => z hfu), ← h48]
    exact sc_fi1 (kd := 2) (by omega)
