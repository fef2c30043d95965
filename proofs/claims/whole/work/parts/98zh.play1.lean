/-! way 1: openers; every node; the run -/
theorem sc_opener1 {X : sc_X} {D np g h k m lev : Nat} {σ τ : sf_S} (hq : X.q = 27) (hI : ∀ a, k < a → a < X.n → sc_I1 X a) (w : sc_W X D np g σ τ) (hk : k < X.n) (hL : X.L k = 120) (hm : 41 ≤ m + 1 + k) (hlev : lev ≤ k) (hh : h ≤ k) (hfl : σ (sf_rn X.q) 5 = 0) (h48 : τ 0 48 = nI h) (hv : sc_Lv X sc_N1 D σ τ k) : sc_P1 X k h D np g σ τ (dX8_step_R (m + 1) (nI k) (nI lev) σ) := by
  have hn4 := w.cy.n40
  have hp : sc_p (X.L k) = 2 := by rw [hL]; decide +kernel
  have hz : ∀ c, c ≠ 120 → X.L k ≠ c := fun c q e => q (by rw [← e]; exact hL)
  obtain ⟨p1, p2, p3, p4, p5⟩ := w.cy.T.p2 hk hp
  have q4 := (w.cy.T.lt hk).2
  obtain ⟨k1, k2, k3, k4, k5, k6⟩ := w.cy.ok
  obtain ⟨g1, g2, g3, g4⟩ := sc_r27 hq
  obtain ⟨hN, l1, l2⟩ := hv.inv
  obtain ⟨u, u1, u2, u3, u4, u5, u6, u7⟩ := id hN
  obtain ⟨t, t1, t2⟩ := u6 (Or.inr hL)
  have hps : sc_ps X.L X.E k = X.E (k + 1) := by rw [sc_ps, if_pos hL]
  have hqs : sc_qs X.L X.E k = k + 1 := by rw [sc_qs, if_pos hL]
  have tu29 : σ 29 k = sc_b t := by rw [hq] at t1; exact t1
  have lvb := l2 hp
  have clq : ∀ x, k ≤ x → x < X.E (k + 1) → X.L x = 120 → X.E (x + 1) ≤ X.E (k + 1) := fun x y1 y2 y3 => by
    by_cases q : x = k
    · rw [q]; exact Nat.le_refl _
    · exact sc_cl1 w.cy p1 x (by omega) y2 y3
  rw [sc_stX hq w.cy hk (by omega) m hL]
  unfold dX8_stepOpener
  simp only [w.cy.nin hk, if_true, w.cy.ncl hk]
  cases t with
  | false =>
    rw [if_pos (show σ 29 k = 0 by rw [tu29]; rfl)]
    have hs := w.cy.inp hk (by omega)
    rw [g1, hps] at hs
    rw [hs]
    simp only [Option.bind_some]
    rw [nI_1]
    obtain ⟨σ', τ', e, ho, cs⟩ := sc_kid1 (m := m) (lev := lev + 1) (hI (X.E (k + 1)) (by omega) p3) w hfl hk (by omega) (by omega) (by omega) p3 (by omega) (by omega) hh lvb (fun N t ht => sc_dn1 w.cy hk (by omega) ht h48 hh (fun q => absurd q (hz _ (by decide))) (by
      rw [if_neg (fun z => by rw [t2] at z; exact absurd z.2 (by decide)), hps]))
    have hN2 := hN.t1 (D' := D + e) (by omega) ho (by omega) (by omega)
    have e1 : σ' (X.q + 1) k = nI u := by rw [(ho k (by omega)).1]; exact u2
    have e2 : σ' (X.q + 2) k = 0 := by rw [(ho k (by omega)).2.1]; exact t1
    have e3 : τ' 24 k = 0 := by rw [(ho k (by omega)).2.2.1]; exact t2
    have na : ¬ sc_a1 (X.L k) (σ' (X.q + 2) k) := fun q => by
      rw [e2] at q
      rcases q with q | q | ⟨q, -⟩ | ⟨-, q⟩
      · omega
      · exact hz _ (by decide) q
      · exact hz _ (by decide) q
      · exact q rfl
    rcases cs with ⟨kd, j, hkd, x1, hM, hgv, hlv, ht⟩ | ⟨x1, hP⟩
    · obtain ⟨⟨np', w', -⟩, -⟩ := id hM
      rw [x1]
      simp only [Option.bind_some]
      by_cases h0 : kd = 0
      · subst h0
        obtain ⟨he, hval⟩ := hgv rfl
        have hv6 : σ' 27 6 = τ' 0 46 := by rw [← hval, hq]; rfl
        obtain ⟨σ2, τ2, y1, y2, w2, oC, oM, hB, b1, b2, b3, b4, b5, b6⟩ := sc_open w' g4 hk hL (τ' 0 46)
        rw [hq] at y1
        rw [if_pos (show nI (2 - 0) = 2 from rfl), hv6, y1]
        simp only [Option.bind_some]
        have F1 : sc_fr (sc_oC X k) σ' σ2 := fun a b hab => oC a b (fun q => by simp [sc_oC] at hab; omega)
        have F2 : sc_fr (sc_oM X k) τ' τ2 := fun a b hab => oM a b (fun q => by simp [sc_oM] at hab; omega)
        have hOo : sc_Out X k (X.E (k + 1)) σ' τ' σ2 τ2 := fun b hb => ⟨oC _ _ (by omega), oC _ _ (by omega), oM _ _ (by omega), oC _ _ (by omega), oM _ _ (by omega), oC _ _ (by omega)⟩
        obtain ⟨w9, o9, hD9⟩ := w2.cy.D
        have hok : X.o (k + 1) = nI k := by
          have := ((hD9.2 k hk).1 (by omega)).2.2
          rw [if_pos hL] at this; exact this
        refine sc_ret1 (kd2 := 1) hk hh hM (sc_afX1 w'.cy hk hL e3 y2) F1 F2 (by omega) (fun q => by omega) (fun _ => sc_Lv.mk ?_ (fun _ => ?_) (fun _ => ?_)) (fun q => by omega)
        · unfold sc_Nat
          rw [b2, b3]
          exact sc_N1_gen hp (show u ≤ _ by omega) (b1.trans e1) ⟨true, rfl, rfl, fun q => absurd q (hz _ (by decide))⟩
        · exact sc_Lv_bg (N := sc_N1) (fun hv hh => sc_N1_bg hv hh) w2.cy p1 hB (Or.inr (by rw [hok, sc_cl (by omega)]; exact b4.trans b5.symm))
        · exact (hlv (by omega)).f1 w.cy p3 (Nat.le_refl _) hOo clq (Or.inr (Nat.le_refl _))
      · rw [if_neg (sc_cd (by omega) hkd)]
        by_cases h2 : kd = 2
        · subst h2
          exact sc_ret1 (kd2 := 2) hk hh hM (sc_afX3 w'.cy hk hL e3) sc_fr_rf sc_fr_rf (by omega) (fun q => by omega) (fun q => by omega) ht
        · have h1 : kd = 1 := by omega
          subst h1
          exact sc_ret1 (kd2 := 1) hk hh hM (sc_afX2 w'.cy hk hL) sc_fr_rf sc_fr_rf (by omega) (fun q => by omega) (fun q => sc_Lv.mk hN2 (fun q => absurd q na) (fun _ => hlv (by omega))) ht
    · rw [x1]
      simp only [Option.bind_some]
      rw [if_neg (show ¬ (3 : Int32) = 2 by decide)]
      exact hP
  | true =>
    rw [if_neg (show ¬ σ 29 k = 0 by rw [tu29]; decide)]
    rw [nI_1, nI_1]
    obtain ⟨σ', τ', e, ho, cs⟩ := sc_kid1 (m := m) (lev := lev + 1) (hI (k + 1) (by omega) p1) w hfl hk (by omega) (by omega) p2 p1 (by omega) (by omega) hh (l1 (Or.inr (Or.inr (Or.inr ⟨hL, by rw [t1]; decide⟩)))) (fun N t ht => sc_dn1 w.cy hk (by omega) ht h48 hh (fun q => absurd q (hz _ (by decide))) (by
      rw [if_pos ⟨Or.inr (Or.inl hL), t2⟩, hqs]))
    have lvb1 := lvb.f1 w.cy p3 (D' := D + e) (by omega) ho (sc_cl1 w.cy p1) (Or.inr (Nat.le_refl _))
    have hN2 := hN.t1 (D' := D + e) (by omega) ho (by omega) (by omega)
    have e1 : σ' (X.q + 1) k = nI u := by rw [(ho k (by omega)).1]; exact u2
    have e2 : σ' (X.q + 2) k = 1 := by rw [(ho k (by omega)).2.1]; exact t1
    have e3 : τ' 24 k = 1 := by rw [(ho k (by omega)).2.2.1]; exact t2
    rcases cs with ⟨kd, j, hkd, x1, hM, hgv, hlv, ht⟩ | ⟨x1, hP⟩
    · obtain ⟨⟨np', w', -⟩, -⟩ := id hM
      rw [x1]
      simp only [Option.bind_some]
      by_cases h2 : kd = 2
      · subst h2
        rw [if_pos (show nI (2 - 2) = 0 from rfl), sc_narI0]
        have s2 : sf_up σ' 29 k 0 (X.q + 2) k = 0 := by rw [hq]; exact sc_upS
        have tmd : sc_tm X (sf_up σ' 29 k 0) X.n + 1 ≤ sc_tm X σ' X.n := by
          refine sc_tm_dec (k := k) ?_ ?_ X.n hk (fun j hj hne => ?_)
          · rw [sc_tb, if_pos (Or.inr ⟨hL, by rw [e2]; decide⟩)]
          · rw [sc_tb, if_neg]
            rintro (⟨z, -⟩ | ⟨-, z⟩)
            · exact hz _ (by decide) z
            · exact z s2
          · unfold sc_tb
            rw [sc_upJ hne]; exact Nat.le_refl _
        refine sc_ret1 (kd2 := 1) hk hh hM (sc_afX4 w'.cy hk hL e3) (sc_fr_up ?_) (sc_fr_up ?_) (by omega) (fun q => by omega) (fun _ => sc_Lv.mk ?_ (fun q => ?_) (fun _ => ?_)) (fun q => ?_)
        · simp [sc_oC, hq]; rw [hq] at *; omega
        · simp [sc_oM]; omega
        · unfold sc_Nat
          rw [s2, sc_upS]
          exact sc_N1_gen hp (show u ≤ _ by omega) (by rw [sc_upK (by omega)]; exact e1) ⟨false, rfl, rfl, fun q => absurd q (hz _ (by decide))⟩
        · rw [s2] at q
          rcases q with q | q | ⟨q, -⟩ | ⟨-, q⟩
          · omega
          · exact absurd q (hz _ (by decide))
          · exact absurd q (hz _ (by decide))
          · exact absurd rfl q
        · exact lvb1.f1 w.cy p3 (Nat.le_refl _) (lo := k) (hi := X.E (k + 1)) (fun b hb => ⟨sc_upJ (by omega), sc_upJ (by omega), sc_upJ (by omega), sc_upJ (by omega), sc_upK (by decide), sc_upJ (by omega)⟩) clq (Or.inr (Nat.le_refl _))
        · have := ht q
          rw [show sc_sk 2 = 0 from rfl] at this
          rw [show sc_sk 1 = 1 from rfl]
          omega
      · rw [if_neg (sc_cd0 (by omega))]
        have hlk : sc_Lv X sc_N1 (D + e) σ' τ' k := sc_Lv.mk hN2 (fun _ => hlv (by omega)) (fun _ => lvb1)
        by_cases h0 : kd = 0
        · subst h0
          exact sc_ret1 (kd2 := 0) hk hh hM (sc_afX0 w'.cy hk hL e3) sc_fr_rf sc_fr_rf (by omega) hgv (fun _ => hlk) ht
        · have h1 : kd = 1 := by omega
          subst h1
          exact sc_ret1 (kd2 := 1) hk hh hM (sc_afX2 w'.cy hk hL) sc_fr_rf sc_fr_rf (by omega) (fun q => by omega) (fun _ => hlk) ht
    · rw [x1]
      simp only [Option.bind_some]
      rw [if_neg (show ¬ (3 : Int32) = 0 by decide)]
      exact hP
theorem sc_step1 {X : sc_X} (hq : X.q = 27) (hd : ∀ j, j < X.n → X.L j = 100 → 0 ≤ (X.f j).toInt) : ∀ r k, k + r = X.n → k < X.n → sc_I1 X k := by
  intro r
  induction r using Nat.strongRecOn with
  | _ r ih =>
    intro k hr hk
    have hI : ∀ a, k < a → a < X.n → sc_I1 X a := fun a h1 h2 => ih (X.n - a) (by omega) a (by omega) h2
    intro m lev h D np g σ τ hm hlev hh w hv hfl h48
    have hn4 := w.cy.n40
    obtain ⟨m', rfl⟩ : ∃ m', m = m' + 1 := ⟨m - 1, by omega⟩
    by_cases hp : sc_p (X.L k) = 0
    · exact sc_leaf1 hq w hk hp (by omega) hfl h48 hv
    · have h1 : k + 1 < X.n := by
        rcases sc_p3 (X.L k) with q | q | q
        · exact absurd q hp
        · exact (w.cy.T.p1 hk q).1
        · exact (w.cy.T.p2 hk q).1
      have h0 := hI (k + 1) (by omega) h1
      rcases sc_p13 hp with q | q | q | q | q | q | q | q | q | q | q | q | q
      · exact sc_unary1 hq h0 w hk (Or.inl q) (by omega) hlev hh hfl h48 hv
      · exact sc_unary1 hq h0 w hk (Or.inr (Or.inl q)) (by omega) hlev hh hfl h48 hv
      · exact sc_unary1 hq h0 w hk (Or.inr (Or.inr (Or.inl q))) (by omega) hlev hh hfl h48 hv
      · exact sc_unary1 hq h0 w hk (Or.inr (Or.inr (Or.inr (Or.inl q)))) (by omega) hlev hh hfl h48 hv
      · exact sc_filt1 hq h0 w hk (Or.inl q) (by omega) hlev hh hfl h48 hv
      · exact sc_chain1 hq hI w hk q (by omega) hlev hh hfl h48 hv
      · exact sc_drop1 hq h0 w hk q (hd k hk q) (by omega) hlev hh hfl h48 hv
      · exact sc_filt1 hq h0 w hk (Or.inr (Or.inl q)) (by omega) hlev hh hfl h48 hv
      · exact sc_unary1 hq h0 w hk (Or.inr (Or.inr (Or.inr (Or.inr q)))) (by omega) hlev hh hfl h48 hv
      · exact sc_take1 hq h0 w hk q (by omega) hlev hh hfl h48 hv
      · exact sc_filt1 hq h0 w hk (Or.inr (Or.inr q)) (by omega) hlev hh hfl h48 hv
      · exact sc_opener1 hq hI w hk q (by omega) hlev hh hfl h48 hv
      · exact sc_zip1 hq hI w hk q (by omega) hlev hh hfl h48 hv
theorem sc_steps1 {X : sc_X} {D np g : Nat} {σ τ : sf_S} (hq : X.q = 27) (hd : ∀ j, j < X.n → X.L j = 100 → 0 ≤ (X.f j).toInt) (w : sc_W X D np g σ τ) (hv : sc_Lv X sc_N1 D σ τ 0) (hfl : σ (sf_rn X.q) 5 = 0) : ∃ σ' τ' e np', sc_W X (D + e) np' g σ' τ' ∧ sc_fr (sc_RC X.q) σ σ' ∧ sc_fr sc_RM τ τ' ∧
    ((∃ kd, kd ≤ 2 ∧ dX8_step_R 42 0 0 (sc_w1 X σ) = some (nI (2 - kd), σ') ∧ dX12_steps τ = some (nI kd, τ') ∧ σ' (sf_rn X.q) 5 = 0 ∧ (kd = 0 → 1 ≤ e ∧ σ' X.q (sf_vl X.q) = τ' 0 46) ∧ (kd ≤ 1 → sc_Lv X sc_N1 (D + e) σ' τ' 0) ∧ (e = 0 → sc_tm X σ' X.n + sc_sk kd ≤ sc_tm X σ X.n)) ∨
     (dX8_step_R 42 0 0 (sc_w1 X σ) = some (3, σ') ∧ ¬ σ' (sf_rn X.q) 5 = 0 ∧ ∃ gv, dX12_steps τ = some (gv, τ'))) := by
  have n0 := w.cy.n0
  have hn4 := w.cy.n40
  have hF := sf_F_le
  obtain ⟨k1, k2, k3, k4, k5, k6⟩ := w.cy.ok
  have w1 : sc_W X D np g (sc_w1 X σ) (sf_up (sc_w2 τ) 0 48 0) := w.work.light sc_fr_rf (sc_fr_up (by simp [sc_LM]))
  have hO : sc_Out X 0 0 σ τ (sc_w1 X σ) (sf_up (sc_w2 τ) 0 48 0) := fun b hb => by
    obtain ⟨a1, a2, a3, a4, a5, a6⟩ := sc_w_Out (X := X) (σ := σ) (τ := τ) (lo := 0) (hi := 0) w.cy.ok b (by omega)
    exact ⟨a1, a2, by rw [sc_upK (by decide)]; exact a3, a4, by rw [sc_upK (by decide)]; exact a5, a6⟩
  have tms : sc_tm X (sc_w1 X σ) X.n ≤ sc_tm X σ X.n := sc_tm_same _ (fun j hj => (hO j (by omega)).2.1)
  obtain ⟨σ', τ', e, np', j, q2, -, q4, q5, -, -, q8, -, q9⟩ := sc_step1 hq hd X.n 0 (by omega) n0 42 0 0 D np g (sc_w1 X σ) (sf_up (sc_w2 τ) 0 48 0) (by omega) (by omega) (by omega) w1 (hv.same1 w.cy n0 hO) (by rw [sc_w1, sc_upJ (by omega)]; exact hfl) sc_upS
  refine ⟨σ', τ', e, np', q2, sc_fr_tr (sc_fr_up (by simp [sc_RC])) q4, sc_fr_tr (sc_fr_tr (sc_fr_up (by simp [sc_RM])) (sc_fr_up (by simp [sc_RM]))) q5, ?_⟩
  rcases q9 with ⟨kd, b1, b2, b3, b4, b5, b6, b7⟩ | ⟨b1, b2, gv, b3⟩
  · refine Or.inl ⟨kd, b1, b2, ?_, b3, b5, b6, fun q => by have := b7 q; omega⟩
    have := b4 sf_F 0 (by omega) (by omega)
    unfold dX12_steps
    show dX12_steps_21 sf_F (nI 0) (-1) (nI 0) (sf_up (sc_w2 τ) 0 48 0) = _
    rw [this]
    obtain ⟨F', hF'⟩ : ∃ F', sf_F - j = F' + 1 := ⟨sf_F - j - 1, by omega⟩
    rw [hF']
    unfold dX12_steps_176
    rw [if_pos (show nI 0 + -1 < 0 by decide)]
  · refine Or.inr ⟨b1, b2, gv, ?_⟩
    exact b3 sf_F 0 (by omega) (by omega)
