/-! way 1: the nodes with two pipes -/
theorem sc_N1_gen {c f s : Int32} {D u : Nat} {us tu ke op he hc hk : Int32} (hp : sc_p c = 2) (hu : u ≤ D) (hus : us = nI u) (hx : ∃ t : Bool, tu = sc_b t ∧ ke = sc_b t ∧ (c = 122 → t = true → hc = hk)) : sc_N1 c f s D us tu ke op he hc hk := by
  have z : ∀ x, sc_p x ≠ 2 → ¬ c = x := fun x q e => q (by rw [← e]; exact hp)
  obtain ⟨t, t1, t2, t3⟩ := hx
  refine ⟨u, hu, hus, ⟨fun q => absurd q (z _ (by decide +kernel)), fun q => absurd q (z _ (by decide +kernel)), fun q => ?_, fun q => ?_⟩, fun q => absurd q (z _ (by decide +kernel)), fun q => absurd q (z _ (by decide +kernel)), fun _ => ⟨t, t1, t2⟩, fun q => ⟨t, t1, t2, t3 q⟩⟩
  · rcases q with q | q | q <;> exact absurd q (z _ (by decide +kernel))
  · rcases q with q | q <;> exact absurd q (z _ (by decide +kernel))
theorem sc_cd0 {kd : Nat} (h2 : kd ≤ 1) : ¬ nI (2 - kd) = 0 := fun q => by
  have := (nI_eq (a := 2 - kd) (b := 0) (by omega) (by omega)).mp q
  omega
theorem sc_chain1 {X : sc_X} {D np g h k m lev : Nat} {σ τ : sf_S} (hq : X.q = 27) (hI : ∀ a, k < a → a < X.n → sc_I1 X a) (w : sc_W X D np g σ τ) (hk : k < X.n) (hL : X.L k = 99) (hm : 41 ≤ m + 1 + k) (hlev : lev ≤ k) (hh : h ≤ k) (hfl : σ (sf_rn X.q) 5 = 0) (h48 : τ 0 48 = nI h) (hv : sc_Lv X sc_N1 D σ τ k) : sc_P1 X k h D np g σ τ (dX8_step_R (m + 1) (nI k) (nI lev) σ) := by
  have hn4 := w.cy.n40
  have hp : sc_p (X.L k) = 2 := by rw [hL]; decide +kernel
  have hz : ∀ c, c ≠ 99 → X.L k ≠ c := fun c q e => q (by rw [← e]; exact hL)
  obtain ⟨p1, p2, p3, p4, p5⟩ := w.cy.T.p2 hk hp
  have q4 := (w.cy.T.lt hk).2
  obtain ⟨k1, k2, k3, k4, k5, k6⟩ := w.cy.ok
  obtain ⟨g1, g2, g3, g4⟩ := sc_r27 hq
  obtain ⟨hN, l1, l2⟩ := hv.inv
  obtain ⟨u, u1, u2, u3, u4, u5, u6, u7⟩ := id hN
  obtain ⟨t, t1, t2⟩ := u6 (Or.inl hL)
  have hps : sc_ps X.L X.E k = k + 1 := by rw [sc_ps, if_neg (hz 120 (by decide))]
  have hqs : sc_qs X.L X.E k = X.E (k + 1) := by rw [sc_qs, if_neg (hz 120 (by decide)), if_neg (by omega)]
  have tu29 : σ 29 k = sc_b t := by rw [hq] at t1; exact t1
  rw [sc_stC hq w.cy hk (by omega) m hL]
  unfold dX8_stepChain
  simp only [w.cy.nin hk, if_true, w.cy.ncl hk]
  cases t with
  | false =>
    rw [if_pos (show σ 29 k = 0 by rw [tu29]; rfl)]
    obtain ⟨σ', τ', e, ho, cs⟩ := sc_kid1 (m := m) (lev := lev + 1) (hI (k + 1) (by omega) p1) w hfl hk (by omega) (by omega) p2 p1 (by omega) (by omega) hh (l1 (Or.inr (Or.inr (Or.inl ⟨hL, t1⟩)))) (fun N t ht => sc_dn1 w.cy hk (by omega) ht h48 hh (fun q => absurd q (hz _ (by decide))) (by
      rw [if_neg (fun z => by rw [t2] at z; exact absurd z.2 (by decide)), hps]))
    have lvb := (l2 hp).f1 w.cy p3 (D' := D + e) (by omega) ho (sc_cl1 w.cy p1) (Or.inr (Nat.le_refl _))
    have hN2 := hN.t1 (D' := D + e) (by omega) ho (by omega) (by omega)
    have e1 : σ' (X.q + 1) k = nI u := by rw [(ho k (by omega)).1]; exact u2
    have e2 : σ' (X.q + 2) k = 0 := by rw [(ho k (by omega)).2.1]; exact t1
    have e3 : τ' 24 k = 0 := by rw [(ho k (by omega)).2.2.1]; exact t2
    rw [nI_1, nI_1]
    rcases cs with ⟨kd, j, hkd, x1, hM, hgv, hlv, ht⟩ | ⟨x1, hP⟩
    · obtain ⟨⟨np', w', -⟩, -⟩ := id hM
      rw [x1]
      simp only [Option.bind_some]
      by_cases h2 : kd = 2
      · subst h2
        rw [if_pos (show nI (2 - 2) = 0 from rfl), sc_narI1]
        have tmd : sc_tm X (sf_up σ' 29 k 1) X.n + 1 ≤ sc_tm X σ' X.n := by
          refine sc_tm_dec (k := k) ?_ ?_ X.n hk (fun j hj hne => ?_)
          · rw [sc_tb, if_pos (Or.inl ⟨hL, e2⟩)]
          · rw [sc_tb, if_neg]
            rintro (⟨-, z⟩ | ⟨z, -⟩)
            · rw [hq, sc_upS] at z; exact absurd z (by decide)
            · exact hz _ (by decide) z
          · unfold sc_tb
            rw [sc_upJ hne]; exact Nat.le_refl _
        refine sc_ret1 (kd2 := 1) hk hh hM (sc_afC3 w'.cy hk hL e3) (sc_fr_up ?_) (sc_fr_up ?_) (by omega) (fun q => by omega) (fun _ => sc_Lv.mk ?_ (fun q => ?_) (fun _ => ?_)) (fun q => ?_)
        · simp [sc_oC, hq]; rw [hq] at *; omega
        · simp [sc_oM]; omega
        · unfold sc_Nat
          rw [show sf_up σ' 29 k 1 (X.q + 2) k = 1 by rw [hq]; exact sc_upS, sc_upS]
          exact sc_N1_gen hp (show u ≤ _ by omega) (by rw [sc_upK (by omega)]; exact e1) ⟨true, rfl, rfl, fun q => absurd q (hz _ (by decide))⟩
        · rw [show sf_up σ' 29 k 1 (X.q + 2) k = 1 by rw [hq]; exact sc_upS] at q
          rcases q with q | q | ⟨-, q⟩ | ⟨q, -⟩
          · omega
          · exact absurd q (hz _ (by decide))
          · exact absurd q (by decide)
          · exact absurd q (hz _ (by decide))
        · exact lvb.f1 w.cy p3 (Nat.le_refl _) (lo := k) (hi := k + 1) (fun b hb => ⟨sc_upJ (by omega), sc_upJ (by omega), sc_upJ (by omega), sc_upJ (by omega), sc_upK (by decide), sc_upJ (by omega)⟩) (sc_cl0 (hz _ (by decide))) (Or.inr (by omega))
        · have := ht q
          rw [show sc_sk 2 = 0 from rfl] at this
          rw [show sc_sk 1 = 1 from rfl]
          omega
      · rw [if_neg (sc_cd0 (by omega))]
        exact sc_ret1 hk hh hM (sc_afC1 w'.cy hk hL (by omega)) sc_fr_rf sc_fr_rf hkd hgv (fun q => sc_Lv.mk hN2 (fun _ => hlv q) (fun _ => lvb)) ht
    · rw [x1]
      simp only [Option.bind_some]
      rw [if_neg (show ¬ (3 : Int32) = 0 by decide)]
      exact hP
  | true =>
    rw [if_neg (show ¬ σ 29 k = 0 by rw [tu29]; decide)]
    obtain ⟨σ', τ', e, ho, cs⟩ := sc_kid1 (m := m) (lev := lev + 1) (hI (X.E (k + 1)) (by omega) p3) w hfl hk (by omega) (by omega) (by omega) p3 (by omega) (by omega) hh (l2 hp) (fun N t ht => sc_dn1 w.cy hk (by omega) ht h48 hh (fun q => absurd q (hz _ (by decide))) (by
      rw [if_pos ⟨Or.inl hL, t2⟩, hqs]))
    have hN2 := hN.t1 (D' := D + e) (by omega) ho (by omega) (by omega)
    have e2 : σ' (X.q + 2) k = 1 := by rw [(ho k (by omega)).2.1]; exact t1
    have e3 : τ' 24 k = 1 := by rw [(ho k (by omega)).2.2.1]; exact t2
    have hs := w.cy.snd p1
    rw [g1] at hs
    rw [hs]
    simp only [Option.bind_some]
    rw [nI_1, sc_bid]
    rcases cs with ⟨kd, j, hkd, x1, hM, hgv, hlv, ht⟩ | ⟨x1, hP⟩
    · obtain ⟨⟨np', w', -⟩, -⟩ := id hM
      rw [x1]
      have hlk : kd ≤ 1 → sc_Lv X sc_N1 (D + e) σ' τ' k := fun z => sc_Lv.mk hN2 (fun q => by
        rw [e2] at q
        rcases q with q | q | ⟨-, q⟩ | ⟨q, -⟩
        · omega
        · exact absurd q (hz _ (by decide))
        · exact absurd q (by decide)
        · exact absurd q (hz _ (by decide))) (fun _ => hlv z)
      by_cases h2 : kd = 2
      · subst h2
        exact sc_ret1 (kd2 := 2) hk hh hM (sc_afC2 w'.cy hk hL e3) sc_fr_rf sc_fr_rf (by omega) (fun q => by omega) (fun q => by omega) ht
      · exact sc_ret1 hk hh hM (sc_afC1 w'.cy hk hL (by omega)) sc_fr_rf sc_fr_rf hkd hgv hlk ht
    · rw [x1]; exact hP
theorem sc_zip1 {X : sc_X} {D np g h k m lev : Nat} {σ τ : sf_S} (hq : X.q = 27) (hI : ∀ a, k < a → a < X.n → sc_I1 X a) (w : sc_W X D np g σ τ) (hk : k < X.n) (hL : X.L k = 122) (hm : 41 ≤ m + 1 + k) (hlev : lev ≤ k) (hh : h ≤ k) (hfl : σ (sf_rn X.q) 5 = 0) (h48 : τ 0 48 = nI h) (hv : sc_Lv X sc_N1 D σ τ k) : sc_P1 X k h D np g σ τ (dX8_step_R (m + 1) (nI k) (nI lev) σ) := by
  have hn4 := w.cy.n40
  have hp : sc_p (X.L k) = 2 := by rw [hL]; decide +kernel
  have hz : ∀ c, c ≠ 122 → X.L k ≠ c := fun c q e => q (by rw [← e]; exact hL)
  obtain ⟨p1, p2, p3, p4, p5⟩ := w.cy.T.p2 hk hp
  have q4 := (w.cy.T.lt hk).2
  obtain ⟨k1, k2, k3, k4, k5, k6⟩ := w.cy.ok
  obtain ⟨g1, g2, g3, g4⟩ := sc_r27 hq
  obtain ⟨hN, l1, l2⟩ := hv.inv
  obtain ⟨u, u1, u2, u3, u4, u5, u6, u7⟩ := id hN
  obtain ⟨t, t1, t2, t3⟩ := u7 hL
  have hps : sc_ps X.L X.E k = k + 1 := by rw [sc_ps, if_neg (hz 120 (by decide))]
  have hqs : sc_qs X.L X.E k = X.E (k + 1) := by rw [sc_qs, if_neg (hz 120 (by decide)), if_neg (by omega)]
  have tu29 : σ 29 k = sc_b t := by rw [hq] at t1; exact t1
  have lva := l1 (Or.inr (Or.inl hL))
  have lvb := l2 hp
  have cl := sc_cl0 (X := X) (hz 120 (by decide))
  rw [sc_stZ hq w.cy hk (by omega) m hL]
  unfold dX8_stepZip
  simp only [w.cy.nin hk, if_true, w.cy.ncl hk]
  cases t with
  | false =>
    rw [if_pos (show σ 29 k = 0 by rw [tu29]; rfl)]
    obtain ⟨σ', τ', e, ho, cs⟩ := sc_kid1 (m := m) (lev := lev + 1) (hI (k + 1) (by omega) p1) w hfl hk (by omega) (by omega) p2 p1 (by omega) (by omega) hh lva (fun N t ht => sc_dn1 w.cy hk (by omega) ht h48 hh (fun q => absurd q (hz _ (by decide))) (by
      rw [if_neg (fun z => by rw [t2] at z; exact absurd z.2 (by decide)), hps]))
    have lvb1 := lvb.f1 w.cy p3 (D' := D + e) (by omega) ho (sc_cl1 w.cy p1) (Or.inr (Nat.le_refl _))
    have hN2 := hN.t1 (D' := D + e) (by omega) ho (by omega) (by omega)
    have e1 : σ' (X.q + 1) k = nI u := by rw [(ho k (by omega)).1]; exact u2
    have e2 : σ' 29 k = 0 := by have := (ho k (by omega)).2.1; rw [hq] at this; rw [this, tu29]; rfl
    have e3 : τ' 24 k = 0 := by rw [(ho k (by omega)).2.2.1]; exact t2
    unfold dX8_stepZip_24
    rw [nI_1, nI_1]
    rcases cs with ⟨kd, j, hkd, x1, hM, hgv, hlv, ht⟩ | ⟨x1, hP⟩
    · obtain ⟨⟨np', w', -⟩, -⟩ := id hM
      rw [x1]
      simp only [Option.bind_some, w.cy.nin hk, if_true, w.cy.ncl hk]
      by_cases h0 : kd = 0
      · subst h0
        obtain ⟨he, hval⟩ := hgv rfl
        have hv6 : σ' 27 6 = τ' 0 46 := by rw [← hval, hq]; rfl
        rw [if_pos (show nI (2 - 0) = 2 from rfl), if_neg (show ¬ ¬ σ' 29 k = 0 by rw [e2]; decide)]
        unfold dX8_stepZip_57
        simp only [w.cy.nin hk, if_true, w.cy.ncl hk]
        rw [sc_narI1, if_neg (show ¬ sf_up σ' 29 k 1 29 k = 0 by rw [sc_upS]; decide), sc_upK (show (27 : Nat) ≠ 29 by decide), hv6]
        have hO2 : sc_Out X k (k + 1) σ' τ' (sf_up (sf_up σ' 29 k 1) 31 k (τ' 0 46)) (sf_up (sf_up τ' 25 k (τ' 0 46)) 24 k 1) := fun b hb => ⟨by rw [sc_upJ (by omega), sc_upJ (by omega)], by rw [sc_upJ (by omega), sc_upJ (by omega)], by rw [sc_upJ (by omega), sc_upJ (by omega)], by rw [sc_upJ (by omega), sc_upJ (by omega)], by rw [sc_upJ (by omega), sc_upJ (by omega)], by rw [sc_upJ (by omega), sc_upJ (by omega)]⟩
        refine sc_ret1 (kd2 := 1) hk hh hM (sc_afZ1 w'.cy hk hL e3) (sc_fr_tr (sc_fr_up ?_) (sc_fr_up ?_)) (sc_fr_tr (sc_fr_up ?_) (sc_fr_up ?_)) (by omega) (fun q => by omega) (fun _ => sc_Lv.mk ?_ (fun _ => ?_) (fun _ => ?_)) (fun q => by omega)
        · simp [sc_oC, hq]; rw [hq] at *; omega
        · simp [sc_oC, hq]; rw [hq] at *; omega
        · simp [sc_oM]; omega
        · simp [sc_oM]; omega
        · unfold sc_Nat
          rw [show sf_up (sf_up σ' 29 k 1) 31 k (τ' 0 46) (X.q + 2) k = 1 by rw [hq, sc_upK (by decide)]; exact sc_upS, show sf_up (sf_up σ' 29 k 1) 31 k (τ' 0 46) (X.q + 4) k = τ' 0 46 by rw [hq]; exact sc_upS, sc_upS, show sf_up (sf_up τ' 25 k (τ' 0 46)) 24 k 1 25 k = τ' 0 46 by rw [sc_upK (by decide), sc_upS]]
          exact sc_N1_gen hp (show u ≤ _ by omega) (by rw [sc_upK (by omega), sc_upK (by omega)]; exact e1) ⟨true, rfl, rfl, fun _ _ => rfl⟩
        · exact (hlv (by omega)).f1 w.cy p1 (Nat.le_refl _) hO2 cl (Or.inr (Nat.le_refl _))
        · exact lvb1.f1 w.cy p3 (Nat.le_refl _) hO2 cl (Or.inr (by omega))
      · rw [if_neg (sc_cd (by omega) hkd)]
        exact sc_pon hk hh (hz _ (by decide)) (hz _ (by decide)) hM (by omega) hkd (fun q => sc_Lv.mk hN2 (fun _ => hlv q) (fun _ => lvb1)) ht
    · rw [x1]
      simp only [Option.bind_some]
      rw [if_neg (show ¬ (3 : Int32) = 2 by decide)]
      exact hP
  | true =>
    rw [if_neg (show ¬ σ 29 k = 0 by rw [tu29]; decide)]
    obtain ⟨σ', τ', e, ho, cs⟩ := sc_kid1 (m := m) (lev := lev + 1) (hI (X.E (k + 1)) (by omega) p3) w hfl hk (by omega) (by omega) (by omega) p3 (by omega) (by omega) hh lvb (fun N t ht => sc_dn1 w.cy hk (by omega) ht h48 hh (fun q => absurd q (hz _ (by decide))) (by
      rw [if_pos ⟨Or.inr (Or.inr hL), t2⟩, hqs]))
    have lva1 := lva.f1 w.cy p1 (D' := D + e) (by omega) ho (sc_cl1 w.cy p3) (Or.inl (Nat.le_refl _))
    have hN2 := hN.t1 (D' := D + e) (by omega) ho (by omega) (by omega)
    have e1 : σ' (X.q + 1) k = nI u := by rw [(ho k (by omega)).1]; exact u2
    have e2 : σ' 29 k = 1 := by have := (ho k (by omega)).2.1; rw [hq] at this; rw [this, tu29]; rfl
    have e3 : τ' 24 k = 1 := by rw [(ho k (by omega)).2.2.1]; exact t2
    have e4 : σ' 31 k = τ' 25 k := by
      have b1 := (ho k (by omega)).2.2.2.2.2
      rw [(ho k (by omega)).2.2.2.2.1, ← t3 rfl, ← b1, hq]
    have hs := w.cy.snd p1
    rw [g1] at hs
    rw [hs]
    simp only [Option.bind_some]
    unfold dX8_stepZip_24
    rw [nI_1]
    rcases cs with ⟨kd, j, hkd, x1, hM, hgv, hlv, ht⟩ | ⟨x1, hP⟩
    · obtain ⟨⟨np', w', -⟩, -⟩ := id hM
      rw [x1]
      simp only [Option.bind_some, w.cy.nin hk, if_true, w.cy.ncl hk]
      by_cases h0 : kd = 0
      · subst h0
        obtain ⟨he, hval⟩ := hgv rfl
        have hv6 : σ' 27 6 = τ' 0 46 := by rw [← hval, hq]; rfl
        rw [if_pos (show nI (2 - 0) = 2 from rfl), if_pos (show ¬ σ' 29 k = 0 by rw [e2]; decide)]
        unfold dX8_stepZip_57
        simp only [w.cy.nin hk, if_true, w.cy.ncl hk]
        rw [sc_narI0, if_pos (show sf_up σ' 29 k 0 29 k = 0 by rw [sc_upS]), sc_upK (show (27 : Nat) ≠ 29 by decide), sc_upK (show (31 : Nat) ≠ 29 by decide), hv6, e4]
        have F1 : sc_fr (sc_oC X k) σ' (sf_up σ' 29 k 0) := sc_fr_up (by simp [sc_oC, hq]; rw [hq] at *; omega)
        have F2 : sc_fr (sc_oM X k) τ' (sf_up τ' 24 k 0) := sc_fr_up (by simp [sc_oM]; omega)
        have wl := w'.light (sc_oC_L F1) (sc_oM_L F2)
        obtain ⟨v, j1, j2⟩ := sc_joinE wl.cy hk (τ' 25 k) (τ' 0 46)
        rw [hq] at j1
        rw [j1]
        simp only [Option.bind_some]
        have hO2 : sc_Out X k (k + 1) σ' τ' (sf_up (sf_up σ' 29 k 0) 27 6 v) (sf_up (sf_up τ' 24 k 0) 0 46 v) := fun b hb => ⟨by rw [sc_upK (by omega), sc_upJ (by omega)], by rw [sc_upK (by omega), sc_upJ (by omega)], by rw [sc_upK (by decide), sc_upJ (by omega)], by rw [sc_upK (by omega), sc_upJ (by omega)], by rw [sc_upK (by decide), sc_upJ (by omega)], by rw [sc_upK (by omega), sc_upJ (by omega)]⟩
        refine sc_ret1 (kd2 := 0) hk hh hM (sc_afZ0 w'.cy hk hL e3 j2) (sc_fr_tr F1 (sc_fr_up ?_)) (sc_fr_tr F2 (sc_fr_up ?_)) (by omega) (fun _ => ⟨he, ?_⟩) (fun _ => sc_Lv.mk ?_ (fun _ => ?_) (fun _ => ?_)) (fun q => by omega)
        · simp [sc_oC, hq]; decide
        · simp [sc_oM]
        · rw [sc_upS, g3, hq, sc_upS]
        · unfold sc_Nat
          rw [show sf_up (sf_up σ' 29 k 0) 27 6 v (X.q + 2) k = 0 by rw [hq, sc_upK (by decide)]; exact sc_upS, show sf_up (sf_up τ' 24 k 0) 0 46 v 24 k = 0 by rw [sc_upK (by decide), sc_upS]]
          exact sc_N1_gen hp (show u ≤ _ by omega) (by rw [sc_upK (by omega), sc_upK (by omega)]; exact e1) ⟨false, rfl, rfl, fun _ z => absurd z (by decide)⟩
        · exact lva1.f1 w.cy p1 (Nat.le_refl _) hO2 cl (Or.inr (Nat.le_refl _))
        · exact (hlv (by omega)).f1 w.cy p3 (Nat.le_refl _) hO2 cl (Or.inr (by omega))
      · rw [if_neg (sc_cd (by omega) hkd)]
        exact sc_pon hk hh (hz _ (by decide)) (hz _ (by decide)) hM (by omega) hkd (fun q => sc_Lv.mk hN2 (fun _ => lva1) (fun _ => hlv q)) ht
    · rw [x1]
      simp only [Option.bind_some]
      rw [if_neg (show ¬ (3 : Int32) = 2 by decide)]
      exact hP
