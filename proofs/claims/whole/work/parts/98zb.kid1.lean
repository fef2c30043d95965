/-! way 1: children, returns, producers -/
theorem sc_kid1 {X : sc_X} {k a h D np g m lev : Nat} {σ τ : sf_S} (hI : sc_I1 X a) (w : sc_W X D np g σ τ) (hfl : σ (sf_rn X.q) 5 = 0) (hk : k < X.n) (ha : k < a) (hE : X.E a ≤ X.E k) (haE : a < X.E a) (han : a < X.n) (hm : 41 ≤ m + a) (hlev : lev ≤ a) (hh : h ≤ k) (hL : sc_Lv X sc_N1 D σ τ a)
    (hdn : ∀ N t, t ≤ k → dX12_steps_21 (N + 1) (nI k) (-1) (nI t) τ = dX12_steps_21 N (nI a) (-1) (nI (t + 1)) (sf_up (sf_up τ 29 h (nI k)) 0 48 (nI (h + 1)))) :
    ∃ σ' τ' e, sc_Out X a (X.E a) σ τ σ' τ' ∧ ((∃ kd j, kd ≤ 2 ∧ dX8_step_R m (nI a) (nI lev) σ = some (nI (2 - kd), σ') ∧ sc_M1 X k h D np g e kd j σ τ σ' τ' ∧ (kd = 0 → 1 ≤ e ∧ σ' X.q (sf_vl X.q) = τ' 0 46) ∧ (kd ≤ 1 → sc_Lv X sc_N1 (D + e) σ' τ' a) ∧ (e = 0 → sc_tm X σ' X.n + sc_sk kd ≤ sc_tm X σ X.n)) ∨
      (dX8_step_R m (nI a) (nI lev) σ = some (3, σ') ∧ sc_P1 X k h D np g σ τ (some (3, σ')))) := by
  have hn4 := w.cy.n40
  have wp : sc_W X D np g σ (sf_up (sf_up τ 29 h (nI k)) 0 48 (nI (h + 1))) := w.light sc_fr_rf (sc_fr_tr (sc_fr_up (by simp [sc_LM])) (sc_fr_up (by simp [sc_LM])))
  have hO0 : sc_Out X 0 0 σ τ σ (sf_up (sf_up τ 29 h (nI k)) 0 48 (nI (h + 1))) := fun b hb => ⟨rfl, rfl, by rw [sc_upK (by decide), sc_upK (by decide)], rfl, by rw [sc_upK (by decide), sc_upK (by decide)], rfl⟩
  have hFp : sc_fr sc_RM τ (sf_up (sf_up τ 29 h (nI k)) 0 48 (nI (h + 1))) := sc_fr_tr (sc_fr_up (by simp [sc_RM])) (sc_fr_up (by simp [sc_RM]))
  obtain ⟨σ', τ', e, np', j, q1, q2, q3, q4, q5, q6, q7, q8, q9⟩ := hI m lev (h + 1) D np g σ _ hm hlev (by omega) wp (hL.same1 w.cy han hO0) hfl sc_upS
  have hle : (X.E a - a) * e ≤ (X.E k - (k + 1)) * e := Nat.mul_le_mul_right _ (by omega)
  have hle2 : (X.E a - a) * e ≤ (X.E k - k) * e := Nat.mul_le_mul_right _ (by omega)
  have hO1 : sc_Out X a (X.E a) σ τ σ' τ' := fun b hb => by
    obtain ⟨a1, a2, a3, a4, a5, a6⟩ := hO0 b (by omega)
    obtain ⟨b1, b2, b3, b4, b5, b6⟩ := q5 b hb
    exact ⟨b1.trans a1, b2.trans a2, b3.trans a3, b4.trans a4, b5.trans a5, b6.trans a6⟩
  have hO2 : sc_Out X k (X.E k) σ τ σ' τ' := hO1.wk (by omega) hE
  have h29 : ∀ i, i < h → τ' 29 i = τ 29 i := fun i hi => by
    rw [q6 i (by omega), sc_upK (by decide), sc_upJ (by omega)]
  have h29k : τ' 29 h = nI k := by rw [q6 h (by omega), sc_upK (by decide), sc_upS]
  have down : ∀ N t, t ≤ k → 42 ≤ N + k → ∃ N', 42 ≤ N' + a ∧ dX12_steps_21 N (nI k) (-1) (nI t) τ = dX12_steps_21 N' (nI a) (-1) (nI (t + 1)) (sf_up (sf_up τ 29 h (nI k)) 0 48 (nI (h + 1))) := fun N t ht hN => by
    obtain ⟨N', rfl⟩ : ∃ N', N = N' + 1 := ⟨N - 1, by omega⟩
    exact ⟨N', by omega, hdn N' t ht⟩
  refine ⟨σ', τ', e, hO1, ?_⟩
  rcases q9 with ⟨kd, b1, b2, b3, b4, b5, b6, b7⟩ | ⟨b1, b2, gv, b3⟩
  · refine Or.inl ⟨kd, j, b1, b2, ⟨⟨np', q1, by omega⟩, q3, sc_fr_tr hFp q4, hO2, h29, b3, h29k, by omega, q8, fun N t ht hN => ?_⟩, b5, b6, b7⟩
    obtain ⟨N', n1, n2⟩ := down N t ht hN
    rw [n2, b4 N' (t + 1) (by omega) n1, sc_idx]
  · refine Or.inr ⟨b1, σ', τ', e, np', 0, q1, by omega, q3, sc_fr_tr hFp q4, hO2, h29, by omega, q8, Or.inr ⟨rfl, b2, gv, fun N t ht hN => ?_⟩⟩
    obtain ⟨N', n1, n2⟩ := down N t ht hN
    rw [n2, b3 N' (t + 1) (by omega) n1]
theorem sc_ret1 {X : sc_X} {k h D np g e kd kd2 j : Nat} {σ0 τ0 σ τ σ1 τ1 : sf_S} (hk : k < X.n) (hh : h ≤ k) (hM : sc_M1 X k h D np g e kd j σ0 τ0 σ τ) (haf : dX12_after (nI k) (nI kd) τ = some (nI kd2, τ1)) (f1 : sc_fr (sc_oC X k) σ σ1) (f2 : sc_fr (sc_oM X k) τ τ1) (h2 : kd2 ≤ 2)
    (hv : kd2 = 0 → 1 ≤ e ∧ σ1 X.q (sf_vl X.q) = τ1 0 46) (hL : kd2 ≤ 1 → sc_Lv X sc_N1 (D + e) σ1 τ1 k) (ht : e = 0 → sc_tm X σ1 X.n + sc_sk kd2 ≤ sc_tm X σ0 X.n) : sc_P1 X k h D np g σ0 τ0 (some (nI (2 - kd2), σ1)) := by
  obtain ⟨⟨np', w, hn⟩, m2, m3, m4, m5, m6, m7, m8, m9, m10⟩ := hM
  obtain ⟨k1, k2, k3, k4, k5, k6⟩ := w.cy.ok
  have hn4 := w.cy.n40
  have hF := sf_F_le
  have hle : (X.E k - (k + 1)) * e ≤ (X.E k - k) * e := Nat.mul_le_mul_right _ (by omega)
  refine ⟨σ1, τ1, e, np', j + 1, w.light (sc_oC_L f1) (sc_oM_L f2), by omega, sc_fr_tr m2 (sc_LC_RC (sc_oC_L f1)), sc_fr_tr m3 (sc_LM_RM (sc_oM_L f2)), m4.tr (sc_k_Out f1 f2) (Nat.le_refl _) (Nat.le_refl _), fun i hi => ?_, by omega, ?_, Or.inl ⟨kd2, h2, rfl, ?_, fun N t h1 h3 => ?_, hv, hL, ht⟩⟩
  · rw [f2 _ _ (by simp [sc_oM])]; exact m5 i hi
  · rw [f1 _ _ (by simp [sc_oC]; omega)]; exact m9
  · rw [f1 _ _ (by simp [sc_oC]; omega)]; exact m6
  · rw [m10 N t h1 h3]
    obtain ⟨F', hF'⟩ : ∃ F', sf_F - j = F' + 1 := ⟨sf_F - j - 1, by omega⟩
    rw [hF', show sf_F - (j + 1) = F' by omega]
    conv => lhs; unfold dX12_steps_176
    rw [if_neg (nI_pos (by omega)), if_neg (show ¬ ¬ τ 0 35 = 0 by rw [← w.fl]; exact fun q => q m6), if_pos (sc_inI (show h < 41 by omega) (by omega)), sc_cl (show h < 2 ^ 31 by omega), m7, haf]
    rfl
theorem sc_bid (x : Option (Int32 × sf_S)) : (x.bind fun u => some (u.1, u.2)) = x := by
  cases x <;> rfl
theorem sc_fi1 {N kd : Nat} {x t : Int32} {τ : sf_S} (hkd : kd ≤ 2) : dX12_steps_21 (N + 1) x (nI kd) t τ = dX12_steps_176 sf_F (nI kd) (τ 0 48 + -1) τ := by
  have hm : ¬ nI kd = -1 := fun q => by
    have e := congrArg Int32.toInt q
    rw [nI_toInt (by omega), show (-1 : Int32).toInt = -1 from by decide] at e
    omega
  unfold dX12_steps_21
  simp only [show τ 0 48 - 1 = τ 0 48 + -1 from Int32.sub_eq_add_neg ..]
  rw [if_pos hm]
  split <;> rfl
theorem sc_fin3 {kd idx : Int32} {τ : sf_S} (h : ¬ τ 0 35 = 0) : dX12_steps_176 sf_F kd idx τ = some (kd, τ) := by
  have hF := sf_F_le
  obtain ⟨F, hF'⟩ : ∃ F, sf_F = F + 1 := ⟨sf_F - 1, by omega⟩
  rw [hF']
  unfold dX12_steps_176
  rw [if_pos h]
  split <;> rfl
theorem sc_st1 {X : sc_X} {σ τ : sf_S} {k lev : Nat} (hq : X.q = 27) (h : sc_Cy X σ τ) (hk : k < X.n) (hlev : lev ≤ 40) (m : Nat) (hL : X.L k = 100 ∨ X.L k = 107 ∨ X.L k = 108 ∨ X.L k = 116 ∨ X.L k = 119 ∨ X.L k = 37 ∨ X.L k = 42 ∨ X.L k = 43 ∨ X.L k = 47 ∨ X.L k = 63) : dX8_step_R (m + 1) (nI k) (nI lev) σ = dX8_stepOne (dX8_step_R m) (nI k) (nI lev) σ := by
  obtain ⟨g1, g2, g3, g4⟩ := sc_r27 hq
  have e := h.has hk
  rw [g1] at e
  have e2 : σ 2 k = X.L k := by have := (h.c1 k hk).1; rw [g1] at this; exact this
  show dX8_step (dX8_step_R m) (nI k) (nI lev) σ = _
  unfold dX8_step
  rw [e]
  simp only [Option.bind_some]
  rw [if_neg (show ¬ (1 : Int32) = 0 by decide), if_pos (show nI lev ≤ 40 from nI_le (b := 40) hlev (by decide)), if_pos (h.nin hk)]
  simp only [h.ncl hk]
  rw [e2]
  rcases hL with hL | hL | hL | hL | hL | hL | hL | hL | hL | hL
  · rw [hL, if_neg (show ¬ (100 : Int32) = 99 by decide), if_pos (show (100 : Int32) = 100 from rfl)]
    exact sc_bid _
  · rw [hL, if_neg (show ¬ (107 : Int32) = 99 by decide), if_neg (show ¬ (107 : Int32) = 100 by decide), if_neg (show ¬ (107 : Int32) = 101 by decide), if_neg (show ¬ (107 : Int32) = 102 by decide), if_neg (show ¬ (107 : Int32) = 103 by decide), if_neg (show ¬ (107 : Int32) = 104 by decide), if_neg (show ¬ (107 : Int32) = 105 by decide), if_neg (show ¬ (107 : Int32) = 106 by decide), if_pos (show (107 : Int32) = 107 from rfl)]
    exact sc_bid _
  · rw [hL, if_neg (show ¬ (108 : Int32) = 99 by decide), if_neg (show ¬ (108 : Int32) = 100 by decide), if_neg (show ¬ (108 : Int32) = 101 by decide), if_neg (show ¬ (108 : Int32) = 102 by decide), if_neg (show ¬ (108 : Int32) = 103 by decide), if_neg (show ¬ (108 : Int32) = 104 by decide), if_neg (show ¬ (108 : Int32) = 105 by decide), if_neg (show ¬ (108 : Int32) = 106 by decide), if_neg (show ¬ (108 : Int32) = 107 by decide), if_pos (show (108 : Int32) = 108 from rfl)]
    exact sc_bid _
  · rw [hL, if_neg (show ¬ (116 : Int32) = 99 by decide), if_neg (show ¬ (116 : Int32) = 100 by decide), if_neg (show ¬ (116 : Int32) = 101 by decide), if_neg (show ¬ (116 : Int32) = 102 by decide), if_neg (show ¬ (116 : Int32) = 103 by decide), if_neg (show ¬ (116 : Int32) = 104 by decide), if_neg (show ¬ (116 : Int32) = 105 by decide), if_neg (show ¬ (116 : Int32) = 106 by decide), if_neg (show ¬ (116 : Int32) = 107 by decide), if_neg (show ¬ (116 : Int32) = 108 by decide), if_neg (show ¬ (116 : Int32) = 109 by decide), if_neg (show ¬ (116 : Int32) = 110 by decide), if_neg (show ¬ (116 : Int32) = 111 by decide), if_neg (show ¬ (116 : Int32) = 112 by decide), if_neg (show ¬ (116 : Int32) = 113 by decide), if_neg (show ¬ (116 : Int32) = 114 by decide), if_neg (show ¬ (116 : Int32) = 115 by decide), if_pos (show (116 : Int32) = 116 from rfl)]
    exact sc_bid _
  · rw [hL, if_neg (show ¬ (119 : Int32) = 99 by decide), if_neg (show ¬ (119 : Int32) = 100 by decide), if_neg (show ¬ (119 : Int32) = 101 by decide), if_neg (show ¬ (119 : Int32) = 102 by decide), if_neg (show ¬ (119 : Int32) = 103 by decide), if_neg (show ¬ (119 : Int32) = 104 by decide), if_neg (show ¬ (119 : Int32) = 105 by decide), if_neg (show ¬ (119 : Int32) = 106 by decide), if_neg (show ¬ (119 : Int32) = 107 by decide), if_neg (show ¬ (119 : Int32) = 108 by decide), if_neg (show ¬ (119 : Int32) = 109 by decide), if_neg (show ¬ (119 : Int32) = 110 by decide), if_neg (show ¬ (119 : Int32) = 111 by decide), if_neg (show ¬ (119 : Int32) = 112 by decide), if_neg (show ¬ (119 : Int32) = 113 by decide), if_neg (show ¬ (119 : Int32) = 114 by decide), if_neg (show ¬ (119 : Int32) = 115 by decide), if_neg (show ¬ (119 : Int32) = 116 by decide), if_neg (show ¬ (119 : Int32) = 117 by decide), if_neg (show ¬ (119 : Int32) = 118 by decide), if_pos (show (119 : Int32) = 119 from rfl)]
    exact sc_bid _
  · rw [hL, if_neg (show ¬ (37 : Int32) = 99 by decide), if_neg (show ¬ (37 : Int32) = 100 by decide), if_neg (show ¬ (37 : Int32) = 101 by decide), if_neg (show ¬ (37 : Int32) = 102 by decide), if_neg (show ¬ (37 : Int32) = 103 by decide), if_neg (show ¬ (37 : Int32) = 104 by decide), if_neg (show ¬ (37 : Int32) = 105 by decide), if_neg (show ¬ (37 : Int32) = 106 by decide), if_neg (show ¬ (37 : Int32) = 107 by decide), if_neg (show ¬ (37 : Int32) = 108 by decide), if_neg (show ¬ (37 : Int32) = 109 by decide), if_neg (show ¬ (37 : Int32) = 110 by decide), if_neg (show ¬ (37 : Int32) = 111 by decide), if_neg (show ¬ (37 : Int32) = 112 by decide), if_neg (show ¬ (37 : Int32) = 113 by decide), if_neg (show ¬ (37 : Int32) = 114 by decide), if_neg (show ¬ (37 : Int32) = 115 by decide), if_neg (show ¬ (37 : Int32) = 116 by decide), if_neg (show ¬ (37 : Int32) = 117 by decide), if_neg (show ¬ (37 : Int32) = 118 by decide), if_neg (show ¬ (37 : Int32) = 119 by decide), if_neg (show ¬ (37 : Int32) = 120 by decide), if_neg (show ¬ (37 : Int32) = 121 by decide), if_neg (show ¬ (37 : Int32) = 122 by decide)]
    exact sc_bid _
  · rw [hL, if_neg (show ¬ (42 : Int32) = 99 by decide), if_neg (show ¬ (42 : Int32) = 100 by decide), if_neg (show ¬ (42 : Int32) = 101 by decide), if_neg (show ¬ (42 : Int32) = 102 by decide), if_neg (show ¬ (42 : Int32) = 103 by decide), if_neg (show ¬ (42 : Int32) = 104 by decide), if_neg (show ¬ (42 : Int32) = 105 by decide), if_neg (show ¬ (42 : Int32) = 106 by decide), if_neg (show ¬ (42 : Int32) = 107 by decide), if_neg (show ¬ (42 : Int32) = 108 by decide), if_neg (show ¬ (42 : Int32) = 109 by decide), if_neg (show ¬ (42 : Int32) = 110 by decide), if_neg (show ¬ (42 : Int32) = 111 by decide), if_neg (show ¬ (42 : Int32) = 112 by decide), if_neg (show ¬ (42 : Int32) = 113 by decide), if_neg (show ¬ (42 : Int32) = 114 by decide), if_neg (show ¬ (42 : Int32) = 115 by decide), if_neg (show ¬ (42 : Int32) = 116 by decide), if_neg (show ¬ (42 : Int32) = 117 by decide), if_neg (show ¬ (42 : Int32) = 118 by decide), if_neg (show ¬ (42 : Int32) = 119 by decide), if_neg (show ¬ (42 : Int32) = 120 by decide), if_neg (show ¬ (42 : Int32) = 121 by decide), if_neg (show ¬ (42 : Int32) = 122 by decide)]
    exact sc_bid _
  · rw [hL, if_neg (show ¬ (43 : Int32) = 99 by decide), if_neg (show ¬ (43 : Int32) = 100 by decide), if_neg (show ¬ (43 : Int32) = 101 by decide), if_neg (show ¬ (43 : Int32) = 102 by decide), if_neg (show ¬ (43 : Int32) = 103 by decide), if_neg (show ¬ (43 : Int32) = 104 by decide), if_neg (show ¬ (43 : Int32) = 105 by decide), if_neg (show ¬ (43 : Int32) = 106 by decide), if_neg (show ¬ (43 : Int32) = 107 by decide), if_neg (show ¬ (43 : Int32) = 108 by decide), if_neg (show ¬ (43 : Int32) = 109 by decide), if_neg (show ¬ (43 : Int32) = 110 by decide), if_neg (show ¬ (43 : Int32) = 111 by decide), if_neg (show ¬ (43 : Int32) = 112 by decide), if_neg (show ¬ (43 : Int32) = 113 by decide), if_neg (show ¬ (43 : Int32) = 114 by decide), if_neg (show ¬ (43 : Int32) = 115 by decide), if_neg (show ¬ (43 : Int32) = 116 by decide), if_neg (show ¬ (43 : Int32) = 117 by decide), if_neg (show ¬ (43 : Int32) = 118 by decide), if_neg (show ¬ (43 : Int32) = 119 by decide), if_neg (show ¬ (43 : Int32) = 120 by decide), if_neg (show ¬ (43 : Int32) = 121 by decide), if_neg (show ¬ (43 : Int32) = 122 by decide)]
    exact sc_bid _
  · rw [hL, if_neg (show ¬ (47 : Int32) = 99 by decide), if_neg (show ¬ (47 : Int32) = 100 by decide), if_neg (show ¬ (47 : Int32) = 101 by decide), if_neg (show ¬ (47 : Int32) = 102 by decide), if_neg (show ¬ (47 : Int32) = 103 by decide), if_neg (show ¬ (47 : Int32) = 104 by decide), if_neg (show ¬ (47 : Int32) = 105 by decide), if_neg (show ¬ (47 : Int32) = 106 by decide), if_neg (show ¬ (47 : Int32) = 107 by decide), if_neg (show ¬ (47 : Int32) = 108 by decide), if_neg (show ¬ (47 : Int32) = 109 by decide), if_neg (show ¬ (47 : Int32) = 110 by decide), if_neg (show ¬ (47 : Int32) = 111 by decide), if_neg (show ¬ (47 : Int32) = 112 by decide), if_neg (show ¬ (47 : Int32) = 113 by decide), if_neg (show ¬ (47 : Int32) = 114 by decide), if_neg (show ¬ (47 : Int32) = 115 by decide), if_neg (show ¬ (47 : Int32) = 116 by decide), if_neg (show ¬ (47 : Int32) = 117 by decide), if_neg (show ¬ (47 : Int32) = 118 by decide), if_neg (show ¬ (47 : Int32) = 119 by decide), if_neg (show ¬ (47 : Int32) = 120 by decide), if_neg (show ¬ (47 : Int32) = 121 by decide), if_neg (show ¬ (47 : Int32) = 122 by decide)]
    exact sc_bid _
  · rw [hL, if_neg (show ¬ (63 : Int32) = 99 by decide), if_neg (show ¬ (63 : Int32) = 100 by decide), if_neg (show ¬ (63 : Int32) = 101 by decide), if_neg (show ¬ (63 : Int32) = 102 by decide), if_neg (show ¬ (63 : Int32) = 103 by decide), if_neg (show ¬ (63 : Int32) = 104 by decide), if_neg (show ¬ (63 : Int32) = 105 by decide), if_neg (show ¬ (63 : Int32) = 106 by decide), if_neg (show ¬ (63 : Int32) = 107 by decide), if_neg (show ¬ (63 : Int32) = 108 by decide), if_neg (show ¬ (63 : Int32) = 109 by decide), if_neg (show ¬ (63 : Int32) = 110 by decide), if_neg (show ¬ (63 : Int32) = 111 by decide), if_neg (show ¬ (63 : Int32) = 112 by decide), if_neg (show ¬ (63 : Int32) = 113 by decide), if_neg (show ¬ (63 : Int32) = 114 by decide), if_neg (show ¬ (63 : Int32) = 115 by decide), if_neg (show ¬ (63 : Int32) = 116 by decide), if_neg (show ¬ (63 : Int32) = 117 by decide), if_neg (show ¬ (63 : Int32) = 118 by decide), if_neg (show ¬ (63 : Int32) = 119 by decide), if_neg (show ¬ (63 : Int32) = 120 by decide), if_neg (show ¬ (63 : Int32) = 121 by decide), if_neg (show ¬ (63 : Int32) = 122 by decide)]
    exact sc_bid _
theorem sc_stC {X : sc_X} {σ τ : sf_S} {k lev : Nat} (hq : X.q = 27) (h : sc_Cy X σ τ) (hk : k < X.n) (hlev : lev ≤ 40) (m : Nat) (hL : X.L k = 99) : dX8_step_R (m + 1) (nI k) (nI lev) σ = dX8_stepChain (dX8_step_R m) (nI k) (nI lev) σ := by
  obtain ⟨g1, g2, g3, g4⟩ := sc_r27 hq
  have e := h.has hk
  rw [g1] at e
  have e2 : σ 2 k = X.L k := by have := (h.c1 k hk).1; rw [g1] at this; exact this
  show dX8_step (dX8_step_R m) (nI k) (nI lev) σ = _
  unfold dX8_step
  rw [e]
  simp only [Option.bind_some]
  rw [if_neg (show ¬ (1 : Int32) = 0 by decide), if_pos (show nI lev ≤ 40 from nI_le (b := 40) hlev (by decide)), if_pos (h.nin hk)]
  simp only [h.ncl hk]
  rw [e2]
  rw [hL, if_pos (show (99 : Int32) = 99 from rfl)]
  exact sc_bid _
theorem sc_stX {X : sc_X} {σ τ : sf_S} {k lev : Nat} (hq : X.q = 27) (h : sc_Cy X σ τ) (hk : k < X.n) (hlev : lev ≤ 40) (m : Nat) (hL : X.L k = 120) : dX8_step_R (m + 1) (nI k) (nI lev) σ = dX8_stepOpener (dX8_step_R m) (nI k) (nI lev) σ := by
  obtain ⟨g1, g2, g3, g4⟩ := sc_r27 hq
  have e := h.has hk
  rw [g1] at e
  have e2 : σ 2 k = X.L k := by have := (h.c1 k hk).1; rw [g1] at this; exact this
  show dX8_step (dX8_step_R m) (nI k) (nI lev) σ = _
  unfold dX8_step
  rw [e]
  simp only [Option.bind_some]
  rw [if_neg (show ¬ (1 : Int32) = 0 by decide), if_pos (show nI lev ≤ 40 from nI_le (b := 40) hlev (by decide)), if_pos (h.nin hk)]
  simp only [h.ncl hk]
  rw [e2]
  rw [hL, if_neg (show ¬ (120 : Int32) = 99 by decide), if_neg (show ¬ (120 : Int32) = 100 by decide), if_neg (show ¬ (120 : Int32) = 101 by decide), if_neg (show ¬ (120 : Int32) = 102 by decide), if_neg (show ¬ (120 : Int32) = 103 by decide), if_neg (show ¬ (120 : Int32) = 104 by decide), if_neg (show ¬ (120 : Int32) = 105 by decide), if_neg (show ¬ (120 : Int32) = 106 by decide), if_neg (show ¬ (120 : Int32) = 107 by decide), if_neg (show ¬ (120 : Int32) = 108 by decide), if_neg (show ¬ (120 : Int32) = 109 by decide), if_neg (show ¬ (120 : Int32) = 110 by decide), if_neg (show ¬ (120 : Int32) = 111 by decide), if_neg (show ¬ (120 : Int32) = 112 by decide), if_neg (show ¬ (120 : Int32) = 113 by decide), if_neg (show ¬ (120 : Int32) = 114 by decide), if_neg (show ¬ (120 : Int32) = 115 by decide), if_neg (show ¬ (120 : Int32) = 116 by decide), if_neg (show ¬ (120 : Int32) = 117 by decide), if_neg (show ¬ (120 : Int32) = 118 by decide), if_neg (show ¬ (120 : Int32) = 119 by decide), if_pos (show (120 : Int32) = 120 from rfl)]
  exact sc_bid _
theorem sc_stZ {X : sc_X} {σ τ : sf_S} {k lev : Nat} (hq : X.q = 27) (h : sc_Cy X σ τ) (hk : k < X.n) (hlev : lev ≤ 40) (m : Nat) (hL : X.L k = 122) : dX8_step_R (m + 1) (nI k) (nI lev) σ = dX8_stepZip (dX8_step_R m) (nI k) (nI lev) σ := by
  obtain ⟨g1, g2, g3, g4⟩ := sc_r27 hq
  have e := h.has hk
  rw [g1] at e
  have e2 : σ 2 k = X.L k := by have := (h.c1 k hk).1; rw [g1] at this; exact this
  show dX8_step (dX8_step_R m) (nI k) (nI lev) σ = _
  unfold dX8_step
  rw [e]
  simp only [Option.bind_some]
  rw [if_neg (show ¬ (1 : Int32) = 0 by decide), if_pos (show nI lev ≤ 40 from nI_le (b := 40) hlev (by decide)), if_pos (h.nin hk)]
  simp only [h.ncl hk]
  rw [e2]
  rw [hL, if_neg (show ¬ (122 : Int32) = 99 by decide), if_neg (show ¬ (122 : Int32) = 100 by decide), if_neg (show ¬ (122 : Int32) = 101 by decide), if_neg (show ¬ (122 : Int32) = 102 by decide), if_neg (show ¬ (122 : Int32) = 103 by decide), if_neg (show ¬ (122 : Int32) = 104 by decide), if_neg (show ¬ (122 : Int32) = 105 by decide), if_neg (show ¬ (122 : Int32) = 106 by decide), if_neg (show ¬ (122 : Int32) = 107 by decide), if_neg (show ¬ (122 : Int32) = 108 by decide), if_neg (show ¬ (122 : Int32) = 109 by decide), if_neg (show ¬ (122 : Int32) = 110 by decide), if_neg (show ¬ (122 : Int32) = 111 by decide), if_neg (show ¬ (122 : Int32) = 112 by decide), if_neg (show ¬ (122 : Int32) = 113 by decide), if_neg (show ¬ (122 : Int32) = 114 by decide), if_neg (show ¬ (122 : Int32) = 115 by decide), if_neg (show ¬ (122 : Int32) = 116 by decide), if_neg (show ¬ (122 : Int32) = 117 by decide), if_neg (show ¬ (122 : Int32) = 118 by decide), if_neg (show ¬ (122 : Int32) = 119 by decide), if_neg (show ¬ (122 : Int32) = 120 by decide), if_neg (show ¬ (122 : Int32) = 121 by decide), if_pos (show (122 : Int32) = 122 from rfl)]
  exact sc_bid _
theorem sc_stP {X : sc_X} {σ τ : sf_S} {k lev : Nat} (hq : X.q = 27) (h : sc_Cy X σ τ) (hk : k < X.n) (hlev : lev ≤ 40) (m : Nat) (hL : X.L k = 105 ∨ X.L k = 114 ∨ X.L k = 115 ∨ X.L k = 117 ∨ X.L k = 118) : dX8_step_R (m + 1) (nI k) (nI lev) σ = (dX9_produce 27 (nI k) σ).bind fun u => dX8_given u.1 u.2 := by
  obtain ⟨g1, g2, g3, g4⟩ := sc_r27 hq
  have e := h.has hk
  rw [g1] at e
  have e2 : σ 2 k = X.L k := by have := (h.c1 k hk).1; rw [g1] at this; exact this
  show dX8_step (dX8_step_R m) (nI k) (nI lev) σ = _
  unfold dX8_step
  rw [e]
  simp only [Option.bind_some]
  rw [if_neg (show ¬ (1 : Int32) = 0 by decide), if_pos (show nI lev ≤ 40 from nI_le (b := 40) hlev (by decide)), if_pos (h.nin hk)]
  simp only [h.ncl hk]
  rw [e2]
  rcases hL with hL | hL | hL | hL | hL
  · rw [hL, if_neg (show ¬ (105 : Int32) = 99 by decide), if_neg (show ¬ (105 : Int32) = 100 by decide), if_neg (show ¬ (105 : Int32) = 101 by decide), if_neg (show ¬ (105 : Int32) = 102 by decide), if_neg (show ¬ (105 : Int32) = 103 by decide), if_neg (show ¬ (105 : Int32) = 104 by decide), if_pos (show (105 : Int32) = 105 from rfl)]
    simp only [sc_bid]
  · rw [hL, if_neg (show ¬ (114 : Int32) = 99 by decide), if_neg (show ¬ (114 : Int32) = 100 by decide), if_neg (show ¬ (114 : Int32) = 101 by decide), if_neg (show ¬ (114 : Int32) = 102 by decide), if_neg (show ¬ (114 : Int32) = 103 by decide), if_neg (show ¬ (114 : Int32) = 104 by decide), if_neg (show ¬ (114 : Int32) = 105 by decide), if_neg (show ¬ (114 : Int32) = 106 by decide), if_neg (show ¬ (114 : Int32) = 107 by decide), if_neg (show ¬ (114 : Int32) = 108 by decide), if_neg (show ¬ (114 : Int32) = 109 by decide), if_neg (show ¬ (114 : Int32) = 110 by decide), if_neg (show ¬ (114 : Int32) = 111 by decide), if_neg (show ¬ (114 : Int32) = 112 by decide), if_neg (show ¬ (114 : Int32) = 113 by decide), if_pos (show (114 : Int32) = 114 from rfl)]
    simp only [sc_bid]
  · rw [hL, if_neg (show ¬ (115 : Int32) = 99 by decide), if_neg (show ¬ (115 : Int32) = 100 by decide), if_neg (show ¬ (115 : Int32) = 101 by decide), if_neg (show ¬ (115 : Int32) = 102 by decide), if_neg (show ¬ (115 : Int32) = 103 by decide), if_neg (show ¬ (115 : Int32) = 104 by decide), if_neg (show ¬ (115 : Int32) = 105 by decide), if_neg (show ¬ (115 : Int32) = 106 by decide), if_neg (show ¬ (115 : Int32) = 107 by decide), if_neg (show ¬ (115 : Int32) = 108 by decide), if_neg (show ¬ (115 : Int32) = 109 by decide), if_neg (show ¬ (115 : Int32) = 110 by decide), if_neg (show ¬ (115 : Int32) = 111 by decide), if_neg (show ¬ (115 : Int32) = 112 by decide), if_neg (show ¬ (115 : Int32) = 113 by decide), if_neg (show ¬ (115 : Int32) = 114 by decide), if_pos (show (115 : Int32) = 115 from rfl)]
    simp only [sc_bid]
  · rw [hL, if_neg (show ¬ (117 : Int32) = 99 by decide), if_neg (show ¬ (117 : Int32) = 100 by decide), if_neg (show ¬ (117 : Int32) = 101 by decide), if_neg (show ¬ (117 : Int32) = 102 by decide), if_neg (show ¬ (117 : Int32) = 103 by decide), if_neg (show ¬ (117 : Int32) = 104 by decide), if_neg (show ¬ (117 : Int32) = 105 by decide), if_neg (show ¬ (117 : Int32) = 106 by decide), if_neg (show ¬ (117 : Int32) = 107 by decide), if_neg (show ¬ (117 : Int32) = 108 by decide), if_neg (show ¬ (117 : Int32) = 109 by decide), if_neg (show ¬ (117 : Int32) = 110 by decide), if_neg (show ¬ (117 : Int32) = 111 by decide), if_neg (show ¬ (117 : Int32) = 112 by decide), if_neg (show ¬ (117 : Int32) = 113 by decide), if_neg (show ¬ (117 : Int32) = 114 by decide), if_neg (show ¬ (117 : Int32) = 115 by decide), if_neg (show ¬ (117 : Int32) = 116 by decide), if_pos (show (117 : Int32) = 117 from rfl)]
    simp only [sc_bid]
  · rw [hL, if_neg (show ¬ (118 : Int32) = 99 by decide), if_neg (show ¬ (118 : Int32) = 100 by decide), if_neg (show ¬ (118 : Int32) = 101 by decide), if_neg (show ¬ (118 : Int32) = 102 by decide), if_neg (show ¬ (118 : Int32) = 103 by decide), if_neg (show ¬ (118 : Int32) = 104 by decide), if_neg (show ¬ (118 : Int32) = 105 by decide), if_neg (show ¬ (118 : Int32) = 106 by decide), if_neg (show ¬ (118 : Int32) = 107 by decide), if_neg (show ¬ (118 : Int32) = 108 by decide), if_neg (show ¬ (118 : Int32) = 109 by decide), if_neg (show ¬ (118 : Int32) = 110 by decide), if_neg (show ¬ (118 : Int32) = 111 by decide), if_neg (show ¬ (118 : Int32) = 112 by decide), if_neg (show ¬ (118 : Int32) = 113 by decide), if_neg (show ¬ (118 : Int32) = 114 by decide), if_neg (show ¬ (118 : Int32) = 115 by decide), if_neg (show ¬ (118 : Int32) = 116 by decide), if_neg (show ¬ (118 : Int32) = 117 by decide), if_pos (show (118 : Int32) = 118 from rfl)]
    simp only [sc_bid]
