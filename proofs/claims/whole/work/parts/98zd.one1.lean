/-! way 1: producers, and the nodes with one pipe -/
theorem sc_gv2 {σ : sf_S} : dX8_given (sc_b true) σ = some (2, σ) := by
  unfold dX8_given
  rw [if_neg (show ¬ sc_b true = 0 by decide)]
theorem sc_gv0 {σ : sf_S} (h : σ 19 5 = 0) : dX8_given (sc_b false) σ = some (0, σ) := by
  unfold dX8_given
  rw [if_pos (show sc_b false = 0 from rfl), sc_failed h]
  rfl
theorem sc_gv3 {σ : sf_S} (h : ¬ σ 19 5 = 0) : dX8_given (sc_b false) σ = some (3, σ) := by
  unfold dX8_given
  rw [if_pos (show sc_b false = 0 from rfl), sc_failed1 h]
  rfl
theorem sc_il0 {c : Int32} (h : sc_il c = true) (hp : sc_p c = 0) : c = 105 ∨ c = 114 ∨ c = 115 ∨ c = 117 ∨ c = 118 := by
  rw [sc_il, decide_eq_true_eq] at h
  rcases h with q | q | q | q | q | q
  · exact Or.inl q
  · exact Or.inr (Or.inl q)
  · exact Or.inr (Or.inr (Or.inl q))
  · exact Or.inr (Or.inr (Or.inr (Or.inl q)))
  · exact Or.inr (Or.inr (Or.inr (Or.inr q)))
  · omega
theorem sc_leaf1 {X : sc_X} {D np g h k m lev : Nat} {σ τ : sf_S} (hq : X.q = 27) (w : sc_W X D np g σ τ) (hk : k < X.n) (hp : sc_p (X.L k) = 0) (hlev : lev ≤ 40) (hfl : σ (sf_rn X.q) 5 = 0) (h48 : τ 0 48 = nI h) (hv : sc_Lv X sc_N1 D σ τ k) : sc_P1 X k h D np g σ τ (dX8_step_R (m + 1) (nI k) (nI lev) σ) := by
  obtain ⟨k1, k2, k3, k4, k5, k6⟩ := w.cy.ok
  obtain ⟨g1, g2, g3, g4⟩ := sc_r27 hq
  obtain ⟨r1, -, -, -⟩ := w.cy.r1 k hk
  have hn4 := w.cy.n40
  obtain ⟨⟨u, hu, hus, hnp, -⟩, -, -⟩ := hv.inv
  have hE := w.cy.T.p0 hk hp
  have P := sc_prod w g4 hk hp (u := u) hus hu hfl hnp
  rw [sc_stP hq w.cy hk hlev m (sc_il0 (w.cy.vn k hk).1 hp)]
  obtain ⟨r, σ', τ', dl, x1, y1, w', f1, f2, c⟩ := P
  rw [hq] at x1
  rw [x1]
  simp only [Option.bind_some]
  have F1 := sc_pC_RC w.cy.ok f1
  have hO : sc_Out X k (X.E k) σ τ σ' τ' := fun b hb => by
    refine ⟨f1 _ _ ?_, f1 _ _ ?_, f2 _ _ ?_, f1 _ _ ?_, f2 _ _ ?_, f1 _ _ ?_⟩
    all_goals first | (simp [sc_pCx]; omega) | (simp [sc_pMx]; omega) | simp [sc_pMx]
  have h48' : τ' 0 48 = nI h := by rw [f2 _ _ (by simp [sc_pMx])]; exact h48
  have hwk : σ' (sf_rn X.q) 3 = σ (sf_rn X.q) 3 := f1 _ _ (by simp [sc_pCx]; omega)
  have down : ∀ N t, t ≤ k → 42 ≤ N + k → dX12_steps_21 N (nI k) (-1) (nI t) τ = if τ' 0 45 = 0 then dX12_steps_176 sf_F (nI 2) (nI h + -1) τ' else dX12_steps_176 sf_F (nI 0) (nI h + -1) τ' := fun N t ht hN => by
    obtain ⟨N, rfl⟩ : ∃ N', N = N' + 1 + 1 := ⟨N - 2, by omega⟩
    conv => lhs; unfold dX12_steps_21
    rw [if_neg (show ¬ (41 : Int32) ≤ nI t from nI_ge (b := 41) (by omega) (by decide)), if_neg (show ¬ ¬ (-1 : Int32) = -1 by decide)]
    simp only [w.cy.nin hk, if_true, w.cy.ncl hk]
    rw [r1, sc_partsM, if_pos (w.cy.vn k hk).1]
    simp only [Option.bind_some]
    rw [hp, if_neg (show ¬ ¬ nI 0 = 0 by decide), y1]
    simp only [Option.bind_some]
    rw [← h48']
    by_cases q : τ' 0 45 = 0
    · rw [if_pos q, if_pos q]
      exact sc_fi1 (kd := 2) (by omega)
    · rw [if_neg q, if_neg q]
      exact sc_fi1 (kd := 0) (by omega)
  have tms : sc_tm X σ' X.n ≤ sc_tm X σ X.n := sc_tm_same _ (fun j hj => f1 _ _ (by simp [sc_pCx]; omega))
  have rest : ∀ b : Bool, b = true → True := fun _ _ => trivial
  rcases c with ⟨rfl, d1, b1, b2, b3, b4, b5⟩ | ⟨rfl, d1, b1, b2, b3⟩ | ⟨rfl, d1, b1⟩
  · rw [sc_gv2]
    refine ⟨σ', τ', dl, np, 0, w', by omega, F1, sc_pM_RM f2, hO, fun i hi => f2 _ _ (by simp [sc_pMx]), by omega, hwk, Or.inl ⟨0, by omega, rfl, b3, fun N t h1 h2 => ?_, fun _ => ⟨by omega, b4⟩, fun _ => sc_Lv.mk ?_ (fun q => by have := sc_a1_p q; omega) (fun q => by omega), fun q => by omega⟩⟩
    · rw [down N t h1 h2, if_neg (by rw [b5]; decide)]; rfl
    · unfold sc_Nat
      have hnx := sc_pv0 hp
      rw [f1 (X.q + 3) _ (by simp [sc_pCx]; omega), f2 25 (X.o k).toNatClampNeg (by simp [sc_pMx])]
      refine ⟨u + 1, by omega, b1, b2, fun q => absurd q (hnx _ (by decide +kernel)), fun q => absurd q (hnx _ (by decide +kernel)), fun q => ?_, fun q => absurd q (hnx _ (by decide +kernel))⟩
      rcases q with q | q <;> exact absurd q (hnx _ (by decide +kernel))
  · rw [g2] at b1
    rw [sc_gv0 b1]
    refine ⟨σ', τ', dl, np, 0, w', by omega, F1, sc_pM_RM f2, hO, fun i hi => f2 _ _ (by simp [sc_pMx]), by omega, hwk, Or.inl ⟨2, by omega, rfl, by rw [g2]; exact b1, fun N t h1 h2 => ?_, fun q => by omega, fun q => by omega, fun q => ?_⟩⟩
    · rw [down N t h1 h2, if_pos b2]; rfl
    · rw [show sc_sk 2 = 0 from rfl]; omega
  · have b9 := b1
    rw [g2] at b9
    rw [sc_gv3 b9]
    have h35 : ¬ τ' 0 35 = 0 := by rw [← w'.fl]; exact b1
    refine ⟨σ', τ', dl, np, 0, w', by omega, F1, sc_pM_RM f2, hO, fun i hi => f2 _ _ (by simp [sc_pMx]), by omega, hwk, Or.inr ⟨rfl, b1, ?_⟩⟩
    by_cases q : τ' 0 45 = 0
    · exact ⟨nI 2, fun N t h1 h2 => by rw [down N t h1 h2, if_pos q, sc_fin3 h35]⟩
    · exact ⟨nI 0, fun N t h1 h2 => by rw [down N t h1 h2, if_neg q, sc_fin3 h35]⟩
theorem sc_s34n {G : Int32 → Int32 → sf_S → Option (Int32 × sf_S)} {k lev : Nat} {σ σ' : sf_S} {c : Int32} (x1 : G (nI (k + 1)) (nI (lev + 1)) σ = some (c, σ')) (hc : c ≠ 2) : dX8_stepOne_34 G (nI k) (nI lev) σ = some (c, σ') := by
  unfold dX8_stepOne_34
  rw [nI_1, nI_1, x1]
  simp only [Option.bind_some]
  rw [if_neg hc]
theorem sc_cd {kd : Nat} (h1 : 1 ≤ kd) (h2 : kd ≤ 2) : nI (2 - kd) ≠ 2 := fun q => by
  have := (nI_eq (a := 2 - kd) (b := 2) (by omega) (by omega)).mp q
  omega
/-- a child's outcome passed on -/
theorem sc_pon {X : sc_X} {k h D np g e kd j : Nat} {σ0 τ0 σ τ : sf_S} (hk : k < X.n) (hh : h ≤ k) (h1 : X.L k ≠ 99) (h2 : X.L k ≠ 120) (hM : sc_M1 X k h D np g e kd j σ0 τ0 σ τ) (hkd : 1 ≤ kd) (hkd2 : kd ≤ 2) (hL : kd ≤ 1 → sc_Lv X sc_N1 (D + e) σ τ k) (ht : e = 0 → sc_tm X σ X.n + sc_sk kd ≤ sc_tm X σ0 X.n) : sc_P1 X k h D np g σ0 τ0 (some (nI (2 - kd), σ)) := by
  obtain ⟨⟨np', w, -⟩, -⟩ := id hM
  exact sc_ret1 hk hh hM (sc_afN w.cy hk h1 h2 hkd hkd2) sc_fr_rf sc_fr_rf hkd2 (fun q => by omega) hL ht
def sc_o1 (c : Int32) : Prop := c = 100 ∨ c = 107 ∨ c = 108 ∨ c = 116 ∨ c = 119 ∨ c = 37 ∨ c = 42 ∨ c = 43 ∨ c = 47 ∨ c = 63
theorem sc_o1_f {c : Int32} (h : sc_o1 c) : sc_p c = 1 ∧ c ≠ 99 ∧ c ≠ 120 ∧ c ≠ 122 := by
  rcases h with q | q | q | q | q | q | q | q | q | q <;> rw [q] <;> decide +kernel
/-- the child of a node with one pipe -/
theorem sc_kidO {X : sc_X} {k h D np g m lev : Nat} {σ τ : sf_S} (hI : sc_I1 X (k + 1)) (w : sc_W X D np g σ τ) (hfl : σ (sf_rn X.q) 5 = 0) (hk : k < X.n) (hL : sc_o1 (X.L k)) (hm : 41 ≤ m + 1 + k) (hlev : lev ≤ k) (hh : h ≤ k) (h48 : τ 0 48 = nI h) (hv : sc_Lv X sc_N1 D σ τ k) (h116 : X.L k = 116 → ¬ τ 24 k = X.f k) :
    ∃ σ' τ' e, sc_Out X (k + 1) (X.E (k + 1)) σ τ σ' τ' ∧ ((∃ kd j, kd ≤ 2 ∧ dX8_step_R m (nI (k + 1)) (nI (lev + 1)) σ = some (nI (2 - kd), σ') ∧ sc_M1 X k h D np g e kd j σ τ σ' τ' ∧ (kd = 0 → 1 ≤ e ∧ σ' X.q (sf_vl X.q) = τ' 0 46) ∧ (kd ≤ 1 → sc_Lv X sc_N1 (D + e) σ' τ' (k + 1)) ∧ (e = 0 → sc_tm X σ' X.n + sc_sk kd ≤ sc_tm X σ X.n)) ∨
      (dX8_step_R m (nI (k + 1)) (nI (lev + 1)) σ = some (3, σ') ∧ sc_P1 X k h D np g σ τ (some (3, σ')))) := by
  obtain ⟨hp, z1, z2, z3⟩ := sc_o1_f hL
  obtain ⟨q1, q2⟩ := w.cy.T.p1 hk hp
  have q3 := (w.cy.T.lt q1).1
  obtain ⟨hN, l1, -⟩ := hv.inv
  refine sc_kid1 hI w hfl hk (by omega) (by omega) q3 q1 (by omega) (by omega) hh (l1 (Or.inl hp)) (fun N t ht => sc_dn1 w.cy hk (by omega) ht h48 hh h116 ?_)
  rw [if_neg (fun z => by
    rcases z.1 with z | z | z
    · exact z1 z
    · exact z2 z
    · exact z3 z), sc_ps, if_neg z2]
theorem sc_stO {X : sc_X} {D np g k m lev : Nat} {σ τ : sf_S} (hq : X.q = 27) (w : sc_W X D np g σ τ) (hk : k < X.n) (hlev : lev ≤ 40) (hL : sc_o1 (X.L k)) : dX8_step_R (m + 1) (nI k) (nI lev) σ = if ¬ X.L k = 116 then dX8_stepOne_34 (dX8_step_R m) (nI k) (nI lev) σ else if σ (X.q + 1) k < X.f k then dX8_stepOne_34 (dX8_step_R m) (nI k) (nI lev) σ else some (0, σ) := by
  obtain ⟨g1, g2, g3, g4⟩ := sc_r27 hq
  obtain ⟨c1, -, c3, -⟩ := w.cy.c1 k hk
  rw [g1] at c1 c3
  rw [sc_st1 hq w.cy hk hlev m hL]
  unfold dX8_stepOne
  simp only [w.cy.nin hk, if_true, w.cy.ncl hk]
  rw [show σ 2 k = X.L k from c1, show σ 4 k = X.f k from c3, hq]
