/-! way 2: a row is made: what comes of it -/
def sc_mkC (X : sc_X) (k : Nat) : Nat → Nat → Bool := fun a b => decide (a = 34 ∧ 60 * k ≤ b ∧ b < 60 * X.E k) || decide ((a = 35 ∨ a = 33) ∧ k ≤ b ∧ b < X.E k) || decide (a = 32) || decide (19 ≤ a ∧ a ≤ 22)
def sc_mkM (X : sc_X) (k h : Nat) : Nat → Nat → Bool := fun a b => decide (a = 30 ∧ 60 * k ≤ b ∧ b < 60 * X.E k) || decide ((a = 31 ∨ a = 32 ∨ a = 33 ∨ a = 25) ∧ k ≤ b ∧ b < X.E k) || decide (a = 29 ∧ h < b) || decide (a = 27 ∨ a = 28) || decide (a = 0 ∧ 33 ≤ b ∧ b ≤ 50)
theorem sc_mkC_wk {X : sc_X} {a k : Nat} {σ σ' : sf_S} (h1 : k ≤ a) (h2 : X.E a ≤ X.E k) (h : sc_fr (sc_mkC X a) σ σ') : sc_fr (sc_mkC X k) σ σ' := sc_fr_wk h (fun x y hab => by
  simp only [sc_mkC, Bool.or_eq_false_iff, decide_eq_false_iff_not] at hab ⊢; omega)
theorem sc_mkM_wk {X : sc_X} {a k h h' : Nat} {τ τ' : sf_S} (h1 : k ≤ a) (h2 : X.E a ≤ X.E k) (h3 : h ≤ h') (H : sc_fr (sc_mkM X a h') τ τ') : sc_fr (sc_mkM X k h) τ τ' := sc_fr_wk H (fun x y hab => by
  simp only [sc_mkM, Bool.or_eq_false_iff, decide_eq_false_iff_not] at hab ⊢; omega)
theorem sc_fpC_mk {X : sc_X} {k : Nat} {σ σ' : sf_S} (hk : k < X.E k) (h : sc_fr (sc_fpC k) σ σ') : sc_fr (sc_mkC X k) σ σ' := sc_fr_wk h (fun x y hab => by
  simp only [sc_mkC, Bool.or_eq_false_iff, decide_eq_false_iff_not] at hab
  simp only [sc_fpC, sc_rwC, Bool.or_eq_false_iff, decide_eq_false_iff_not]; omega)
theorem sc_fpM_mk {X : sc_X} {k h : Nat} {τ τ' : sf_S} (hk : k < X.E k) (H : sc_fr (sc_fpM k) τ τ') : sc_fr (sc_mkM X k h) τ τ' := sc_fr_wk H (fun x y hab => by
  simp only [sc_mkM, Bool.or_eq_false_iff, decide_eq_false_iff_not] at hab
  simp only [sc_fpM, sc_rwM, Bool.or_eq_false_iff, decide_eq_false_iff_not]; omega)
theorem sc_fiC_mk {X : sc_X} {k : Nat} {σ σ' : sf_S} (hq : X.q = 32) (hk : k < X.E k) (h : sc_fr (sc_fiC X k) σ σ') : sc_fr (sc_mkC X k) σ σ' := sc_fr_wk h (fun x y hab => by
  obtain ⟨g1, g2, g3, g4⟩ := sc_r32 hq
  simp only [sc_mkC, Bool.or_eq_false_iff, decide_eq_false_iff_not] at hab
  simp only [sc_fiC, sc_rwC, sc_cC, g2, g3, Bool.or_eq_false_iff, Bool.and_eq_false_iff, beq_eq_false_iff_ne, decide_eq_false_iff_not]; omega)
theorem sc_fiM_mk {X : sc_X} {k h : Nat} {τ τ' : sf_S} (hk : k < X.E k) (H : sc_fr (sc_fiM k) τ τ') : sc_fr (sc_mkM X k h) τ τ' := sc_fr_wk H (fun x y hab => by
  simp only [sc_mkM, Bool.or_eq_false_iff, decide_eq_false_iff_not] at hab
  simp only [sc_fiM, sc_rwM, sc_cM, Bool.or_eq_false_iff, Bool.and_eq_false_iff, beq_eq_false_iff_ne, decide_eq_false_iff_not]; omega)
def sc_o2C (k : Nat) : Nat → Nat → Bool := fun a b => sc_rwC k a b || decide (a = 33 ∧ b = k)
def sc_o2M (k : Nat) : Nat → Nat → Bool := fun a b => sc_rwM k a b || decide ((a = 32 ∨ a = 33 ∨ a = 25) ∧ b = k)
theorem sc_o2C_mk {X : sc_X} {k : Nat} {σ σ' : sf_S} (hk : k < X.E k) (h : sc_fr (sc_o2C k) σ σ') : sc_fr (sc_mkC X k) σ σ' := sc_fr_wk h (fun x y hab => by
  simp only [sc_mkC, Bool.or_eq_false_iff, decide_eq_false_iff_not] at hab
  simp only [sc_o2C, sc_rwC, Bool.or_eq_false_iff, decide_eq_false_iff_not]; omega)
theorem sc_o2M_mk {X : sc_X} {k h : Nat} {τ τ' : sf_S} (hk : k < X.E k) (H : sc_fr (sc_o2M k) τ τ') : sc_fr (sc_mkM X k h) τ τ' := sc_fr_wk H (fun x y hab => by
  simp only [sc_mkM, Bool.or_eq_false_iff, decide_eq_false_iff_not] at hab
  simp only [sc_o2M, sc_rwM, Bool.or_eq_false_iff, decide_eq_false_iff_not]; omega)
theorem sc_o2C_L {X : sc_X} (hq : X.q = 32) {k : Nat} {σ σ' : sf_S} (h : sc_fr (sc_o2C k) σ σ') : sc_fr (sc_LC X.q) σ σ' := sc_fr_wk h (fun x y hab => by
  simp only [sc_LC, hq, decide_eq_false_iff_not] at hab
  simp only [sc_o2C, sc_rwC, Bool.or_eq_false_iff, decide_eq_false_iff_not]; omega)
theorem sc_o2M_L {k : Nat} {τ τ' : sf_S} (H : sc_fr (sc_o2M k) τ τ') : sc_fr sc_LM2 τ τ' := sc_fr_wk H (fun x y hab => by
  simp only [sc_LM2, Bool.or_eq_false_iff, decide_eq_false_iff_not] at hab
  simp only [sc_o2M, sc_rwM, Bool.or_eq_false_iff, decide_eq_false_iff_not]; omega)
theorem sc_mkC_R {X : sc_X} (hq : X.q = 32) {k : Nat} {σ σ' : sf_S} (h : sc_fr (sc_mkC X k) σ σ') : sc_fr (sc_RC X.q) σ σ' := sc_fr_wk h (fun x y hab => by
  obtain ⟨g1, g2, g3, g4⟩ := sc_r32 hq
  simp only [sc_RC, g2, Bool.or_eq_false_iff, decide_eq_false_iff_not] at hab
  simp only [sc_mkC, Bool.or_eq_false_iff, decide_eq_false_iff_not]; omega)
theorem sc_mkM_R {X : sc_X} {k h : Nat} {τ τ' : sf_S} (H : sc_fr (sc_mkM X k h) τ τ') : sc_fr sc_RM τ τ' := sc_fr_wk H (fun x y hab => by
  simp only [sc_RM, Bool.or_eq_false_iff, decide_eq_false_iff_not] at hab
  simp only [sc_mkM, Bool.or_eq_false_iff, decide_eq_false_iff_not]; omega)
def sc_bdk (X : sc_X) (k e : Nat) : Nat := 4 * (X.E k - k) + 4 * ((X.E k - k) * e)
/-- of a node's own part -/
def sc_Fl (X : sc_X) (k h D np g : Nat) (σ τ : sf_S) (x : Option (Int32 × sf_S)) : Prop := ∃ b σ' τ' e np' c, x = some (sc_b b, σ') ∧ sc_W X (D + e) np' g σ' τ' ∧ np' ≤ np + (X.E k - k) * e ∧ sc_fr (sc_mkC X k) σ σ' ∧ sc_fr (sc_mkM X k h) τ τ' ∧ c + 1 ≤ sc_bdk X k e ∧
  ((b = true ∧ σ' 19 5 = 0 ∧ τ' 0 48 = nI (h + 1) ∧ (∃ len, sc_row k len σ' τ' ∧ len ≤ e) ∧ ∀ N t, t + c < 100000000 → dX12_makesRows_21 (N + (c + 1)) (nI t) τ = dX12_makesRows_102 (dX12_makesRows_21 N) (nI (t + c)) (nI k) τ') ∨
   (b = false ∧ ¬ σ' 19 5 = 0 ∧ ∀ N t, t + c < 100000000 → dX12_makesRows_21 (N + (c + 1)) (nI t) τ = some τ'))
/-- of a whole node -/
def sc_Mk (X : sc_X) (k h D np g : Nat) (σ τ : sf_S) (x : Option (Int32 × sf_S)) : Prop := ∃ b σ' τ' e np' c, x = some (sc_b b, σ') ∧ sc_W X (D + e) np' g σ' τ' ∧ np' ≤ np + (X.E k - k) * e ∧ sc_fr (sc_mkC X k) σ σ' ∧ sc_fr (sc_mkM X k h) τ τ' ∧ c + 1 ≤ sc_bdk X k e ∧
  ((b = true ∧ σ' 19 5 = 0 ∧ τ' 0 48 = nI h ∧ (∃ len, sc_row k len σ' τ' ∧ len ≤ e) ∧ ∀ N t, t + c < 100000000 → dX12_makesRows_21 (N + (c + 1)) (nI t) τ = dX12_makesRows_21 N (nI (t + (c + 1))) τ') ∨
   (b = false ∧ ¬ σ' 19 5 = 0 ∧ ∀ N t, t + c < 100000000 → dX12_makesRows_21 (N + (c + 1)) (nI t) τ = some τ'))
def sc_IM (X : sc_X) (a : Nat) : Prop := ∀ m lev h D np g σ τ, 41 ≤ m + a → lev ≤ a → h ≤ a → sc_W X D np g σ τ → σ 19 5 = 0 → τ 0 48 = nI (h + 1) → τ 29 h = nI a → τ 32 a = 0 → (X.o a = -1 ∨ σ 33 (X.o a).toNatClampNeg = τ 25 (X.o a).toNatClampNeg) → sc_Mk X a h D np g σ τ (dX1_make_R m (nI a) (nI lev) σ)
theorem sc_mkOf {X : sc_X} {k h D np g lev : Nat} {G : Int32 → Int32 → sf_S → Option (Int32 × sf_S)} {σ τ : sf_S} (hq : X.q = 32) (w : sc_W X D np g σ τ) (hk : k < X.n) (hlev : lev ≤ 40) (H : sc_Fl X k h D np g (sf_up σ 35 k 0) τ (dX1_fill G (nI k) (nI lev) (sf_up σ 35 k 0))) : sc_Mk X k h D np g σ τ (dX1_make G (nI k) (nI lev) σ) := by
  obtain ⟨g1, g2, g3, g4⟩ := sc_r32 hq
  obtain ⟨b, σ', τ', e, np', c, x1, w1, n1, f1, f2, hc, H⟩ := H
  have hn4 := w.cy.n40
  have hE := w.cy.T.lt hk
  have hh := w.cy.has hk
  rw [g1] at hh
  have f0 : sc_fr (sc_mkC X k) σ (sf_up σ 35 k 0) := sc_fr_up (by simp [sc_mkC] <;> omega)
  unfold dX1_make
  rw [hh]
  simp only [Option.bind_some]
  rw [if_neg (show ¬ (1 : Int32) = 0 by decide), if_pos (show nI lev ≤ 40 from nI_le (b := 40) hlev (by decide))]
  simp only [w.cy.nin hk, if_true, w.cy.ncl hk]
  rw [x1]
  simp only [Option.bind_some]
  rcases H with ⟨rfl, h5, h48, ⟨len, hr, hl⟩, hgo⟩ | ⟨rfl, h5, hgo⟩
  · rw [if_pos (show ¬ sc_b true = 0 by decide), sc_upJ (by decide), sc_upK (by decide), hr.2.1]
    have W1 := w1.cnt (nI h) (nI len)
    rw [g2] at W1
    have fc : sc_fr (sc_mkC X k) σ' (sf_up (sf_up σ' 19 3 (σ' 19 3 + 1)) 19 4 (σ' 19 4 + nI len)) := sc_fr_tr (sc_fr_up (by simp [sc_mkC])) (sc_fr_up (by simp [sc_mkC]))
    have fm : sc_fr (sc_mkM X k h) τ' (sf_up (sf_up (sf_up τ' 0 48 (nI h)) 0 38 (τ' 0 38 + 1)) 0 39 (τ' 0 39 + nI len)) := sc_fr_tr (sc_fr_up (by simp [sc_mkM])) (sc_fr_tr (sc_fr_up (by simp [sc_mkM])) (sc_fr_up (by simp [sc_mkM])))
    have h35 : τ' 0 35 = 0 := by have := w1.fl; rw [g2] at this; rw [← this]; exact h5
    refine ⟨true, _, _, e, np', c, rfl, W1, n1, sc_fr_tr f0 (sc_fr_tr f1 fc), sc_fr_tr f2 fm, hc, Or.inl ⟨rfl, ?_, ?_, ⟨len, hr.kept (fun x y z => ?_) (fun x y z => ?_), hl⟩, fun N t ht => ?_⟩⟩
    · rw [sc_upJ (by decide), sc_upJ (by decide)]; exact h5
    · rw [sc_upJ (by decide), sc_upJ (by decide), sc_upS]
    · rw [sc_upK (by omega), sc_upK (by omega)]
    · rw [sc_upK (by omega), sc_upK (by omega), sc_upK (by omega)]
    · rw [hgo N t ht, sc_mvP h48 h35 (by omega), hr.2.2.1]; rfl
  · rw [if_neg (show ¬ ¬ sc_b false = 0 by decide)]
    exact ⟨false, σ', τ', e, np', c, rfl, w1, n1, sc_fr_tr f0 f1, f2, hc, Or.inr ⟨rfl, h5, hgo⟩⟩
/-- between a node's steps -/
def sc_M2 (X : sc_X) (k h D np g e c : Nat) (σ0 τ0 σ τ : sf_S) : Prop := (∃ np', sc_W X (D + e) np' g σ τ ∧ np' ≤ np + (X.E k - (k + 1)) * e) ∧ sc_fr (sc_mkC X k) σ0 σ ∧ sc_fr (sc_mkM X k h) τ0 τ ∧ σ 19 5 = 0 ∧ τ 0 48 = nI (h + 1) ∧ τ 29 h = nI k ∧ ∀ N t, t + c ≤ 100000000 → dX12_makesRows_21 (N + c) (nI t) τ0 = dX12_makesRows_21 N (nI (t + c)) τ
theorem sc_M2_0 {X : sc_X} {k h D np g : Nat} {σ τ : sf_S} (w : sc_W X D np g σ τ) (hfl : σ 19 5 = 0) (h48 : τ 0 48 = nI (h + 1)) (hp : τ 29 h = nI k) : sc_M2 X k h D np g 0 0 σ τ σ τ := ⟨⟨np, w, by omega⟩, sc_fr_rf, sc_fr_rf, hfl, h48, hp, fun _ _ _ => rfl⟩
/-- a child's row is made -/
theorem sc_mchild {X : sc_X} {k a h D np g e c m lev : Nat} {σ0 τ0 σ τ σ1 τ1 : sf_S} (hq : X.q = 32) (hI : sc_IM X a) (hM : sc_M2 X k h D np g e c σ0 τ0 σ τ) (hk : k < X.n) (ha : k < a) (han : a < X.n) (hE : X.E a ≤ X.E k) (hm : 41 ≤ m + a) (hlev : lev ≤ a) (hh : h + 1 ≤ a) (hw : dX12_wantsRow (nI k) τ = some (nI a, τ1)) (f1 : sc_fr (sc_o2C k) σ σ1) (f2 : sc_fr (sc_o2M k) τ τ1) (ho : X.o a = -1 ∨ σ1 33 (X.o a).toNatClampNeg = τ1 25 (X.o a).toNatClampNeg) :
    ∃ r σ' τ' dl cc, dX1_make_R m (nI a) (nI lev) σ1 = some (sc_b r, σ') ∧ sc_fr (sc_mkC X a) σ1 σ' ∧ sc_fr (sc_mkM X a h) τ1 τ' ∧ cc + 1 ≤ sc_bdk X a dl ∧
      ((r = true ∧ sc_M2 X k h D np g (e + dl) (c + 1 + (cc + 1)) σ0 τ0 σ' τ' ∧ ∃ len, sc_row a len σ' τ' ∧ len ≤ dl) ∨ (r = false ∧ (c + 1 + cc + 1 ≤ sc_bdk X k (e + dl) → sc_Fl X k h D np g σ0 τ0 (some (0, σ'))))) := by
  obtain ⟨g1, g2, g3, g4⟩ := sc_r32 hq
  obtain ⟨⟨np1, w, hn⟩, m2, m3, m4, m5, m6, m7⟩ := hM
  have hn4 := w.cy.n40
  have hEk := w.cy.T.lt hk
  have hEa := w.cy.T.lt han
  have w1 : sc_W X (D + e) np1 g σ1 τ1 := w.light2 (sc_o2C_L hq f1) (sc_o2M_L f2)
  have t0 : ∀ b, τ1 0 b = τ 0 b := fun b => f2 _ _ (by simp [sc_o2M, sc_rwM])
  have h35 : τ 0 35 = 0 := by have := w.fl; rw [g2] at this; rw [← this]; exact m4
  have fp : sc_fr (sc_mkM X a h) τ1 (sf_up (sf_up (sf_up τ1 32 a 0) 29 (h + 1) (nI a)) 0 48 (nI (h + 2))) := sc_fr_tr (sc_fr_up (by simp [sc_mkM] <;> omega)) (sc_fr_tr (sc_fr_up (by simp [sc_mkM] <;> omega)) (sc_fr_up (by simp [sc_mkM])))
  have w2 : sc_W X (D + e) np1 g σ1 (sf_up (sf_up (sf_up τ1 32 a 0) 29 (h + 1) (nI a)) 0 48 (nI (h + 2))) := w1.light2 sc_fr_rf (sc_fr_tr (sc_fr_up (by simp [sc_LM2])) (sc_fr_tr (sc_fr_up (by simp [sc_LM2])) (sc_fr_up (by simp [sc_LM2]))))
  have hs5 : σ1 19 5 = 0 := by rw [f1 _ _ (by simp [sc_o2C, sc_rwC])]; exact m4
  obtain ⟨r, σ', τ', dl, np', cc, q1, q2, q3, q4, q5, q6, q7⟩ := hI m lev (h + 1) (D + e) np1 g σ1 _ hm hlev hh w2 hs5 sc_upS (by rw [sc_upK (by decide), sc_upS]) (by rw [sc_upK (by decide), sc_upK (by decide), sc_upS]) (by rw [sc_upK (by decide), sc_upK (by decide), sc_upK (by decide)]; exact ho)
  have hle : (X.E a - a) * dl ≤ (X.E k - (k + 1)) * dl := Nat.mul_le_mul_right _ (by omega)
  have hnp : np' ≤ np + (X.E k - (k + 1)) * (e + dl) := by
    rw [Nat.mul_add]; omega
  have hle2 : (X.E k - (k + 1)) * (e + dl) ≤ (X.E k - k) * (e + dl) := Nat.mul_le_mul_right _ (by omega)
  rw [sc_add8] at q2
  have fc := sc_fr_tr m2 (sc_fr_tr (sc_o2C_mk hEk.1 f1) (sc_mkC_wk (Nat.le_of_lt ha) hE q4))
  have fa := sc_fr_tr fp (sc_mkM_wk (Nat.le_refl _) (Nat.le_refl _) (Nat.le_succ h) q5)
  have fm := sc_fr_tr m3 (sc_fr_tr (sc_o2M_mk hEk.1 f2) (sc_mkM_wk (Nat.le_of_lt ha) hE (Nat.le_refl h) fa))
  have go : ∀ N t, t + c < 100000000 → dX12_makesRows_21 (N + 1 + c) (nI t) τ0 = dX12_makesRows_21 N (nI (t + c + 1)) (sf_up (sf_up (sf_up τ1 32 a 0) 29 (h + 1) (nI a)) 0 48 (nI (h + 2))) := fun N t ht => by
    rw [m7 (N + 1) t (by omega), sc_mv1 (by omega) m5 (by omega) h35 m6 hw (by omega) (by rw [t0]; exact h35) (by rw [t0]; exact m5)]
  refine ⟨r, σ', τ', dl, cc, q1, q4, fa, q6, ?_⟩
  rcases q7 with ⟨rfl, b1, b2, b3, b4⟩ | ⟨rfl, b1, b2⟩
  · refine Or.inl ⟨rfl, ⟨⟨np', q2, hnp⟩, fc, fm, b1, b2, ?_, fun N t ht => ?_⟩, b3⟩
    · rw [fa _ _ (by simp [sc_mkM]), f2 _ _ (by simp [sc_o2M, sc_rwM])]; exact m6
    · rw [show N + (c + 1 + (cc + 1)) = (N + (cc + 1)) + 1 + c by omega, go (N + (cc + 1)) t (by omega), b4 N (t + c + 1) (by omega), show t + c + 1 + (cc + 1) = t + (c + 1 + (cc + 1)) by omega]
  · refine Or.inr ⟨rfl, fun hb => ⟨false, σ', τ', e + dl, np', c + 1 + cc, rfl, q2, by omega, fc, fm, hb, Or.inr ⟨rfl, b1, fun N t ht => ?_⟩⟩⟩
    rw [show N + (c + 1 + cc + 1) = (N + (cc + 1)) + 1 + c by omega, go (N + (cc + 1)) t (by omega), b2 N (t + c + 1) (by omega)]
/-- a node's last step -/
theorem sc_mfin {X : sc_X} {k h D np g e c e1 np1 : Nat} {b : Bool} {σ0 τ0 σ τ σ1 τ1 : sf_S} (hM : sc_M2 X k h D np g e c σ0 τ0 σ τ) (hq : X.q = 32) (hk : k < X.n) (hh : h < 41) (hw : dX12_wantsRow (nI k) τ = some (-1, τ1)) (w1 : sc_W X (D + e1) np1 g σ1 τ1) (hn : np1 ≤ np + (X.E k - k) * e1) (f1 : sc_fr (sc_mkC X k) σ σ1) (f2 : sc_fr (sc_mkM X k h) τ τ1) (h48 : τ1 0 48 = nI (h + 1)) (hc : c + 2 ≤ sc_bdk X k e1)
    (hres : (b = true ∧ σ1 19 5 = 0 ∧ ∃ len, sc_row k len σ1 τ1 ∧ len ≤ e1) ∨ (b = false ∧ ¬ σ1 19 5 = 0)) : sc_Fl X k h D np g σ0 τ0 (some (sc_b b, σ1)) := by
  obtain ⟨g1, g2, g3, g4⟩ := sc_r32 hq
  obtain ⟨⟨np0, w, -⟩, m2, m3, m4, m5, m6, m7⟩ := hM
  have h35 : τ 0 35 = 0 := by have := w.fl; rw [g2] at this; rw [← this]; exact m4
  have h35' := w1.fl
  rw [g2] at h35'
  rcases hres with ⟨rfl, b1, b2⟩ | ⟨rfl, b1⟩
  · refine ⟨true, σ1, τ1, e1, np1, c, rfl, w1, hn, sc_fr_tr m2 f1, sc_fr_tr m3 f2, by omega, Or.inl ⟨rfl, b1, h48, b2, fun N t ht => ?_⟩⟩
    rw [show N + (c + 1) = (N + 1) + c by omega, m7 (N + 1) t (by omega), sc_mv2 (by omega) m5 hh h35 m6 hw]
  · refine ⟨false, σ1, τ1, e1, np1, c + 1, rfl, w1, hn, sc_fr_tr m2 f1, sc_fr_tr m3 f2, by omega, Or.inr ⟨rfl, b1, fun N t ht => ?_⟩⟩
    rw [show N + (c + 1 + 1) = (N + 1 + 1) + c by omega, m7 (N + 1 + 1) t (by omega), sc_mvF (by omega) m5 hh h35 m6 hw (by rw [← h35']; exact b1)]
