/-! way 2: x -/
theorem sc_bdx {sp sq ep eq i c : Nat} (hc : c ≤ 1 + (4 * sp + 4 * (sp * ep)) + (i * (1 + 4 * sq) + 4 * (sq * eq))) (hi : i ≤ ep) : c + 2 ≤ 4 * (sp + sq + 1) + 4 * ((sp + sq + 1) * (ep + eq)) := by
  have h1 : i * (1 + 4 * sq) ≤ ep * (1 + 4 * sq) := Nat.mul_le_mul_right _ hi
  have h2 : ep * (1 + 4 * sq) = ep + 4 * (sq * ep) := by rw [Nat.mul_add, Nat.mul_one, Nat.mul_left_comm, Nat.mul_comm ep sq]
  rw [Nat.add_mul, Nat.add_mul, Nat.mul_add sp, Nat.mul_add sq]; omega
theorem sc_bdy {sp sq ep eq dl i c cc : Nat} (hc : c ≤ 1 + (4 * sp + 4 * (sp * ep)) + (i * (1 + 4 * sq) + 4 * (sq * eq))) (hcc : cc + 1 ≤ 4 * sq + 4 * (sq * dl)) : c + 1 + (cc + 1) ≤ 1 + (4 * sp + 4 * (sp * ep)) + ((i + 1) * (1 + 4 * sq) + 4 * (sq * (eq + dl))) := by
  rw [Nat.add_mul i, Nat.mul_add sq]; omega
theorem sc_mxL {X : sc_X} {k h D np g m lev ep lenP : Nat} {σ0 τ0 : sf_S} (hq : X.q = 32) (hI : sc_IM X (k + 1)) (hk : k < X.n) (hL : X.L k = 120) (hm : 41 ≤ m + (k + 1)) (hlev : lev ≤ k) (hh : h ≤ k) (hlp : lenP ≤ ep) :
    ∀ r i eq len c n (σ τ σb τb : sf_S), i + r = lenP → r + 1 ≤ n → sc_M2 X k h D np g (ep + eq) c σ0 τ0 σ τ → c ≤ 1 + (4 * (X.E k - X.E (k + 1)) + 4 * ((X.E k - X.E (k + 1)) * ep)) + (i * (1 + 4 * (X.E (k + 1) - (k + 1))) + 4 * ((X.E (k + 1) - (k + 1)) * eq)) → sc_fr (sc_o2C k) σ σb → sc_fr (sc_o2M k) τ τb → dX12_wantsRow (nI k) τ = dX12_opensRow_87 (nI k) (nI (k + 1)) τb → τb 33 k = nI i → sc_row (X.E (k + 1)) lenP σb τb → sc_row k len σb τb → len ≤ eq →
      sc_Fl X k h D np g σ0 τ0 (dX1_fillByOpening_25 (dX1_make_R m) n (nI k) (nI lev) (nI (X.E (k + 1))) (nI i) σb) := by
  intro r
  induction r with
  | zero =>
    intro i eq len c n σ τ σb τb h1 h2 M hc f1 f2 hw h33 rp rk hl
    obtain ⟨n, rfl⟩ : ∃ x, n = x + 1 := ⟨n - 1, by omega⟩
    obtain ⟨⟨np1, w1, nn1⟩, m2, m3, m4, m5, m6, m7⟩ := id M
    have hp := sc_p120 hL
    have hn4 := w1.cy.n40
    have hE := w1.cy.T.lt hk
    obtain ⟨t1, t2, t3, t4, t5⟩ := w1.cy.T.p2 hk hp
    have l60 := rp.1
    have hss : X.E k - k = (X.E k - X.E (k + 1)) + (X.E (k + 1) - (k + 1)) + 1 := by omega
    have hss2 : X.E k - k = (X.E k - (k + 1)) + 1 := by omega
    have wb : sc_W X (D + (ep + eq)) np1 g σb τb := w1.light2 (sc_o2C_L hq f1) (sc_o2M_L f2)
    have fu : sc_fr (sc_o2M k) τb (sf_up τb 32 k 2) := sc_fr_up (by simp [sc_o2M, sc_rwM])
    have e : i = lenP := by omega
    subst e
    unfold dX1_fillByOpening_25
    rw [if_pos (w1.cy.nin t3), w1.cy.ncl t3, rp.2.1, if_pos (nI_le (Nat.le_refl _) (by omega))]
    have hb : c + 2 ≤ sc_bdk X k (ep + eq) := by
      unfold sc_bdk
      rw [hss]
      exact sc_bdx hc hlp
    refine sc_mfin (b := true) (e1 := ep + eq) (τ1 := sf_up τb 32 k 2) M hq hk (by omega) ?_ (wb.light2 sc_fr_rf (sc_o2M_L fu)) ?_ (sc_o2C_mk hE.1 f1) (sc_o2M_mk hE.1 (sc_fr_tr f2 fu)) ?_ hb (Or.inl ⟨rfl, ?_, len, rk.kept (fun _ _ _ => rfl) (fun a b q => by rw [sc_upK (by omega)]), by omega⟩)
    · rw [hw]
      unfold dX12_opensRow_87
      simp only [w1.cy.nin hk, if_true, w1.cy.ncl hk]
      rw [sc_upK (by decide), (wb.cy.r5 k hk).2.1, sc_ps, if_pos hL, if_pos (w1.cy.nin t3), w1.cy.ncl t3, sc_upK (by decide), h33, sc_upK (by decide), rp.2.2.1, if_neg (show ¬ ¬ nI i = nI i from not_not_intro rfl)]
    · rw [hss2, Nat.add_mul]; omega
    · rw [sc_upK (by decide), f2 _ _ (by simp [sc_o2M, sc_rwM])]; exact m5
    · rw [f1 _ _ (by simp [sc_o2C, sc_rwC])]; exact m4
  | succ r ih =>
    intro i eq len c n σ τ σb τb h1 h2 M hc f1 f2 hw h33 rp rk hl
    obtain ⟨n, rfl⟩ : ∃ x, n = x + 1 := ⟨n - 1, by omega⟩
    obtain ⟨g1, g2, g3, g4⟩ := sc_r32 hq
    obtain ⟨⟨np1, w1, nn1⟩, m2, m3, m4, m5, m6, m7⟩ := id M
    have hp := sc_p120 hL
    have hn4 := w1.cy.n40
    have hF := sf_F_le
    have hE := w1.cy.T.lt hk
    obtain ⟨t1, t2, t3, t4, t5⟩ := w1.cy.T.p2 hk hp
    have hEp := w1.cy.T.lt t3
    have l60 := rp.1
    have hss : X.E k - k = (X.E k - X.E (k + 1)) + (X.E (k + 1) - (k + 1)) + 1 := by omega
    have hss2 : X.E k - k = (X.E k - (k + 1)) + 1 := by omega
    have wb : sc_W X (D + (ep + eq)) np1 g σb τb := w1.light2 (sc_o2C_L hq f1) (sc_o2M_L f2)
    have hok : X.o (k + 1) = nI k := by rw [w1.cy.o1 hk (by omega), if_pos hL]
    unfold dX1_fillByOpening_25
    rw [if_pos (w1.cy.nin t3), w1.cy.ncl t3, rp.2.1, if_neg (nI_ge (by omega) (by omega)), sc_el2 hq wb.cy t3 rp (show i < lenP by omega)]
    simp only [Option.bind_some]
    rw [if_pos (w1.cy.nin hk), w1.cy.ncl hk, nI_1, nI_1]
    have hv := rp.2.2.2 i (by omega)
    have hw' : dX12_wantsRow (nI k) τ = some (nI (k + 1), sf_up (sf_up τb 32 k 2) 25 k (σb 34 (60 * X.E (k + 1) + i))) := by
      rw [hw]
      unfold dX12_opensRow_87
      simp only [w1.cy.nin hk, if_true, w1.cy.ncl hk]
      rw [sc_upK (by decide), (wb.cy.r5 k hk).2.1, sc_ps, if_pos hL, if_pos (w1.cy.nin t3), w1.cy.ncl t3, sc_upK (by decide), h33, sc_upK (by decide), rp.2.2.1, if_pos (fun q => by have := (nI_eq (by omega) (by omega)).mp q; omega), sc_idx2]
      simp only [sc_inI (show 60 * X.E (k + 1) + i < 2400 by omega) (by omega : 2400 ≤ 10000), if_true, sc_cl (show 60 * X.E (k + 1) + i < 2 ^ 31 by omega)]
      rw [sc_upK (by decide), hv]
    have fc : sc_fr (sc_o2C k) σ (sf_up σb 33 k (σb 34 (60 * X.E (k + 1) + i))) := sc_fr_tr f1 (sc_fr_up (by simp [sc_o2C, sc_rwC]))
    have fm : sc_fr (sc_o2M k) τ (sf_up (sf_up τb 32 k 2) 25 k (σb 34 (60 * X.E (k + 1) + i))) := sc_fr_tr f2 (sc_fr_tr (sc_fr_up (by simp [sc_o2M, sc_rwM])) (sc_fr_up (by simp [sc_o2M, sc_rwM])))
    obtain ⟨r', σ', τ', dl, cc, x1, f3, f4, hcc, C⟩ := sc_mchild hq hI M hk (by omega) t1 (by omega) hm (show lev + 1 ≤ k + 1 by omega) (by omega) hw' fc fm (Or.inr (by rw [hok, w1.cy.ncl hk, sc_upS, sc_upS]))
    have hcy : c + 1 + (cc + 1) ≤ 1 + (4 * (X.E k - X.E (k + 1)) + 4 * ((X.E k - X.E (k + 1)) * ep)) + ((i + 1) * (1 + 4 * (X.E (k + 1) - (k + 1))) + 4 * ((X.E (k + 1) - (k + 1)) * (eq + dl))) := sc_bdy hc hcc
    have hb : c + 1 + (cc + 1) + 2 ≤ sc_bdk X k (ep + (eq + dl)) := by
      unfold sc_bdk
      rw [hss]
      exact sc_bdx hcy (by omega)
    rw [x1]
    simp only [Option.bind_some]
    rw [Nat.add_assoc ep eq dl] at C
    rcases C with ⟨rfl, M', lenQ, rQ, hlQ⟩ | ⟨rfl, C⟩
    · rw [if_neg (show ¬ sc_b true = 0 by decide)]
      obtain ⟨⟨np2, w2, nn2⟩, m2', m3', m4', m5', m6', m7'⟩ := id M'
      have rk' : sc_row k len σ' τ' := rk.kept (fun a b q => by
        rw [f3 a b (by simp only [sc_mkC, Bool.or_eq_false_iff, decide_eq_false_iff_not]; omega), sc_upK (by omega)]) (fun a b q => by
        rw [f4 a b (by simp only [sc_mkM, Bool.or_eq_false_iff, decide_eq_false_iff_not]; omega), sc_upK (by omega), sc_upK (by omega)])
      have rp' : sc_row (X.E (k + 1)) lenP σ' τ' := rp.kept (fun a b q => by
        rw [f3 a b (by simp only [sc_mkC, Bool.or_eq_false_iff, decide_eq_false_iff_not]; omega), sc_upK (by omega)]) (fun a b q => by
        rw [f4 a b (by simp only [sc_mkM, Bool.or_eq_false_iff, decide_eq_false_iff_not]; omega), sc_upK (by omega), sc_upK (by omega)])
      have h32' : τ' 32 k = 2 := by rw [f4 _ _ (by simp [sc_mkM] <;> omega), sc_upK (by decide), sc_upS]
      have h33' : τ' 33 k = nI i := by rw [f4 _ _ (by simp [sc_mkM] <;> omega), sc_upK (by decide), sc_upK (by decide), h33]
      have hl0 := rk.1
      have hlq := rQ.1
      rw [sc_addRow hq w2.cy hk t1 rk'.2.1 rQ.2.1 hl0 hlq (by omega)]
      have hwr := sc_wr6 w2.cy hk hL h32'
      rw [rk'.2.2.1, rQ.2.2.1, nI_add] at hwr
      by_cases hs : len + lenQ ≤ 60
      · rw [if_pos hs]
        simp only [Option.bind_some]
        rw [if_pos (show ¬ (1 : Int32) = 0 by decide), nI_1]
        rw [if_pos (show nI (len + lenQ) ≤ 60 from nI_le (b := 60) hs (by decide))] at hwr
        obtain ⟨τ2, y1, y2, y3, y4, y5⟩ := sc_or45 (k := k) (j := k + 1) (len := len) (n := lenQ) (by omega) (by omega) (by omega) hs lenQ 0 sf_F τ' (by omega) (by omega) rQ.2.2.1 rk'.2.2.1
        rw [nI_0] at y1
        rw [y1, h33', nI_1] at hwr
        have fr2 := sc_ar_fr (σ := σ') (k := k) (j := k + 1) (len := len) (n := lenQ) (by omega) (by omega) hs
        have fr3 : sc_fr (sc_o2C k) σ' (sc_ar σ' k (k + 1) len lenQ) := sc_fr_wk fr2 (fun a b hab => by simp only [sc_o2C, Bool.or_eq_false_iff] at hab; exact hab.1)
        have fr4 : sc_fr (sc_o2M k) τ' (sf_up τ2 33 k (nI (i + 1))) := sc_fr_tr (sc_fr_wk y2 (fun a b hab => by simp only [sc_o2M, Bool.or_eq_false_iff] at hab; exact hab.1)) (sc_fr_up (by simp [sc_o2M, sc_rwM]))
        refine ih (i + 1) (eq + dl) (len + lenQ) (c + 1 + (cc + 1)) n σ' τ' _ _ (by omega) (by omega) M' hcy fr3 fr4 hwr sc_upS ?_ ?_ (by omega)
        · exact (rp'.far (by omega) fr2 y2).kept (fun _ _ _ => rfl) (fun a b q => by rw [sc_upK (by omega)])
        · refine ⟨hs, by unfold sc_ar; rw [sc_upS], by rw [sc_upK (by decide)]; exact y3, fun x hx => ?_⟩
          rw [sc_upK (by decide), sc_ar_34 (by omega) (by omega) (by omega) (by omega)]
          by_cases z : x < len
          · rw [if_neg (by omega), y4 x (by omega)]
            exact rk'.2.2.2 x z
          · rw [if_pos (by omega), show 60 * k + x = 60 * k + len + (x - len) by omega, y5 (x - len) (by omega) (by omega), show 60 * k + len + (x - len) - (60 * k + len) = x - len by omega]
            exact rQ.2.2.2 _ (by omega)
      · rw [if_neg hs]
        simp only [Option.bind_some]
        rw [if_neg (show ¬ ¬ True from not_not_intro trivial)]
        rw [if_neg (show ¬ nI (len + lenQ) ≤ 60 from nI_ge (a := 60) (by omega) (by omega))] at hwr
        have W1 := w2.fail 4 (X.dp k)
        rw [g2] at W1
        refine sc_mfin (b := false) M' hq hk (by omega) hwr W1 ?_ (sc_fr_tr (sc_fr_up (by simp [sc_mkC])) (sc_fr_up (by simp [sc_mkC]))) (sc_fr_tr (sc_fr_up (by simp [sc_mkM])) (sc_fr_up (by simp [sc_mkM]))) ?_ hb (Or.inr ⟨rfl, ?_⟩)
        · rw [hss2, Nat.add_mul]; omega
        · rw [sc_upJ (by decide), sc_upJ (by decide)]; exact m5'
        · rw [sc_upJ (by decide), sc_upS]; decide
    · rw [if_pos (show sc_b false = 0 from rfl)]
      exact C (by omega)
theorem sc_mkX {X : sc_X} {k h D np g m lev : Nat} {σ τ : sf_S} (hq : X.q = 32) (hI : ∀ a, k < a → a < X.n → sc_IM X a) (w : sc_W X D np g σ τ) (hk : k < X.n) (hL : X.L k = 120) (hm : 41 ≤ m + (k + 1)) (hlev : lev ≤ k) (hh : h ≤ k) (hfl : σ 19 5 = 0) (h48 : τ 0 48 = nI (h + 1)) (h29 : τ 29 h = nI k) (h32 : τ 32 k = 0) (ho : X.o k = -1 ∨ σ 33 (X.o k).toNatClampNeg = τ 25 (X.o k).toNatClampNeg) (h35 : σ 35 k = 0) :
    sc_Fl X k h D np g σ τ (dX1_fill (dX1_make_R m) (nI k) (nI lev) σ) := by
  obtain ⟨g1, g2, g3, g4⟩ := sc_r32 hq
  have hp := sc_p120 hL
  have hn4 := w.cy.n40
  have hF := sf_F_le
  have hE := w.cy.T.lt hk
  obtain ⟨t1, t2, t3, t4, t5⟩ := w.cy.T.p2 hk hp
  have hE2 := w.cy.T.lt t3
  have hss : X.E k - k = (X.E k - X.E (k + 1)) + (X.E (k + 1) - (k + 1)) + 1 := by omega
  have hps : sc_ps X.L X.E k = X.E (k + 1) := by rw [sc_ps, if_pos hL]
  have inp := w.cy.inp hk (by omega)
  rw [g1, hps] at inp
  have hok2 : X.o (X.E (k + 1)) = X.o k := w.cy.o2 hk hp
  have f0 : sc_fr (sc_o2M k) τ (sf_up (sf_up (sf_up τ 31 k 0) 33 k 0) 32 k 1) := sc_fr_tr (sc_fr_up (by simp [sc_o2M, sc_rwM])) (sc_fr_tr (sc_fr_up (by simp [sc_o2M, sc_rwM])) (sc_fr_up (by simp [sc_o2M, sc_rwM])))
  obtain ⟨r, σ', τ', ep, cc, x1, f1, f2, hcc, C⟩ := sc_mchild hq (hI (X.E (k + 1)) (by omega) t3) (sc_M2_0 w hfl h48 h29) hk (by omega) t3 (by omega) (show 41 ≤ m + X.E (k + 1) by omega) (show lev + 1 ≤ X.E (k + 1) by omega) (by omega) (by rw [sc_wr1 w.cy hk (by omega) h32, hps]) sc_fr_rf f0 (by rw [hok2, sc_upK (by decide), sc_upK (by decide), sc_upK (by decide)]; exact ho)
  have hc0 : 0 + 1 + (cc + 1) ≤ 1 + (4 * (X.E k - X.E (k + 1)) + 4 * ((X.E k - X.E (k + 1)) * ep)) + (0 * (1 + 4 * (X.E (k + 1) - (k + 1))) + 4 * ((X.E (k + 1) - (k + 1)) * 0)) := by
    unfold sc_bdk at hcc
    rw [← t5] at hcc
    omega
  have hb : 0 + 1 + (cc + 1) + 2 ≤ sc_bdk X k (ep + 0) := by
    unfold sc_bdk
    rw [hss]
    exact sc_bdx hc0 (Nat.zero_le _)
  rw [sc_fillC hq w.cy hk, hp, if_pos (show ¬ nI 2 = 0 by decide), inp]
  simp only [Option.bind_some]
  rw [nI_1, x1]
  simp only [Option.bind_some]
  rcases C with ⟨rfl, M, lenP, rP, hlP⟩ | ⟨rfl, C⟩
  · rw [if_pos (show ¬ sc_b true = 0 by decide)]
    rw [show 0 + ep = ep + 0 by omega] at M
    obtain ⟨⟨np1, w1, n1⟩, m2, m3, m4, m5, m6, m7⟩ := id M
    have c1 := (w1.cy.c1 k hk).1
    have inp1 := w1.cy.inp hk (by omega)
    have hh1 := w1.cy.has t3
    rw [g1] at c1 hh1
    rw [g1, hps] at inp1
    rw [if_neg (show ¬ ¬ σ' 2 k = 120 by rw [show σ' 2 k = X.L k from c1]; exact not_not_intro hL)]
    refine sc_Fl01 ?_
    unfold dX1_fillByOpening
    rw [inp1]
    simp only [Option.bind_some]
    rw [hh1]
    simp only [Option.bind_some]
    rw [if_pos (show ¬ (1 : Int32) = 0 by decide)]
    have r0 : sc_row k 0 σ' τ' := ⟨by omega, by rw [f1 _ _ (by simp [sc_mkC] <;> omega)]; exact h35, by rw [f2 _ _ (by simp [sc_mkM] <;> omega), sc_upK (by decide), sc_upK (by decide), sc_upS]; rfl, fun i hi => by omega⟩
    have h32' : τ' 32 k = 1 := by rw [f2 _ _ (by simp [sc_mkM] <;> omega), sc_upS]
    have h33' : τ' 33 k = nI 0 := by rw [f2 _ _ (by simp [sc_mkM] <;> omega), sc_upK (by decide), sc_upS]; rfl
    have l60 := rP.1
    exact sc_mxL hq (hI (k + 1) (by omega) t1) hk hL hm hlev hh hlP lenP 0 0 0 (0 + 1 + (cc + 1)) sf_F σ' τ' σ' τ' (by omega) (by omega) M hc0 sc_fr_rf sc_fr_rf (sc_wr5 w1.cy hk hL h32') h33' rP r0 (Nat.le_refl _)
  · rw [if_neg (show ¬ ¬ sc_b false = 0 by decide)]
    refine C ?_
    rw [Nat.add_zero ep] at hb
    rw [Nat.zero_add ep]
    omega
