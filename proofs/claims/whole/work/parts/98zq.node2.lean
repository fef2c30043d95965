/-! way 2: producers, nodes with one pipe -/
theorem sc_Cy.o1 {X : sc_X} {σ τ : sf_S} (h : sc_Cy X σ τ) {k : Nat} (hk : k < X.n) (hp : 1 ≤ sc_p (X.L k)) : X.o (k + 1) = if X.L k = 120 then nI k else X.o k := by
  obtain ⟨w, o2, hD⟩ := h.D
  exact ((hD.2 k hk).1 hp).2.2
theorem sc_Cy.o2 {X : sc_X} {σ τ : sf_S} (h : sc_Cy X σ τ) {k : Nat} (hk : k < X.n) (hp : sc_p (X.L k) = 2) : X.o (X.E (k + 1)) = X.o k := by
  obtain ⟨w, o2, hD⟩ := h.D
  exact ((hD.2 k hk).2 hp).2.2
theorem sc_hoK {X : sc_X} {k h : Nat} {σ τ σ' τ' : sf_S} (hC : sc_Cy X σ τ) (hk : k < X.n) (ho : X.o k = -1 ∨ σ 33 (X.o k).toNatClampNeg = τ 25 (X.o k).toNatClampNeg) (f1 : sc_fr (sc_mkC X k) σ σ') (f2 : sc_fr (sc_mkM X k h) τ τ') : X.o k = -1 ∨ σ' 33 (X.o k).toNatClampNeg = τ' 25 (X.o k).toNatClampNeg := by
  rcases hC.ox hk with q | ⟨x, x1, -, x3, -, x5⟩
  · exact Or.inl q
  · rcases ho with q | q
    · exact Or.inl q
    · right
      rw [x1, hC.ncl x5] at q ⊢
      rw [f1 33 x (by simp [sc_mkC]; omega), f2 25 x (by simp [sc_mkM]; omega)]
      exact q
theorem sc_Fl01 {X : sc_X} {k h D np g : Nat} {σ τ : sf_S} {x : Option (Int32 × sf_S)} (H : sc_Fl X k h D np g σ τ x) : sc_Fl X k h D np g σ τ (x.bind fun u => if sf_01 u.1 then some (u.1, u.2) else none) := by
  obtain ⟨b, σ', τ', e, np', c, x1, H⟩ := H
  refine ⟨b, σ', τ', e, np', c, ?_, H⟩
  rw [x1]
  simp only [Option.bind_some]
  rw [if_pos (sc_b01 b)]
theorem sc_bdk3 {X : sc_X} {k e : Nat} (h : k < X.E k) : 3 ≤ sc_bdk X k e := by
  unfold sc_bdk; omega
theorem sc_fillC {X : sc_X} {σ τ : sf_S} (hq : X.q = 32) (h : sc_Cy X σ τ) {k : Nat} (hk : k < X.n) (G : Int32 → Int32 → sf_S → Option (Int32 × sf_S)) (x2 : Int32) : dX1_fill G (nI k) x2 σ = if ¬ nI (sc_p (X.L k)) = 0 then
      (dX2_input 1 (nI k) σ).bind fun u2 =>
      (G u2.1 (x2 + (1 : Int32)) u2.2).bind fun u3 =>
      if ¬ u3.1 = 0 then
          if ¬ (u3.2 2 k) = (120 : Int32) then
            if ¬ nI (sc_p (X.L k)) = (1 : Int32) then
              (dX2_secondPart 1 (nI k) u3.2).bind fun u4 =>
              (G u4.1 (x2 + (1 : Int32)) u4.2).bind fun u5 =>
              if ¬ u5.1 = 0 then
                  if ¬ (u5.2 2 k) = (99 : Int32) then
                    (dX1_zip (nI k) u4.1 u5.2).bind fun u6 =>
                    some ((1 : Int32), u6)
                  else
                    (dX1_addRow (nI k) (nI k + (1 : Int32)) u5.2).bind fun u7 =>
                    if u7.1 = 0 then
                      some ((0 : Int32), u7.2)
                    else
                      (dX1_addRow (nI k) u4.1 u7.2).bind fun u8 =>
                      if u8.1 = 0 then
                        some ((0 : Int32), u8.2)
                      else
                        some ((1 : Int32), u8.2)
              else
                some ((0 : Int32), u5.2)
            else
              (dX1_fillFromInput (nI k) u3.2).bind fun u9 =>
              if sf_01 u9.1 then some (u9.1, u9.2) else none
          else
            (dX1_fillByOpening G (nI k) x2 u3.2).bind fun u10 =>
            if sf_01 u10.1 then some (u10.1, u10.2) else none
      else
        some ((0 : Int32), u3.2)
    else
      (dX1_fillFromProducer (nI k) σ).bind fun u11 =>
      if sf_01 u11.1 then some (u11.1, u11.2) else none := by
  obtain ⟨g1, g2, g3, g4⟩ := sc_r32 hq
  have c1 := (h.c1 k hk).1
  rw [g1] at c1
  conv => lhs; unfold dX1_fill
  simp only [h.nin hk, if_true, h.ncl hk, show σ 2 k = X.L k from c1, sc_partsC, Option.bind_some]
theorem sc_mk0 {X : sc_X} {k h D np g : Nat} {G : Int32 → Int32 → sf_S → Option (Int32 × sf_S)} {x2 : Int32} {σ τ : sf_S} (hq : X.q = 32) (w : sc_W X D np g σ τ) (hk : k < X.n) (hp : sc_p (X.L k) = 0) (h105 : X.L k ≠ 105) (hh : h ≤ k) (hfl : σ 19 5 = 0) (h48 : τ 0 48 = nI (h + 1)) (h29 : τ 29 h = nI k) (h32 : τ 32 k = 0) (ho : X.o k = -1 ∨ σ 33 (X.o k).toNatClampNeg = τ 25 (X.o k).toNatClampNeg) (h35 : σ 35 k = 0) :
    sc_Fl X k h D np g σ τ (dX1_fill G (nI k) x2 σ) := by
  have hn4 := w.cy.n40
  have hE := w.cy.T.lt hk
  have hL : X.L k = 114 ∨ X.L k = 115 ∨ X.L k = 117 ∨ X.L k = 118 := by
    rcases sc_il0 (w.cy.vn k hk).1 hp with q | q | q | q | q
    · exact absurd q h105
    · exact Or.inl q
    · exact Or.inr (Or.inl q)
    · exact Or.inr (Or.inr (Or.inl q))
    · exact Or.inr (Or.inr (Or.inr q))
  have f0 : sc_fr (sc_o2M k) τ (sf_up (sf_up τ 31 k 0) 33 k 0) := sc_fr_tr (sc_fr_up (by simp [sc_o2M, sc_rwM])) (sc_fr_up (by simp [sc_o2M, sc_rwM]))
  have w1 : sc_W X D np g σ (sf_up (sf_up τ 31 k 0) 33 k 0) := w.light2 sc_fr_rf (sc_o2M_L f0)
  obtain ⟨b, σ', τ', e, x1, y1, w2, f1, f2, c⟩ := sc_fillP hq w1 hk hL hfl ⟨by omega, h35, by rw [sc_upK (by decide), sc_upS]; rfl, fun i hi => by omega⟩ (by rw [sc_upK (by decide), sc_upK (by decide)]; exact ho)
  rw [sc_fillC hq w.cy hk, hp, if_neg (show ¬ ¬ nI 0 = 0 by decide), x1]
  simp only [Option.bind_some]
  rw [if_pos (sc_b01 b)]
  refine sc_mfin (sc_M2_0 w hfl h48 h29) hq hk (by omega) (by rw [sc_wr0 w.cy hk hp h32, y1]; rfl) w2 (by omega) (sc_fpC_mk hE.1 f1) (sc_fr_tr (sc_o2M_mk hE.1 f0) (sc_fpM_mk hE.1 f2)) ?_ (by have := sc_bdk3 (e := e) hE.1; omega) ?_
  · rw [f2 _ _ (by simp [sc_fpM, sc_rwM]), f0 _ _ (by simp [sc_o2M, sc_rwM])]; exact h48
  · rcases c with ⟨c1, c2, c3⟩ | ⟨c1, c2⟩
    · exact Or.inl ⟨c1, c2, e, c3, Nat.le_refl _⟩
    · exact Or.inr ⟨c1, c2⟩
theorem sc_bdn1 {s dl cc : Nat} (h : cc + 1 ≤ 4 * s + 4 * (s * dl)) : cc + 4 ≤ 4 * (s + 1) + 4 * ((s + 1) * dl) := by
  rw [Nat.add_mul]; omega
theorem sc_mk1 {X : sc_X} {k h D np g m lev : Nat} {σ τ : sf_S} (hq : X.q = 32) (hI : sc_IM X (k + 1)) (w : sc_W X D np g σ τ) (hk : k < X.n) (hp : sc_o1 (X.L k)) (hm : 41 ≤ m + (k + 1)) (hlev : lev ≤ k) (hh : h ≤ k) (hfl : σ 19 5 = 0) (h48 : τ 0 48 = nI (h + 1)) (h29 : τ 29 h = nI k) (h32 : τ 32 k = 0) (ho : X.o k = -1 ∨ σ 33 (X.o k).toNatClampNeg = τ 25 (X.o k).toNatClampNeg) (h35 : σ 35 k = 0) :
    sc_Fl X k h D np g σ τ (dX1_fill (dX1_make_R m) (nI k) (nI lev) σ) := by
  obtain ⟨g1, g2, g3, g4⟩ := sc_r32 hq
  obtain ⟨p1, p2, p3, p4⟩ := sc_o1_f hp
  have hn4 := w.cy.n40
  have hF := sf_F_le
  have hE := w.cy.T.lt hk
  obtain ⟨t1, t2⟩ := w.cy.T.p1 hk p1
  have hE1 := w.cy.T.lt t1
  have hss : X.E k - k = (X.E (k + 1) - (k + 1)) + 1 := by omega
  have hss2 : X.E k - k = (X.E k - (k + 1)) + 1 := by omega
  have hps : sc_ps X.L X.E k = k + 1 := by rw [sc_ps, if_neg p3]
  have inp := w.cy.inp hk (by omega)
  rw [g1, hps] at inp
  have hok : X.o (k + 1) = X.o k := by rw [w.cy.o1 hk (by omega), if_neg p3]
  have f0 : sc_fr (sc_o2M k) τ (sf_up (sf_up (sf_up τ 31 k 0) 33 k 0) 32 k 1) := sc_fr_tr (sc_fr_up (by simp [sc_o2M, sc_rwM])) (sc_fr_tr (sc_fr_up (by simp [sc_o2M, sc_rwM])) (sc_fr_up (by simp [sc_o2M, sc_rwM])))
  obtain ⟨r, σ', τ', dl, cc, x1, f1, f2, hcc, C⟩ := sc_mchild hq hI (sc_M2_0 w hfl h48 h29) hk (by omega) t1 (by omega) hm (show lev + 1 ≤ k + 1 by omega) (by omega) (by rw [sc_wr1 w.cy hk (by omega) h32, hps]) sc_fr_rf f0 (by rw [hok, sc_upK (by decide), sc_upK (by decide), sc_upK (by decide)]; exact ho)
  have hb : cc + 4 ≤ sc_bdk X k dl := by
    unfold sc_bdk at hcc ⊢
    rw [hss]
    exact sc_bdn1 hcc
  rw [sc_fillC hq w.cy hk, p1, if_pos (show ¬ nI 1 = 0 by decide), inp]
  simp only [Option.bind_some]
  rw [nI_1, x1]
  simp only [Option.bind_some]
  rcases C with ⟨rfl, M, lenP, rP, hlP⟩ | ⟨rfl, C⟩
  · rw [if_pos (show ¬ sc_b true = 0 by decide)]
    rw [Nat.zero_add] at M
    obtain ⟨⟨np1, w1, n1⟩, m2, m3, m4, m5, m6, m7⟩ := id M
    have c1 := (w1.cy.c1 k hk).1
    rw [g1] at c1
    have hh1 := w1.cy.has t1
    rw [g1] at hh1
    rw [if_pos (show ¬ σ' 2 k = 120 by rw [show σ' 2 k = X.L k from c1]; exact p3), if_neg (show ¬ ¬ nI 1 = 1 by decide)]
    have r0 : sc_row k 0 σ' τ' := ⟨by omega, by rw [f1 _ _ (by simp [sc_mkC] <;> omega)]; exact h35, by rw [f2 _ _ (by simp [sc_mkM] <;> omega), sc_upK (by decide), sc_upK (by decide), sc_upS]; rfl, fun i hi => by omega⟩
    have hnp : np1 + lenP ≤ 40 * (D + dl) := by
      have a1 := w.np4
      have a2 : (X.E k - (k + 1)) * dl ≤ 39 * dl := Nat.mul_le_mul_right _ (by omega)
      omega
    have hl60 := rP.1
    obtain ⟨b, σ2, τ2, np2, len2, y1, y2, w2, n2, f3, f4, c⟩ := sc_filL hq hk t1 hp hnp lenP 0 0 np1 sf_F sf_F σ' τ' (by omega) (by omega) (by omega) w1 (by rw [g2]; exact m4) rP r0 (by omega) (by omega)
    rw [nI_0] at y1 y2
    rw [g2] at c
    have ec : dX1_fillFromInput (nI k) σ' = some (sc_b b, σ2) := by
      unfold dX1_fillFromInput
      rw [nI_1, hh1]
      simp only [Option.bind_some]
      rw [if_pos (show ¬ (1 : Int32) = 0 by decide)]
      exact y1
    rw [ec]
    simp only [Option.bind_some]
    rw [if_pos (sc_b01 b)]
    have er : dX12_changesRow (nI k) τ' = some τ2 := by
      unfold dX12_changesRow
      simp only [w1.cy.nin hk, if_true, w1.cy.ncl hk, (w1.cy.r1 k hk).1, (w1.cy.r5 k hk).2.1, hps]
      exact y2
    have h32' : τ' 32 k = 1 := by rw [f2 _ _ (by simp [sc_mkM] <;> omega), sc_upS]
    refine sc_mfin M hq hk (by omega) (by rw [sc_wr2 w1.cy hk p1 h32', er]; rfl) w2 ?_ (sc_fiC_mk hq hE.1 f3) (sc_fiM_mk hE.1 f4) ?_ (by omega) ?_
    · rw [hss2, Nat.add_mul]; omega
    · rw [f4 _ _ (by simp [sc_fiM, sc_rwM, sc_cM])]; exact m5
    · rcases c with ⟨c1, c2, c3, c4⟩ | ⟨c1, c2⟩
      · exact Or.inl ⟨c1, c2, len2, c3, by omega⟩
      · exact Or.inr ⟨c1, c2⟩
  · rw [if_neg (show ¬ ¬ sc_b false = 0 by decide)]
    exact C (by rw [Nat.zero_add dl]; omega)
