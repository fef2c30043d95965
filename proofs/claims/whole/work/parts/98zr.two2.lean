/-! way 2: c and z -/
theorem sc_bdn2 {s1 s2 e1 e2 c1 c2 : Nat} (h1 : c1 + 1 ≤ 4 * s1 + 4 * (s1 * e1)) (h2 : c2 + 1 ≤ 4 * s2 + 4 * (s2 * e2)) : c1 + c2 + 6 ≤ 4 * (s1 + s2 + 1) + 4 * ((s1 + s2 + 1) * (e1 + e2)) := by
  rw [Nat.add_mul, Nat.add_mul, Nat.mul_add s1, Nat.mul_add s2]; omega
theorem sc_mk2 {X : sc_X} {k h D np g m lev : Nat} {σ τ : sf_S} (hq : X.q = 32) (hI : ∀ a, k < a → a < X.n → sc_IM X a) (w : sc_W X D np g σ τ) (hk : k < X.n) (hL : X.L k = 99 ∨ X.L k = 122) (hm : 41 ≤ m + (k + 1)) (hlev : lev ≤ k) (hh : h ≤ k) (hfl : σ 19 5 = 0) (h48 : τ 0 48 = nI (h + 1)) (h29 : τ 29 h = nI k) (h32 : τ 32 k = 0) (ho : X.o k = -1 ∨ σ 33 (X.o k).toNatClampNeg = τ 25 (X.o k).toNatClampNeg) (h35 : σ 35 k = 0) :
    sc_Fl X k h D np g σ τ (dX1_fill (dX1_make_R m) (nI k) (nI lev) σ) := by
  obtain ⟨g1, g2, g3, g4⟩ := sc_r32 hq
  have hp : sc_p (X.L k) = 2 := by rcases hL with q | q <;> rw [q] <;> decide +kernel
  have p3 : ¬ X.L k = 120 := by rcases hL with q | q <;> rw [q] <;> decide
  have hn4 := w.cy.n40
  have hE := w.cy.T.lt hk
  obtain ⟨t1, t2, t3, t4, t5⟩ := w.cy.T.p2 hk hp
  have hE2 := w.cy.T.lt t3
  have hss : X.E k - k = (X.E (k + 1) - (k + 1)) + (X.E (X.E (k + 1)) - X.E (k + 1)) + 1 := by omega
  have hss2 : X.E k - k = (X.E k - (k + 1)) + 1 := by omega
  have hps : sc_ps X.L X.E k = k + 1 := by rw [sc_ps, if_neg p3]
  have inp := w.cy.inp hk (by omega)
  rw [g1, hps] at inp
  have hok : X.o (k + 1) = X.o k := by rw [w.cy.o1 hk (by omega), if_neg p3]
  have hok2 : X.o (X.E (k + 1)) = X.o k := w.cy.o2 hk hp
  have f0 : sc_fr (sc_o2M k) τ (sf_up (sf_up (sf_up τ 31 k 0) 33 k 0) 32 k 1) := sc_fr_tr (sc_fr_up (by simp [sc_o2M, sc_rwM])) (sc_fr_tr (sc_fr_up (by simp [sc_o2M, sc_rwM])) (sc_fr_up (by simp [sc_o2M, sc_rwM])))
  obtain ⟨r, σ', τ', d1, cc1, x1, f1, f2, hcc1, C⟩ := sc_mchild hq (hI (k + 1) (by omega) t1) (sc_M2_0 w hfl h48 h29) hk (by omega) t1 (by omega) hm (show lev + 1 ≤ k + 1 by omega) (by omega) (by rw [sc_wr1 w.cy hk (by omega) h32, hps]) sc_fr_rf f0 (by rw [hok, sc_upK (by decide), sc_upK (by decide), sc_upK (by decide)]; exact ho)
  have hb : ∀ d2 c2, c2 + 1 ≤ sc_bdk X (X.E (k + 1)) d2 → cc1 + c2 + 6 ≤ sc_bdk X k (d1 + d2) := fun d2 c2 z => by
    unfold sc_bdk at hcc1 z ⊢
    rw [hss]
    exact sc_bdn2 hcc1 z
  rw [sc_fillC hq w.cy hk, hp, if_pos (show ¬ nI 2 = 0 by decide), inp]
  simp only [Option.bind_some]
  rw [nI_1, x1]
  simp only [Option.bind_some]
  rcases C with ⟨rfl, M, n1, r1, l1⟩ | ⟨rfl, C⟩
  · rw [if_pos (show ¬ sc_b true = 0 by decide)]
    rw [Nat.zero_add] at M
    obtain ⟨⟨np1, w1, nn1⟩, m2, m3, m4, m5, m6, m7⟩ := id M
    have c1 := (w1.cy.c1 k hk).1
    have snd := w1.cy.snd t1
    rw [g1] at c1 snd
    rw [if_pos (show ¬ σ' 2 k = 120 by rw [show σ' 2 k = X.L k from c1]; exact p3), if_pos (show ¬ nI 2 = 1 by decide), snd]
    simp only [Option.bind_some]
    have h32' : τ' 32 k = 1 := by rw [f2 _ _ (by simp [sc_mkM] <;> omega), sc_upS]
    have hoE := sc_hoK w.cy hk ho m2 m3
    have f0' : sc_fr (sc_o2M k) τ' (sf_up τ' 32 k 2) := sc_fr_up (by simp [sc_o2M, sc_rwM])
    obtain ⟨r', σ2, τ2, d2, cc2, x2, f3, f4, hcc2, C⟩ := sc_mchild hq (hI (X.E (k + 1)) (by omega) t3) M hk (by omega) t3 (by omega) (show 41 ≤ m + X.E (k + 1) by omega) (show lev + 1 ≤ X.E (k + 1) by omega) (by omega) (sc_wr3 w1.cy hk hp p3 h32') sc_fr_rf f0' (by rw [hok2, sc_upK (by decide)]; exact hoE)
    have hb2 := hb d2 cc2 hcc2
    rw [x2]
    simp only [Option.bind_some]
    rcases C with ⟨rfl, M', n2, r2, l2⟩ | ⟨rfl, C⟩
    · rw [if_pos (show ¬ sc_b true = 0 by decide)]
      obtain ⟨⟨np2, w2, nn2⟩, m2', m3', m4', m5', m6', m7'⟩ := id M'
      have c2 := (w2.cy.c1 k hk).1
      rw [g1] at c2
      rw [show σ2 2 k = X.L k from c2]
      have h32'' : τ2 32 k = 2 := by rw [f4 _ _ (by simp [sc_mkM] <;> omega), sc_upS]
      have r0 : sc_row k 0 σ2 τ2 := ⟨by omega, by rw [f3 _ _ (by simp [sc_mkC] <;> omega), f1 _ _ (by simp [sc_mkC] <;> omega)]; exact h35, by rw [f4 _ _ (by simp [sc_mkM] <;> omega), sc_upK (by decide), f2 _ _ (by simp [sc_mkM] <;> omega), sc_upK (by decide), sc_upK (by decide), sc_upS]; rfl, fun i hi => by omega⟩
      have r1' : sc_row (k + 1) n1 σ2 τ2 := r1.kept (fun a b q => f3 a b (by simp only [sc_mkC, Bool.or_eq_false_iff, decide_eq_false_iff_not]; omega)) (fun a b q => by
        rw [f4 a b (by simp only [sc_mkM, Bool.or_eq_false_iff, decide_eq_false_iff_not]; omega), sc_upK (by omega)])
      have hps' : τ2 16 k = nI (k + 1) := by rw [(w2.cy.r5 k hk).2.1, hps]
      have hqs' : τ2 17 k = nI (X.E (k + 1)) := by rw [(w2.cy.r5 k hk).2.2.1, sc_qs, if_neg p3, if_neg (by omega)]
      have hnp : np2 ≤ np + (X.E k - k) * (d1 + d2) := by
        rw [hss2, Nat.add_mul]; omega
      rcases hL with q | q
      · rw [if_neg (show ¬ ¬ X.L k = 99 from not_not_intro q)]
        obtain ⟨b, σ3, τ3, y1, y2, w3, f5, f6, c⟩ := sc_chn2 hq w2 hk t1 t3 (by omega) (by omega) m4' r0 r1' r2 q hps' hqs'
        rw [nI_1, y1]
        refine sc_mfin M' hq hk (by omega) (by rw [sc_wr4 w2.cy hk hp p3 h32'', y2]; rfl) w3 hnp (sc_fpC_mk hE.1 f5) (sc_fpM_mk hE.1 f6) ?_ (by omega) ?_
        · rw [f6 _ _ (by simp [sc_fpM, sc_rwM])]; exact m5'
        · rcases c with ⟨c1, c2, c3⟩ | ⟨c1, c2⟩
          · exact Or.inl ⟨c1, c2, n1 + n2, c3, by omega⟩
          · exact Or.inr ⟨c1, c2⟩
      · rw [if_pos (show ¬ X.L k = 99 by rw [q]; decide)]
        obtain ⟨σ3, τ3, y1, y2, w3, f5, f6, c⟩ := sc_zip2 hq w2 hk t1 t3 (by omega) r0 r1' r2 q hps' hqs'
        rw [y1]
        simp only [Option.bind_some]
        refine sc_mfin (b := true) M' hq hk (by omega) (by rw [sc_wr4 w2.cy hk hp p3 h32'', y2]; rfl) w3 hnp (sc_fpC_mk hE.1 (sc_fpC_r f5)) (sc_fpM_mk hE.1 (sc_fpM_r f6)) ?_ (by omega) (Or.inl ⟨rfl, ?_, min n1 n2, c, by omega⟩)
        · rw [f6 _ _ (by simp [sc_rwM])]; exact m5'
        · rw [f5 _ _ (by simp [sc_rwC])]; exact m4'
    · rw [if_neg (show ¬ ¬ sc_b false = 0 by decide)]
      exact C (by omega)
  · rw [if_neg (show ¬ ¬ sc_b false = 0 by decide)]
    refine C ?_
    have := hb 0 0 (by have := sc_bdk3 (e := 0) hE2.1; omega)
    rw [Nat.add_zero d1] at this
    rw [Nat.zero_add d1]
    omega
