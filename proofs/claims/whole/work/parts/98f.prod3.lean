theorem sc_atC {m u l : Nat} {σ : sf_S} (hm : m < 4) (hl : l ≤ 60) (h : σ 17 m = nI l) (hu : u < l) : dX7_at (nI m) (nI u) σ = some (σ 18 (60 * m + u), σ) := by
  unfold dX7_at
  rw [if_neg (nI_pos (by omega)), sc_c4, if_neg (nI_ge hm (by omega)), if_neg (nI_pos (by omega)), if_pos (sc_inI hm (by omega)), sc_cl (by omega), h, if_pos (nI_lt hu (by omega)), sc_c60, sc_mul, nI_add, show m * 60 + u = 60 * m + u by omega]
  simp only [sc_inI (show 60 * m + u < 240 by omega) (by omega : 240 ≤ 10000), sc_cl (show 60 * m + u < 2 ^ 31 by omega), if_true]
theorem sc_PR.up {X : sc_X} {D np g k u : Nat} {σ τ : sf_S} {x : Option (Int32 × sf_S)} {y y' : Option sf_S} (h : sc_PR X D np g k u σ τ x y) (e : y' = y) : sc_PR X D np g k u σ τ x y' := by rw [e]; exact h
theorem sc_prod {X : sc_X} {D np g k u : Nat} {σ τ : sf_S} (h : sc_W X D np g σ τ) (hop : sf_op X.q = X.q + 3) (hk : k < X.n) (hp : sc_p (X.L k) = 0) (hu : σ (X.q + 1) k = nI u) (huD : u ≤ D) (hfl : σ (sf_rn X.q) 5 = 0)
    (hN : sc_Np (X.L k) (X.f k) (X.s k) (τ 24 k) (σ (X.q + 3) (X.o k).toNatClampNeg) (τ 25 (X.o k).toNatClampNeg) u) :
    sc_PR X D np g k u σ τ (dX9_produce X.q (nI k) σ) (dX12_gives (nI k) τ) := by
  obtain ⟨k1, k2, k3, k4, k5, k6⟩ := h.cy.ok
  have hn4 := h.cy.n40
  have hD5 := h.D5
  obtain ⟨r1, r2, r3, r4⟩ := h.cy.r1 k hk
  obtain ⟨r5, r6, r7, r8, r9⟩ := h.cy.r5 k hk
  have hcyD : sc_Cy X (sf_up σ (sf_rn X.q) 2 (nI (D + 1))) τ := h.cy.kept (sc_fr_up (by simp [sc_RC])) sc_fr_rf
  have hlet : X.L k = 105 ∨ X.L k = 114 ∨ X.L k = 115 ∨ X.L k = 117 ∨ X.L k = 118 := by
    have := (h.cy.vn k hk).1
    rw [sc_il, decide_eq_true_eq] at this
    rcases this with q | q | q | q | q | q
    · exact Or.inl q
    · exact Or.inr (Or.inl q)
    · exact Or.inr (Or.inr (Or.inl q))
    · exact Or.inr (Or.inr (Or.inr (Or.inl q)))
    · exact Or.inr (Or.inr (Or.inr (Or.inr q)))
    · omega
  have hN0 := hN
  obtain ⟨n1, n2, n3, n4⟩ := hN
  have nn : ∀ {x : Int32}, x = 0 ∧ x = 1 → False := fun ⟨a, b⟩ => by rw [a] at b; exact absurd b (by decide)
  unfold dX12_gives
  simp only [h.cy.nin hk, if_true, h.cy.ncl hk, r1]
  rcases hlet with hL | hL | hL | hL | hL
  · rw [if_pos hL]
    refine (sc_prodT (av := true) (v := X.f k + nI u * X.s k) (w := τ 24 k) h hk hu huD hfl (sc_ready h.cy hk (by rw [hL]; decide)) (sc_supI h.cy hk hL) (by rw [sc_maxl]; simp; omega) (fun _ => by rw [sc_spl hcyD hk, if_pos hL]) hN0 (fun _ => ?_) (fun _ => n2 hL)).up (by rw [sc_upK (by omega)]; rfl)
    rw [if_pos hL, n2 hL]
    exact ⟨fun q => by rw [hL] at q; exact absurd q (by decide), fun _ => sc_stepI _ _ _, fun q => by rw [hL] at q; exact absurd q (by decide), fun q => by rw [hL] at q; exact absurd q (by decide)⟩
  · obtain ⟨m1, m2⟩ := n1 hL
    have hsum := sc_sumI (by omega) m2
    rw [if_neg (by rw [hL]; decide), if_pos hL, r4]
    have hav : (X.s k ≤ τ 24 k) ↔ (if (X.s k).toInt - (X.f k).toInt < 0 then 0 else (X.s k).toInt - (X.f k).toInt) ≤ (u : Int) := by
      rw [Int32.le_iff_toInt_le, m1, hsum]
      split <;> omega
    have key : ∀ av : Bool, ((X.s k ≤ τ 24 k) ↔ av = false) → sc_PR X D np g k u σ τ (dX9_produce X.q (nI k) σ) (dX12_gives_268 (nI k) (sf_up (sf_up τ 0 45 (sc_b av)) 0 46 (τ 24 k))) := fun av hv => by
      refine sc_prodT (av := av) (v := X.f k + nI u) (w := τ 24 k) h hk hu huD hfl (sc_ready h.cy hk (by rw [hL]; decide)) (sc_supR h.cy hk hL) (by rw [sc_rsup, ← hav]; exact hv) (fun _ => by rw [sc_spl hcyD hk, if_neg (by rw [hL]; decide), if_pos hL]) hN0 (fun ha => ?_) (fun _ => m1)
      rw [if_neg (by rw [hL]; decide), m1]
      refine ⟨fun _ => ⟨sc_addI _ _, Or.inr ?_⟩, fun q => by rw [hL] at q; exact absurd q (by decide), fun q => by rw [hL] at q; exact absurd q (by decide), fun q => by rw [hL] at q; exact absurd q (by decide)⟩
      have hno : ¬ (X.s k ≤ τ 24 k) := fun q => by rw [hv.mp q] at ha; cases ha
      rw [Int32.le_iff_toInt_le, m1, hsum] at hno
      omega
    by_cases hc : X.s k ≤ τ 24 k
    · rw [if_pos hc, sc_upK (by omega)]
      exact key false ⟨fun _ => rfl, fun _ => hc⟩
    · rw [if_neg hc, sc_upK (by omega)]
      exact key true ⟨fun q => absurd q hc, fun q => by cases q⟩
  · obtain ⟨m, hm, hmk⟩ := sc_mk115 h.cy hk hL
    rw [if_neg (by rw [hL]; decide), if_neg (by rw [hL]; decide), if_pos hL, r2, hmk, if_pos (sc_inI hm (by omega)), sc_cl (by omega)]
    have hkeep := n3 (Or.inl hL)
    rcases h.cy.sh.1 m hm with ⟨l1, l2⟩ | ⟨l, f0, l1, l2, l3, l4, l5, l6⟩
    · rw [l2, if_pos (show (-1 : Int32) < 0 by decide)]
      unfold dX12_gives_141 dX12_gives_172
      rw [if_pos (show sf_01 0 = true from rfl)]
      simp only [sc_upS, if_true, sc_inI hm (by omega : 4 ≤ 10000), sc_cl (show m < 2 ^ 31 by omega)]
      simp (disch := omega) only [sc_upK, l2]
      rw [if_neg (show ¬ (0 : Int32) ≤ -1 by decide)]
      unfold dX12_fails
      rw [if_pos (show ¬ (2 : Int32) = 3 by decide), if_pos (h.cy.nin hk), h.cy.ncl hk]
      simp only [Option.bind_some]
      simp (disch := omega) only [sc_upK, r8]
      unfold dX12_gives_268
      rw [if_pos (by rw [sc_upJ (by omega), sc_upS]; decide)]
      unfold dX9_produce dX10_isReady
      rw [h.cy.has hk]
      simp only [Option.bind_some]
      rw [if_neg (show ¬ (1 : Int32) = 0 by decide), h.cy.lat hk]
      simp only [Option.bind_some]
      rw [if_neg (not_not_intro hL), if_pos (h.cy.nin hk), h.cy.ncl hk, show σ (sf_pl X.q + 2) k = X.mk k from (h.cy.c1 k hk).2.1, hmk, sc_lostC hm, decide_eq_true l1]
      simp only [Option.bind_some]
      rw [if_neg (show ¬ sc_b true = 0 by decide), if_pos (h.cy.nin hk)]
      unfold dX6_fail
      simp only [Option.bind_some, not_true_eq_false, if_false]
      rw [show σ (sf_pl X.q + 7) k = X.dp k from (h.cy.c5 k hk).2.1]
      have hW1 : sc_W X D np g σ (sf_up (sf_up τ 0 45 0) 0 46 0) := h.light sc_fr_rf (sc_fr_tr (sc_fr_up (by simp [sc_LM])) (sc_fr_up (by simp [sc_LM])))
      refine ⟨false, _, _, 0, rfl, rfl, hW1.fail 2 (X.dp k), sc_fr_tr (sc_fr_up (by simp [sc_pCx])) (sc_fr_up (by simp [sc_pCx])), sc_fr_tr (sc_fr_up (by simp [sc_pMx])) (sc_fr_tr (sc_fr_up (by simp [sc_pMx])) (sc_fr_tr (sc_fr_up (by simp [sc_pMx])) (sc_fr_up (by simp [sc_pMx])))), Or.inr (Or.inr ⟨rfl, rfl, ?_⟩)⟩
      rw [sc_upJ (by omega), sc_upS]; decide
    · rw [l6, if_neg (nI_pos (by omega)), l4, hkeep]
      have hready : dX10_isReady X.q (nI k) σ = some (1, σ) := by
        unfold dX10_isReady
        rw [h.cy.lat hk]
        simp only [Option.bind_some]
        rw [if_neg (not_not_intro hL), if_pos (h.cy.nin hk), h.cy.ncl hk, show σ (sf_pl X.q + 2) k = X.mk k from (h.cy.c1 k hk).2.1, hmk, sc_lostC hm, l3, decide_eq_false (fun q => by have := congrArg Int32.toInt q; rw [nI_toInt (by omega)] at this; rw [show (-1 : Int32).toInt = -1 from by decide] at this; omega)]
        simp only [Option.bind_some]
        rw [if_pos (show sc_b false = 0 from rfl)]
      have key : ∀ (av : Bool) (w : Int32), (av = false ↔ l ≤ u) → (av = true → w = σ 18 (60 * m + u)) → sc_PR X D np g k u σ τ (dX9_produce X.q (nI k) σ) (dX12_gives_268 (nI k) (sf_up (sf_up τ 0 45 (sc_b av)) 0 46 w)) := fun av w ha hw => by
        refine sc_prodT (av := av) (v := σ 18 (60 * m + u)) (w := w) h hk hu huD hfl hready (sc_supS h.cy hk hL hm hmk) (by rw [l3, Int32.toInt_toInt64, nI_toInt (by omega), ha]; omega) (fun hv => ?_) hN0 (fun hv => ?_) hw
        · have : u < l := by
            have : ¬ l ≤ u := fun q => by rw [ha.mpr q] at hv; cases hv
            omega
          rw [sc_spl hcyD hk, if_neg (by rw [hL]; decide), if_neg (by rw [hL]; decide), if_pos hL, hmk, sc_atC (l := l) hm l1 (by rw [sc_upK (by omega)]; exact l3) this]
          simp only [Option.bind_some]
          rw [sc_upK (by omega)]
        · rw [if_neg (by rw [hL]; decide), hkeep]
          refine ⟨fun q => by rw [hL] at q; exact absurd q (by decide), fun q => by rw [hL] at q; exact absurd q (by decide), fun _ => nI_1 u, fun q => by rw [hL] at q; exact absurd q (by decide)⟩
      unfold dX12_gives_141 dX12_gives_172
      by_cases hc : l ≤ u
      · rw [if_pos (nI_le hc (by omega)), if_pos (show sf_01 0 = true from rfl)]
        simp only [sc_upS, if_true, sc_inI hm (by omega : 4 ≤ 10000), sc_cl (show m < 2 ^ 31 by omega)]
        simp (disch := omega) only [sc_upK, l6]
        rw [if_pos (nI_pos' (by omega))]
        exact key false 0 (by simp [hc]) (fun q => by cases q)
      · rw [if_neg (nI_ge (by omega) (by omega)), if_pos (show sf_01 1 = true from rfl)]
        simp only [sc_upS, sc_inI hm (by omega : 4 ≤ 10000), sc_cl (show m < 2 ^ 31 by omega), h.cy.nin hk, h.cy.ncl hk, if_true]
        simp (disch := omega) only [sc_upK, l6, hkeep]
        rw [if_neg (show ¬ (1 : Int32) = 0 by decide), sc_idx2, if_pos (sc_inI (by omega) (by omega)), if_pos (nI_pos' (by omega)), sc_cl (by omega)]
        exact key true _ (by simp; omega) (fun _ => (h.cy.sh.2 _ (by omega)).symm)
  · obtain ⟨x, x1, x2, x3, x4, x5⟩ := h.cy.ow hk (Or.inl hL)
    have hkeep := n3 (Or.inr (Or.inl hL))
    have hopen := n4 (Or.inl hL)
    have hx : (X.o k).toNatClampNeg = x := by rw [x1]; exact h.cy.ncl x5
    rw [if_neg (by rw [hL]; decide), if_neg (by rw [hL]; decide), if_neg (by rw [hL]; decide), if_pos hL, r9, x1, if_pos (h.cy.nin x5), h.cy.ncl x5]
    rw [hx] at hopen
    have hav : (τ 25 x ≤ τ 24 k) ↔ (if (0 : Int32) < σ (sf_op X.q) (X.o k).toNatClampNeg then σ (sf_op X.q) (X.o k).toNatClampNeg else 0).toInt64.toInt ≤ (u : Int) := by
      rw [hop, hx, hopen, hkeep, Int32.le_iff_toInt_le, nI_toInt (by omega), Int32.toInt_toInt64]
      by_cases q : (0 : Int32) < τ 25 x
      · rw [if_pos q]
      · rw [if_neg q]
        rw [Int32.lt_iff_toInt_lt, sc_t0] at q
        rw [sc_t0]
        omega
    have key : ∀ av : Bool, ((τ 25 x ≤ τ 24 k) ↔ av = false) → sc_PR X D np g k u σ τ (dX9_produce X.q (nI k) σ) (dX12_gives_268 (nI k) (sf_up (sf_up τ 0 45 (sc_b av)) 0 46 (τ 24 k))) := fun av hv => by
      refine sc_prodT (av := av) (v := nI u) (w := τ 24 k) h hk hu huD hfl (sc_ready h.cy hk (by rw [hL]; decide)) (sc_supU h.cy hk hL) (by rw [← hav]; exact hv) (fun _ => by rw [sc_spl hcyD hk, if_neg (by rw [hL]; decide), if_neg (by rw [hL]; decide), if_neg (by rw [hL]; decide), if_neg (by rw [hL]; decide)]) hN0 (fun ha => ?_) (fun _ => hkeep)
      rw [if_neg (by rw [hL]; decide), hkeep]
      exact ⟨fun q => by rw [hL] at q; exact absurd q (by decide), fun q => by rw [hL] at q; exact absurd q (by decide), fun _ => nI_1 u, n4⟩
    by_cases hc : τ 25 x ≤ τ 24 k
    · rw [if_pos hc, sc_upK (by omega)]
      exact key false ⟨fun _ => rfl, fun _ => hc⟩
    · rw [if_neg hc, sc_upK (by omega)]
      exact key true ⟨fun q => absurd q hc, fun q => by cases q⟩
  · obtain ⟨x, x1, x2, x3, x4, x5⟩ := h.cy.ow hk (Or.inr hL)
    have hkeep := n3 (Or.inr (Or.inr hL))
    have hopen := n4 (Or.inr hL)
    have hx : (X.o k).toNatClampNeg = x := by rw [x1]; exact h.cy.ncl x5
    rw [if_neg (by rw [hL]; decide), if_neg (by rw [hL]; decide), if_neg (by rw [hL]; decide), if_neg (by rw [hL]; decide)]
    rw [hx] at hopen
    have key : ∀ av : Bool, (av = false ↔ 1 ≤ u) → sc_PR X D np g k u σ τ (dX9_produce X.q (nI k) σ) (dX12_gives_268 (nI k) (sf_up (sf_up τ 0 45 (sc_b av)) 0 46 (τ 25 x))) := fun av ha => by
      refine sc_prodT (av := av) (v := τ 25 x) (w := τ 25 x) h hk hu huD hfl (sc_ready h.cy hk (by rw [hL]; decide)) (sc_supV h.cy hk hL) (by rw [sc_l1, ha]; omega) (fun _ => ?_) hN0 (fun hv => ?_) (fun _ => rfl)
      · rw [sc_spl hcyD hk, if_neg (by rw [hL]; decide), if_neg (by rw [hL]; decide), if_neg (by rw [hL]; decide), if_pos hL, sc_opFor hcyD hk (Or.inr hL), hop, hx]
        simp only [Option.bind_some]
        rw [sc_upK (by omega), hopen]
      · rw [if_neg (by rw [hL]; decide), hkeep]
        exact ⟨fun q => by rw [hL] at q; exact absurd q (by decide), fun q => by rw [hL] at q; exact absurd q (by decide), fun _ => nI_1 u, n4⟩
    unfold dX12_gives_250
    rw [hkeep]
    by_cases hc : 1 ≤ u
    · rw [if_pos (nI_ne0 hc (by omega)), if_pos (show sf_01 0 = true from rfl), if_pos (h.cy.nin hk), h.cy.ncl hk]
      simp (disch := omega) only [sc_upK, r9, x1]
      rw [if_pos (h.cy.nin x5), h.cy.ncl x5]
      exact key false (by simp [hc])
    · have : u = 0 := by omega
      subst this
      rw [if_neg (show ¬ ¬ nI 0 = 0 by decide), if_pos (show sf_01 1 = true from rfl), if_pos (h.cy.nin hk), h.cy.ncl hk]
      simp (disch := omega) only [sc_upK, r9, x1]
      rw [if_pos (h.cy.nin x5), h.cy.ncl x5]
      exact key true (by simp)
