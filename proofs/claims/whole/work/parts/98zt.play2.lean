/-! way 2: every node, and the run -/
theorem sc_make2 {X : sc_X} (hq : X.q = 32) (hne : ∀ j, j < X.n → X.L j ≠ 105) : ∀ r k, k + r = X.n → k < X.n → sc_IM X k := by
  intro r
  induction r using Nat.strongRecOn with
  | _ r ih =>
    intro k hr hk
    have hI : ∀ a, k < a → a < X.n → sc_IM X a := fun a h1 h2 => ih (X.n - a) (by omega) a (by omega) h2
    intro m lev h D np g σ τ hm hlev hh w hfl h48 h29 h32 ho
    have hn4 := w.cy.n40
    obtain ⟨m', rfl⟩ : ∃ m', m = m' + 1 := ⟨m - 1, by omega⟩
    refine sc_mkOf hq w hk (by omega) ?_
    have w1 : sc_W X D np g (sf_up σ 35 k 0) τ := w.light2 (sc_fr_up (by simp [sc_LC, hq])) sc_fr_rf
    have hfl1 : sf_up σ 35 k 0 19 5 = 0 := by rw [sc_upK (by decide)]; exact hfl
    have ho1 : X.o k = -1 ∨ sf_up σ 35 k 0 33 (X.o k).toNatClampNeg = τ 25 (X.o k).toNatClampNeg := by rw [sc_upK (by decide)]; exact ho
    by_cases hp : sc_p (X.L k) = 0
    · exact sc_mk0 hq w1 hk hp (hne k hk) hh hfl1 h48 h29 h32 ho1 sc_upS
    · have h1 : k + 1 < X.n := by
        rcases sc_p3 (X.L k) with q | q | q
        · exact absurd q hp
        · exact (w.cy.T.p1 hk q).1
        · exact (w.cy.T.p2 hk q).1
      have h0 := hI (k + 1) (by omega) h1
      have U : sc_o1 (X.L k) → sc_Fl X k h D np g (sf_up σ 35 k 0) τ (dX1_fill (dX1_make_R m') (nI k) (nI lev) (sf_up σ 35 k 0)) := fun q => sc_mk1 hq h0 w1 hk q (by omega) hlev hh hfl1 h48 h29 h32 ho1 sc_upS
      have B : X.L k = 99 ∨ X.L k = 122 → sc_Fl X k h D np g (sf_up σ 35 k 0) τ (dX1_fill (dX1_make_R m') (nI k) (nI lev) (sf_up σ 35 k 0)) := fun q => sc_mk2 hq hI w1 hk q (by omega) hlev hh hfl1 h48 h29 h32 ho1 sc_upS
      rcases sc_p13 hp with q | q | q | q | q | q | q | q | q | q | q | q | q
      · exact U (by unfold sc_o1; simp [q])
      · exact U (by unfold sc_o1; simp [q])
      · exact U (by unfold sc_o1; simp [q])
      · exact U (by unfold sc_o1; simp [q])
      · exact U (by unfold sc_o1; simp [q])
      · exact B (Or.inl q)
      · exact U (by unfold sc_o1; simp [q])
      · exact U (by unfold sc_o1; simp [q])
      · exact U (by unfold sc_o1; simp [q])
      · exact U (by unfold sc_o1; simp [q])
      · exact U (by unfold sc_o1; simp [q])
      · exact sc_mkX hq hI w1 hk q (by omega) hlev hh hfl1 h48 h29 h32 ho1 sc_upS
      · exact B (Or.inr q)
theorem sc_mE {N : Nat} {x : Int32} {τ : sf_S} (h : τ 0 48 = 0) : dX12_makesRows_21 (N + 1) x τ = some τ := by
  unfold dX12_makesRows_21
  split
  · rfl
  · rw [if_pos (by rw [h]; decide)]
theorem sc_sameU {τ : sf_S} {a b : Nat} {v : Int32} (h : τ a b = v) : sf_up τ a b v = τ := funext fun x => funext fun y => by
  simp only [sf_up]
  split
  · next q => rw [q.1, q.2]; exact h.symm
  · rfl
theorem sc_resL {X : sc_X} {D np N len : Nat} (hq : X.q = 32) (hN : N ≤ 40) (hlen : len ≤ 60) : ∀ r i n n' (σ τ : sf_S), i + r = min N len → r + 1 ≤ n → r + 1 ≤ n' → sc_W X D np i σ (sf_up τ 0 41 (nI i)) → τ 0 41 = nI (min N len) → sc_row 0 len σ τ →
    ∃ σ' τ', dX1_play_19 n (nI N) (nI i) σ = some σ' ∧ dX12_runs_80 n' (nI i) τ = some τ' ∧ sc_W X D np (min N len) σ' τ' ∧ sc_fr (sc_RC X.q) σ σ' ∧ sc_fr sc_RM τ τ' := by
  obtain ⟨g1, g2, g3, g4⟩ := sc_r32 hq
  intro r
  induction r with
  | zero =>
    intro i n n' σ τ h1 h2 h3 w h41 hr
    obtain ⟨n, rfl⟩ : ∃ x, n = x + 1 := ⟨n - 1, by omega⟩
    obtain ⟨n', rfl⟩ : ∃ x, n' = x + 1 := ⟨n' - 1, by omega⟩
    have e : i = min N len := by omega
    refine ⟨σ, τ, ?_, ?_, ?_, sc_fr_rf, sc_fr_rf⟩
    · unfold dX1_play_19
      by_cases z : N ≤ i
      · rw [if_pos (nI_le z (by omega))]
      · rw [if_neg (nI_ge (by omega) (by omega)), if_pos (show sf_in (0 : Int32) 40 = true by decide), show ((0 : Int32)).toNatClampNeg = 0 from rfl, hr.2.1, if_pos (nI_le (by omega) (by omega))]
    · unfold dX12_runs_80
      rw [h41, if_pos (nI_le (by omega) (by omega))]
    · rw [← e] at h41 ⊢
      rw [sc_sameU h41] at w
      exact w
  | succ r ih =>
    intro i n n' σ τ h1 h2 h3 w h41 hr
    obtain ⟨n, rfl⟩ : ∃ x, n = x + 1 := ⟨n - 1, by omega⟩
    obtain ⟨n', rfl⟩ : ∃ x, n' = x + 1 := ⟨n' - 1, by omega⟩
    have hv : σ 34 i = τ 30 i := by
      have := hr.2.2.2 i (by omega)
      rw [show 60 * 0 + i = i by omega] at this
      exact this
    have w1 : sc_W X D np i σ (sf_up (sf_up τ 0 41 (nI i)) 0 46 (τ 30 i)) := w.light sc_fr_rf (sc_fr_up (by simp [sc_LM]))
    obtain ⟨σ2, τ2, z1, z2, w2, f1, f2, f3, -, -⟩ := w1.give (show i < 40 by omega) (v := σ 34 i) (by rw [sc_upS]; exact hv)
    rw [g2] at z1
    have w3 : sc_W X D np (i + 1) σ2 (sf_up (sf_up τ 26 i (τ 30 i)) 0 41 (nI (i + 1))) := w2.light sc_fr_rf (fun a b hab => by
      rw [z2, sc_upS]
      have hne : ¬ (a = 0 ∧ b = 46) := fun q => by rw [q.1, q.2] at hab; exact absurd hab (by decide)
      simp only [sf_up]
      by_cases q1 : a = 0 ∧ b = 41
      · rw [if_pos q1, if_pos q1]
      · rw [if_neg q1, if_neg q1]
        by_cases q2 : a = 26 ∧ b = i
        · rw [if_pos q2, if_pos q2]
        · rw [if_neg q2, if_neg q2, if_neg hne, if_neg q1])
    have fσ : sc_fr (fun a b => decide (a = 19 ∨ a = 20)) σ σ2 := fun a b hab => by
      have e : dX6_give 19 (σ 34 i) σ = some (sf_up (sf_up σ 20 i (σ 34 i)) 19 1 (nI (i + 1))) := by
        unfold dX6_give
        have cg := w1.cg
        rw [g2] at cg
        rw [cg, if_pos (show nI i < 40 from nI_lt (b := 40) (by omega) (by decide))]
        simp only [sc_inI (show i < 40 by omega) (by omega : 40 ≤ 10000), if_true, sc_cl (show i < 2 ^ 31 by omega)]
        rw [sc_upK (by decide), cg, nI_1]
      rw [e] at z1
      cases z1
      simp at hab
      rw [sc_upK (by omega), sc_upK (by omega)]
    obtain ⟨σ3, τ3, y1, y2, y3, y4, y5⟩ := ih (i + 1) n n' σ2 (sf_up τ 26 i (τ 30 i)) (by omega) (by omega) (by omega) w3 (by rw [sc_upK (by decide)]; exact h41) (hr.kept (fun a b q => fσ a b (by simp; omega)) (fun a b q => by rw [sc_upK (by omega)]))
    refine ⟨σ3, τ3, ?_, ?_, y3, sc_fr_tr f1 y4, sc_fr_tr (sc_fr_up (by simp [sc_RM])) y5⟩
    · unfold dX1_play_19
      rw [if_neg (nI_ge (by omega) (by omega)), if_pos (show sf_in (0 : Int32) 40 = true by decide), show ((0 : Int32)).toNatClampNeg = 0 from rfl, hr.2.1, if_neg (nI_ge (by omega) (by omega)), if_pos (sc_inI (by omega) (by omega)), sc_cl (by omega), z1]
      simp only [Option.bind_some]
      rw [nI_1]
      exact y1
    · unfold dX12_runs_80
      rw [h41, if_neg (nI_ge (by omega) (by omega))]
      simp only [sc_inI (show i < 2400 by omega) (by omega : 2400 ≤ 10000), sc_inI (show i < 40 by omega) (by omega : 40 ≤ 10000), if_true, sc_cl (show i < 2 ^ 31 by omega)]
      rw [nI_1]
      exact y2
theorem sc_play2 {X : sc_X} {N : Nat} {σ τ : sf_S} (hq : X.q = 32) (hne : ∀ j, j < X.n → X.L j ≠ 105) (h : sc_Cy X σ τ) (hN : N ≤ 40) : ∃ σ' τ' D np g, dX1_play (nI N) σ = some σ' ∧ dX12_runs 2 (nI N) τ = some τ' ∧ sc_W X D np g σ' τ' ∧ sc_fr (sc_RC X.q) σ σ' ∧ sc_fr sc_RM τ τ' := by
  obtain ⟨g1, g2, g3, g4⟩ := sc_r32 hq
  have hF := sf_F_le
  have hn0 := h.n0
  have hn4 := h.n40
  have hE0 := h.T.lt hn0
  have W := sc_W0 h
  rw [g2] at W
  obtain ⟨τ1, b1, b2, b3⟩ := sc_begR W.cy
  have F2 : sc_fr sc_LM2 (sc_rs τ) τ1 := fun a b hab => b3 a b (fun q => by simp [sc_LM2] at hab; omega)
  have F3 : sc_fr sc_LM2 τ1 (sf_up (sf_up (sf_up τ1 29 0 0) 0 48 1) 32 0 0) := sc_fr_tr (sc_fr_up (by simp [sc_LM2])) (sc_fr_tr (sc_fr_up (by simp [sc_LM2])) (sc_fr_up (by simp [sc_LM2])))
  have W1 := W.light2 sc_fr_rf (sc_fr_tr F2 F3)
  have fl0 : sc_cs 19 σ 19 5 = 0 := (sc_cs_0 19 σ).2.2.2.2.1
  obtain ⟨b, σ', τ', e, np', c, x1, w1, n1, f1, f2, hc, C⟩ := sc_make2 hq hne X.n 0 (by omega) hn0 42 0 0 0 0 0 (sc_cs 19 σ) _ (by omega) (by omega) (by omega) W1 fl0 (by rw [sc_upK (by decide), sc_upS]; rfl) (by rw [sc_upK (by decide), sc_upK (by decide), sc_upS]; rfl) sc_upS (Or.inl (sc_o0 h))
  rw [nI_0] at x1
  have hD5 := w1.D5
  have hcb : c + 1 ≤ 100000 := by
    unfold sc_bdk at hc
    have hm : (X.E 0 - 0) * e ≤ 40 * 500 := Nat.mul_le_mul (by omega) (by omega)
    omega
  have fC : sc_fr (sc_RC X.q) σ σ' := sc_fr_tr (sc_fr_wk sc_cs_fr (fun a b hab => by simp [sc_RC, g2] at hab; simp; omega)) (sc_mkC_R hq f1)
  have fM : sc_fr sc_RM τ τ' := sc_fr_tr (sc_fr_wk sc_rs_fr (fun a b hab => by simp [sc_RM] at hab; simp; omega)) (sc_fr_tr (fun a b hab => F2 a b (by simp [sc_RM] at hab; simp [sc_LM2]; omega)) (sc_fr_tr (fun a b hab => F3 a b (by simp [sc_RM] at hab; simp [sc_LM2]; omega)) (sc_mkM_R f2)))
  have eC : dX1_play (nI N) σ = if ¬ sc_b b = 0 then dX1_play_19 sf_F (nI N) 0 σ' else some σ' := by
    unfold dX1_play dX6_begin
    simp only [Option.bind_some]
    rw [show sf_up (sf_up (sf_up (sf_up (sf_up (sf_up (sf_up σ 19 1 0) 19 2 0) 19 3 0) 19 4 0) 19 5 0) 19 6 0) 19 9 0 = sc_cs 19 σ from rfl, x1]
    simp only [Option.bind_some]
  have eM : ∀ y, dX12_makesRows_21 sf_F (nI 0) (sf_up (sf_up (sf_up τ1 29 0 0) 0 48 1) 32 0 0) = some y → dX12_runs 2 (nI N) τ = if ¬ (y 0 35) = 0 then dX12_runs_80 sf_F 0 (sf_up y 0 41 0) else (dX12_lesser (nI N) (y 31 0) y).bind fun u11 => dX12_runs_80 sf_F 0 (sf_up u11.2 0 41 u11.1) := fun y hy => by
    unfold dX12_runs
    show (dX12_begins 0 (sc_rs τ 0 21) (sc_rs τ)).bind _ = _
    rw [W.cy.c21, b1]
    simp only [Option.bind_some]
    rw [if_neg (show ¬ ¬ True from not_not_intro trivial)]
    have em : dX12_makesRows τ1 = some y := by
      unfold dX12_makesRows
      rw [if_pos (show sf_in (0 : Int32) 41 = true by decide), if_pos (show sf_in (0 : Int32) 40 = true by decide)]
      rw [nI_0] at hy
      exact hy
    rw [em]
    simp only [Option.bind_some]
    rfl
  have hFc : sf_F = (sf_F - (c + 1)) + (c + 1) := by omega
  rcases C with ⟨rfl, h5, h48, ⟨len, hr, hl⟩, hgo⟩ | ⟨rfl, h5, hgo⟩
  · have em : dX12_makesRows_21 sf_F (nI 0) (sf_up (sf_up (sf_up τ1 29 0 0) 0 48 1) 32 0 0) = some τ' := by
      rw [hFc, hgo _ _ (by omega)]
      obtain ⟨x, hx⟩ : ∃ x, sf_F - (c + 1) = x + 1 := ⟨sf_F - (c + 1) - 1, by omega⟩
      rw [hx]
      exact sc_mE (by rw [h48]; rfl)
    have h35 : τ' 0 35 = 0 := by have := w1.fl; rw [g2] at this; rw [← this]; exact h5
    rw [eC, eM τ' em, if_pos (show ¬ sc_b true = 0 by decide), if_neg (not_not_intro h35), hr.2.2.1, sc_lesser]
    simp only [Option.bind_some]
    have hlen := hr.1
    have emin : (if nI N < nI len then nI N else nI len) = nI (min N len) := by
      by_cases z : N < len
      · rw [if_pos (nI_lt z (by omega)), Nat.min_eq_left (by omega)]
      · rw [if_neg (nI_nlt (by omega) (by omega)), Nat.min_eq_right (by omega)]
    have emin2 : (if nI len ≤ nI N then nI len else nI N) = nI (min N len) := by
      by_cases z : len ≤ N
      · rw [if_pos (nI_le z (by omega)), Nat.min_eq_right (by omega)]
      · rw [if_neg (nI_ge (by omega) (by omega)), Nat.min_eq_left (by omega)]
    first | rw [emin] | rw [emin2]
    have w2 : sc_W X (0 + e) np' 0 σ' (sf_up (sf_up τ' 0 41 (nI (min N len))) 0 41 (nI 0)) := by
      have e2 : sf_up (sf_up τ' 0 41 (nI (min N len))) 0 41 (nI 0) = τ' := by
        funext a b
        simp only [sf_up]
        split
        · next q => rw [q.1, q.2]; exact w1.rg.symm
        · rfl
      rw [e2]; exact w1
    obtain ⟨σ3, τ3, y1, y2, y3, y4, y5⟩ := sc_resL hq hN hlen (min N len) 0 sf_F sf_F σ' (sf_up τ' 0 41 (nI (min N len))) (by omega) (by omega) (by omega) w2 sc_upS (hr.kept (fun _ _ _ => rfl) (fun a b q => by rw [sc_upK (by omega)]))
    rw [nI_0] at y1 y2
    exact ⟨σ3, τ3, _, _, _, y1, y2, y3, sc_fr_tr fC y4, sc_fr_tr fM (sc_fr_tr (sc_fr_up (by simp [sc_RM])) y5)⟩
  · have em : dX12_makesRows_21 sf_F (nI 0) (sf_up (sf_up (sf_up τ1 29 0 0) 0 48 1) 32 0 0) = some τ' := by
      rw [hFc, hgo _ _ (by omega)]
    have h35 : ¬ τ' 0 35 = 0 := by have := w1.fl; rw [g2] at this; rw [← this]; exact h5
    rw [eC, eM τ' em, if_neg (show ¬ ¬ sc_b false = 0 by decide), if_pos h35]
    have e41 : sf_up τ' 0 41 0 = τ' := sc_sameU w1.rg
    refine ⟨σ', τ', _, _, _, rfl, ?_, w1, fC, fM⟩
    rw [e41]
    obtain ⟨x, hx⟩ : ∃ x, sf_F = x + 1 := ⟨sf_F - 1, by omega⟩
    rw [hx]
    unfold dX12_runs_80
    rw [w1.rg, if_pos (show nI 0 ≤ 0 by decide)]
