/-! the call run -/
theorem sc_en_iff {L : Nat → Int32} : ∀ n, sc_en L n = true ↔ ∃ j, j < n ∧ L j = 105
  | 0 => ⟨fun q => absurd q (by simp [sc_en]), fun ⟨j, hj, _⟩ => absurd hj (Nat.not_lt_zero j)⟩
  | n + 1 => by
    rw [sc_en]
    by_cases e : L n = 105
    · rw [if_pos e]; exact ⟨fun _ => ⟨n, by omega, e⟩, fun _ => rfl⟩
    · rw [if_neg e, sc_en_iff n]
      refine ⟨fun ⟨j, h1, h2⟩ => ⟨j, by omega, h2⟩, fun ⟨j, h1, h2⟩ => ⟨j, ?_, h2⟩⟩
      by_cases q : j = n
      · rw [q] at h2; exact absurd h2 e
      · omega
theorem sc_hasEL {n : Nat} {τ : sf_S} (hn : n ≤ 40) (h : τ 0 21 = nI n) : ∀ r k m, k + r = n → r + 1 ≤ m → (∀ j, j < k → τ 11 j ≠ 105) → dX12_hasEndless_2 m (nI k) τ = some (sc_b (sc_en (τ 11) n), τ) := by
  intro r
  induction r with
  | zero =>
    intro k m h1 h2 h3
    obtain ⟨m, rfl⟩ : ∃ x, m = x + 1 := ⟨m - 1, by omega⟩
    unfold dX12_hasEndless_2
    rw [h, if_pos (nI_le (by omega) (by omega))]
    have : sc_en (τ 11) n = false := by
      cases q : sc_en (τ 11) n
      · rfl
      · obtain ⟨j, j1, j2⟩ := (sc_en_iff n).mp q
        exact absurd j2 (h3 j (by omega))
    rw [this]; rfl
  | succ r ih =>
    intro k m h1 h2 h3
    obtain ⟨m, rfl⟩ : ∃ x, m = x + 1 := ⟨m - 1, by omega⟩
    unfold dX12_hasEndless_2
    rw [h, if_neg (nI_ge (by omega) (by omega)), if_pos (sc_inI (by omega) (by omega)), sc_cl (by omega)]
    by_cases e : τ 11 k = 105
    · rw [if_neg (not_not_intro e), (sc_en_iff n).mpr ⟨k, by omega, e⟩]; rfl
    · rw [if_pos e, nI_1]
      exact ih (k + 1) m (by omega) (by omega) (fun j hj => by
        by_cases q : j = k
        · rw [q]; exact e
        · exact h3 j (by omega))
theorem sc_hasE {n : Nat} {τ : sf_S} (hn : n ≤ 40) (h : τ 0 21 = nI n) : dX12_hasEndless τ = some (sc_b (sc_en (τ 11) n), τ) := by
  have hF := sf_F_le
  unfold dX12_hasEndless
  exact sc_hasEL hn h n 0 sf_F (by omega) (by omega) (fun j hj => absurd hj (Nat.not_lt_zero j))
theorem sc_run125 : ∀ r i m (τ : sf_S), i + r = 40 → r + 1 ≤ m → ∃ τ', dX12_run_125 m (nI i) τ = some (τ 0 41, τ') ∧ (∀ j, i ≤ j → j < 40 → τ' 35 j = τ 26 j ∧ τ' 36 j = τ 27 j ∧ τ' 37 j = τ 28 j) ∧ ∀ a b, ¬ ((a = 35 ∨ a = 36 ∨ a = 37) ∧ i ≤ b ∧ b < 40) → τ' a b = τ a b := by
  intro r
  induction r with
  | zero =>
    intro i m τ h1 h2
    obtain ⟨m, rfl⟩ : ∃ x, m = x + 1 := ⟨m - 1, by omega⟩
    unfold dX12_run_125
    rw [sc_c40, if_pos (nI_le (by omega) (by omega))]
    exact ⟨τ, rfl, fun j a b => by omega, fun _ _ _ => rfl⟩
  | succ r ih =>
    intro i m τ h1 h2
    obtain ⟨m, rfl⟩ : ∃ x, m = x + 1 := ⟨m - 1, by omega⟩
    unfold dX12_run_125
    rw [sc_c40, if_neg (nI_ge (by omega) (by omega))]
    simp only [sc_inI (show i < 40 by omega) (by omega : 40 ≤ 10000), if_true, sc_cl (show i < 2 ^ 31 by omega), nI_1]
    rw [sc_upK (show (27 : Nat) ≠ 35 by decide), sc_upK (show (28 : Nat) ≠ 36 by decide), sc_upK (show (28 : Nat) ≠ 35 by decide)]
    obtain ⟨τ', e1, e2, e3⟩ := ih (i + 1) m (sf_up (sf_up (sf_up τ 35 i (τ 26 i)) 36 i (τ 27 i)) 37 i (τ 28 i)) (by omega) (by omega)
    refine ⟨τ', ?_, fun j a b => ?_, fun a b hab => ?_⟩
    · rw [e1, sc_upK (by decide), sc_upK (by decide), sc_upK (by decide)]
    · by_cases q : j = i
      · rw [q, e3 _ _ (by omega), e3 _ _ (by omega), e3 _ _ (by omega)]
        simp (disch := omega) only [sc_upK, sc_upS]
        exact ⟨trivial, trivial, trivial⟩
      · obtain ⟨z1, z2, z3⟩ := e2 j (by omega) b
        rw [z1, z2, z3]
        simp (disch := omega) only [sc_upK]
        exact ⟨trivial, trivial, trivial⟩
    · rw [e3 a b (by omega)]
      have : ∀ (s : sf_S) (k' : Nat) (v : Int32), (a ≠ k' ∨ b ≠ i) → sf_up s k' i v a b = s a b := fun s k' v h => by
        rcases h with h | h
        · exact sc_upK h
        · exact sc_upJ h
      rw [this _ _ _ (by omega), this _ _ _ (by omega), this _ _ _ (by omega)]
theorem sc_run49 {x1 x2 : Int32} {τ u : sf_S} (h : dX12_runs x1 x2 τ = some u) : ∃ τ', dX12_run_49 x1 x2 τ = some (u 0 41, τ') ∧ (∀ j, j < 40 → τ' 35 j = u 26 j ∧ τ' 36 j = u 27 j ∧ τ' 37 j = u 28 j) ∧ (τ' 34 0 = u 0 35 ∧ τ' 34 1 = u 0 36 ∧ τ' 34 2 = u 0 37 ∧ τ' 34 3 = u 0 38 ∧ τ' 34 4 = u 0 39 ∧ τ' 34 5 = u 0 44) ∧ τ' 0 55 = u 0 41 ∧ ∀ a b, ¬ ((34 ≤ a ∧ a ≤ 37) ∨ (a = 0 ∧ b = 55)) → τ' a b = u a b := by
  have hF := sf_F_le
  unfold dX12_run_49
  rw [h]
  simp only [Option.bind_some, show sf_in (0 : Int32) 6 = true from by decide +kernel, show sf_in (1 : Int32) 6 = true from by decide +kernel, show sf_in (2 : Int32) 6 = true from by decide +kernel, show sf_in (3 : Int32) 6 = true from by decide +kernel, show sf_in (4 : Int32) 6 = true from by decide +kernel, show sf_in (5 : Int32) 6 = true from by decide +kernel, if_true, show (0 : Int32).toNatClampNeg = 0 from by decide +kernel, show (1 : Int32).toNatClampNeg = 1 from by decide +kernel, show (2 : Int32).toNatClampNeg = 2 from by decide +kernel, show (3 : Int32).toNatClampNeg = 3 from by decide +kernel, show (4 : Int32).toNatClampNeg = 4 from by decide +kernel, show (5 : Int32).toNatClampNeg = 5 from by decide +kernel]
  simp (disch := omega) only [sc_upK]
  obtain ⟨τ', e1, e2, e3⟩ := sc_run125 40 0 sf_F (sf_up (sf_up (sf_up (sf_up (sf_up (sf_up (sf_up u 34 0 (u 0 35)) 34 1 (u 0 36)) 34 2 (u 0 37)) 34 3 (u 0 38)) 34 4 (u 0 39)) 34 5 (u 0 44)) 0 55 (u 0 41)) (by omega) (by omega)
  rw [nI_0] at e1
  refine ⟨τ', ?_, fun j hj => ?_, ⟨?_, ?_, ?_, ?_, ?_, ?_⟩, ?_, fun a b hab => ?_⟩
  · rw [e1]
    simp (disch := omega) only [sc_upK, sc_upJ]
  · obtain ⟨z1, z2, z3⟩ := e2 j (by omega) hj
    rw [z1, z2, z3]
    simp (disch := omega) only [sc_upK]
    exact ⟨trivial, trivial, trivial⟩
  all_goals first
    | (rw [e3 _ _ (by omega)]; simp (disch := omega) only [sc_upK, sc_upJ, sc_upS]; done)
    | skip
  rw [e3 a b (by omega)]
  have : ∀ (s : sf_S) (k' j' : Nat) (v : Int32), (a ≠ k' ∨ b ≠ j') → sf_up s k' j' v a b = s a b := fun s k' j' v h => by
    rcases h with h | h
    · exact sc_upK h
    · exact sc_upJ h
  rw [this _ _ _ _ (by omega), this _ _ _ _ (by omega), this _ _ _ _ (by omega), this _ _ _ _ (by omega), this _ _ _ _ (by omega), this _ _ _ _ (by omega), this _ _ _ _ (by omega)]
def sc_ZC : Nat → Nat → Bool := fun a _ => decide (19 ≤ a ∧ a ≤ 36)
def sc_ZM : Nat → Nat → Bool := fun a b => decide (24 ≤ a ∧ a ≤ 37) || decide (a = 0 ∧ ((33 ≤ b ∧ b ≤ 50) ∨ b = 55))
theorem sc_runE {X : sc_X} {D np g : Nat} {σ' τ u : sf_S} {x1 x2 : Int32} {P : sf_S → sf_S → Prop} (hrn : sf_rn X.q = 19) (w : sc_W X D np g σ' u) (h : dX12_runs x1 x2 τ = some u) : ∃ τ', dX12_run_49 x1 x2 τ = some (σ' 19 1, τ') ∧ sc_Ru σ' τ' ∧ ∀ a b, ¬ ((34 ≤ a ∧ a ≤ 37) ∨ (a = 0 ∧ b = 55)) → τ' a b = u a b := by
  obtain ⟨τ', e1, e2, ⟨e3, e4, e5, e6, e7, e8⟩, e9, e10⟩ := sc_run49 h
  have hD5 := w.D5
  have hnp := w.np4
  have w1 := w.cg
  have w2 := w.cD
  have w3 := w.wk
  have w4 := w.el
  have w5 := w.fl
  have w6 := w.fd
  have w7 := w.cp
  have w8 := w.re
  have w9 := w.nt
  rw [hrn] at w1 w2 w3 w4 w5 w6 w7 w8 w9
  refine ⟨τ', ?_, ⟨g, np, w.g40, by omega, w1, ?_, w7, ?_, ?_, ?_, ?_, ?_, ?_, fun j hj => ?_, fun j hj hp => ?_⟩, e10⟩
  · rw [e1, w1, w.rg]
  · rw [e9, w.rg]
  · rw [e8, w.rp]
  · rw [e3, w5]
  · rw [e4, w6]
  · rw [e5, w2, w.rD]
  · rw [e6, w3]
  · rw [e7, w4]
  · rw [w8 j hj, (e2 j (by have := w.g40; omega)).1]
  · obtain ⟨z1, z2⟩ := w9 j hj hp
    rw [show σ' 21 j = u 27 j from z1, show σ' 22 j = u 28 j from z2, (e2 j hj).2.1, (e2 j hj).2.2]
    exact ⟨rfl, rfl⟩
theorem sc_run {σ τ : sf_S} (hs : sc_Sh σ τ) (hp : sc_Pm σ τ) (hr : sc_Ru σ τ) (hd : sc_Dd τ) (x1 x2 : Int32) : sc_pr sc_ZC sc_ZM sc_Ru σ τ (dX11_run x1 x2 σ) (dX12_run x1 x2 τ) := by
  obtain ⟨n, hn, e1, e2, hP, -⟩ := sc_Pm_n hp
  unfold dX11_run dX12_run
  simp only [sc_in12, Option.bind_some, sc_b0, decide_eq_false_iff_not, Int32.toInt_toInt64, sc_l0, sc_l2, show (40 : Int64).toInt = 40 from by decide, e1, e2]
  by_cases h1 : x1 < 0
  · have := sc_lt0.mp h1
    rw [if_pos h1, if_pos (by omega)]
    exact sc_same hr
  rw [if_neg h1]
  obtain ⟨wy, hwy, rfl⟩ := sc_ofp (x := x1) (by have := mt sc_lt0.mpr h1; omega)
  rw [nI_toInt hwy]
  by_cases h2 : 2 < wy
  · rw [if_pos (show (2 : Int32) < nI wy from nI_lt (a := 2) h2 hwy), if_pos (by omega)]
    exact sc_same hr
  rw [if_neg (show ¬ (2 : Int32) < nI wy from nI_nlt (b := wy) (a := 2) (by omega) (by omega)), if_neg (show ¬ ¬ ((0 : Int) ≤ (wy : Int) ∧ (wy : Int) ≤ 2) by omega)]
  by_cases h3 : x2 < 0
  · have := sc_lt0.mp h3
    rw [if_pos h3, if_neg (show ¬ ¬ ¬ (0 ≤ x2.toInt ∧ x2.toInt ≤ 40) by omega)]
    exact sc_same hr
  rw [if_neg h3]
  obtain ⟨N, hN, rfl⟩ := sc_ofp (x := x2) (by have := mt sc_lt0.mpr h3; omega)
  rw [nI_toInt hN, sc_c40]
  by_cases h4 : N ≤ 40
  rotate_left
  · rw [if_neg (nI_ge (by omega) hN), if_neg (by omega)]
    exact sc_same hr
  rw [if_pos (nI_le h4 (by omega)), if_pos (by omega : ¬ ¬ ((0 : Int) ≤ (N : Int) ∧ (N : Int) ≤ 40))]
  by_cases hn0 : 0 < n
  rotate_left
  · rw [show n = 0 by omega, ← sc_0, if_pos rfl, if_pos rfl]
    exact sc_same hr
  rw [if_neg (nI_ne0 hn0 (by omega)), if_neg (nI_ne0 hn0 (by omega)), sc_hasE hn e2]
  obtain ⟨E, hPq, -⟩ := hP hn0
  have e11 : σ 1 11 = sc_b (sc_en (τ 11) n) := hPq.2.2.2.2.2.2.2.1.2.2.2
  rw [e11]
  simp only [Option.bind_some]
  have c23 := sc_Cy_ex (q := 23) sc_q23 hPq hs
  have c27 := sc_Cy_ex (q := 27) sc_q27 hPq hs
  have c32 := sc_Cy_ex (q := 32) sc_q32 hPq hs
  obtain ⟨m, m1, m2, m3⟩ := hd
  have em : m = n := (nI_eq (by omega) (by omega)).mp (m2.symm.trans e2)
  subst em
  have fin : ∀ (X : sc_X) (q : Nat) (y1 : Int32) (σ' u : sf_S) (D np g : Nat), X.q = q → sf_rn q = 19 → 23 ≤ q → q ≤ 32 → sc_W X D np g σ' u → dX12_runs y1 (nI N) τ = some u → sc_fr (sc_RC X.q) σ σ' → sc_fr sc_RM τ u → sc_pr sc_ZC sc_ZM sc_Ru σ τ (some (σ' 19 1, σ')) (dX12_run_49 y1 (nI N) τ) := fun X q y1 σ' u D np g q1 q2 q3 q4 w hu f1 f2 => by
    obtain ⟨τ', z1, z2, z3⟩ := sc_runE (P := fun _ _ => True) (by rw [q1]; exact q2) w hu
    refine ⟨_, σ', τ', rfl, z1, sc_fr_wk f1 (fun a b hab => ?_), fun a b hab => ?_, z2⟩
    · simp only [sc_ZC, decide_eq_false_iff_not] at hab
      simp only [sc_RC, q1, q2, Bool.or_eq_false_iff, decide_eq_false_iff_not]; omega
    · simp only [sc_ZM, Bool.or_eq_false_iff, decide_eq_false_iff_not] at hab
      rw [z3 a b (by omega)]
      exact f2 a b (by simp only [sc_RM, Bool.or_eq_false_iff, decide_eq_false_iff_not]; omega)
  rcases (by omega : wy = 0 ∨ wy = 1 ∨ wy = 2) with q | q | q
  · subst q
    rw [if_pos (show ¬ nI 0 = 2 by decide), if_pos (show ¬ nI 0 = 2 by decide)]
    obtain ⟨σ', u, D, np, g, x1, y1, w, f1, f2⟩ := sc_play0 (N := N) (X := ⟨23, m, E, τ 11, τ 12, τ 13, τ 14, τ 20, τ 19⟩) (show sf_op 23 = 23 + 3 by decide) c23 h4
    unfold dX11_run_50
    rw [if_neg (show ¬ ¬ nI 0 = 0 by decide), show dX0_play 23 (nI N) σ = some σ' from x1]
    simp only [Option.bind_some]
    exact fin _ 23 _ σ' u D np g rfl (by decide) (by omega) (by omega) w y1 f1 f2
  · subst q
    rw [if_pos (show ¬ nI 1 = 2 by decide), if_pos (show ¬ nI 1 = 2 by decide)]
    obtain ⟨σ', u, D, np, g, x1, y1, w, f1, f2⟩ := sc_play1 (N := N) (X := ⟨27, m, E, τ 11, τ 12, τ 13, τ 14, τ 20, τ 19⟩) rfl (fun j hj z => m3.1 j hj z) c27 h4
    unfold dX11_run_50
    rw [if_pos (show ¬ nI 1 = 0 by decide), if_neg (show ¬ ¬ nI 1 = 1 by decide), x1]
    simp only [Option.bind_some]
    exact fin _ 27 _ σ' u D np g rfl (by decide) (by omega) (by omega) w y1 f1 f2
  · subst q
    rw [if_neg (show ¬ ¬ nI 2 = 2 by decide), if_neg (show ¬ ¬ nI 2 = 2 by decide)]
    cases hen : sc_en (τ 11) m with
    | true =>
      rw [if_neg (show ¬ sc_b true = 0 by decide), if_neg (show ¬ sc_b true = 0 by decide)]
      exact sc_same hr
    | false =>
      rw [if_pos (show sc_b false = 0 from rfl), if_pos (show sc_b false = 0 from rfl)]
      obtain ⟨σ', u, D, np, g, x1, y1, w, f1, f2⟩ := sc_play2 (N := N) (X := ⟨32, m, E, τ 11, τ 12, τ 13, τ 14, τ 20, τ 19⟩) rfl (fun j hj z => by
        have := (sc_en_iff m).mpr ⟨j, hj, z⟩
        rw [hen] at this; cases this) c32 h4
      unfold dX11_run_50
      rw [if_pos (show ¬ nI 2 = 0 by decide), if_pos (show ¬ nI 2 = 1 by decide), x1]
      simp only [Option.bind_some]
      exact fin _ 32 _ σ' u D np g rfl (by decide) (by omega) (by omega) w y1 f1 f2
