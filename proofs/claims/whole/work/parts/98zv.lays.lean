/-! saves: plans laid aside, and taken over -/
theorem sc_take2 {q r1 n : Nat} {E : Nat → Nat} {σ : sf_S} (hn : n ≤ 40) (h0 : 0 < n) (hd : r1 + 9 < q ∨ q + 9 < r1) (hr : σ r1 4 = nI n) (hT : sc_T n (σ (r1 + 1)) E) : ∃ s, dX2_takeFrom q r1 σ = some s ∧ s q 4 = nI n ∧ (∀ j, j < n → s (q + 1) j = σ (r1 + 1) j ∧ s (q + 2) j = σ (r1 + 2) j ∧ s (q + 3) j = σ (r1 + 3) j ∧ s (q + 4) j = σ (r1 + 4) j) ∧ sc_MC q n (σ (r1 + 1)) E s ∧ ∀ x y, ¬ (q ≤ x ∧ x ≤ q + 9) → s x y = σ x y := by
  have hF := sf_F_le
  have hne : ∀ c y, c ≤ 9 → sf_up σ q 4 0 (r1 + c) y = σ (r1 + c) y := fun c y hc => sc_upK (by omega)
  obtain ⟨s, s1, s2, s3, s4⟩ := sc_takeL (q := q) (r1 := r1) hn hd n 0 sf_F (sf_up σ q 4 0) (by omega) (by omega) (by rw [sc_upS, sc_0]) (by rw [show r1 = r1 + 0 from rfl, hne 0 4 (by omega)]; exact hr) (fun j hj => absurd hj (Nat.not_lt_zero j))
  obtain ⟨s', t1, t2, t3⟩ := sc_measC (q := q) hn h0 hT s2 (fun j hj => by rw [(s3 j hj).1, hne 1 j (by omega)])
  refine ⟨s', ?_, ?_, fun j hj => ?_, t3, fun x y hxy => ?_⟩
  · unfold dX2_takeFrom
    simp only []
    rw [← sc_0] at s1
    rw [s1, t1]
    rfl
  · rw [t2 _ _ (by omega)]; exact s2
  · rw [t2 _ _ (by omega), t2 _ _ (by omega), t2 _ _ (by omega), t2 _ _ (by omega)]
    have := s3 j hj
    rw [hne 1 j (by omega), hne 2 j (by omega), hne 3 j (by omega), hne 4 j (by omega)] at this
    exact this
  · rw [t2 x y (by omega), s4 x y (by omega), sc_upK (by omega)]
theorem sc_layA {n : Nat} (hn : n ≤ 40) : ∀ r k m (τ : sf_S), k + r = n → r + 1 ≤ m → (∀ j, j < k → τ 38 (4 * j) = τ 11 j ∧ τ 38 (4 * j + 1) = τ 12 j ∧ τ 38 (4 * j + 2) = τ 13 j ∧ τ 38 (4 * j + 3) = τ 14 j) →
    ∃ s, dX12_lays_2 m 1 (nI n) (nI k) τ = ((dX12_places s).bind some) ∧ s 0 21 = nI n ∧ (∀ j, j < n → s 38 (4 * j) = τ 11 j ∧ s 38 (4 * j + 1) = τ 12 j ∧ s 38 (4 * j + 2) = τ 13 j ∧ s 38 (4 * j + 3) = τ 14 j) ∧ ∀ x y, ¬ (x = 38 ∨ (x = 0 ∧ y = 21)) → s x y = τ x y := by
  intro r
  induction r with
  | zero =>
    intro k m τ h1 h2 h3
    obtain ⟨m, rfl⟩ : ∃ x, m = x + 1 := ⟨m - 1, by omega⟩
    unfold dX12_lays_2
    rw [if_pos (nI_le (by omega) (by omega))]
    refine ⟨sf_up τ 0 21 (nI n), rfl, sc_upS, fun j hj => ?_, fun x y hxy => ?_⟩
    · rw [sc_upK (by decide), sc_upK (by decide), sc_upK (by decide), sc_upK (by decide)]; exact h3 j (by omega)
    · by_cases hx : x = 0
      · subst hx; exact sc_upJ (by omega)
      · exact sc_upK hx
  | succ r ih =>
    intro k m τ h1 h2 h3
    obtain ⟨m, rfl⟩ : ∃ x, m = x + 1 := ⟨m - 1, by omega⟩
    generalize hu : sf_up (sf_up (sf_up (sf_up τ 38 (4 * k) (τ 11 k)) 38 (4 * k + 1) (τ 12 k)) 38 (4 * k + 2) (τ 13 k)) 38 (4 * k + 3) (τ 14 k) = u
    have un : ∀ x y, ¬ (x = 38) → u x y = τ x y := fun x y hxy => by
      rw [← hu, sc_upK hxy, sc_upK hxy, sc_upK hxy, sc_upK hxy]
    obtain ⟨s, s1, s2, s3, s4⟩ := ih (k + 1) m u (by omega) (by omega) (fun j hj => by
      rw [un 11 j (by decide), un 12 j (by decide), un 13 j (by decide), un 14 j (by decide), ← hu]
      by_cases hjk : j = k
      · subst hjk
        simp (disch := omega) only [sc_upJ, sc_upS]
        exact ⟨trivial, trivial, trivial, trivial⟩
      · simp (disch := omega) only [sc_upJ]
        exact h3 j (by omega))
    refine ⟨s, ?_, s2, fun j hj => ?_, fun x y hxy => by rw [s4 x y hxy, un x y (by omega)]⟩
    · rw [← s1]
      conv => lhs; unfold dX12_lays_2
      rw [if_neg (nI_ge (by omega) (by omega)), if_neg (show ¬ (1 : Int32) = 0 by decide)]
      simp only [sc_c4, sc_mul, nI_1, sc_k2, show (3 : Int32) = nI 3 from by decide +kernel, nI_add, sc_inI (show k < 40 by omega) (by omega : 40 ≤ 10000), sc_inI (show 4 * k < 160 by omega) (by omega : 160 ≤ 10000), sc_inI (show 4 * k + 1 < 160 by omega) (by omega : 160 ≤ 10000), sc_inI (show 4 * k + 2 < 160 by omega) (by omega : 160 ≤ 10000), sc_inI (show 4 * k + 3 < 160 by omega) (by omega : 160 ≤ 10000), if_true, sc_cl (show k < 2 ^ 31 by omega), sc_cl (show 4 * k < 2 ^ 31 by omega), sc_cl (show 4 * k + 1 < 2 ^ 31 by omega), sc_cl (show 4 * k + 2 < 2 ^ 31 by omega), sc_cl (show 4 * k + 3 < 2 ^ 31 by omega)]
      simp (disch := omega) only [sc_upK]
      rw [hu]
    · have := s3 j hj
      rw [un 11 j (by decide), un 12 j (by decide), un 13 j (by decide), un 14 j (by decide)] at this
      exact this
theorem sc_layB {n : Nat} (hn : n ≤ 40) : ∀ r k m (τ : sf_S), k + r = n → r + 1 ≤ m → (∀ j, j < k → τ 11 j = τ 38 (4 * j) ∧ τ 12 j = τ 38 (4 * j + 1) ∧ τ 13 j = τ 38 (4 * j + 2) ∧ τ 14 j = τ 38 (4 * j + 3)) →
    ∃ s, dX12_lays_2 m 0 (nI n) (nI k) τ = ((dX12_places s).bind some) ∧ s 0 21 = nI n ∧ (∀ j, j < n → s 11 j = τ 38 (4 * j) ∧ s 12 j = τ 38 (4 * j + 1) ∧ s 13 j = τ 38 (4 * j + 2) ∧ s 14 j = τ 38 (4 * j + 3)) ∧ ∀ x y, ¬ ((11 ≤ x ∧ x ≤ 14) ∨ (x = 0 ∧ y = 21)) → s x y = τ x y := by
  intro r
  induction r with
  | zero =>
    intro k m τ h1 h2 h3
    obtain ⟨m, rfl⟩ : ∃ x, m = x + 1 := ⟨m - 1, by omega⟩
    unfold dX12_lays_2
    rw [if_pos (nI_le (by omega) (by omega))]
    refine ⟨sf_up τ 0 21 (nI n), rfl, sc_upS, fun j hj => ?_, fun x y hxy => ?_⟩
    · rw [sc_upK (by decide), sc_upK (by decide), sc_upK (by decide), sc_upK (by decide)]; exact h3 j (by omega)
    · by_cases hx : x = 0
      · subst hx; exact sc_upJ (by omega)
      · exact sc_upK hx
  | succ r ih =>
    intro k m τ h1 h2 h3
    obtain ⟨m, rfl⟩ : ∃ x, m = x + 1 := ⟨m - 1, by omega⟩
    generalize hu : sf_up (sf_up (sf_up (sf_up τ 11 k (τ 38 (4 * k))) 12 k (τ 38 (4 * k + 1))) 13 k (τ 38 (4 * k + 2))) 14 k (τ 38 (4 * k + 3)) = u
    have un : ∀ x y, ¬ (11 ≤ x ∧ x ≤ 14) → u x y = τ x y := fun x y hxy => by
      rw [← hu, sc_upK (by omega), sc_upK (by omega), sc_upK (by omega), sc_upK (by omega)]
    have u38 : ∀ y, u 38 y = τ 38 y := fun y => un 38 y (by omega)
    obtain ⟨s, s1, s2, s3, s4⟩ := ih (k + 1) m u (by omega) (by omega) (fun j hj => by
      rw [u38, u38, u38, u38, ← hu]
      by_cases hjk : j = k
      · subst hjk
        simp (disch := omega) only [sc_upK, sc_upS]
        exact ⟨trivial, trivial, trivial, trivial⟩
      · simp (disch := omega) only [sc_upK, sc_upJ]
        exact h3 j (by omega))
    refine ⟨s, ?_, s2, fun j hj => ?_, fun x y hxy => by rw [s4 x y hxy, un x y (by omega)]⟩
    · rw [← s1]
      conv => lhs; unfold dX12_lays_2
      rw [if_neg (nI_ge (by omega) (by omega)), if_pos (show (0 : Int32) = 0 from rfl)]
      simp only [sc_c4, sc_mul, nI_1, sc_k2, show (3 : Int32) = nI 3 from by decide +kernel, nI_add, sc_inI (show k < 40 by omega) (by omega : 40 ≤ 10000), sc_inI (show 4 * k < 160 by omega) (by omega : 160 ≤ 10000), sc_inI (show 4 * k + 1 < 160 by omega) (by omega : 160 ≤ 10000), sc_inI (show 4 * k + 2 < 160 by omega) (by omega : 160 ≤ 10000), sc_inI (show 4 * k + 3 < 160 by omega) (by omega : 160 ≤ 10000), if_true, sc_cl (show k < 2 ^ 31 by omega), sc_cl (show 4 * k < 2 ^ 31 by omega), sc_cl (show 4 * k + 1 < 2 ^ 31 by omega), sc_cl (show 4 * k + 2 < 2 ^ 31 by omega), sc_cl (show 4 * k + 3 < 2 ^ 31 by omega)]
      simp (disch := omega) only [sc_upK]
      rw [hu]
    · have := s3 j hj
      rw [u38, u38, u38, u38] at this
      exact this
