/-! tidy -/
theorem sc_zeroC {q : Nat} (b : Int32) : ∀ (r k fuel : Nat) (σ : sf_S), k + r = 13 → r < fuel → (∀ j, j < k → σ (q + 1) j = 0) → ∃ s, dX5_simplify_2 q fuel b (nI k) σ = dX5_simplify_28 q sf_F b 0 (sf_up s q 2 0) ∧ (∀ j, j < 13 → s (q + 1) j = 0) ∧ ∀ x y, x ≠ q + 1 → s x y = σ x y := by
  intro r
  induction r with
  | zero =>
    intro k fuel σ hk hf hz
    obtain ⟨m, rfl⟩ : ∃ m, fuel = m + 1 := ⟨fuel - 1, by omega⟩
    refine ⟨σ, ?_, fun j hj => hz j (by omega), fun _ _ _ => rfl⟩
    simp only [dX5_simplify_2]
    rw [show (13 : Int32) = nI 13 from by decide +kernel, if_pos (nI_le (by omega) (by omega))]
  | succ r ih =>
    intro k fuel σ hk hf hz
    obtain ⟨m, rfl⟩ : ∃ m, fuel = m + 1 := ⟨fuel - 1, by omega⟩
    obtain ⟨s, s1, s2, s3⟩ := ih (k + 1) m (sf_up σ (q + 1) k 0) (by omega) (by omega) (fun j hj => by
      by_cases hjk : j = k
      · subst hjk; exact sc_upS
      · rw [sc_upJ hjk]; exact hz j (by omega))
    refine ⟨s, ?_, s2, fun x y hx => by rw [s3 x y hx, sc_upK hx]⟩
    conv => lhs; rw [dX5_simplify_2.eq_2]
    simp only []
    rw [show (13 : Int32) = nI 13 from by decide +kernel, if_neg (nI_ge (by omega) (by omega)), if_pos (sc_inI (by omega) (by omega)), sc_cl (by omega), nI_1]
    exact s1
theorem sc_zeroM (b : Int32) : ∀ (r k fuel : Nat) (τ : sf_S), k + r = 13 → r < fuel → (∀ j, j < k → τ 22 j = 0) → ∃ s, dX12_tidies_2 fuel b (nI k) τ = dX12_tidies_28 sf_F b 0 1 0 s ∧ (∀ j, j < 13 → s 22 j = 0) ∧ ∀ x y, x ≠ 22 → s x y = τ x y := by
  intro r
  induction r with
  | zero =>
    intro k fuel τ hk hf hz
    obtain ⟨m, rfl⟩ : ∃ m, fuel = m + 1 := ⟨fuel - 1, by omega⟩
    refine ⟨τ, ?_, fun j hj => hz j (by omega), fun _ _ _ => rfl⟩
    simp only [dX12_tidies_2]
    rw [show (13 : Int32) = nI 13 from by decide +kernel, if_pos (nI_le (by omega) (by omega))]
  | succ r ih =>
    intro k fuel τ hk hf hz
    obtain ⟨m, rfl⟩ : ∃ m, fuel = m + 1 := ⟨fuel - 1, by omega⟩
    obtain ⟨s, s1, s2, s3⟩ := ih (k + 1) m (sf_up τ 22 k 0) (by omega) (by omega) (fun j hj => by
      by_cases hjk : j = k
      · subst hjk; exact sc_upS
      · rw [sc_upJ hjk]; exact hz j (by omega))
    refine ⟨s, ?_, s2, fun x y hx => by rw [s3 x y hx, sc_upK hx]⟩
    conv => lhs; rw [dX12_tidies_2.eq_2]
    simp only []
    rw [show (13 : Int32) = nI 13 from by decide +kernel, if_neg (nI_ge (by omega) (by omega)), if_pos (sc_inI (by omega) (by omega)), sc_cl (by omega), nI_1]
    exact s1
theorem sc_simplify {q n : Nat} {E : Nat → Nat} {σ τ : sf_S} (hq : sf_pl q + 9 < q) (b : Bool) (h : sc_Pq (sf_pl q) n E σ τ) :
    ∃ n' E' σ' τ' N, dX5_simplify q (sc_b b) σ = some σ' ∧ dX12_tidies (sc_b b) τ = some (N, τ') ∧ sc_Pq (sf_pl q) n' E' σ' τ' ∧ sc_ct q σ' τ' ∧ σ' q 2 = N ∧ (∀ a c, ¬ ((sf_pl q ≤ a ∧ a ≤ sf_pl q + 9) ∨ (a = q ∧ c = 2) ∨ a = q + 1) → σ' a c = σ a c) ∧ (∀ a c, ¬ ((a = 0 ∧ c = 21) ∨ (11 ≤ a ∧ a ≤ 20) ∨ a = 22) → τ' a c = τ a c) ∧ (sc_dd n (τ 11) (τ 13) → sc_dd n' (τ' 11) (τ' 13)) := by
  have hF := sf_F_le
  obtain ⟨s, s1, s2, s3⟩ := sc_zeroC (q := q) (sc_b b) 13 0 sf_F σ (by omega) (by omega) (fun j hj => absurd hj (Nat.not_lt_zero j))
  obtain ⟨t, t1, t2, t3⟩ := sc_zeroM (sc_b b) 13 0 sf_F τ (by omega) (by omega) (fun j hj => absurd hj (Nat.not_lt_zero j))
  have hs : ∀ x y, ¬ ((x = q ∧ y = 2) ∨ x = q + 1) → sf_up s q 2 0 x y = σ x y := fun x y hxy => by
    by_cases hx : x = q
    · subst hx; rw [sc_upJ (by omega)]; exact s3 _ _ (by omega)
    · rw [sc_upK hx]; exact s3 _ _ (by omega)
  have hP : sc_Pq (sf_pl q) n E (sf_up s q 2 0) t := h.kept (fun a c h1 h2 => hs a c (by omega)) (fun a c hac => t3 a c (by omega))
  obtain ⟨n', E', σ', τ', N, e1, e2, e3, e4, e5, e6, e7, e8⟩ := sc_simpL hq b 1000000 0 n sf_F sf_F E _ t (by omega) (by omega) (by omega) hP (fun k hk => by rw [sc_upK (by omega), s2 k hk, t2 k hk]) (by rw [sc_upS, sc_0])
  rw [← sc_0] at e1 e2 s1 t1
  refine ⟨n', E', σ', τ', N, ?_, ?_, e3, e4, e5, fun a c hac => by rw [e6 a c hac]; exact hs a c (by omega), fun a c hac => by rw [e7 a c hac]; exact t3 a c (by omega), fun hd => e8 (sc_dd_congr hd (fun j _ => ⟨t3 _ _ (by omega), t3 _ _ (by omega)⟩))⟩
  · unfold dX5_simplify
    rw [s1]; exact e1
  · unfold dX12_tidies
    rw [t1]; exact e2
theorem sc_tidyL : ∀ (r k fuel : Nat) (τ : sf_S), k + r = 13 → r < fuel → (∀ j, j < k → τ 23 j = τ 22 j) → ∃ s, dX12_tidy_34 fuel (nI k) τ = some (τ 0 32, s) ∧ (∀ j, j < 13 → s 23 j = τ 22 j) ∧ ∀ x y, x ≠ 23 → s x y = τ x y := by
  intro r
  induction r with
  | zero =>
    intro k fuel τ hk hf hz
    obtain ⟨m, rfl⟩ : ∃ m, fuel = m + 1 := ⟨fuel - 1, by omega⟩
    refine ⟨τ, ?_, fun j hj => hz j (by omega), fun _ _ _ => rfl⟩
    simp only [dX12_tidy_34]
    rw [show (13 : Int32) = nI 13 from by decide +kernel, if_pos (nI_le (by omega) (by omega))]
  | succ r ih =>
    intro k fuel τ hk hf hz
    obtain ⟨m, rfl⟩ : ∃ m, fuel = m + 1 := ⟨fuel - 1, by omega⟩
    obtain ⟨s, s1, s2, s3⟩ := ih (k + 1) m (sf_up τ 23 k (τ 22 k)) (by omega) (by omega) (fun j hj => by
      rw [show sf_up τ 23 k (τ 22 k) 22 j = τ 22 j from sc_upK (by omega)]
      by_cases hjk : j = k
      · subst hjk; exact sc_upS
      · rw [sc_upJ hjk]; exact hz j (by omega))
    refine ⟨s, ?_, fun j hj => by rw [s2 j hj, sc_upK (by omega)], fun x y hx => by rw [s3 x y hx, sc_upK hx]⟩
    rw [sc_upK (by omega)] at s1
    conv => lhs; rw [dX12_tidy_34.eq_2]
    simp only []
    rw [show (13 : Int32) = nI 13 from by decide +kernel, if_neg (nI_ge (by omega) (by omega)), if_pos (sc_inI (by omega) (by omega)), if_pos (sc_inI (by omega) (by omega)), sc_cl (by omega), nI_1]
    exact s1
def sc_YC : Nat → Nat → Bool := fun a b => decide (1 ≤ a ∧ a ≤ 12) || a == 14 || (a == 13 && b == 2)
def sc_YM : Nat → Nat → Bool := fun a b => decide ((a = 0 ∧ b = 21) ∨ (11 ≤ a ∧ a ≤ 20)) || a == 22 || a == 23 || (a == 0 && b == 32)
theorem sc_tidy {σ τ : sf_S} (h : sc_Pm σ τ) (hr : sc_Rw σ τ) (x1 : Int32) : sc_pr sc_YC sc_YM (fun σ' τ' => sc_Pm σ' τ' ∧ sc_Rw σ' τ' ∧ (sc_Dd τ → sc_Dd τ')) σ τ (dX11_tidy x1 σ) (dX12_tidy x1 τ) := by
  have hF := sf_F_le
  obtain ⟨n, hn, e1, e2, hP, -⟩ := sc_Pm_n h
  unfold dX11_tidy dX12_tidy
  simp only [sc_in12, Option.bind_some, sc_b0, decide_eq_false_iff_not, Classical.not_not, Int32.toInt_toInt64, sc_l0, sc_l1, e1, e2]
  by_cases h1 : x1 < 0
  · have := sc_lt0.mp h1
    rw [if_pos h1, if_neg (by omega)]
    exact sc_same ⟨h, hr, fun q => q⟩
  rw [if_neg h1]
  obtain ⟨i, hi, rfl⟩ := sc_ofp (x := x1) (by have := mt sc_lt0.mpr h1; omega)
  rw [nI_toInt hi, sc_1]
  by_cases h2 : i ≤ 1
  rotate_left
  · rw [if_neg (nI_ge (by omega) hi), if_neg (by omega)]
    exact sc_same ⟨h, hr, fun q => q⟩
  rw [if_pos (nI_le h2 (by omega)), if_pos (by omega : (0 : Int) ≤ (i : Int) ∧ (i : Int) ≤ 1)]
  by_cases hn0 : 0 < n
  rotate_left
  · rw [show n = 0 by omega, ← sc_0, if_neg (by simp), if_neg (by simp)]
    exact sc_same ⟨h, hr, fun q => q⟩
  rw [if_pos (nI_ne0 hn0 (by omega)), if_pos (nI_ne0 hn0 (by omega))]
  obtain ⟨E, hPq, -⟩ := hP hn0
  obtain ⟨b, hb⟩ : ∃ b : Bool, nI i = sc_b b := by
    rcases (by omega : i = 0 ∨ i = 1) with q | q
    · exact ⟨false, by rw [q, ← sc_0]; rfl⟩
    · exact ⟨true, by rw [q, ← sc_1]; rfl⟩
  obtain ⟨n', E', σ1, τ1, N, s1, s2, s3, s4, s5, s6, s7, s8⟩ := sc_simplify (q := 13) (by decide) b hPq
  have epl : sf_pl 13 = 1 := by decide
  rw [epl] at s3 s6
  have s3' := s3
  obtain ⟨p1, p2, p3, p4, p5, p6, p7, p8, p9, p10⟩ := s3'
  obtain ⟨σ2, w1, w2, w3, w4⟩ := sc_print (L := τ1 11) (M := τ1 12) (F := τ1 13) (S := τ1 14) p2 (fun j hj => (p7 j hj).2.2.2.2) p3 (fun j hj => ⟨(p7 j hj).1, (p7 j hj).2.1, (p7 j hj).2.2.1, (p7 j hj).2.2.2.1⟩) p10
  obtain ⟨t, t1, t2, t3⟩ := sc_tidyL 13 0 sf_F (sf_up τ1 0 32 N) (by omega) (by omega) (fun j hj => absurd hj (Nat.not_lt_zero j))
  have hC : (if ¬ nI i = nI 1 then (dX5_simplify 13 0 σ).bind fun u1 => (dX3_print u1).bind fun u2 => some (u2 13 2, u2) else (dX5_simplify 13 (nI 1) σ).bind fun u3 => (dX3_print u3).bind fun u4 => some (u4 13 2, u4)) = some (N, σ2) := by
    have e13 : σ2 13 2 = N := (w2 13 2 (by omega)).trans s5
    cases b
    · rw [hb, if_pos (by decide +kernel), show dX5_simplify 13 0 σ = some σ1 from s1]
      simp only [Option.bind_some, w1, e13]
    · rw [hb, if_neg (by rw [← sc_1]; simp [sc_b]), ← sc_1, show dX5_simplify 13 1 σ = some σ1 from s1]
      simp only [Option.bind_some, w1, e13]
  rw [hC, hb, s2]
  simp only [Option.bind_some]
  rw [sc_0, t1, sc_upS]
  have tk : ∀ x y, ¬ (x = 23 ∨ (x = 0 ∧ y = 32)) → t x y = τ1 x y := fun x y hxy => by
    rw [t3 x y (by omega)]
    by_cases hx : x = 0
    · subst hx; exact sc_upJ (by omega)
    · exact sc_upK hx
  refine ⟨N, σ2, t, rfl, rfl, fun a c hac => ?_, fun a c hac => ?_, Or.inr ⟨n', E', s3.kept (fun a c h1 h2 => w2 a c (by omega)) (fun a c hac => tk a c (by omega)), ?_, ?_⟩, ⟨fun k hk => ?_, ?_⟩, fun hd => ?_⟩
  · simp only [sc_YC, Bool.or_eq_false_iff, Bool.and_eq_false_iff, beq_eq_false_iff_ne, ne_eq, decide_eq_false_iff_not] at hac
    rw [w2 a c (by omega), s6 a c (by omega)]
  · simp only [sc_YM, Bool.or_eq_false_iff, Bool.and_eq_false_iff, beq_eq_false_iff_ne, ne_eq, decide_eq_false_iff_not] at hac
    rw [tk a c (by omega), s7 a c (by omega)]
  · rw [sc_tx_kept (fun a c hac => tk a c (by omega))]; exact w3
  · rw [sc_tx_kept (fun a c hac => tk a c (by omega))]; exact w4
  · rw [w2 _ _ (by omega), t2 k hk, sc_upK (by omega)]; exact s4 k hk
  · rw [w2 _ _ (by omega), t3 _ _ (by omega), sc_upS]; exact s5
  · obtain ⟨m, m1, m2, m3⟩ := hd
    have em : m = n := (nI_eq (by omega) (by omega)).mp (m2.symm.trans e2)
    subst em
    refine ⟨n', p2, by rw [tk _ _ (by omega)]; exact p4, sc_dd_congr (s8 m3) (fun j _ => ⟨tk _ _ (by omega), tk _ _ (by omega)⟩)⟩
