/-! fold; type, wipe -/
theorem sc_max2 (x y : Int32) : (if x < y then y else x) = if x ≤ y then y else x := by
  by_cases h : x = y
  · subst h; simp
  · have e : x < y ↔ x ≤ y := by
      rw [Int32.lt_iff_toInt_lt, Int32.le_iff_toInt_le]
      have : x.toInt ≠ y.toInt := fun e => h (Int32.toInt_inj.mp e)
      omega
    by_cases h2 : x ≤ y
    · rw [if_pos (e.mpr h2), if_pos h2]
    · rw [if_neg (fun q => h2 (e.mp q)), if_neg h2]
theorem sc_min2 (x y : Int32) : (if x < y then x else y) = if x ≤ y then x else y := by
  by_cases h : x = y
  · subst h; simp
  · have e : x < y ↔ x ≤ y := by
      rw [Int32.lt_iff_toInt_lt, Int32.le_iff_toInt_le]
      have : x.toInt ≠ y.toInt := fun e => h (Int32.toInt_inj.mp e)
      omega
    by_cases h2 : x ≤ y
    · rw [if_pos (e.mpr h2), if_pos h2]
    · rw [if_neg (fun q => h2 (e.mp q)), if_neg h2]
theorem sc_foldL {g : Nat} (hg : g ≤ 40) (x1 : Int32) {σ τ : sf_S} (h1 : σ 19 1 = nI g) (h2 : τ 0 55 = nI g) (h3 : ∀ j, j < g → σ 20 j = τ 35 j) : ∀ (r i fuel : Nat) (a : Int64) (m l : Int32), i + r = g → r < fuel →
    ∃ (A : Int64) (M N : Int32), dX6_sum_4 19 fuel a (nI i) σ = some (A, σ) ∧ dX6_greatest_5 19 fuel m (nI i) σ = some (M, σ) ∧ dX6_smallest_5 19 fuel l (nI i) σ = some (N, σ) ∧
      dX12_foldBy_14 fuel x1 a m l (nI i) τ = (if ¬ x1 = 0 then if ¬ nI g = 0 then if ¬ x1 = 1 then some (N.toInt64, τ) else some (M.toInt64, τ) else some (-9223372036854775805, τ) else some (A, τ)) := by
  intro r
  induction r with
  | zero =>
    intro i fuel a m l hi hf
    obtain ⟨k, rfl⟩ : ∃ k, fuel = k + 1 := ⟨fuel - 1, by omega⟩
    have e : nI g ≤ nI i := nI_le (by omega) (by omega)
    refine ⟨a, m, l, ?_, ?_, ?_, ?_⟩
    · simp only [dX6_sum_4, h1]; rw [if_pos e]
    · simp only [dX6_greatest_5, h1]; rw [if_pos e]
    · simp only [dX6_smallest_5, h1]; rw [if_pos e]
    · simp only [dX12_foldBy_14, h2]; rw [if_pos e]
      simp only [dX12_no, sc_no3, Option.bind_some]
  | succ r ih =>
    intro i fuel a m l hi hf
    obtain ⟨k, rfl⟩ : ∃ k, fuel = k + 1 := ⟨fuel - 1, by omega⟩
    have e : ¬ nI g ≤ nI i := nI_ge (by omega) (by omega)
    obtain ⟨A, M, N, q1, q2, q3, q4⟩ := ih (i + 1) k (a + (σ 20 i).toInt64) (if m < σ 20 i then σ 20 i else m) (if σ 20 i < l then σ 20 i else l) (by omega) (by omega)
    have hin : sf_in (nI i) 40 = true := sc_inI (by omega) (by omega)
    refine ⟨A, M, N, ?_, ?_, ?_, ?_⟩
    · simp only [dX6_sum_4, h1]; rw [if_neg e, if_pos hin, sc_cl (by omega), nI_1]; exact q1
    · simp only [dX6_greatest_5, h1]; rw [if_neg e, if_pos hin, sc_cl (by omega), nI_1]; exact q2
    · simp only [dX6_smallest_5, h1]; rw [if_neg e, if_pos hin, sc_cl (by omega), nI_1]; exact q3
    · rw [← q4]
      conv => lhs; simp only [dX12_foldBy_14]
      simp only [h2, hin, if_true]
      rw [if_neg e, sc_greater, sc_cl (by omega)]
      simp only [Option.bind_some, sc_lesser, nI_1]
      rw [h3 i (by omega), sc_max2 m, sc_min2 (τ 35 i) l]
theorem sc_fold {σ τ : sf_S} (hr : sc_Ru σ τ) (x1 : Int32) : sc_pr sc_no sc_no (fun _ _ => True) σ τ (dX11_fold x1 σ) (dX12_fold x1 τ) := by
  obtain ⟨g, p, a1, a2, a3, a4, a5, a6, a7, a8, a9, b1, b2, b3, b4⟩ := hr
  unfold dX11_fold dX12_fold
  simp only [sc_in12, Option.bind_some, sc_b0, decide_eq_false_iff_not, Int32.toInt_toInt64, sc_l0, sc_l2, dX12_no, sc_no2, a3]
  by_cases h1 : x1 < 0
  · have := sc_lt0.mp h1
    rw [if_pos h1, if_pos (by omega)]
    exact sc_same trivial
  rw [if_neg h1]
  by_cases h2 : x1 ≤ (2 : Int32)
  rotate_left
  · rw [if_neg h2, if_pos (by rw [Int32.le_iff_toInt_le, show (2 : Int32).toInt = 2 from by decide] at h2; omega)]
    exact sc_same trivial
  rw [if_pos h2, if_neg (by
    rw [Int32.le_iff_toInt_le, show (2 : Int32).toInt = 2 from by decide] at h2
    have := mt sc_lt0.mpr h1
    omega : ¬ ¬ ((0 : Int) ≤ x1.toInt ∧ x1.toInt ≤ 2))]
  have hF := sf_F_le
  obtain ⟨A, M, N, q1, q2, q3, q4⟩ := sc_foldL a1 x1 a3 a4 b3 g 0 sf_F 0 (-2147483648) 2147483647 (by omega) (by omega)
  rw [← sc_0] at q1 q2 q3 q4
  simp only [dX6_sum, dX6_greatest, dX6_smallest, dX12_foldBy, q1, q2, q3, q4, Option.bind_some]
  by_cases h3 : x1 = 0
  · simp only [h3, not_true_eq_false, if_false]
    exact ⟨_, σ, τ, rfl, rfl, sc_fr_rf, sc_fr_rf, trivial⟩
  by_cases h4 : nI g = 0
  · simp only [h3, h4, not_true_eq_false, not_false_eq_true, if_false, if_true]
    exact ⟨_, σ, τ, rfl, rfl, sc_fr_rf, sc_fr_rf, trivial⟩
  by_cases h5 : x1 = 1
  · simp only [h3, h4, h5, not_true_eq_false, not_false_eq_true, if_false, if_true]
    rw [if_pos (by decide), if_pos (by decide)]
    exact ⟨_, σ, τ, rfl, rfl, sc_fr_rf, sc_fr_rf, trivial⟩
  · simp only [h3, h4, h5, not_false_eq_true, if_true]
    exact ⟨_, σ, τ, rfl, rfl, sc_fr_rf, sc_fr_rf, trivial⟩
/-- the text -/
def sc_Tx (σ τ : sf_S) : Prop := ∃ t, t ≤ 40 ∧ σ 46 2 = nI t ∧ τ 0 6 = nI t ∧ ∀ j, j < t → σ 47 j = τ 5 j ∧ 0 ≤ (τ 5 j).toInt ∧ (τ 5 j).toInt < 256
theorem sc_Tx.kept {σ τ σ' τ' : sf_S} (h : sc_Tx σ τ) (h1 : ∀ a b, ((a = 46 ∧ b = 2) ∨ a = 47) → σ' a b = σ a b) (h2 : ∀ a b, ((a = 0 ∧ b = 6) ∨ a = 5) → τ' a b = τ a b) : sc_Tx σ' τ' := by
  obtain ⟨t, a1, a2, a3, a4⟩ := h
  refine ⟨t, a1, by rw [h1 _ _ (by simp), a2], by rw [h2 _ _ (by simp), a3], fun j hj => ?_⟩
  rw [h1 _ _ (by simp), h2 _ _ (by simp)]; exact a4 j hj
def sc_TC : Nat → Nat → Bool := fun a b => a == 47 || (a == 46 && b == 2)
def sc_TM : Nat → Nat → Bool := fun a b => a == 5 || (a == 0 && b == 6)
theorem sc_wipe {σ τ : sf_S} (h : sc_Tx σ τ) : sc_pr sc_TC sc_TM sc_Tx σ τ (dX11_wipe σ) (dX12_wipe τ) := by
  obtain ⟨t, a1, a2, a3, a4⟩ := h
  refine ⟨nI t, sf_up σ 46 2 0, sf_up τ 0 6 0, ?_, ?_, sc_fr_up rfl, sc_fr_up rfl, 0, by omega, by rw [sc_upS, sc_0], by rw [sc_upS, sc_0], fun j hj => absurd hj (Nat.not_lt_zero j)⟩
  · simp only [dX11_wipe, a2]
  · simp only [dX12_wipe, a3]
theorem sc_type {σ τ : sf_S} (h : sc_Tx σ τ) (x1 : Int32) : sc_pr sc_TC sc_TM sc_Tx σ τ (dX11_type x1 σ) (dX12_type x1 τ) := by
  have h' := h
  obtain ⟨t, a1, a2, a3, a4⟩ := h'
  unfold dX11_type dX12_type
  simp only [sc_in12, Option.bind_some, sc_b0, decide_eq_false_iff_not, Classical.not_not, Int32.toInt_toInt64, sc_l0, show (255 : Int64).toInt = 255 from by decide]
  by_cases h1 : x1 < 0
  · have := sc_lt0.mp h1
    rw [if_pos h1, if_neg (by omega)]
    exact sc_same h
  rw [if_neg h1]
  by_cases h2 : x1 ≤ (255 : Int32)
  rotate_left
  · rw [if_neg h2, if_neg (by rw [Int32.le_iff_toInt_le, show (255 : Int32).toInt = 255 from by decide] at h2; omega)]
    exact sc_same h
  have hb : (0 : Int) ≤ x1.toInt ∧ x1.toInt ≤ 255 := by
    rw [Int32.le_iff_toInt_le, show (255 : Int32).toInt = 255 from by decide] at h2
    have := mt sc_lt0.mpr h1
    omega
  rw [if_pos h2, if_pos hb]
  unfold dX4_append
  simp only [a2, a3]
  by_cases h3 : t < 40
  rotate_left
  · have : t = 40 := by omega
    subst this
    rw [if_neg (by decide +kernel), if_neg (by decide +kernel)]
    exact sc_same h
  rw [sc_c40, if_pos (nI_lt h3 (by omega)), if_pos (sc_inI (by omega) (by omega)), if_pos (by rw [nI_eq (by omega) (by omega)]; omega), if_pos (sc_inI (by omega) (by omega)), sc_cl (by omega)]
  simp only [Option.bind_some]
  rw [if_neg (by decide)]
  refine ⟨nI (t + 1), sf_up (sf_up σ 47 t x1) 46 2 (sf_up σ 47 t x1 46 2 + 1), sf_up (sf_up τ 5 t x1) 0 6 (sf_up τ 5 t x1 0 6 + 1), ?_, ?_, ?_, ?_, t + 1, by omega, ?_, ?_, fun j hj => ?_⟩
  · rw [sc_upS, sc_upK (by omega), a2, nI_1]
  · rw [sc_upS, sc_upK (by omega), a3, nI_1]
  · exact sc_fr_tr (sc_fr_up rfl) (sc_fr_up rfl)
  · exact sc_fr_tr (sc_fr_up rfl) (sc_fr_up rfl)
  · rw [sc_upS, sc_upK (by omega), a2, nI_1]
  · rw [sc_upS, sc_upK (by omega), a3, nI_1]
  · by_cases hjt : j = t
    · subst hjt
      simp (disch := omega) only [sc_upS, sc_upK]
      exact ⟨trivial, hb.1, by omega⟩
    · simp (disch := omega) only [sc_upJ, sc_upK]
      exact a4 j (by omega)
