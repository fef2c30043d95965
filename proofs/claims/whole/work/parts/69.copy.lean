/-! the sheets: copy -/
def sc_cp (σ : sf_S) (q lo hi : Nat) (g : Nat → Int32) : sf_S := fun a b => if a = q ∧ lo ≤ b ∧ b < hi then g b else σ a b
theorem sc_cp_nil {σ : sf_S} {q lo hi : Nat} {g : Nat → Int32} (h : hi ≤ lo) : sc_cp σ q lo hi g = σ := by
  funext a b
  simp only [sc_cp]
  rw [if_neg (by omega)]
theorem sc_cp_step {σ : sf_S} {q lo hi : Nat} {g : Nat → Int32} {v : Int32} (h : lo < hi) (hv : g lo = v) : sc_cp (sf_up σ q lo v) q (lo + 1) hi g = sc_cp σ q lo hi g := by
  funext a b
  simp only [sc_cp, sf_up]
  by_cases h1 : a = q ∧ lo ≤ b ∧ b < hi
  · rw [if_pos h1]
    by_cases h2 : b = lo
    · rw [if_neg (by omega), if_pos ⟨h1.1, h2⟩, h2, hv]
    · rw [if_pos ⟨h1.1, by omega, h1.2.2⟩]
  · rw [if_neg (by omega), if_neg h1, if_neg (by omega)]
theorem sc_cp_at {σ : sf_S} {q lo hi a b : Nat} {g : Nat → Int32} (h : ¬ (a = q ∧ lo ≤ b ∧ b < hi)) : sc_cp σ q lo hi g a b = σ a b := if_neg h
theorem sc_ladd (x y : Int32) : (x.toInt64 + y.toInt64).toInt = x.toInt + y.toInt := by
  have h1 := x.toInt_lt
  have h2 := x.le_toInt
  have h3 := y.toInt_lt
  have h4 := y.le_toInt
  rw [Int64.toInt_add, Int32.toInt_toInt64, Int32.toInt_toInt64]
  exact Int.bmod_eq_of_le (by omega) (by omega)
theorem sc_partC {s : Nat} (hs : s < 4) (x2 x3 : Int32) (σ : sf_S) : dX7_hasPart (nI s) x2 x3 σ = some (sc_b (decide (0 ≤ x2.toInt ∧ 0 ≤ x3.toInt ∧ x2.toInt + x3.toInt ≤ (σ 17 s).toInt)), σ) := by
  unfold dX7_hasPart
  rw [if_neg (nI_pos (by omega)), sc_c4, if_neg (nI_ge (by omega) (by omega))]
  simp only [sc_inI (show s < 4 from hs) (by omega : 4 ≤ 10000), if_true, sc_cl (show s < 2 ^ 31 by omega), lg_cmp_gt, Int64.lt_iff_toInt_lt, sc_ladd, Int32.toInt_toInt64, sc_lt0]
  repeat' split
  all_goals first | (rw [decide_eq_false (by omega)]; rfl) | (rw [decide_eq_true (by omega)]; rfl)
theorem sc_copyL2 {t j n : Nat} (ht : t < 4) (hj : j + n ≤ 60) : ∀ (r i fuel : Nat) (τ : sf_S), i + r = n → r < fuel → dX12_copy_157 fuel (nI t) (nI j) (nI n) (nI i) τ = some (1, sc_cp τ 3 (60 * t + j + i) (60 * t + j + n) fun b => τ 4 (b - (60 * t + j))) := by
  intro r
  induction r with
  | zero =>
    intro i fuel σ hi hf
    obtain ⟨m, rfl⟩ : ∃ m, fuel = m + 1 := ⟨fuel - 1, by omega⟩
    simp only [dX12_copy_157]
    rw [if_pos (nI_le (by omega) (by omega)), sc_cp_nil (by omega)]
  | succ r ih =>
    intro i fuel σ hi hf
    obtain ⟨m, rfl⟩ : ∃ m, fuel = m + 1 := ⟨fuel - 1, by omega⟩
    simp only [dX12_copy_157]
    rw [if_neg (nI_ge (by omega) (by omega))]
    simp only [sc_idx2, nI_add, nI_1]
    rw [if_pos (sc_inI (by omega) (by omega)), if_pos (sc_inI (by omega) (by omega)), sc_cl (by omega), sc_cl (by omega), ih (i + 1) m _ (by omega) (by omega)]
    congr 2
    have e : (fun b => sf_up σ 3 (60 * t + j + i) (σ 4 i) 4 (b - (60 * t + j))) = fun b => σ 4 (b - (60 * t + j)) := funext fun b => sc_upK (by omega)
    rw [e]
    exact sc_cp_step (by omega) (by show σ 4 (60 * t + j + i - (60 * t + j)) = _; congr 1; omega)
theorem sc_copyL1 {s i0 t j n : Nat} (hs : s < 4) (ht : t < 4) (hi0 : i0 + n ≤ 60) (hj : j + n ≤ 60) : ∀ (r i fuel : Nat) (τ : sf_S), i + r = n → r < fuel → dX12_copy_120 fuel (nI s) (nI i0) (nI t) (nI j) (nI n) (nI i) τ = dX12_copy_157 sf_F (nI t) (nI j) (nI n) 0 (sc_cp τ 4 i n fun b => τ 3 (60 * s + i0 + b)) := by
  intro r
  induction r with
  | zero =>
    intro i fuel σ hi hf
    obtain ⟨m, rfl⟩ : ∃ m, fuel = m + 1 := ⟨fuel - 1, by omega⟩
    simp only [dX12_copy_120]
    rw [if_pos (nI_le (by omega) (by omega)), sc_cp_nil (by omega)]
  | succ r ih =>
    intro i fuel σ hi hf
    obtain ⟨m, rfl⟩ : ∃ m, fuel = m + 1 := ⟨fuel - 1, by omega⟩
    simp only [dX12_copy_120]
    rw [if_neg (nI_ge (by omega) (by omega))]
    simp only [sc_idx2, nI_add, nI_1]
    rw [if_pos (sc_inI (by omega) (by omega)), if_pos (sc_inI (by omega) (by omega)), sc_cl (by omega), sc_cl (by omega), ih (i + 1) m _ (by omega) (by omega)]
    congr 1
    have e : (fun b => sf_up σ 4 i (σ 3 (60 * s + i0 + i)) 3 (60 * s + i0 + b)) = fun b => σ 3 (60 * s + i0 + b) := funext fun b => sc_upK (by omega)
    rw [e]
    exact sc_cp_step (by omega) rfl
theorem sc_copy {σ τ : sf_S} (h : sc_Sh σ τ) (hf : sc_Fi σ τ) (x1 x2 x3 x4 x5 : Int32) : sc_pr sc_SC sc_SM sc_shR σ τ (dX11_copy x1 x2 x3 x4 x5 σ) (dX12_copy x1 x2 x3 x4 x5 τ) := by
  unfold dX11_copy dX12_copy
  simp only [sc_sheetC, sc_sheetM, Option.bind_some, sc_b0, decide_eq_false_iff_not]
  by_cases h1 : 0 ≤ x1.toInt ∧ x1.toInt < 4
  rotate_left
  · simp only [h1, not_false_eq_true, if_true]
    exact sc_same ⟨h, hf⟩
  by_cases h3 : 0 ≤ x3.toInt ∧ x3.toInt < 4
  rotate_left
  · simp only [h1, h3, not_false_eq_true, not_true_eq_false, and_self, if_true, if_false]
    exact sc_same ⟨h, hf⟩
  simp only [h1, h3, not_true_eq_false, not_false_eq_true, and_self, if_true, if_false]
  obtain ⟨s, hs, rfl⟩ := sc_of (m := 4) h1
  obtain ⟨t, ht, rfl⟩ := sc_of (m := 4) h3
  simp only [sc_lostC hs, sc_lostC ht, Option.bind_some, sc_b0, decide_eq_false_iff_not, Classical.not_not, sc_inI (show s < 4 from hs) (by omega : 4 ≤ 10000), sc_inI (show t < 4 from ht) (by omega : 4 ≤ 10000), if_true, sc_cl (show s < 2 ^ 31 by omega), sc_cl (show t < 2 ^ 31 by omega)]
  rcases h.1 s hs with ⟨e1, e2⟩ | ⟨n1, f1, hn1, hf1, e1, e2, e3, e4⟩
  · rw [if_pos e1, e2, if_pos (by decide)]
    exact sc_found h (by decide) (by decide)
  rw [if_neg (by rw [e1]; exact sc_nm1 (by omega)), e4, if_neg (nI_pos (by omega))]
  rcases h.1 t ht with ⟨g1, g2⟩ | ⟨n2, f2, hn2, hf2, g1, g2, g3, g4⟩
  · rw [if_neg (by simp [g1]), g2, if_neg sc_m1n]
    exact sc_found h (by decide) (by decide)
  rw [if_pos (by rw [g1]; exact sc_nm1 (by omega)), g4, if_pos (nI_pos' (by omega)), e3, g3]
  by_cases hff : nI f1 = nI f2
  rotate_left
  · rw [if_neg hff, if_neg hff]
    exact sc_found h (by decide) (by decide)
  rw [if_pos hff, if_pos hff]
  simp only [sc_partC hs, sc_partC ht, Option.bind_some, sc_b0, decide_eq_false_iff_not, Classical.not_not, e1, g1, e2, g2, lg_cmp_gt, lg_cmp_le, Int64.lt_iff_toInt_lt, Int64.le_iff_toInt_le, sc_ladd, Int32.toInt_toInt64, nI_toInt (show n1 < 2 ^ 31 by omega), nI_toInt (show n2 < 2 ^ 31 by omega)]
  have hbad : sc_pr sc_SC sc_SM sc_shR σ τ ((dX11_find (-12) σ).bind fun u => some (u.1, u.2)) ((dX12_finds 2 τ).bind fun u => some (u.1, u.2)) := sc_found h (by decide) (by decide)
  by_cases p2 : x2 < 0
  · rw [if_pos (by have := sc_lt0.mp p2; omega), if_pos p2]; exact hbad
  by_cases p4 : x4 < 0
  · have := sc_lt0.mp p4
    rw [if_neg p2, if_pos p4]
    split
    · exact hbad
    · rw [if_neg (by omega)]; exact hbad
  by_cases p5 : x5 < 0
  · have := sc_lt0.mp p5
    rw [if_neg p2, if_neg p4, if_pos p5, if_pos (by omega)]; exact hbad
  rw [if_neg p2, if_neg p4, if_neg p5]
  have q2 : 0 ≤ x2.toInt := by have := mt sc_lt0.mpr p2; omega
  have q4 : 0 ≤ x4.toInt := by have := mt sc_lt0.mpr p4; omega
  have q5 : 0 ≤ x5.toInt := by have := mt sc_lt0.mpr p5; omega
  by_cases r1 : x2.toInt + x5.toInt ≤ n1
  rotate_left
  · rw [if_pos (by omega), if_pos (by omega)]; exact hbad
  by_cases r2 : x4.toInt + x5.toInt ≤ n2
  rotate_left
  · rw [if_neg (by omega), if_neg (by omega), if_neg (by omega), if_neg (by omega)]; exact hbad
  rw [if_neg (by omega), if_pos (by omega), if_neg (by omega), if_pos (by omega)]
  obtain ⟨i, hi, rfl⟩ := sc_of (x := x2) (m := 61) ⟨q2, by omega⟩
  obtain ⟨j, hj, rfl⟩ := sc_of (x := x4) (m := 61) ⟨q4, by omega⟩
  obtain ⟨n, hn, rfl⟩ := sc_of (x := x5) (m := 61) ⟨q5, by omega⟩
  rw [nI_toInt (by omega), nI_toInt (by omega)] at r1 r2
  have hF := sf_F_le
  have hmv : dX7_move (nI s) (nI i) (nI t) (nI j) (nI n) σ = some (sf_cpy σ 18 (nI (60 * s + i)) (nI (60 * t + j)) (nI n)) := by
    unfold dX7_move
    simp only [sc_partC hs, sc_partC ht, Option.bind_some, sc_b0, decide_eq_false_iff_not, Classical.not_not, e1, g1, nI_toInt (show n1 < 2 ^ 31 by omega), nI_toInt (show n2 < 2 ^ 31 by omega), nI_toInt (show i < 2 ^ 31 by omega), nI_toInt (show j < 2 ^ 31 by omega), nI_toInt (show n < 2 ^ 31 by omega), sc_idx1]
    rw [if_neg (by omega), if_pos (by omega), if_pos]
    simp only [sc_cl (show 60 * s + i < 2 ^ 31 by omega), sc_cl (show 60 * t + j < 2 ^ 31 by omega), sc_cl (show n < 2 ^ 31 by omega), nI_pos (show 60 * s + i < 2 ^ 31 by omega), nI_pos (show 60 * t + j < 2 ^ 31 by omega), nI_pos (show n < 2 ^ 31 by omega), decide_false, Bool.not_false, Bool.and_eq_true, Bool.true_and, Nat.ble_eq]
    omega
  rw [hmv, sc_0, sc_copyL1 hs ht (by omega) (by omega) n 0 sf_F _ (by omega) (by omega), sc_0, sc_copyL2 ht (by omega) n 0 sf_F _ (by omega) (by omega)]
  simp only [Option.bind_some]
  refine ⟨1, _, _, rfl, rfl, ?_, ?_, ⟨fun u hu => ?_, fun k hk => ?_⟩, ?_⟩
  · intro a b hab
    simp only [sc_SC, Bool.or_eq_false_iff, beq_eq_false_iff_ne, ne_eq] at hab
    simp only [sf_cpy, hab.1.2, if_false]
  · intro a b hab
    simp only [sc_SM, Bool.or_eq_false_iff, beq_eq_false_iff_ne, ne_eq] at hab
    simp only [sc_cp, hab.1.1.2, hab.1.2, false_and, if_false]
  · have := h.1 u hu
    simpa [sf_cpy, sc_cp] using this
  · simp only [sf_cpy, if_true, va_cpy, sc_cl (show 60 * s + i < 2 ^ 31 by omega), sc_cl (show 60 * t + j < 2 ^ 31 by omega), sc_cl (show n < 2 ^ 31 by omega)]
    by_cases hk2 : 60 * t + j ≤ k ∧ k < 60 * t + j + n
    · rw [if_pos hk2, sc_cp, if_pos ⟨rfl, by omega, by omega⟩, sc_cp, if_pos ⟨rfl, by omega, by omega⟩]
      exact h.2 _ (by omega)
    · rw [if_neg hk2, sc_cp_at (by omega), sc_cp_at (by omega)]
      exact h.2 k hk
  · simpa [sc_Fi, sf_cpy, sc_cp] using hf
