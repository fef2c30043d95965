/-! the latest run: write, result, fold, failure, told, written; the text: type, wipe -/
def sc_Ru (σ τ : sf_S) : Prop := ∃ g p, g ≤ 40 ∧ p < 2 ^ 31 ∧ σ 19 1 = nI g ∧ τ 0 55 = nI g ∧ σ 19 9 = nI p ∧ τ 34 5 = nI p ∧ σ 19 5 = τ 34 0 ∧ σ 19 6 = τ 34 1 ∧ σ 19 2 = τ 34 2 ∧ σ 19 3 = τ 34 3 ∧ σ 19 4 = τ 34 4 ∧ (∀ j, j < g → σ 20 j = τ 35 j) ∧ ∀ j, j < 40 → j < p → σ 21 j = τ 36 j ∧ σ 22 j = τ 37 j
theorem sc_Ru.kept {σ τ σ' τ' : sf_S} (h : sc_Ru σ τ) (h1 : ∀ a b, (a = 19 ∨ a = 20 ∨ a = 21 ∨ a = 22) → σ' a b = σ a b) (h2 : ∀ a b, ((a = 0 ∧ b = 55) ∨ a = 34 ∨ a = 35 ∨ a = 36 ∨ a = 37) → τ' a b = τ a b) : sc_Ru σ' τ' := by
  obtain ⟨g, p, a1, a2, a3, a4, a5, a6, a7, a8, a9, b1, b2, b3, b4⟩ := h
  refine ⟨g, p, a1, a2, ?_, ?_, ?_, ?_, ?_, ?_, ?_, ?_, ?_, fun j hj => ?_, fun j hj hp => ?_⟩
  · rw [h1 _ _ (by simp), a3]
  · rw [h2 _ _ (by simp), a4]
  · rw [h1 _ _ (by simp), a5]
  · rw [h2 _ _ (by simp), a6]
  · rw [h1 _ _ (by simp), h2 _ _ (by simp), a7]
  · rw [h1 _ _ (by simp), h2 _ _ (by simp), a8]
  · rw [h1 _ _ (by simp), h2 _ _ (by simp), a9]
  · rw [h1 _ _ (by simp), h2 _ _ (by simp), b1]
  · rw [h1 _ _ (by simp), h2 _ _ (by simp), b2]
  · rw [h1 _ _ (by simp), h2 _ _ (by simp), b3 j hj]
  · rw [h1 _ _ (by simp), h2 _ _ (by simp), h1 _ _ (by simp), h2 _ _ (by simp)]; exact b4 j hj hp
def sc_no : Nat → Nat → Bool := fun _ _ => false
theorem sc_lesser (x y : Int32) (τ : sf_S) : dX12_lesser x y τ = some ((if y ≤ x then y else x), τ) := by
  unfold dX12_lesser
  split <;> rfl
theorem sc_greater (x y : Int32) (τ : sf_S) : dX12_greater x y τ = some ((if x ≤ y then y else x), τ) := by
  unfold dX12_greater
  split <;> rfl
theorem sc_minC (a b : Nat) (ha : a < 2 ^ 31) (hb : b < 2 ^ 31) : (if nI b < nI a then nI b else nI a) = nI (min a b) := by
  by_cases h : b < a
  · rw [if_pos (nI_lt h (by omega)), show min a b = b by omega]
  · rw [if_neg (nI_nlt (by omega) (by omega)), show min a b = a by omega]
theorem sc_minM (a b : Nat) (ha : a < 2 ^ 31) (hb : b < 2 ^ 31) : (if nI b ≤ nI a then nI b else nI a) = nI (min a b) := by
  by_cases h : b ≤ a
  · rw [if_pos (nI_le h (by omega)), show min a b = b by omega]
  · rw [if_neg (nI_ge (by omega) (by omega)), show min a b = a by omega]
/-- the two loops of write -/
theorem sc_writeL {s n k : Nat} (hs : s < 4) (hn : n ≤ 60) (hk : k ≤ n) (hk4 : k ≤ 40) (f : Int32) (v : Nat → Int32) : ∀ (r i fuel : Nat) (σ τ : sf_S), i + r = k → r < fuel → sc_Sh σ τ → σ 17 s = nI n → σ 16 s = f → τ 1 s = f → (∀ j, j < k → σ 20 j = v j) → (∀ j, j < k → τ 35 j = v j) →
    ∃ σ' τ', dX11_write_50 fuel (nI s) (nI k) (nI i) σ = some (nI k, σ') ∧ dX12_write_46 fuel (nI s) (nI k) (nI i) τ = some (nI k, τ') ∧ sc_Sh σ' τ' ∧ (∀ a b, a ≠ 18 → σ' a b = σ a b) ∧ ∀ a b, a ≠ 3 → τ' a b = τ a b := by
  intro r
  induction r with
  | zero =>
    intro i fuel σ τ hi hf h e1 e2 e3 hv hw
    obtain ⟨m, rfl⟩ : ∃ m, fuel = m + 1 := ⟨fuel - 1, by omega⟩
    refine ⟨σ, τ, ?_, ?_, h, fun _ _ _ => rfl, fun _ _ _ => rfl⟩
    · simp only [dX11_write_50]
      rw [if_pos (nI_le (by omega) (by omega))]
    · simp only [dX12_write_46]
      rw [if_pos (nI_le (by omega) (by omega))]
  | succ r ih =>
    intro i fuel σ τ hi hf h e1 e2 e3 hv hw
    obtain ⟨m, rfl⟩ : ∃ m, fuel = m + 1 := ⟨fuel - 1, by omega⟩
    obtain ⟨w, hw1, hw2⟩ := sc_store (i := i) hs (by omega) hn e1 (v i)
    obtain ⟨σ', τ', g1, g2, g3, g4, g5⟩ := ih (i + 1) m (sf_up σ 18 (60 * s + i) w) (sf_up τ 3 (60 * s + i) w) (by omega) (by omega) (sc_Sh_up h _ _) (by rw [sc_upK (by omega)]; exact e1) (by rw [sc_upK (by omega)]; exact e2) (by rw [sc_upK (by omega)]; exact e3) (fun j hj => by rw [sc_upK (by omega)]; exact hv j hj) (fun j hj => by rw [sc_upK (by omega)]; exact hw j hj)
    refine ⟨σ', τ', ?_, ?_, g3, fun a b hab => by rw [g4 a b hab, sc_upK hab], fun a b hab => by rw [g5 a b hab, sc_upK hab]⟩
    · simp only [dX11_write_50]
      rw [if_neg (nI_ge (by omega) (by omega)), if_pos (sc_inI (by omega) (by omega)), sc_cl (by omega), hv i (by omega), hw1]
      simp only [Option.bind_some, nI_1]
      exact g1
    · simp only [dX12_write_46]
      rw [if_neg (nI_ge (by omega) (by omega)), if_pos (sc_inI (by omega) (by omega)), if_pos (sc_inI (by omega) (by omega)), sc_cl (by omega), sc_cl (by omega), hw i (by omega), e3, ← e2, hw2]
      simp only [Option.bind_some, sc_idx2, nI_1]
      rw [if_pos (sc_inI (by omega) (by omega)), sc_cl (by omega)]
      exact g2
theorem sc_write {σ τ : sf_S} (h : sc_Sh σ τ) (hf : sc_Fi σ τ) (hr : sc_Ru σ τ) (x1 : Int32) : sc_pr sc_SC sc_SM sc_shR σ τ (dX11_write x1 σ) (dX12_write x1 τ) := by
  obtain ⟨g, p, a1, a2, a3, a4, a5, a6, a7, a8, a9, b1, b2, b3, b4⟩ := hr
  unfold dX11_write dX12_write
  simp only [sc_sheetC, sc_in12, Option.bind_some, sc_b0, decide_eq_false_iff_not, Int32.toInt_toInt64, sc_l0, sc_l3]
  by_cases h1 : 0 ≤ x1.toInt ∧ x1.toInt < 4
  rotate_left
  · rw [if_neg (by simpa using h1), if_neg (by omega)]
    exact sc_same ⟨h, hf⟩
  rw [if_pos (by simpa using h1), if_pos (by omega)]
  obtain ⟨s, hs, rfl⟩ := sc_of (m := 4) h1
  rw [sc_lostC hs]
  simp only [Option.bind_some, sc_b0, decide_eq_false_iff_not, sc_inI (show s < 4 from hs) (by omega : 4 ≤ 10000), if_true, sc_cl (show s < 2 ^ 31 by omega)]
  rcases h.1 s hs with ⟨e1, e2⟩ | ⟨n, f, hn, hff, e1, e2, e3, e4⟩
  · rw [if_neg (by simp [e1]), e2, if_neg sc_m1n]
    exact sc_found h (by decide) (by decide)
  have hF := sf_F_le
  rw [if_pos (by rw [e1]; exact sc_nm1 (by omega)), e4, if_pos (nI_pos' (by omega)), sc_lesser, e1, e2, a3, a4, sc_minC n g (by omega) (by omega), sc_minM n g (by omega) (by omega)]
  simp only [Option.bind_some]
  obtain ⟨σ', τ', g1, g2, g3, g4, g5⟩ := sc_writeL (k := min n g) hs hn (by omega) (by omega) (nI f) (fun j => σ 20 j) (min n g) 0 sf_F σ τ (by omega) (by omega) h e1 e3 e4 (fun _ _ => rfl) (fun j hj => (b3 j (by omega)).symm)
  rw [← sc_0] at g1 g2
  refine ⟨nI (min n g), σ', τ', g1, g2, ?_, ?_, g3, ?_⟩
  · intro a b hab
    simp only [sc_SC, Bool.or_eq_false_iff, beq_eq_false_iff_ne, ne_eq] at hab
    exact g4 a b hab.1.2
  · intro a b hab
    simp only [sc_SM, Bool.or_eq_false_iff, beq_eq_false_iff_ne, ne_eq] at hab
    exact g5 a b hab.1.1.2
  · show σ' 0 13 = τ' 0 4
    rw [g4 0 13 (by omega), g5 0 4 (by omega)]; exact hf
theorem sc_sub1 {g : Nat} (h : g < 2 ^ 30) : (nI g - 1).toInt = (g : Int) - 1 := by rw [sc_1]; exact pk_sub_toInt h (by omega)
theorem sc_no2 : (-9223372036854775808 : Int64) - (-2 : Int32).toInt64 = -9223372036854775806 := by decide +kernel
theorem sc_no3 : (-9223372036854775808 : Int64) - (-3 : Int32).toInt64 = -9223372036854775805 := by decide +kernel
theorem sc_result {σ τ : sf_S} (hr : sc_Ru σ τ) (x1 : Int32) : sc_pr sc_no sc_no (fun _ _ => True) σ τ (dX11_result x1 σ) (dX12_result x1 τ) := by
  obtain ⟨g, p, a1, a2, a3, a4, a5, a6, a7, a8, a9, b1, b2, b3, b4⟩ := hr
  unfold dX11_result dX12_result
  simp only [sc_in12, Option.bind_some, sc_b0, decide_eq_false_iff_not, Int32.toInt_toInt64, sc_l0, a3, a4, sc_sub1 (show g < 2 ^ 30 by omega), dX12_no, sc_no2]
  by_cases h1 : x1 < 0
  · have := sc_lt0.mp h1
    rw [if_pos h1, if_pos (by omega)]
    exact ⟨_, σ, τ, rfl, rfl, sc_fr_rf, sc_fr_rf, trivial⟩
  rw [if_neg h1]
  obtain ⟨i, hi, rfl⟩ := sc_ofp (x := x1) (by have := mt sc_lt0.mpr h1; omega)
  by_cases h2 : i < g
  · rw [if_neg (nI_ge h2 (by omega)), if_pos (sc_inI (by omega) (by omega)), nI_toInt hi, if_neg (by omega), if_pos (sc_inI (by omega) (by omega)), sc_cl hi, b3 i h2]
    exact ⟨_, σ, τ, rfl, rfl, sc_fr_rf, sc_fr_rf, trivial⟩
  · rw [if_pos (nI_le (by omega) hi), nI_toInt hi, if_pos (by omega)]
    exact ⟨_, σ, τ, rfl, rfl, sc_fr_rf, sc_fr_rf, trivial⟩
theorem sc_failure {σ τ : sf_S} (hr : sc_Ru σ τ) (x1 : Int32) : sc_pr sc_no sc_no (fun _ _ => True) σ τ (dX11_failure x1 σ) (dX12_failure x1 τ) := by
  obtain ⟨g, p, a1, a2, a3, a4, a5, a6, a7, a8, a9, b1, b2, b3, b4⟩ := hr
  unfold dX11_failure dX12_failure
  simp only [sc_in12, Option.bind_some, sc_b0, decide_eq_false_iff_not, Int32.toInt_toInt64, sc_l0, sc_l1]
  by_cases h1 : x1 < 0
  · have := sc_lt0.mp h1
    rw [if_pos h1, if_pos (by omega)]
    exact sc_same trivial
  rw [if_neg h1]
  obtain ⟨i, hi, rfl⟩ := sc_ofp (x := x1) (by have := mt sc_lt0.mpr h1; omega)
  rw [nI_toInt hi]
  by_cases h2 : i ≤ 1
  · rw [sc_1, if_pos (nI_le h2 (by omega)), if_neg (by omega : ¬ ¬ ((0 : Int) ≤ (i : Int) ∧ (i : Int) ≤ 1)), if_pos (sc_inI (by omega) (by omega)), sc_cl hi]
    by_cases h3 : i = 0
    · subst h3
      rw [← sc_0, if_neg (by simp), a7]
      exact sc_same trivial
    · have : i = 1 := by omega
      subst this
      rw [if_pos (nI_ne0 (by omega) (by omega)), a8]
      exact sc_same trivial
  · rw [sc_1, if_neg (nI_ge (by omega) hi), if_pos (by omega)]
    exact sc_same trivial
theorem sc_told {σ τ : sf_S} (hr : sc_Ru σ τ) (x1 : Int32) : sc_pr sc_no sc_no (fun _ _ => True) σ τ (dX11_told x1 σ) (dX12_told x1 τ) := by
  obtain ⟨g, p, a1, a2, a3, a4, a5, a6, a7, a8, a9, b1, b2, b3, b4⟩ := hr
  unfold dX11_told dX12_told
  simp only [sc_in12, Option.bind_some, sc_b0, decide_eq_false_iff_not, Int32.toInt_toInt64, sc_l0, sc_l3]
  by_cases h0 : 0 ≤ x1.toInt ∧ x1.toInt < 4
  · obtain ⟨i, hi, rfl⟩ := sc_of (m := 4) h0
    rw [nI_toInt (by omega), show (2 : Int32) + nI i = nI (2 + i) from by rw [show (2 : Int32) = nI 2 from by decide +kernel, nI_add], if_neg (by omega : ¬ ¬ ((0 : Int) ≤ (i : Int) ∧ (i : Int) ≤ 3)), if_pos (sc_inI (by omega) (by omega)), sc_cl (by omega)]
    match i, hi with
    | 0, _ => exact ⟨_, σ, τ, by rw [if_pos (by decide +kernel)], by rw [a9], sc_fr_rf, sc_fr_rf, trivial⟩
    | 1, _ => exact ⟨_, σ, τ, by rw [if_neg (by decide +kernel), if_pos (by decide +kernel)], by rw [b1], sc_fr_rf, sc_fr_rf, trivial⟩
    | 2, _ => exact ⟨_, σ, τ, by rw [if_neg (by decide +kernel), if_neg (by decide +kernel), if_pos (by decide +kernel)], by rw [b2], sc_fr_rf, sc_fr_rf, trivial⟩
    | 3, _ => exact ⟨_, σ, τ, by rw [if_neg (by decide +kernel), if_neg (by decide +kernel), if_neg (by decide +kernel), if_pos (by decide +kernel)], by rw [a5, a6], sc_fr_rf, sc_fr_rf, trivial⟩
    | i + 4, h => omega
  · have hc : ∀ c : Nat, c < 4 → x1 ≠ nI c := fun c hc e => h0 (by rw [e, nI_toInt (by omega)]; omega)
    rw [if_neg (by rw [sc_0]; exact hc 0 (by omega)), if_neg (by rw [sc_1]; exact hc 1 (by omega)), if_neg (by rw [show (2 : Int32) = nI 2 from by decide +kernel]; exact hc 2 (by omega)), if_neg (by rw [show (3 : Int32) = nI 3 from by decide +kernel]; exact hc 3 (by omega)), if_pos (by omega)]
    exact sc_same trivial
theorem sc_c40 : (40 : Int32) = nI 40 := by decide +kernel
theorem sc_keptC {σ : sf_S} {p : Nat} (hp : p < 2 ^ 31) (h : σ 19 9 = nI p) : dX6_kept 19 σ = some (nI (min p 40), σ) := by
  unfold dX6_kept
  simp only [h, sc_c40]
  rw [sc_minC p 40 hp (by omega)]
theorem sc_keptM {τ : sf_S} {p : Nat} (hp : p < 2 ^ 31) (h : τ 34 5 = nI p) : dX12_keptDown τ = some (nI (min p 40), τ) := by
  unfold dX12_keptDown
  rw [if_pos (by decide +kernel), show (5 : Int32).toNatClampNeg = 5 from by decide +kernel, h, sc_lesser, sc_c40, sc_minM 40 p (by omega) hp, show min 40 p = min p 40 by omega]
  rfl
theorem sc_written {σ τ : sf_S} (hr : sc_Ru σ τ) (x1 x2 : Int32) : sc_pr sc_no sc_no (fun _ _ => True) σ τ (dX11_written x1 x2 σ) (dX12_written x1 x2 τ) := by
  obtain ⟨g, p, a1, a2, a3, a4, a5, a6, a7, a8, a9, b1, b2, b3, b4⟩ := hr
  unfold dX11_written dX12_written
  rw [sc_keptC a2 a5, sc_keptM a2 a6]
  simp only [sc_in12, Option.bind_some, sc_b0, decide_eq_false_iff_not, Int32.toInt_toInt64, sc_l0, sc_l1, sc_sub1 (show min p 40 < 2 ^ 30 by omega), dX12_no, sc_no2]
  by_cases h1 : x1 < 0
  · have := sc_lt0.mp h1
    rw [if_pos h1, if_pos (by omega)]
    exact sc_same trivial
  rw [if_neg h1]
  obtain ⟨i, hi, rfl⟩ := sc_ofp (x := x1) (by have := mt sc_lt0.mpr h1; omega)
  rw [nI_toInt hi]
  by_cases h2 : i < min p 40
  rotate_left
  · rw [if_pos (nI_le (by omega) hi), if_pos (by omega)]
    exact sc_same trivial
  rw [if_neg (nI_ge h2 (by omega))]
  by_cases h3 : x2 < 0
  · have := sc_lt0.mp h3
    rw [if_pos h3, if_neg (by omega), if_pos (by omega)]
    exact sc_same trivial
  rw [if_neg h3]
  obtain ⟨j, hj, rfl⟩ := sc_ofp (x := x2) (by have := mt sc_lt0.mpr h3; omega)
  rw [nI_toInt hj, sc_1]
  by_cases h4 : j ≤ 1
  rotate_left
  · rw [if_neg (nI_ge (by omega) hj), if_neg (by omega), if_pos (by omega)]
    exact sc_same trivial
  obtain ⟨c1, c2⟩ := b4 i (by omega) (by omega)
  unfold dX12_writtenBy
  rw [if_pos (nI_le h4 (by omega)), sc_inI (show i < 40 by omega) (by omega), sc_cl hi, if_pos rfl, if_pos rfl, if_neg (by omega : ¬ ¬ ((0 : Int) ≤ (i : Int) ∧ (i : Int) ≤ ((min p 40 : Nat) : Int) - 1)), if_neg (by omega : ¬ ¬ ((0 : Int) ≤ (j : Int) ∧ (j : Int) ≤ 1)), if_pos rfl, if_pos rfl, c1, c2]
  by_cases h5 : nI j = 0
  · rw [if_neg (by simpa using h5), if_neg (by simpa using h5)]
    exact sc_same trivial
  · rw [if_pos h5, if_pos h5]
    exact sc_same trivial
