/-! the sheets -/
def sc_Sh (σ τ : sf_S) : Prop := (∀ s, s < 4 → (σ 17 s = -1 ∧ τ 1 s = -1) ∨ ∃ n f, n ≤ 60 ∧ f < 3 ∧ σ 17 s = nI n ∧ τ 2 s = nI n ∧ σ 16 s = nI f ∧ τ 1 s = nI f) ∧ ∀ j, j < 240 → σ 18 j = τ 3 j
def sc_Fi (σ τ : sf_S) : Prop := σ 0 13 = τ 0 4
def sc_SC : Nat → Nat → Bool := fun a b => a == 16 || a == 17 || a == 18 || (a == 0 && b == 13)
def sc_SM : Nat → Nat → Bool := fun a b => a == 1 || a == 2 || a == 3 || a == 4 || (a == 0 && b == 4)
theorem sc_Sh.kept {σ τ σ' τ' : sf_S} (h : sc_Sh σ τ) (h1 : ∀ a b, (a = 16 ∨ a = 17 ∨ a = 18) → σ' a b = σ a b) (h2 : ∀ a b, (a = 1 ∨ a = 2 ∨ a = 3) → τ' a b = τ a b) : sc_Sh σ' τ' := by
  refine ⟨fun s hs => ?_, fun j hj => ?_⟩
  · rw [h1 17 s (by simp), h1 16 s (by simp), h2 1 s (by simp), h2 2 s (by simp)]; exact h.1 s hs
  · rw [h1 18 j (by simp), h2 3 j (by simp)]; exact h.2 j hj
def sc_shR (σ τ : sf_S) : Prop := sc_Sh σ τ ∧ sc_Fi σ τ
theorem sc_same {α : Type} {S T : Nat → Nat → Bool} {R : sf_S → sf_S → Prop} {σ τ : sf_S} {a : α} (h : R σ τ) : sc_pr S T R σ τ (some (a, σ)) (some (a, τ)) := ⟨a, σ, τ, rfl, rfl, sc_fr_rf, sc_fr_rf, h⟩
theorem sc_found {σ τ : sf_S} (h : sc_Sh σ τ) {x e : Int32} (h1 : -10 - x = e) (h2 : -10 - e = x) : sc_pr sc_SC sc_SM sc_shR σ τ ((dX11_find x σ).bind fun u => some (u.1, u.2)) ((dX12_finds e τ).bind fun u => some (u.1, u.2)) := by
  refine ⟨x, sf_up σ 0 13 e, sf_up τ 0 4 e, ?_, ?_, sc_fr_up rfl, sc_fr_up rfl, h.kept (fun a b hab => sc_upK (by omega)) (fun a b hab => sc_upK (by omega)), ?_⟩
  · simp only [dX11_find, Option.bind_some, h1]
  · simp only [dX12_finds, Option.bind_some, h2]
  · show sf_up σ 0 13 e 0 13 = sf_up τ 0 4 e 0 4
    rw [sc_upS, sc_upS]
theorem sc_c60 : (60 : Int32) = nI 60 := by decide +kernel
theorem sc_c4 : (4 : Int32) = nI 4 := by decide +kernel
theorem sc_renewL {s n : Nat} (hs : s < 4) (hn : n ≤ 60) : ∀ (r i fuel : Nat) (σ : sf_S), i + r = n → r < fuel → dX7_renew_37 fuel (nI s) (nI n) (nI i) σ = some (sc_fill σ 18 (60 * s + i) (60 * s + n) 0) := by
  intro r
  induction r with
  | zero =>
    intro i fuel σ hi hf
    obtain ⟨m, rfl⟩ : ∃ m, fuel = m + 1 := ⟨fuel - 1, by omega⟩
    simp only [dX7_renew_37]
    rw [if_pos (nI_le (by omega) (by omega)), sc_fill_nil (by omega)]
  | succ r ih =>
    intro i fuel σ hi hf
    obtain ⟨m, rfl⟩ : ∃ m, fuel = m + 1 := ⟨fuel - 1, by omega⟩
    simp only [dX7_renew_37]
    rw [if_neg (nI_ge (by omega) (by omega))]
    simp only [sc_idx1]
    rw [if_pos (sc_inI (by omega) (by omega)), sc_cl (by omega), nI_1, ih (i + 1) m _ (by omega) (by omega)]
    congr 1
    exact sc_fill_step (by omega)
theorem sc_sheetL {s n : Nat} (hs : s < 4) (hn : n ≤ 60) : ∀ (r i fuel : Nat) (τ : sf_S), i + r = n → r < fuel → dX12_sheet_55 fuel (nI s) (nI n) (nI i) τ = some (nI n, sc_fill τ 3 (60 * s + i) (60 * s + n) 0) := by
  intro r
  induction r with
  | zero =>
    intro i fuel σ hi hf
    obtain ⟨m, rfl⟩ : ∃ m, fuel = m + 1 := ⟨fuel - 1, by omega⟩
    simp only [dX12_sheet_55]
    rw [if_pos (nI_le (by omega) (by omega)), sc_fill_nil (by omega)]
  | succ r ih =>
    intro i fuel σ hi hf
    obtain ⟨m, rfl⟩ : ∃ m, fuel = m + 1 := ⟨fuel - 1, by omega⟩
    simp only [dX12_sheet_55]
    rw [if_neg (nI_ge (by omega) (by omega))]
    simp only [sc_idx2]
    rw [if_pos (sc_inI (by omega) (by omega)), sc_cl (by omega), nI_1, ih (i + 1) m _ (by omega) (by omega)]
    congr 2
    exact sc_fill_step (by omega)
theorem sc_renew {s n : Nat} (hs : s < 4) (hn : n ≤ 60) (x2 : Int32) (σ : sf_S) : dX7_renew (nI s) x2 (nI n) σ = some (sc_fill (sf_up (sf_up σ 16 s x2) 17 s (nI n)) 18 (60 * s) (60 * s + n) 0) := by
  unfold dX7_renew
  rw [if_neg (nI_pos (by omega)), sc_c4, if_neg (nI_ge (by omega) (by omega)), if_neg (nI_pos (by omega)), sc_c60, if_pos (nI_le (by omega) (by omega)), if_pos (sc_inI (by omega) (by omega)), sc_cl (by omega)]
  simp only []
  rw [if_pos (sc_inI (by omega) (by omega)), sc_0, sc_renewL hs hn n 0 sf_F _ (by omega) (by have := sf_F_le; omega), ← sc_0]
  rfl
theorem sc_sheet {σ τ : sf_S} (h : sc_Sh σ τ) (hf : sc_Fi σ τ) (x1 x2 x3 : Int32) : sc_pr sc_SC sc_SM sc_shR σ τ (dX11_sheet x1 x2 x3 σ) (dX12_sheet x1 x2 x3 τ) := by
  unfold dX11_sheet dX12_sheet
  simp only [sc_sheetC, sc_sheetM, sc_formC, sc_formM, Option.bind_some, sc_b0, decide_eq_false_iff_not]
  by_cases h1 : 0 ≤ x1.toInt ∧ x1.toInt < 4
  rotate_left
  · simp only [h1, not_false_eq_true, if_true]
    exact sc_same ⟨h, hf⟩
  by_cases h2 : 0 ≤ x2.toInt ∧ x2.toInt < 3
  rotate_left
  · simp only [h1, h2, not_true_eq_false, not_false_eq_true, and_self, if_true, if_false]
    exact sc_same ⟨h, hf⟩
  by_cases h3 : x3 ≤ (60 : Int32)
  rotate_left
  · simp only [h1, h2, h3, not_true_eq_false, and_self, if_false]
    exact sc_same ⟨h, hf⟩
  by_cases h4 : 0 ≤ x3
  rotate_left
  · simp only [h1, h2, h3, h4, not_true_eq_false, and_self, if_false, if_true]
    exact sc_found h (by decide) (by decide)
  simp only [h1, h2, h3, h4, not_true_eq_false, and_self, if_false, if_true]
  obtain ⟨s, hs, rfl⟩ := sc_of (m := 4) h1
  obtain ⟨f, hff, rfl⟩ := sc_of (m := 3) h2
  obtain ⟨n, hn, rfl⟩ := sc_of (x := x3) (m := 61) ⟨sc_le0.mp h4, by rw [Int32.le_iff_toInt_le, show (60 : Int32).toInt = 60 from by decide] at h3; omega⟩
  have hF := sf_F_le
  rw [sc_renew hs (by omega), if_pos (sc_inI (by omega) (by omega)), sc_cl (by omega)]
  simp only [Option.bind_some]
  rw [if_pos (sc_inI (by omega) (by omega)), sc_0, sc_sheetL hs (by omega) n 0 sf_F _ (by omega) (by omega), ← sc_0]
  refine ⟨nI n, _, _, rfl, rfl, ?_, ?_, ⟨fun t ht => ?_, fun j hj => ?_⟩, ?_⟩
  · intro a b hab
    simp only [sc_SC, Bool.or_eq_false_iff, beq_eq_false_iff_ne, ne_eq] at hab
    simp only [sc_fill, sf_up, hab.1.1.1, hab.1.1.2, hab.1.2, false_and, if_false]
  · intro a b hab
    simp only [sc_SM, Bool.or_eq_false_iff, beq_eq_false_iff_ne, ne_eq] at hab
    simp only [sc_fill, sf_up, hab.1.1.1.1, hab.1.1.1.2, hab.1.1.2, false_and, if_false]
  · by_cases hts : t = s
    · subst hts
      exact Or.inr ⟨n, f, by omega, hff, by simp [sc_fill, sf_up], by simp [sc_fill, sf_up], by simp [sc_fill, sf_up], by simp [sc_fill, sf_up]⟩
    · have := h.1 t ht
      simpa [sc_fill, sf_up, hts] using this
  · have := h.2 j hj
    simp only [sc_fill, sf_up]
    simp [this]
  · simpa [sc_Fi, sc_fill, sf_up] using hf
