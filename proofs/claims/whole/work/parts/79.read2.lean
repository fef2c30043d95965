/-! reading: numbers -/
def sc_kC (σ σ' : sf_S) : Prop := ∀ a b, ¬ (a = 46 ∧ (b = 5 ∨ b = 6)) → σ' a b = σ a b
def sc_kM (m : Nat) (τ τ' : sf_S) : Prop := ∀ a b, ¬ ((a = 0 ∧ (b = 8 ∨ b = 9 ∨ b = 10 ∨ b = 11)) ∨ ((a = 8 ∨ a = 9 ∨ a = 10) ∧ b = m)) → τ' a b = τ a b
def sc_kF (τ τ' : sf_S) : Prop := ∀ a b, ¬ (a = 6 ∨ a = 7 ∨ a = 8 ∨ a = 9 ∨ a = 10 ∨ (a = 0 ∧ (b = 8 ∨ b = 9 ∨ b = 10 ∨ b = 11 ∨ b = 16))) → τ' a b = τ a b
theorem sc_kM_F {m : Nat} {τ τ' : sf_S} (h : sc_kM m τ τ') : sc_kF τ τ' := fun a b hab => h a b (by omega)
theorem sc_kF_tr {τ τ1 τ2 : sf_S} (h1 : sc_kF τ τ1) (h2 : sc_kF τ1 τ2) : sc_kF τ τ2 := fun a b hab => (h2 a b hab).trans (h1 a b hab)
theorem sc_kC_tr {τ τ1 τ2 : sf_S} (h1 : sc_kC τ τ1) (h2 : sc_kC τ1 τ2) : sc_kC τ τ2 := fun a b hab => (h2 a b hab).trans (h1 a b hab)
theorem sc_kM_tr {m : Nat} {τ τ1 τ2 : sf_S} (h1 : sc_kM m τ τ1) (h2 : sc_kM m τ1 τ2) : sc_kM m τ τ2 := fun a b hab => (h2 a b hab).trans (h1 a b hab)
theorem sc_kC5 (σ : sf_S) (v : Int32) : sc_kC σ (sf_up σ 46 5 v) := fun a b hab => by
  by_cases h : a = 46
  · subst h; exact sc_upJ (by omega)
  · exact sc_upK h
theorem sc_kC6 (σ : sf_S) (v : Int32) : sc_kC σ (sf_up σ 46 6 v) := fun a b hab => by
  by_cases h : a = 46
  · subst h; exact sc_upJ (by omega)
  · exact sc_upK h
/-- a number, or a mark, that was read: up to the place i', its value, the two states -/
def sc_nok (k i w m t : Nat) (σ τ : sf_S) (P : Int32 → Prop) (rc : Option (Int32 × sf_S)) (rm : Option (Int32 × sf_S)) : Prop :=
  ∃ i' v σ' τ', i + (if k < 6 then 2 else 1) ≤ i' ∧ i' ≤ t ∧ P v ∧ rc = some (v, σ') ∧ sc_kC σ σ' ∧ σ' 46 5 = nI i' ∧ σ' 46 6 = -1 ∧ rm = sc_fl i' τ' ∧ sc_kM m τ τ' ∧ τ' 0 8 = nI w ∧ τ' 0 9 = 0 ∧ τ' 0 10 = 0 ∧ τ' 0 11 = 0 ∧ τ' 8 m = (if k < 6 then τ 8 m else v) ∧ τ' 9 m = (if k = 3 ∨ 6 ≤ k then τ 9 m else v) ∧ τ' 10 m = (if k = 3 then v else τ 10 m)
def sc_nbad (t : Nat) (σ τ : sf_S) (rc : Option (Int32 × sf_S)) (rm : Option (Int32 × sf_S)) : Prop :=
  ∃ f i' v σ' τ', f ≤ t ∧ i' ≤ t ∧ rc = some (v, σ') ∧ sc_kC σ σ' ∧ σ' 46 6 = nI f ∧ σ' 46 5 = nI i' ∧ rm = some (nI f, τ') ∧ sc_kF τ τ'
/-- where something was found wrong already, nothing more happens -/
theorem sc_199D {σ : sf_S} {t i : Nat} (ht : t ≤ 40) (h2 : σ 46 2 = nI t) (h5 : σ 46 5 = nI i) (hi : i ≤ t) (h6 : σ 46 6 ≠ -1) (x4 x5 : Int32) : ∃ v, dX4_readNumber_199 x4 x5 σ = some (v, σ) := by
  obtain ⟨p, hp⟩ := sc_peekD ht h2 h5 hi
  unfold dX4_readNumber_199
  rw [hp]
  simp only [Option.bind_some, sc_accD h6]
  repeat' split
  all_goals exact ⟨_, rfl⟩
theorem sc_129D {σ : sf_S} {t i : Nat} (ht : t ≤ 40) (h2 : σ 46 2 = nI t) (h5 : σ 46 5 = nI i) (hi : i ≤ t) (h6 : σ 46 6 ≠ -1) (n : Nat) (x4 x5 x6 x7 : Int32) : ∃ v, dX4_readNumber_129 (n + 1) x4 x5 x6 x7 σ = some (v, σ) := by
  obtain ⟨v, hv⟩ := sc_199D ht h2 h5 hi h6 x4 x5
  simp only [dX4_readNumber_129]
  rw [hv]
  split
  · exact ⟨_, rfl⟩
  · first
    | exact ⟨_, rfl⟩
    | (rw [if_pos h6]; exact ⟨_, rfl⟩)
/-- what the reference does at the end of a number -/
theorem sc_fin {τ : sf_S} {m w k : Nat} {v : Int32} (hm : m < 40) (h8 : τ 0 8 = nI (w + 1)) (h16 : τ 0 16 = nI (m + 1)) (hk : k < 6) :
    ∃ τ', dX12_takesNumber_94 (nI k) v τ = some (1, τ') ∧ sc_kM m τ τ' ∧ τ' 0 8 = nI w ∧ τ' 0 9 = 0 ∧ τ' 0 10 = 0 ∧ τ' 0 11 = 0 ∧ τ' 8 m = τ 8 m ∧ τ' 9 m = (if k = 3 then τ 9 m else v) ∧ τ' 10 m = (if k = 3 then v else τ 10 m) := by
  have hin : sf_in (nI m) 40 = true := sc_inI hm (by omega)
  have e3 : ((nI k : Int32) = 3) ↔ k = 3 := by rw [show (3 : Int32) = nI 3 from by decide +kernel, nI_eq (by omega) (by omega)]
  unfold dX12_takesNumber_94
  simp only [dX12_takesNumber_127, dX12_takesNumber_159, h16, nI_pred, hin, if_true, sc_cl (show m < 2 ^ 31 by omega), e3]
  by_cases hk3 : k = 3
  · simp (disch := omega) only [hk3, not_true_eq_false, if_false, if_true, sc_upK, h16, nI_pred, hin, sc_cl, h8, sc_upS, sc_upJ]
    refine ⟨_, rfl, fun a b hab => ?_, ?_, ?_, ?_, ?_, ?_, ?_, ?_⟩
    · have : ∀ (x : sf_S) (k' j' : Nat) (v : Int32), (a ≠ k' ∨ b ≠ j') → sf_up x k' j' v a b = x a b := fun x k' j' v h => by
        rcases h with h | h
        · exact sc_upK h
        · exact sc_upJ h
      rw [this _ _ _ _ (by omega), this _ _ _ _ (by omega), this _ _ _ _ (by omega), this _ _ _ _ (by omega), this _ _ _ _ (by omega)]
      by_cases h9 : a = 9 ∧ b = m
      · omega
      · rw [this _ _ _ _ (by omega)]
    all_goals simp (disch := omega) only [sc_upK, sc_upS, sc_upJ]
  · simp (disch := omega) only [hk3, not_false_eq_true, if_false, if_true, sc_upK, h16, nI_pred, hin, sc_cl, h8, sc_upS, sc_upJ]
    refine ⟨_, rfl, fun a b hab => ?_, ?_, ?_, ?_, ?_, ?_, ?_, ?_⟩
    · have : ∀ (x : sf_S) (k' j' : Nat) (v : Int32), (a ≠ k' ∨ b ≠ j') → sf_up x k' j' v a b = x a b := fun x k' j' v h => by
        rcases h with h | h
        · exact sc_upK h
        · exact sc_upJ h
      rw [this _ _ _ _ (by omega), this _ _ _ _ (by omega), this _ _ _ _ (by omega), this _ _ _ _ (by omega), this _ _ _ _ (by omega), this _ _ _ _ (by omega)]
    all_goals simp (disch := omega) only [sc_upK, sc_upS, sc_upJ]
