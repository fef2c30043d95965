/-! reading: bytes, the class's peek and accept, the reference's loop -/
theorem sc_c48 : (48 : Int32) = nI 48 := by decide +kernel
theorem sc_c57 : (57 : Int32) = nI 57 := by decide +kernel
/-- the text, on both sides, as numbers -/
def sc_By (σ τ : sf_S) (t : Nat) (B : Nat → Nat) : Prop := t ≤ 40 ∧ σ 46 2 = nI t ∧ τ 0 6 = nI t ∧ ∀ j, j < t → σ 47 j = nI (B j) ∧ τ 5 j = nI (B j) ∧ B j < 256
theorem sc_By_of {σ τ : sf_S} (h : sc_Tx σ τ) : ∃ t B, sc_By σ τ t B := by
  obtain ⟨t, a1, a2, a3, a4⟩ := h
  refine ⟨t, fun j => (τ 5 j).toInt.toNat, a1, a2, a3, fun j hj => ?_⟩
  obtain ⟨b1, b2, b3⟩ := a4 j hj
  have e : τ 5 j = nI (τ 5 j).toInt.toNat := by
    apply Int32.toInt_inj.mp
    rw [nI_toInt (by omega)]
    omega
  exact ⟨b1.trans e, e, by show (τ 5 j).toInt.toNat < 256; omega⟩
theorem sc_By.kept {σ τ σ' τ' : sf_S} {t : Nat} {B : Nat → Nat} (h : sc_By σ τ t B) (h1 : ∀ a b, ((a = 46 ∧ b = 2) ∨ a = 47) → σ' a b = σ a b) (h2 : ∀ a b, ((a = 0 ∧ b = 6) ∨ a = 5) → τ' a b = τ a b) : sc_By σ' τ' t B := by
  obtain ⟨a1, a2, a3, a4⟩ := h
  refine ⟨a1, by rw [h1 _ _ (by simp), a2], by rw [h2 _ _ (by simp), a3], fun j hj => ?_⟩
  rw [h1 _ _ (by simp), h2 _ _ (by simp)]; exact a4 j hj
/-- what is at a place: -1 behind the end -/
def sc_pk (t : Nat) (B : Nat → Nat) (i : Nat) : Int32 := if i < t then nI (B i) else -1
theorem sc_peek {σ : sf_S} {t i : Nat} {B : Nat → Nat} (ht : t ≤ 40) (h2 : σ 46 2 = nI t) (hB : ∀ j, j < t → σ 47 j = nI (B j)) (h5 : σ 46 5 = nI i) (hi : i ≤ t) : dX4_peek σ = some (sc_pk t B i, σ) := by
  unfold dX4_peek
  simp only [h5, h2]
  rw [if_neg (nI_pos (by omega))]
  by_cases h : i < t
  · rw [if_neg (nI_ge h (by omega)), if_pos (sc_inI (by omega) (by omega)), sc_cl (by omega), hB i h, sc_pk, if_pos h]
  · rw [if_pos (nI_le (by omega) (by omega)), sc_pk, if_neg h]
theorem sc_peekD {σ : sf_S} {t i : Nat} (ht : t ≤ 40) (h2 : σ 46 2 = nI t) (h5 : σ 46 5 = nI i) (hi : i ≤ t) : ∃ v, dX4_peek σ = some (v, σ) := by
  unfold dX4_peek
  simp only [h5, h2]
  rw [if_neg (nI_pos (by omega))]
  by_cases h : i < t
  · rw [if_neg (nI_ge h (by omega)), if_pos (sc_inI (by omega) (by omega))]
    exact ⟨_, rfl⟩
  · rw [if_pos (nI_le (by omega) (by omega))]
    exact ⟨_, rfl⟩
/-- accept where nothing was found wrong -/
theorem sc_acc1 {σ : sf_S} {t i : Nat} (ht : t ≤ 40) (h2 : σ 46 2 = nI t) (h5 : σ 46 5 = nI i) (h6 : σ 46 6 = -1) (hi : i < t) {x : Int32} (hx : x ≠ 0) : dX4_accept x σ = some (sf_up σ 46 5 (nI (i + 1))) := by
  unfold dX4_accept
  rw [if_pos h6, if_neg hx, h2, h5, if_neg (nI_ge hi (by omega)), nI_1]
theorem sc_acc0 {σ : sf_S} {i : Nat} (h5 : σ 46 5 = nI i) (h6 : σ 46 6 = -1) : dX4_accept 0 σ = some (sf_up σ 46 6 (nI i)) := by
  unfold dX4_accept
  rw [if_pos h6, if_pos rfl, h5]
theorem sc_accD {σ : sf_S} (h6 : σ 46 6 ≠ -1) (x : Int32) : dX4_accept x σ = some σ := by
  unfold dX4_accept
  rw [if_neg h6]
theorem sc_digC (x : Int32) (σ : sf_S) : dX4_isDigit x σ = some (sc_b (decide (48 ≤ x.toInt ∧ x.toInt ≤ 57)), σ) := by
  unfold dX4_isDigit
  simp only [Int32.lt_iff_toInt_lt, show (48 : Int32).toInt = 48 from by decide, show (57 : Int32).toInt = 57 from by decide]
  repeat' split
  all_goals first | (rw [decide_eq_false (by omega)]; rfl) | (rw [decide_eq_true (by omega)]; rfl)
theorem sc_digM (x : Int32) (τ : sf_S) : dX12_in x.toInt64 48 57 τ = some (sc_b (decide (48 ≤ x.toInt ∧ x.toInt ≤ 57)), τ) := by
  rw [sc_in12, Int32.toInt_toInt64, show (48 : Int64).toInt = 48 from by decide, show (57 : Int64).toInt = 57 from by decide]
/-- the reference's loop, from a place of the text on -/
noncomputable def sc_fl (i : Nat) (τ : sf_S) : Option (Int32 × sf_S) := dX12_faultNow_34 (sf_F - i) (nI i) τ
theorem sc_fl_eq (i : Nat) (hi : i ≤ 40) (τ : sf_S) : sc_fl i τ = dX12_faultNow_34 (sf_F - (i + 1) + 1) (nI i) τ := by
  have := sf_F_le
  rw [sc_fl, show sf_F - i = sf_F - (i + 1) + 1 by omega]
theorem sc_fl_end {τ : sf_S} {t i : Nat} (ht : t ≤ 40) (h6 : τ 0 6 = nI t) (hi : i ≤ 40) (hti : t ≤ i) : sc_fl i τ = if ¬ τ 0 8 = 0 then some (nI t, τ) else some (-1, τ) := by
  rw [sc_fl_eq i hi]
  simp only [dX12_faultNow_34, h6]
  rw [if_pos (nI_le hti (by omega))]
theorem sc_fl_full {τ : sf_S} {t i : Nat} (ht : t ≤ 40) (h6 : τ 0 6 = nI t) (hti : i < t) (h8 : τ 0 8 = 0) : sc_fl i τ = some (nI i, τ) := by
  rw [sc_fl_eq i (by omega)]
  simp only [dX12_faultNow_34, h6]
  rw [if_neg (nI_ge hti (by omega)), if_neg (by simp [h8])]
theorem sc_i2 {k : Nat} (hk : k < 100) (c : Nat) (hc : c < 100) : (nI c ≤ nI k) = (c ≤ k) := propext (nI_leI (by omega) (by omega))
theorem sc_k2 : (2 : Int32) = nI 2 := by decide +kernel
theorem sc_k6 : (6 : Int32) = nI 6 := by decide +kernel
theorem sc_fl_go {τ : sf_S} {t i w k : Nat} (ht : t ≤ 40) (h6 : τ 0 6 = nI t) (hti : i < t) (hw : w < 160) (h8 : τ 0 8 = nI (w + 1)) (hk : τ 6 w = nI k) (hk9 : k < 10) :
    sc_fl i τ = ((if 6 ≤ k then dX12_takesSign (τ 5 i) (nI k) τ else if 2 ≤ k then dX12_takesNumber (τ 5 i) (nI k) τ else dX12_takesLetter (τ 5 i) (nI k) τ)).bind fun u => if ¬ u.1 = 0 then sc_fl (i + 1) u.2 else some (nI i, u.2) := by
  rw [sc_fl_eq i (by omega)]
  simp only [dX12_faultNow_34, h6]
  rw [if_neg (nI_ge hti (by omega)), h8, if_pos (nI_ne0 (by omega) (by omega)), nI_pred, if_pos (sc_inI hw (by omega)), sc_cl (by omega), hk]
  simp only [sc_k2, sc_k6, sc_i2 (show k < 100 by omega) 2 (by omega), sc_i2 (show k < 100 by omega) 6 (by omega), sc_inI (show i < 40 by omega) (by omega : 40 ≤ 10000), if_true, sc_cl (show i < 2 ^ 31 by omega), nI_1]
  by_cases h2 : 2 ≤ k
  · by_cases h7 : 6 ≤ k
    · rw [if_pos h2, if_pos h7, if_pos h7]; rfl
    · rw [if_pos h2, if_neg h7, if_neg h7, if_pos h2]; rfl
  · rw [if_neg h2, if_neg (by omega), if_neg h2]; rfl
