/-! reading: the whole text -/
/-- a pipe was read -/
def sc_Rd (n : Nat) (σ τ : sf_S) : Prop := 0 < n ∧ n ≤ 40 ∧ σ 36 4 = nI n ∧ τ 0 16 = nI n ∧ sc_G n (τ 7) ∧ sc_nd n σ τ ∧ sc_ws (τ 7) n ≤ 333
theorem sc_61F {σ : sf_S} {f : Nat} (hf : f ≤ 40) (h6 : σ 46 6 = nI f) : dX4_read_61 σ = some (nI f, σ) := by
  unfold dX4_read_61
  rw [h6, if_pos (sc_nm1 (by omega))]
theorem sc_30F {σ : sf_S} {f : Nat} (hf : f ≤ 40) (h6 : σ 46 6 = nI f) (n : Nat) (x : Int32) : dX4_read_30 (n + 1) x σ = some (nI f, σ) := by
  simp only [dX4_read_30]
  rw [sc_61F hf h6]
  have : ¬ σ 46 6 = -1 := by rw [h6]; exact sc_nm1 (by omega)
  split
  · rfl
  · split
    · rfl
    · first
      | rfl
      | rw [if_pos this]
theorem sc_readL {t : Nat} {B : Nat → Nat} : ∀ (r m i fuel : Nat) (S : List Nat) (σ τ : sf_S), m + r = 41 → r < fuel → sc_Bd σ τ t B i m S →
    ∃ fl σ' τ', dX4_read_30 fuel (nI m) σ = some (fl, σ') ∧ sc_fl i τ = some (fl, τ') ∧ sc_rC σ σ' ∧ sc_kF τ τ' ∧ ((∃ f, f ≤ 40 ∧ fl = nI f) ∨ (fl = -1 ∧ ∃ n, sc_Rd n σ' τ')) := by
  intro r
  induction r with
  | zero =>
    intro m i fuel S σ τ hm hf h
    have h1 := h.2.1
    have h2 := h.2.2.1
    have h3 := h.1.1
    omega
  | succ r ih =>
    intro m i fuel S σ τ hm hf h
    obtain ⟨q, rfl⟩ : ∃ q, fuel = q + 1 := ⟨fuel - 1, by omega⟩
    have h' := h
    obtain ⟨hBy, hi, hmi, h5, h6, h364, h16, h464, h8, hdue, hwnt, g9, g10, g11, hst, hnd, hws⟩ := h'
    obtain ⟨ht, b2, b6, bB⟩ := hBy
    cases S with
    | nil =>
      simp only [List.length_nil] at h464 h8
      have hc : dX4_read_30 (q + 1) (nI m) σ = dX4_read_61 σ := by
        simp only [dX4_read_30]
        rw [if_neg (by rw [sc_c40]; exact nI_nlt (by omega) (by omega)), h464, if_pos (by decide +kernel)]
      rw [hc]
      unfold dX4_read_61
      rw [if_neg (by simp [h6]), b2, h5]
      by_cases hit : i < t
      · rw [if_neg (nI_ge hit (by omega)), sc_fl_full ht b6 hit (by rw [h8, ← sc_0])]
        exact ⟨nI i, sf_up σ 46 6 (nI i), τ, by show some (sf_up σ 46 6 (nI i) 46 6, sf_up σ 46 6 (nI i)) = _; rw [sc_upS], rfl, sc_kC_r (sc_kC6 _ _), fun _ _ _ => rfl, Or.inl ⟨i, by omega, rfl⟩⟩
      · rw [if_pos (nI_le (by omega) (by omega)), sc_fl_end ht b6 (by omega) (by omega), if_neg (by rw [h8, ← sc_0]; simp), h6]
        have hm0 : 0 < m := by
          cases m with
          | zero => simp [sc_st] at hst
          | succ m => omega
        exact ⟨-1, σ, τ, rfl, rfl, fun _ _ _ => rfl, fun _ _ _ => rfl, Or.inr ⟨rfl, m, hm0, by omega, h364, h16, hst, hnd, by omega⟩⟩
    | cons a S =>
      simp only [List.length_cons] at h464
      obtain ⟨hl1, -⟩ := sc_st_len hst
      simp only [List.length_cons] at hl1
      have hc : dX4_read_30 (q + 1) (nI m) σ = (dX4_readNode σ).bind fun u1 => dX4_read_30 q (nI (m + 1)) u1 := by
        simp only [dX4_read_30]
        rw [if_neg (by rw [sc_c40]; exact nI_nlt (by omega) (by omega)), h464, if_neg (nI_nle (by omega) (by omega)), if_neg (by simp [h6]), nI_1]
      rw [hc]
      rcases sc_node h with ⟨i', σ', τ', f1, f2, f3, f4, f5, f6⟩ | ⟨f, σ', τ', f1, f2, f3, f4, f5, f6⟩
      · rw [f2]
        simp only [Option.bind_some]
        obtain ⟨fl, σ2, τ2, k1, k2, k3, k4, k5⟩ := ih (m + 1) i' q _ σ' τ' (by omega) (by omega) f6
        exact ⟨fl, σ2, τ2, k1, f3.trans k2, sc_rC_tr f4 k3, sc_kF_tr f5 k4, k5⟩
      · rw [f2]
        simp only [Option.bind_some]
        obtain ⟨q2, rfl⟩ : ∃ q2, q = q2 + 1 := ⟨q - 1, by omega⟩
        exact ⟨nI f, σ', τ', sc_30F (by omega) f6 _ _, f3, f4, f5, Or.inl ⟨f, by omega, rfl⟩⟩
theorem sc_read {σ τ : sf_S} (h : sc_Tx σ τ) : ∃ fl σ' τ', dX4_read σ = some (fl, σ') ∧ dX12_faultNow τ = some (fl, τ') ∧ sc_rC σ σ' ∧ sc_kF τ τ' ∧ ((∃ f, f ≤ 40 ∧ fl = nI f) ∨ (fl = -1 ∧ ∃ n, sc_Rd n σ' τ')) := by
  have hF := sf_F_le
  obtain ⟨t, B, hBy⟩ := sc_By_of h
  unfold dX4_read dX12_faultNow
  simp only []
  rw [if_pos (by decide +kernel), show (0 : Int32).toNatClampNeg = 0 from by decide +kernel]
  generalize hσ0 : sf_up (sf_up (sf_up (sf_up σ 36 4 0) 46 5 0) 46 6 (-1)) 46 4 0 = σ0
  have e4 : σ0 46 4 = nI 0 := by rw [← hσ0, sc_upS, sc_0]
  rw [sc_expect (x := 0) sc_0 e4 (by omega)]
  simp only [Option.bind_some]
  generalize hτ0 : sf_up (sf_up (sf_up (sf_up (sf_up (sf_up τ 0 8 1) 6 0 0) 0 9 0) 0 10 0) 0 11 0) 0 16 0 = τ0
  have kσ : sc_rC σ (sf_up (sf_up σ0 48 0 (nI 0)) 46 4 (nI (0 + 1))) := fun x y hxy => by
    have : ∀ (s : sf_S) (k' j' : Nat) (v : Int32), (x ≠ k' ∨ y ≠ j') → sf_up s k' j' v x y = s x y := fun s k' j' v h => by
      rcases h with h | h
      · exact sc_upK h
      · exact sc_upJ h
    rw [← hσ0, this _ _ _ _ (by omega), this _ _ _ _ (by omega), this _ _ _ _ (by omega), this _ _ _ _ (by omega), this _ _ _ _ (by omega), this _ _ _ _ (by omega)]
  have kτ : sc_kF τ τ0 := fun x y hxy => by
    have : ∀ (s : sf_S) (k' j' : Nat) (v : Int32), (x ≠ k' ∨ y ≠ j') → sf_up s k' j' v x y = s x y := fun s k' j' v h => by
      rcases h with h | h
      · exact sc_upK h
      · exact sc_upJ h
    rw [← hτ0, this _ _ _ _ (by omega), this _ _ _ _ (by omega), this _ _ _ _ (by omega), this _ _ _ _ (by omega), this _ _ _ _ (by omega), this _ _ _ _ (by omega)]
  have hBd : sc_Bd (sf_up (sf_up σ0 48 0 (nI 0)) 46 4 (nI (0 + 1))) τ0 t B 0 0 [0] := by
    refine ⟨hBy.kept (fun x y hxy => kσ x y (by omega)) (fun x y hxy => kτ x y (by omega)), Nat.zero_le _, Nat.le_refl _, ?_, ?_, ?_, ?_, sc_upS, ?_, ?_, ?_, ?_, ?_, ?_, rfl, fun j hj => absurd hj (Nat.not_lt_zero j), Nat.le_refl _⟩
    · rw [← hσ0]; simp (disch := omega) only [sc_upK, sc_upJ, sc_upS]; exact sc_0
    · rw [← hσ0]; simp (disch := omega) only [sc_upK, sc_upJ, sc_upS]
    · rw [← hσ0]; simp (disch := omega) only [sc_upK, sc_upJ, sc_upS]; exact sc_0
    · rw [← hτ0]; simp (disch := omega) only [sc_upS]; exact sc_0
    · rw [← hτ0]; simp (disch := omega) only [sc_upK, sc_upJ, sc_upS]; exact sc_1
    · exact ⟨by rw [sc_upK (by omega)]; exact sc_upS, trivial⟩
    · refine ⟨?_, trivial⟩
      rw [← hτ0]; simp (disch := omega) only [sc_upK, sc_upJ, sc_upS, List.length_nil]; exact sc_0
    · rw [← hτ0]; simp (disch := omega) only [sc_upK, sc_upJ, sc_upS]
    · rw [← hτ0]; simp (disch := omega) only [sc_upK, sc_upJ, sc_upS]
    · rw [← hτ0]; simp (disch := omega) only [sc_upK, sc_upJ, sc_upS]
  obtain ⟨fl, σ', τ', k1, k2, k3, k4, k5⟩ := sc_readL 41 0 0 sf_F [0] _ _ (by omega) (by omega) hBd
  have e0 : dX12_faultNow_34 sf_F 0 τ0 = sc_fl 0 τ0 := by rw [sc_fl, Nat.sub_zero, ← sc_0]
  rw [e0]
  rw [← sc_0] at k1
  exact ⟨fl, σ', τ', k1, k2, sc_rC_tr kσ k3, sc_kF_tr kτ k4, k5⟩
