/-! the class's measure -/
def sc_mx (w : Nat → Int32) : Nat → Int32
  | 0 => -1
  | k + 1 => if sc_mx w k < w k then w k else sc_mx w k
def sc_en (L : Nat → Int32) : Nat → Bool
  | 0 => false
  | k + 1 => if L k = 105 then true else sc_en L k
theorem sc_mx_congr {w w' : Nat → Int32} : ∀ {k : Nat}, (∀ j, j < k → w' j = w j) → sc_mx w' k = sc_mx w k
  | 0, _ => rfl
  | k + 1, h => by simp only [sc_mx]; rw [sc_mx_congr (k := k) (fun j hj => h j (by omega)), h k (by omega)]
theorem sc_narb (c : Bool) : vp_nar .boolean (sc_b c) = sc_b c := by cases c <;> decide +kernel
theorem sc_mf_step {q n k pp part i m : Nat} {E : Nat → Nat} {P : Nat → Bool} {σ : sf_S} {c : Bool} (hn : n ≤ 40) (h4 : σ q 4 = nI n) (hi : i < pp) (hpp : pp ≤ 2) (hp : part < n) (h5 : σ (q + 5) part = nI (E part)) (h9 : σ (q + 9) part = sc_b (P part)) :
    dX2_measureFromParts_57 q (m + 1) (nI k) (nI pp) (nI part) (sc_b c) (nI i) σ = dX2_measureFromParts_57 q m (nI k) (nI pp) (nI (E part)) (sc_b (c && P part)) (nI (i + 1)) σ := by
  simp only [dX2_measureFromParts_57, dX2_measureFromParts_89]
  rw [if_neg (nI_ge hi (by omega)), h4, if_neg (nI_ge hp (by omega))]
  simp only [sc_inI (show part < 40 by omega) (by omega : 40 ≤ 10000), if_true, sc_cl (show part < 2 ^ 31 by omega), h5, h9, nI_1, sc_b0]
  cases c
  · simp only [if_true]; rfl
  · cases P part
    · simp only [if_true, Bool.true_eq_false, if_false]; rfl
    · simp only [Bool.true_eq_false, if_false]; rfl
theorem sc_mf_end {q k pp part i m : Nat} {σ : sf_S} {c : Bool} (hk : k < 40) (hi : pp ≤ i) (hi2 : i ≤ 2) :
    dX2_measureFromParts_57 q (m + 1) (nI k) (nI pp) (nI part) (sc_b c) (nI i) σ = some (sf_up (sf_up σ (q + 5) k (nI part)) (q + 9) k (sc_b c)) := by
  simp only [dX2_measureFromParts_57, dX2_measureFromParts_105]
  rw [if_pos (nI_le hi (by omega)), if_pos (sc_inI hk (by omega)), sc_cl (by omega), sc_narb, if_pos (sc_inI hk (by omega))]
theorem sc_mf {q n k : Nat} {E : Nat → Nat} {L : Nat → Int32} {σ : sf_S} (hn : n ≤ 40) (hT : sc_T n L E) (hk : k < n) (h4 : σ q 4 = nI n) (h1 : σ (q + 1) k = L k) (hE : ∀ j, k < j → j < n → σ (q + 5) j = nI (E j) ∧ σ (q + 9) j = sc_b (sc_pu L E j)) :
    dX2_measureFromParts q (nI k) σ = some (sf_up (sf_up σ (q + 5) k (nI (E k))) (q + 9) k (sc_b (sc_pu L E k))) := by
  have hF := sf_F_le
  have e0 : dX2_measureFromParts q (nI k) σ = dX2_measureFromParts_57 q sf_F (nI k) (nI (sc_p (L k))) (nI (k + 1)) (sc_b (!sc_im (L k))) (nI 0) σ := by
    unfold dX2_measureFromParts
    simp only [sc_inI (show k < 40 by omega) (by omega : 40 ≤ 10000), if_true, sc_cl (show k < 2 ^ 31 by omega), h1, sc_partsC, Option.bind_some, nI_1, ← sc_0]
    by_cases g1 : L k = 47
    · rw [if_pos g1, show sc_im (L k) = true from by rw [g1]; decide +kernel]; rfl
    by_cases g2 : L k = 108
    · rw [if_neg g1, if_pos g2, show sc_im (L k) = true from by rw [g2]; decide +kernel]; rfl
    by_cases g3 : L k = 115
    · rw [if_neg g1, if_neg g2, if_pos g3, show sc_im (L k) = true from by rw [g3]; decide +kernel]; rfl
    · rw [if_neg g1, if_neg g2, if_neg g3, show sc_im (L k) = false from by simp [sc_im, g1, g2, g3]]; rfl
  rw [e0]
  obtain ⟨m, hm⟩ : ∃ m, sf_F = m + 3 := ⟨sf_F - 3, by omega⟩
  rw [hm]
  rcases sc_p3 (L k) with hp | hp | hp
  · rw [hp, sc_mf_end (by omega) (by omega) (by omega), hT.p0 hk hp, sc_pu0 hT hk hp]
  · obtain ⟨q1, q2⟩ := hT.p1 hk hp
    obtain ⟨a1, a2⟩ := hE (k + 1) (by omega) q1
    rw [hp, sc_mf_step hn h4 (by omega) (by omega) q1 a1 a2, sc_mf_end (by omega) (by omega) (by omega), q2, sc_pu1 hT hk hp]
  · obtain ⟨q1, q2, q3, q4, q5⟩ := hT.p2 hk hp
    obtain ⟨a1, a2⟩ := hE (k + 1) (by omega) q1
    obtain ⟨b1, b2⟩ := hE (E (k + 1)) (by omega) q3
    rw [hp, sc_mf_step hn h4 (by omega) (by omega) q1 a1 a2, sc_mf_step hn h4 (by omega) (by omega) q3 b1 b2, sc_mf_end (by omega) (by omega) (by omega), q5, sc_pu2 hT hk hp]
/-- the first loop -/
theorem sc_ms1 {q n : Nat} {E : Nat → Nat} {L : Nat → Int32} (hn : n ≤ 40) (hT : sc_T n L E) : ∀ (r fuel : Nat) (σ : sf_S), r ≤ n → r < fuel → σ q 4 = nI n → (∀ j, j < n → σ (q + 1) j = L j) → (∀ j, r ≤ j → j < n → σ (q + 5) j = nI (E j) ∧ σ (q + 9) j = sc_b (sc_pu L E j)) →
    ∃ σ', dX2_measure_7 q fuel (nI r - 1) σ = dX2_measure_7 q 1 (nI 0 - 1) σ' ∧ (∀ a b, a ≠ q + 5 → a ≠ q + 9 → σ' a b = σ a b) ∧ ∀ j, j < n → σ' (q + 5) j = nI (E j) ∧ σ' (q + 9) j = sc_b (sc_pu L E j) := by
  intro r
  induction r with
  | zero =>
    intro fuel σ hr hf h4 h1 hE
    obtain ⟨m, rfl⟩ : ∃ m, fuel = m + 1 := ⟨fuel - 1, by omega⟩
    refine ⟨σ, ?_, fun _ _ _ _ => rfl, fun j hj => hE j (by omega) hj⟩
    simp only [dX2_measure_7]
    have h0 : nI 0 - 1 < 0 := by decide +kernel
    rw [if_pos h0, if_pos h0]
  | succ r ih =>
    intro fuel σ hr hf h4 h1 hE
    obtain ⟨m, rfl⟩ : ∃ m, fuel = m + 1 := ⟨fuel - 1, by omega⟩
    have hstep := sc_mf hn hT (show r < n by omega) h4 (h1 r (by omega)) (fun j a1 a2 => hE j (by omega) a2)
    obtain ⟨σ', g1, g2, g3⟩ := ih m (sf_up (sf_up σ (q + 5) r (nI (E r))) (q + 9) r (sc_b (sc_pu L E r))) (by omega) (by omega) (by rw [sc_upK (by omega), sc_upK (by omega)]; exact h4) (fun j hj => by rw [sc_upK (by omega), sc_upK (by omega)]; exact h1 j hj) (fun j a1 a2 => by
      by_cases hj : j = r
      · subst hj
        rw [sc_upK (by omega), sc_upS, sc_upS]; exact ⟨rfl, rfl⟩
      · rw [sc_upJ hj, sc_upJ hj, sc_upJ hj, sc_upJ hj]; exact hE j (by omega) a2)
    refine ⟨σ', ?_, fun a b h5 h9 => by rw [g2 a b h5 h9, sc_upK h9, sc_upK h5], g3⟩
    rw [← g1]
    conv => lhs; simp only [dX2_measure_7]
    rw [nI_pred, if_neg (nI_pos (by omega)), hstep]
    simp only [Option.bind_some]
    rw [show nI r + (-1 : Int32) = nI r - 1 from by rw [Int32.sub_eq_add_neg]]
/-- the second loop's step -/
def sc_mpu (q : Nat) (σ : sf_S) (k part : Nat) (op : Bool) : sf_S := sf_up (sf_up (sf_up σ (q + 6) part (σ (q + 6) k + 1)) (q + 7) part (if op = true then σ (q + 7) k + 1 else σ (q + 7) k)) (q + 8) part (if op = true then nI k else σ (q + 8) k)
theorem sc_mp_step {q n k pp part i m e : Nat} {σ : sf_S} (hn : n ≤ 40) (h4 : σ q 4 = nI n) (hi : i < pp) (hpp : pp ≤ 2) (hp : part < n) (hk : k < part) (h5 : σ (q + 5) part = nI e) :
    dX2_measureParts_17 q (m + 1) (nI k) (nI pp) (nI part) (nI i) σ = dX2_measureParts_17 q m (nI k) (nI pp) (nI e) (nI (i + 1)) (sc_mpu q σ k part (decide (σ (q + 1) k = 120 ∧ i = 0))) := by
  simp only [dX2_measureParts_17, dX2_measureParts_52, dX2_measureParts_95]
  rw [if_neg (nI_ge hi (by omega)), h4, if_neg (nI_ge hp (by omega))]
  have i0 : nI i = 0 ↔ i = 0 := by rw [sc_0, nI_eq (by omega) (by omega)]
  simp (disch := omega) only [sc_inI (show part < 40 by omega) (by omega : 40 ≤ 10000), sc_inI (show k < 40 by omega) (by omega : 40 ≤ 10000), if_true, sc_cl (show part < 2 ^ 31 by omega), sc_cl (show k < 2 ^ 31 by omega), nI_1, sc_upK, h5, i0, sc_mpu]
  by_cases hx : σ (q + 1) k = 120
  · by_cases h0 : i = 0
    · simp (disch := omega) only [hx, h0, not_true_eq_false, if_false, and_self, decide_true, if_true, sc_upJ, sc_upK, show ¬ (1 : Int32) = 0 from by decide]
    · simp (disch := omega) only [hx, h0, not_true_eq_false, not_false_eq_true, if_false, and_false, decide_false, if_true, sc_upJ, sc_upK, Bool.false_eq_true]
  · simp (disch := omega) only [hx, not_false_eq_true, false_and, decide_false, if_true, sc_upJ, sc_upK, Bool.false_eq_true, if_false]
theorem sc_mp_end {q k pp i m : Nat} {part : Int32} {σ : sf_S} (hi : pp ≤ i) (hi2 : i ≤ 2) : dX2_measureParts_17 q (m + 1) (nI k) (nI pp) part (nI i) σ = some σ := by
  simp only [dX2_measureParts_17]
  rw [if_pos (nI_le hi (by omega))]
theorem sc_mp {q n k : Nat} {E : Nat → Nat} {L : Nat → Int32} {σ : sf_S} (hn : n ≤ 40) (hT : sc_T n L E) (hk : k < n) (h4 : σ q 4 = nI n) (h1 : σ (q + 1) k = L k) (hE : ∀ j, j < n → σ (q + 5) j = nI (E j)) :
    ∃ u, dX2_measureParts q (nI k) σ = some u ∧ (∀ a b, ¬ ((a = q + 6 ∨ a = q + 7 ∨ a = q + 8) ∧ 1 ≤ sc_p (L k) ∧ (b = k + 1 ∨ (sc_p (L k) = 2 ∧ b = E (k + 1)))) → u a b = σ a b) ∧ sc_Dk L E (u (q + 6)) (u (q + 7)) (u (q + 8)) k := by
  have hF := sf_F_le
  have e0 : dX2_measureParts q (nI k) σ = dX2_measureParts_17 q sf_F (nI k) (nI (sc_p (L k))) (nI (k + 1)) (nI 0) σ := by
    unfold dX2_measureParts
    rw [if_pos (sc_inI (by omega) (by omega)), sc_cl (by omega), h1, sc_partsC]
    simp only [Option.bind_some, nI_1, ← sc_0]
  rw [e0]
  obtain ⟨m, hm⟩ : ∃ m, sf_F = m + 3 := ⟨sf_F - 3, by omega⟩
  rw [hm]
  rcases sc_p3 (L k) with hp | hp | hp
  · rw [hp, sc_mp_end (by omega) (by omega)]
    exact ⟨σ, rfl, fun _ _ _ => rfl, fun q => by omega, fun q => by omega⟩
  · obtain ⟨q1, q2⟩ := hT.p1 hk hp
    have hx : ¬ L k = 120 := fun q => by have := sc_p120 q; omega
    rw [hp, sc_mp_step hn h4 (by omega) (by omega) q1 (by omega) (hE _ q1), sc_mp_end (by omega) (by omega)]
    rw [show decide (σ (q + 1) k = 120 ∧ 0 = 0) = false from by rw [h1]; simp [hx]]
    refine ⟨_, rfl, fun a b hab => ?_, fun _ => ?_, fun q => by omega⟩
    · have hb : b ≠ k + 1 ∨ (a ≠ q + 6 ∧ a ≠ q + 7 ∧ a ≠ q + 8) := by omega
      rcases hb with hb | ⟨h6, h7, h8⟩
      · rw [sc_mpu, sc_upJ hb, sc_upJ hb, sc_upJ hb]
      · rw [sc_mpu, sc_upK h8, sc_upK h7, sc_upK h6]
    · simp (disch := omega) only [sc_mpu, sc_upS, sc_upK, sc_upJ, Bool.false_eq_true, if_false, hx]
      try exact ⟨trivial, trivial, trivial⟩
  · obtain ⟨q1, q2, q3, q4, q5⟩ := hT.p2 hk hp
    have g5 : ∀ (s : sf_S) (k' part : Nat) (op : Bool) (j : Nat), sc_mpu q s k' part op (q + 5) j = s (q + 5) j := fun s k' part op j => by simp (disch := omega) only [sc_mpu, sc_upK]
    have g4 : ∀ (s : sf_S) (k' part : Nat) (op : Bool), sc_mpu q s k' part op q 4 = s q 4 := fun s k' part op => by simp (disch := omega) only [sc_mpu, sc_upK]
    rw [hp, sc_mp_step hn h4 (by omega) (by omega) q1 (by omega) (hE _ q1), sc_mp_step hn ((g4 _ _ _ _).trans h4) (by omega) (by omega) q3 (by omega) ((g5 _ _ _ _ _).trans (hE _ q3)), sc_mp_end (by omega) (by omega)]
    rw [show ∀ s : sf_S, decide (s (q + 1) k = 120 ∧ 0 + 1 = 0) = false from fun s => by simp, h1]
    refine ⟨_, rfl, fun a b hab => ?_, fun _ => ?_, fun _ => ?_⟩
    · have hb : (b ≠ k + 1 ∧ b ≠ E (k + 1)) ∨ (a ≠ q + 6 ∧ a ≠ q + 7 ∧ a ≠ q + 8) := by omega
      rcases hb with ⟨hb, hb2⟩ | ⟨h6, h7, h8⟩
      · rw [sc_mpu, sc_upJ hb2, sc_upJ hb2, sc_upJ hb2, sc_mpu, sc_upJ hb, sc_upJ hb, sc_upJ hb]
      · rw [sc_mpu, sc_upK h8, sc_upK h7, sc_upK h6, sc_mpu, sc_upK h8, sc_upK h7, sc_upK h6]
    · by_cases hx : L k = 120
      · simp (disch := omega) only [sc_mpu, sc_upS, sc_upK, sc_upJ, Bool.false_eq_true, if_false, if_true, hx, and_self, decide_true]
        try exact ⟨trivial, trivial, trivial⟩
      · simp (disch := omega) only [sc_mpu, sc_upS, sc_upK, sc_upJ, Bool.false_eq_true, if_false, if_true, hx, false_and, decide_false]
        try exact ⟨trivial, trivial, trivial⟩
    · simp (disch := omega) only [sc_mpu, sc_upS, sc_upK, sc_upJ, Bool.false_eq_true, if_false]
      try exact ⟨trivial, trivial, trivial⟩
