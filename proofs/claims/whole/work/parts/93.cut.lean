/-! cutting nodes out, both sides -/
def sc_sh (a m j : Nat) : Nat := if j < a then j else j + m
theorem sc_moveC {p k t : Nat} {σ : sf_S} (hk : k < 40) (ht : t < 40) : ∃ u, dX2_moveNode p (nI k) (nI t) σ = some u ∧ (∀ c, 1 ≤ c → c ≤ 4 → ∀ j, u (p + c) j = if j = t then σ (p + c) k else σ (p + c) j) ∧ ∀ x y, ¬ (p + 1 ≤ x ∧ x ≤ p + 4) → u x y = σ x y := by
  have hik : sf_in (nI k) 40 = true := sc_inI hk (by omega)
  have hit : sf_in (nI t) 40 = true := sc_inI ht (by omega)
  unfold dX2_moveNode
  simp (disch := omega) only [hik, hit, if_true, sc_cl (show k < 2 ^ 31 by omega), sc_cl (show t < 2 ^ 31 by omega), sc_upK]
  refine ⟨_, rfl, fun c h1 h2 j => ?_, fun x y hxy => ?_⟩
  · rcases (by omega : c = 1 ∨ c = 2 ∨ c = 3 ∨ c = 4) with q | q | q | q <;> subst q
    all_goals
      by_cases hj : j = t
      · subst hj
        rw [if_pos rfl]
        simp (disch := omega) only [sc_upK, sc_upS]
      · rw [if_neg hj]
        simp (disch := omega) only [sc_upK, sc_upJ]
  · rw [sc_upK (by omega), sc_upK (by omega), sc_upK (by omega), sc_upK (by omega)]
theorem sc_cutL {p n a b : Nat} {σ0 : sf_S} (hn : n ≤ 40) (hab : a ≤ b) (hb : b ≤ n) : ∀ (r k fuel : Nat) (σ : sf_S), k + r = n → b ≤ k → r < fuel → σ p 4 = nI n → (∀ c, 1 ≤ c → c ≤ 4 → ∀ j, σ (p + c) j = if j + (b - a) < k then σ0 (p + c) (sc_sh a (b - a) j) else σ0 (p + c) j) →
    ∃ s, dX2_cut_20 p fuel (nI a) (nI b) (nI k) σ = some s ∧ s p 4 = nI (n - (b - a)) ∧ (∀ c, 1 ≤ c → c ≤ 4 → ∀ j, j < n - (b - a) → s (p + c) j = σ0 (p + c) (sc_sh a (b - a) j)) ∧ ∀ x y, ¬ ((x = p ∧ y = 4) ∨ (p + 1 ≤ x ∧ x ≤ p + 4)) → s x y = σ x y := by
  intro r
  induction r with
  | zero =>
    intro k fuel σ hk hbk hf h4 hA
    obtain ⟨m, rfl⟩ : ∃ m, fuel = m + 1 := ⟨fuel - 1, by omega⟩
    refine ⟨sf_up σ p 4 (nI n - (nI b - nI a)), ?_, ?_, fun c h1 h2 j hj => ?_, fun x y hxy => ?_⟩
    · simp only [dX2_cut_20]
      rw [h4, if_pos (nI_le (by omega) (by omega))]
    · rw [sc_upS, pk_sub hab, pk_sub (by omega)]
    · rw [sc_upK (by omega), hA c h1 h2 j, if_pos (by omega)]
    · by_cases hx : x = p
      · subst hx; exact sc_upJ (by omega)
      · exact sc_upK hx
  | succ r ih =>
    intro k fuel σ hk hbk hf h4 hA
    obtain ⟨m, rfl⟩ : ∃ m, fuel = m + 1 := ⟨fuel - 1, by omega⟩
    obtain ⟨u, u1, u2, u3⟩ := sc_moveC (p := p) (k := k) (t := k - (b - a)) (σ := σ) (by omega) (by omega)
    have hidx : nI a + nI k - nI b = nI (k - (b - a)) := by
      rw [nI_add, pk_sub (by omega)]; congr 1; omega
    obtain ⟨s, s1, s2, s3, s4⟩ := ih (k + 1) m u (by omega) (by omega) (by omega) (by rw [u3 _ _ (by omega)]; exact h4) (fun c h1 h2 j => by
      rw [u2 c h1 h2 j]
      by_cases hj : j = k - (b - a)
      · rw [if_pos hj, if_pos (by omega), hA c h1 h2 k]
        by_cases hba : b - a = 0
        · rw [if_neg (by omega)]; unfold sc_sh; congr 1; split <;> omega
        · rw [if_neg (by omega)]; unfold sc_sh; rw [if_neg (by omega)]; congr 1; omega
      · rw [if_neg hj, hA c h1 h2 j]
        by_cases hlt : j + (b - a) < k
        · rw [if_pos hlt, if_pos (by omega)]
        · rw [if_neg hlt, if_neg (by omega)])
    refine ⟨s, ?_, s2, s3, fun x y hxy => by rw [s4 x y hxy, u3 x y (by omega)]⟩
    simp only [dX2_cut_20]
    rw [h4, if_neg (nI_ge (by omega) (by omega)), hidx, u1]
    simp only [Option.bind_some, nI_1]
    exact s1
theorem sc_cutC {p n a b : Nat} {σ : sf_S} (hn : n ≤ 40) (hab : a ≤ b) (hb : b ≤ n) (h4 : σ p 4 = nI n) : ∃ s, dX2_cut p (nI a) (nI b) σ = some s ∧ s p 4 = nI (n - (b - a)) ∧ (∀ c, 1 ≤ c → c ≤ 4 → ∀ j, j < n - (b - a) → s (p + c) j = σ (p + c) (sc_sh a (b - a) j)) ∧ ∀ x y, ¬ ((x = p ∧ y = 4) ∨ (p + 1 ≤ x ∧ x ≤ p + 4)) → s x y = σ x y := by
  have hF := sf_F_le
  unfold dX2_cut
  rw [if_neg (nI_pos (by omega)), if_neg (nI_nlt hab (by omega)), h4, if_pos (nI_le hb (by omega))]
  refine sc_cutL hn hab hb (n - b) b sf_F σ (by omega) (Nat.le_refl _) (by omega) h4 (fun c h1 h2 j => ?_)
  unfold sc_sh
  by_cases hj : j + (b - a) < b
  · rw [if_pos hj, if_pos (by omega)]
  · rw [if_neg hj]
/-- the reference's cuts -/
theorem sc_cutsL {n a m : Nat} {τ0 : sf_S} (hn : n + m ≤ 40) : ∀ (r k fuel : Nat) (τ : sf_S), k + r = n → a ≤ k → r < fuel → τ 0 21 = nI n → (∀ c, 11 ≤ c → c ≤ 14 → ∀ j, τ c j = if a ≤ j ∧ j < k then τ0 c (j + m) else τ0 c j) →
    ∃ s, dX12_cuts_12 fuel (nI m) (nI k) τ = some s ∧ (∀ c, 11 ≤ c → c ≤ 14 → ∀ j, j < n → s c j = τ0 c (sc_sh a m j)) ∧ ∀ x y, ¬ (11 ≤ x ∧ x ≤ 14) → s x y = τ x y := by
  intro r
  induction r with
  | zero =>
    intro k fuel τ hk hak hf h4 hA
    obtain ⟨q, rfl⟩ : ∃ q, fuel = q + 1 := ⟨fuel - 1, by omega⟩
    refine ⟨τ, ?_, fun c h1 h2 j hj => ?_, fun _ _ _ => rfl⟩
    · simp only [dX12_cuts_12]
      rw [h4, if_pos (nI_le (by omega) (by omega))]
    · rw [hA c h1 h2 j, sc_sh]
      by_cases hja : j < a
      · rw [if_neg (by omega), if_pos hja]
      · rw [if_pos (by omega), if_neg hja]
  | succ r ih =>
    intro k fuel τ hk hak hf h4 hA
    obtain ⟨q, rfl⟩ : ∃ q, fuel = q + 1 := ⟨fuel - 1, by omega⟩
    generalize hu : sf_up (sf_up (sf_up (sf_up τ 11 k (τ 11 (k + m))) 12 k (τ 12 (k + m))) 13 k (τ 13 (k + m))) 14 k (τ 14 (k + m)) = u
    have un : ∀ x y, ¬ (11 ≤ x ∧ x ≤ 14) → u x y = τ x y := fun x y hxy => by
      rw [← hu, sc_upK (by omega), sc_upK (by omega), sc_upK (by omega), sc_upK (by omega)]
    have ur : ∀ c, 11 ≤ c → c ≤ 14 → ∀ j, u c j = if j = k then τ c (k + m) else τ c j := fun c h1 h2 j => by
      rw [← hu]
      rcases (by omega : c = 11 ∨ c = 12 ∨ c = 13 ∨ c = 14) with q | q | q | q <;> subst q
      all_goals
        by_cases hj : j = k
        · subst hj
          rw [if_pos rfl]
          simp (disch := omega) only [sc_upK, sc_upS]
        · rw [if_neg hj]
          simp (disch := omega) only [sc_upK, sc_upJ]
    obtain ⟨s, s1, s2, s3⟩ := ih (k + 1) q u (by omega) (by omega) (by omega) (by rw [un _ _ (by omega)]; exact h4) (fun c h1 h2 j => by
      rw [ur c h1 h2 j]
      by_cases hj : j = k
      · rw [if_pos hj, if_pos (by omega), hA c h1 h2 (k + m)]
        by_cases hm : m = 0
        · rw [if_neg (by omega), hj]
        · rw [if_neg (by omega), hj]
      · rw [if_neg hj, hA c h1 h2 j]
        by_cases hlt : a ≤ j ∧ j < k
        · rw [if_pos hlt, if_pos (by omega)]
        · rw [if_neg hlt, if_neg (by omega)])
    refine ⟨s, ?_, s2, fun x y hxy => by rw [s3 x y hxy, un x y hxy]⟩
    simp only [dX12_cuts_12]
    rw [h4, if_neg (nI_ge (by omega) (by omega))]
    simp (disch := omega) only [nI_add, sc_inI (show k + m < 40 by omega) (by omega : 40 ≤ 10000), sc_inI (show k < 40 by omega) (by omega : 40 ≤ 10000), if_true, sc_cl (show k + m < 2 ^ 31 by omega), sc_cl (show k < 2 ^ 31 by omega), sc_upK, nI_1]
    rw [hu]
    exact s1
theorem sc_cutM {n a m : Nat} {τ : sf_S} (hn : n ≤ 40) (ha : a + m ≤ n) (h4 : τ 0 21 = nI n) : ∃ s, dX12_cuts (nI a) (nI m) τ = some s ∧ s 0 21 = nI (n - m) ∧ (∀ c, 11 ≤ c → c ≤ 14 → ∀ j, j < n - m → s c j = τ c (sc_sh a m j)) ∧ ∀ x y, ¬ ((x = 0 ∧ y = 21) ∨ (11 ≤ x ∧ x ≤ 14)) → s x y = τ x y := by
  have hF := sf_F_le
  unfold dX12_cuts
  simp only [h4]
  rw [pk_sub (by omega)]
  obtain ⟨s, s1, s2, s3⟩ := sc_cutsL (n := n - m) (a := a) (m := m) (τ0 := τ) (by omega) (n - m - a) a sf_F (sf_up τ 0 21 (nI (n - m))) (by omega) (Nat.le_refl _) (by omega) sc_upS (fun c h1 h2 j => by rw [if_neg (by omega), sc_upK (by omega)])
  refine ⟨s, s1, by rw [s3 _ _ (by omega), sc_upS], s2, fun x y hxy => ?_⟩
  rw [s3 x y (by omega)]
  by_cases hx : x = 0
  · subst hx; exact sc_upJ (by omega)
  · exact sc_upK hx
/-! what cutting leaves of the tree -/
theorem sc_st_shift {L L' : Nat → Int32} {b m : Nat} (h0 : sc_st L' b = sc_st L (b + m)) : ∀ N, b ≤ N → (∀ j, b ≤ j → j < N → L' j = L (j + m)) → sc_st L' N = sc_st L (N + m) := by
  intro N
  induction N with
  | zero => intro h _; rw [show b = 0 by omega] at h0; exact h0
  | succ N ih =>
    intro h hL
    by_cases e : b = N + 1
    · rw [← e]; exact h0
    · rw [show N + 1 + m = (N + m) + 1 by omega, sc_st, sc_st, ih (by omega) (fun j a c => hL j a (by omega)), hL N (by omega) (by omega)]
theorem sc_ws_shift {L L' : Nat → Int32} {b m : Nat} : ∀ N, b ≤ N → (∀ j, b ≤ j → j < N → L' j = L (j + m)) → sc_ws L' N + sc_ws L (b + m) = sc_ws L (N + m) + sc_ws L' b := by
  intro N
  induction N with
  | zero => intro h _; rw [show b = 0 by omega]; omega
  | succ N ih =>
    intro h hL
    by_cases e : b = N + 1
    · rw [← e]; omega
    · have := ih (by omega) (fun j a c => hL j a (by omega))
      rw [show N + 1 + m = (N + m) + 1 by omega, sc_ws, sc_ws, hL N (by omega) (by omega)]
      omega
theorem sc_ws_mono {L : Nat → Int32} (a : Nat) : ∀ b, sc_ws L a ≤ sc_ws L (a + b)
  | 0 => Nat.le_refl _
  | b + 1 => Nat.le_trans (sc_ws_mono a b) (Nat.le_add_right _ _)
