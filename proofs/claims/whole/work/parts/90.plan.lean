/-! a plan, both sides -/
def sc_Ar (q n : Nat) (σ τ : sf_S) : Prop := ∀ j, j < n → σ (q + 1) j = τ 11 j ∧ σ (q + 2) j = τ 12 j ∧ σ (q + 3) j = τ 13 j ∧ σ (q + 4) j = τ 14 j ∧ sc_vn (τ 11 j) (τ 12 j) (τ 13 j) (τ 14 j)
def sc_Pq (q n : Nat) (E : Nat → Nat) (σ τ : sf_S) : Prop := 0 < n ∧ n ≤ 40 ∧ σ q 4 = nI n ∧ τ 0 21 = nI n ∧ sc_G n (τ 11) ∧ sc_T n (τ 11) E ∧ sc_Ar q n σ τ ∧ sc_MC q n (τ 11) E σ ∧ sc_MM n (τ 11) E τ ∧ sc_ws (τ 11) n ≤ 400
noncomputable def sc_tx (n : Nat) (τ : sf_S) : List Int32 := sc_tr (τ 11) (τ 12) (τ 13) (τ 14) 0 n
def sc_Pm (σ τ : sf_S) : Prop := (σ 1 4 = 0 ∧ τ 0 21 = 0 ∧ σ 1 10 = -1) ∨ ∃ n E, sc_Pq 1 n E σ τ ∧ σ 11 2 = nI (sc_tx n τ).length ∧ ∀ i x, (sc_tx n τ)[i]? = some x → σ 12 i = x
theorem sc_Pq.kept {q n : Nat} {E : Nat → Nat} {σ τ σ' τ' : sf_S} (h : sc_Pq q n E σ τ) (h1 : ∀ a b, q ≤ a → a ≤ q + 9 → σ' a b = σ a b) (h2 : ∀ a b, ((a = 0 ∧ b = 21) ∨ (11 ≤ a ∧ a ≤ 20)) → τ' a b = τ a b) : sc_Pq q n E σ' τ' := by
  have r : ∀ a, 11 ≤ a → a ≤ 20 → τ' a = τ a := fun a p1 p2 => funext fun b => h2 a b (Or.inr ⟨p1, p2⟩)
  have r2 : ∀ a, q ≤ a → a ≤ q + 9 → σ' a = σ a := fun a p1 p2 => funext fun b => h1 a b p1 p2
  obtain ⟨a1, a2, a3, a4, a5, a6, a7, a8, a9, b1⟩ := h
  refine ⟨a1, a2, ?_, ?_, ?_, ?_, ?_, ?_, ?_, ?_⟩
  · rw [r2 q (by omega) (by omega)]; exact a3
  · rw [h2 0 21 (Or.inl ⟨rfl, rfl⟩)]; exact a4
  · rw [r 11 (by omega) (by omega)]; exact a5
  · rw [r 11 (by omega) (by omega)]; exact a6
  · unfold sc_Ar
    rw [r 11 (by omega) (by omega), r 12 (by omega) (by omega), r 13 (by omega) (by omega), r 14 (by omega) (by omega), r2 (q + 1) (by omega) (by omega), r2 (q + 2) (by omega) (by omega), r2 (q + 3) (by omega) (by omega), r2 (q + 4) (by omega) (by omega)]
    exact a7
  · unfold sc_MC
    rw [r 11 (by omega) (by omega), r2 (q + 5) (by omega) (by omega), r2 (q + 6) (by omega) (by omega), r2 (q + 7) (by omega) (by omega), r2 (q + 8) (by omega) (by omega), r2 (q + 9) (by omega) (by omega), r2 q (by omega) (by omega)]
    exact a8
  · unfold sc_MM
    rw [r 11 (by omega) (by omega), r 15 (by omega) (by omega), r 16 (by omega) (by omega), r 17 (by omega) (by omega), r 18 (by omega) (by omega), r 19 (by omega) (by omega), r 20 (by omega) (by omega)]
    exact a9
  · rw [r 11 (by omega) (by omega)]; exact b1
theorem sc_tx_kept {n : Nat} {τ τ' : sf_S} (h2 : ∀ a b, (11 ≤ a ∧ a ≤ 14) → τ' a b = τ a b) : sc_tx n τ' = sc_tx n τ := by
  have r : ∀ a, 11 ≤ a → a ≤ 14 → τ' a = τ a := fun a p1 p2 => funext fun b => h2 a b ⟨p1, p2⟩
  rw [sc_tx, sc_tx, r 11 (by omega) (by omega), r 12 (by omega) (by omega), r 13 (by omega) (by omega), r 14 (by omega) (by omega)]
theorem sc_Pm.kept {σ τ σ' τ' : sf_S} (h : sc_Pm σ τ) (h1 : ∀ a b, 1 ≤ a → a ≤ 12 → σ' a b = σ a b) (h2 : ∀ a b, ((a = 0 ∧ b = 21) ∨ (11 ≤ a ∧ a ≤ 20)) → τ' a b = τ a b) : sc_Pm σ' τ' := by
  rcases h with ⟨a1, a2, a3⟩ | ⟨n, E, a1, a2, a3⟩
  · exact Or.inl ⟨by rw [h1 _ _ (by omega) (by omega)]; exact a1, by rw [h2 _ _ (by omega)]; exact a2, by rw [h1 _ _ (by omega) (by omega)]; exact a3⟩
  · refine Or.inr ⟨n, E, a1.kept (fun a b p1 p2 => h1 a b (by omega) (by omega)) h2, ?_, fun i x hi => ?_⟩
    · rw [h1 _ _ (by omega) (by omega), sc_tx_kept (fun a b p => h2 a b (by omega))]; exact a2
    · rw [h1 _ _ (by omega) (by omega)]
      rw [sc_tx_kept (fun a b p => h2 a b (by omega))] at hi
      exact a3 i x hi
/-- the class's takeFrom, up to its measure -/
theorem sc_takeL {q r1 n : Nat} (hn : n ≤ 40) (hd : r1 + 9 < q ∨ q + 9 < r1) : ∀ (r k fuel : Nat) (σ : sf_S), k + r = n → r < fuel → σ q 4 = nI k → σ r1 4 = nI n → (∀ j, j < k → σ (q + 1) j = σ (r1 + 1) j ∧ σ (q + 2) j = σ (r1 + 2) j ∧ σ (q + 3) j = σ (r1 + 3) j ∧ σ (q + 4) j = σ (r1 + 4) j) →
    ∃ s, dX2_takeFrom_7 q r1 fuel (nI k) σ = (dX2_measure q s).bind some ∧ s q 4 = nI n ∧ (∀ j, j < n → s (q + 1) j = σ (r1 + 1) j ∧ s (q + 2) j = σ (r1 + 2) j ∧ s (q + 3) j = σ (r1 + 3) j ∧ s (q + 4) j = σ (r1 + 4) j) ∧ ∀ x y, ¬ ((x = q ∧ y = 4) ∨ x = q + 1 ∨ x = q + 2 ∨ x = q + 3 ∨ x = q + 4) → s x y = σ x y := by
  intro r
  induction r with
  | zero =>
    intro k fuel σ hk hf h4 hr hA
    obtain ⟨m, rfl⟩ : ∃ m, fuel = m + 1 := ⟨fuel - 1, by omega⟩
    have hkn : k = n := by omega
    subst hkn
    refine ⟨σ, ?_, h4, hA, fun _ _ _ => rfl⟩
    simp only [dX2_takeFrom_7]
    rw [hr, if_pos (nI_le (by omega) (by omega))]
  | succ r ih =>
    intro k fuel σ hk hf h4 hr hA
    obtain ⟨m, rfl⟩ : ∃ m, fuel = m + 1 := ⟨fuel - 1, by omega⟩
    obtain ⟨u, u1, u2, u3, u4, u5, u6, u7⟩ := sc_add (q := q) h4 (by omega) (σ (r1 + 1) k) (σ (r1 + 2) k) (σ (r1 + 3) k) (σ (r1 + 4) k)
    have ur : ∀ c j, c ≤ 9 → u (r1 + c) j = σ (r1 + c) j := fun c j hc => u7 _ _ (by omega)
    have ur0 : u r1 4 = σ r1 4 := u7 _ _ (by omega)
    obtain ⟨s, s1, s2, s3, s4⟩ := ih (k + 1) m u (by omega) (by omega) u2 (by rw [ur0]; exact hr) (fun j hj => by
      rw [ur 1 j (by omega), ur 2 j (by omega), ur 3 j (by omega), ur 4 j (by omega)]
      by_cases hjk : j = k
      · subst hjk; exact ⟨u3, u4, u5, u6⟩
      · rw [u7 _ _ (by omega), u7 _ _ (by omega), u7 _ _ (by omega), u7 _ _ (by omega)]
        exact hA j (by omega))
    refine ⟨s, ?_, s2, fun j hj => ?_, fun x y hxy => by rw [s4 x y hxy, u7 x y (by omega)]⟩
    · simp only [dX2_takeFrom_7]
      rw [hr, if_neg (nI_ge (by omega) (by omega))]
      simp only [sc_inI (show k < 40 by omega) (by omega : 40 ≤ 10000), if_true, sc_cl (show k < 2 ^ 31 by omega), u1, Option.bind_some, nI_1]
      exact s1
    · have := s3 j hj
      rw [ur 1 j (by omega), ur 2 j (by omega), ur 3 j (by omega), ur 4 j (by omega)] at this
      exact this
theorem sc_take {q r1 n : Nat} {σ : sf_S} (hn : n ≤ 40) (h0 : 0 < n) (hd : r1 + 9 < q ∨ q + 9 < r1) (hr : σ r1 4 = nI n) (hG : sc_G n (σ (r1 + 1))) : ∃ E s, sc_T n (σ (r1 + 1)) E ∧ dX2_takeFrom q r1 σ = some s ∧ s q 4 = nI n ∧ (∀ j, j < n → s (q + 1) j = σ (r1 + 1) j ∧ s (q + 2) j = σ (r1 + 2) j ∧ s (q + 3) j = σ (r1 + 3) j ∧ s (q + 4) j = σ (r1 + 4) j) ∧ sc_MC q n (σ (r1 + 1)) E s ∧ ∀ x y, ¬ (q ≤ x ∧ x ≤ q + 9) → s x y = σ x y := by
  have hF := sf_F_le
  obtain ⟨E, hT⟩ := sc_T_ex hG
  have hne : ∀ c y, c ≤ 9 → sf_up σ q 4 0 (r1 + c) y = σ (r1 + c) y := fun c y hc => sc_upK (by omega)
  obtain ⟨s, s1, s2, s3, s4⟩ := sc_takeL (q := q) (r1 := r1) hn hd n 0 sf_F (sf_up σ q 4 0) (by omega) (by omega) (by rw [sc_upS, sc_0]) (by rw [show r1 = r1 + 0 from rfl, hne 0 4 (by omega)]; exact hr) (fun j hj => absurd hj (Nat.not_lt_zero j))
  obtain ⟨s', t1, t2, t3⟩ := sc_measC (q := q) hn h0 hT s2 (fun j hj => by rw [(s3 j hj).1, hne 1 j (by omega)])
  refine ⟨E, s', hT, ?_, ?_, fun j hj => ?_, t3, fun x y hxy => ?_⟩
  · unfold dX2_takeFrom
    simp only []
    rw [sc_0, ← sc_0, sc_0] at *
    rw [s1, t1]
    rfl
  · rw [t2 _ _ (by omega)]; exact s2
  · rw [t2 _ _ (by omega), t2 _ _ (by omega), t2 _ _ (by omega), t2 _ _ (by omega)]
    have := s3 j hj
    rw [hne 1 j (by omega), hne 2 j (by omega), hne 3 j (by omega), hne 4 j (by omega)] at this
    exact this
  · rw [t2 x y (by omega), s4 x y (by omega), sc_upK (by omega)]
