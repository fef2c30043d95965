/-! way 2: rows -/
theorem sc_c60 : (60 : Int32) = nI 60 := by decide +kernel
def tr_row (σ : sf_S) (j : Nat) (V : List Int32) : Prop := V.length ≤ 60 ∧ σ 35 j = nI V.length ∧ ∀ i v, V[i]? = some v → σ 34 (60 * j + i) = v
def tr_rwf (k : Nat) (σ σ' : sf_S) : Prop := ∀ a b, ¬ ((a = 34 ∧ 60 * k ≤ b ∧ b < 60 * k + 60) ∨ (a = 35 ∧ b = k)) → σ' a b = σ a b
theorem tr_rwf_tr {k : Nat} {a b c : sf_S} (h1 : tr_rwf k a b) (h2 : tr_rwf k b c) : tr_rwf k a c := fun x y h => (h2 x y h).trans (h1 x y h)
theorem tr_row.kept {σ σ' : sf_S} {j : Nat} {V : List Int32} (h : tr_row σ j V) (h1 : ∀ a b, ((a = 34 ∧ 60 * j ≤ b ∧ b < 60 * j + 60) ∨ (a = 35 ∧ b = j)) → σ' a b = σ a b) : tr_row σ' j V := by
  refine ⟨h.1, by rw [h1 _ _ (Or.inr ⟨rfl, rfl⟩)]; exact h.2.1, fun i v hv => ?_⟩
  have := (List.getElem?_eq_some_iff.mp hv).1
  have h2 := h.1
  rw [h1 _ _ (Or.inl ⟨rfl, by omega, by omega⟩)]
  exact h.2.2 i v hv
theorem tr_row.far {σ σ' : sf_S} {j k : Nat} {V : List Int32} (h : tr_row σ j V) (hf : tr_rwf k σ σ') (hjk : j ≠ k) : tr_row σ' j V := h.kept fun a b hab => hf a b (by omega)
theorem tr_has2 {n k : Nat} {σ : sf_S} (hn : n ≤ 40) (h4 : σ 1 4 = nI n) (hk : k < n) : dX2_has 1 (nI k) σ = some (1, σ) := by
  rw [sc_has hn h4 (by omega), decide_eq_true hk]; rfl
theorem tr_add {n k : Nat} {V : List Int32} {σ : sf_S} (hn : n ≤ 40) (h4 : σ 1 4 = nI n) (hk : k < n) (hr : tr_row σ k V) (hl : V.length < 60) (v : Int32) : ∃ σ', dX1_add (nI k) v σ = some σ' ∧ tr_row σ' k (V ++ [v]) ∧ tr_rwf k σ σ' := by
  obtain ⟨a1, a2, a3⟩ := hr
  have hik : sf_in (nI k) 40 = true := sc_inI (by omega) (by omega)
  have hcl := sc_cl (show k < 2 ^ 31 by omega)
  refine ⟨sf_up (sf_up σ 34 (60 * k + V.length) v) 35 k (nI (V.length + 1)), ?_, ⟨by simp only [List.length_append, List.length_singleton]; omega, by rw [sc_upS]; simp, ?_⟩, fun a b hab => ?_⟩
  · unfold dX1_add
    rw [tr_has2 hn h4 hk]
    simp only [Option.bind_some]
    rw [if_neg (show ¬ (1 : Int32) = 0 by decide), if_pos hik, hcl, a2, if_pos (show nI V.length < 60 from nI_lt (b := 60) hl (by decide)), sc_c60, sc_mul, nI_add, show k * 60 + V.length = 60 * k + V.length by omega]
    simp only [hik, if_true, sc_inI (show 60 * k + V.length < 2400 by omega) (by omega : 2400 ≤ 10000), sc_cl (show 60 * k + V.length < 2 ^ 31 by omega)]
    rw [sc_upK (by decide), a2, nI_1]
  · intro i w hw
    rw [sc_upK (by decide)]
    by_cases e : i < V.length
    · rw [List.getElem?_append_left e] at hw
      rw [sc_upJ (by omega)]; exact a3 i w hw
    · have h1 := (List.getElem?_eq_some_iff.mp hw).1
      simp only [List.length_append, List.length_singleton] at h1
      obtain rfl : i = V.length := by omega
      rw [List.getElem?_append_right (Nat.le_refl _), Nat.sub_self] at hw
      cases hw
      exact sc_upS
  · have g1 : ¬ (a = 35 ∧ b = k) := by omega
    have g2 : ¬ (a = 34 ∧ b = 60 * k + V.length) := by omega
    exact (if_neg g1).trans (if_neg g2)
theorem tr_elem {n k i : Nat} {V : List Int32} {v : Int32} {σ : sf_S} (hn : n ≤ 40) (h4 : σ 1 4 = nI n) (hk : k < n) (hr : tr_row σ k V) (hv : V[i]? = some v) : dX1_element (nI k) (nI i) σ = some (v, σ) := by
  obtain ⟨a1, a2, a3⟩ := hr
  have hi := (List.getElem?_eq_some_iff.mp hv).1
  have hik : sf_in (nI k) 40 = true := sc_inI (by omega) (by omega)
  have hcl := sc_cl (show k < 2 ^ 31 by omega)
  unfold dX1_element
  rw [tr_has2 hn h4 hk]
  simp only [Option.bind_some]
  rw [if_neg (show ¬ (1 : Int32) = 0 by decide), if_neg (nI_pos (by omega)), if_pos hik, hcl, a2, if_neg (nI_ge hi (by omega)), sc_c60, sc_mul, nI_add, show k * 60 + i = 60 * k + i by omega]
  simp only [sc_inI (show 60 * k + i < 2400 by omega) (by omega : 2400 ≤ 10000), if_true, sc_cl (show 60 * k + i < 2 ^ 31 by omega), a3 i v hv]
theorem tr_addRow {n k j : Nat} {V W : List Int32} {σ : sf_S} (hn : n ≤ 40) (h4 : σ 1 4 = nI n) (hk : k < n) (hj : j < n) (hjk : j ≠ k) (hV : tr_row σ k V) (hW : tr_row σ j W) :
    (V.length + W.length ≤ 60 ∧ ∃ σ', dX1_addRow (nI k) (nI j) σ = some (1, σ') ∧ tr_row σ' k (V ++ W) ∧ tr_rwf k σ σ') ∨ ∃ σ', dX1_addRow (nI k) (nI j) σ = some (0, σ') ∧ σ' 19 5 = 4 ∧ ∀ a b, ¬ (a = 19 ∧ (b = 5 ∨ b = 6)) → σ' a b = σ a b := by
  obtain ⟨a1, a2, a3⟩ := hV
  obtain ⟨b1, b2, b3⟩ := hW
  have hik : sf_in (nI k) 40 = true := sc_inI (by omega) (by omega)
  have hij : sf_in (nI j) 40 = true := sc_inI (by omega) (by omega)
  have hcl := sc_cl (show k < 2 ^ 31 by omega)
  have hcj := sc_cl (show j < 2 ^ 31 by omega)
  by_cases hs : V.length + W.length ≤ 60
  · left
    refine ⟨hs, sf_up (sf_cpy σ 34 (nI (60 * j)) (nI (60 * k + V.length)) (nI W.length)) 35 k (nI (V.length + W.length)), ?_, ?_, ?_⟩
    · unfold dX1_addRow
      rw [tr_has2 hn h4 hk]
      simp only [Option.bind_some]
      rw [if_neg (show ¬ (1 : Int32) = 0 by decide), tr_has2 hn h4 hj]
      simp only [Option.bind_some]
      rw [if_pos (show ¬ (1 : Int32) = 0 by decide)]
      simp only [hik, hij, if_true, hcl, hcj, a2, b2, nI_add]
      rw [if_pos (show nI (V.length + W.length) ≤ 60 from nI_le (b := 60) hs (by decide)), sc_c60, sc_mul, sc_mul, nI_add, show j * 60 = 60 * j by omega, show k * 60 + V.length = 60 * k + V.length by omega]
      rw [if_pos]
      · congr 3
        rw [show sf_cpy σ 34 (nI (60 * j)) (nI (60 * k + V.length)) (nI W.length) 35 k = nI V.length by simp [sf_cpy, a2], show sf_cpy σ 34 (nI (60 * j)) (nI (60 * k + V.length)) (nI W.length) 35 j = nI W.length by simp [sf_cpy, b2], nI_add]
      · simp only [sc_cl (show 60 * j < 2 ^ 31 by omega), sc_cl (show 60 * k + V.length < 2 ^ 31 by omega), sc_cl (show W.length < 2 ^ 31 by omega), nI_pos (show 60 * j < 2 ^ 31 by omega), nI_pos (show 60 * k + V.length < 2 ^ 31 by omega), nI_pos (show W.length < 2 ^ 31 by omega), decide_false, Bool.not_false, Bool.and_eq_true, Bool.true_and, Nat.ble_eq]
        omega
    all_goals
      have h34 : ∀ x, sf_up (sf_cpy σ 34 (nI (60 * j)) (nI (60 * k + V.length)) (nI W.length)) 35 k (nI (V.length + W.length)) 34 x = if 60 * k + V.length ≤ x ∧ x < 60 * k + V.length + W.length then σ 34 (60 * j + (x - (60 * k + V.length))) else σ 34 x := fun x => by
        rw [sc_upK (by decide)]
        simp only [sf_cpy, if_true, va_cpy, sc_cl (show 60 * j < 2 ^ 31 by omega), sc_cl (show 60 * k + V.length < 2 ^ 31 by omega), sc_cl (show W.length < 2 ^ 31 by omega)]
    · refine ⟨by rw [List.length_append]; exact hs, by rw [sc_upS, List.length_append], fun i v hv => ?_⟩
      rw [h34]
      have hi := (List.getElem?_eq_some_iff.mp hv).1
      rw [List.length_append] at hi
      by_cases e : i < V.length
      · rw [List.getElem?_append_left e] at hv
        rw [if_neg (by omega)]; exact a3 i v hv
      · rw [List.getElem?_append_right (by omega)] at hv
        rw [if_pos (by omega), show 60 * j + (60 * k + i - (60 * k + V.length)) = 60 * j + (i - V.length) by omega]
        exact b3 _ v hv
    · intro a b hab
      by_cases q : a = 34
      · subst q
        rw [h34, if_neg (by omega)]
      · by_cases q2 : a = 35
        · subst q2
          rw [sc_upJ (by omega)]
          simp [sf_cpy]
        · rw [sc_upK q2]
          simp [sf_cpy, q]
  · right
    refine ⟨sf_up (sf_up σ 19 5 4) 19 6 (σ 8 k), ?_, by rw [sc_upJ (by omega), sc_upS], fun a b hab => ?_⟩
    · unfold dX1_addRow
      rw [tr_has2 hn h4 hk]
      simp only [Option.bind_some]
      rw [if_neg (show ¬ (1 : Int32) = 0 by decide), tr_has2 hn h4 hj]
      simp only [Option.bind_some]
      rw [if_pos (show ¬ (1 : Int32) = 0 by decide)]
      simp only [hik, hij, if_true, hcl, hcj, a2, b2, nI_add]
      rw [if_neg (show ¬ nI (V.length + W.length) ≤ 60 from nI_ge (a := 60) (by omega) (by omega))]
      unfold dX6_fail
      simp only [Option.bind_some]
    · have g1 : ¬ (a = 19 ∧ b = 6) := by omega
      have g2 : ¬ (a = 19 ∧ b = 5) := by omega
      exact (if_neg g1).trans (if_neg g2)
