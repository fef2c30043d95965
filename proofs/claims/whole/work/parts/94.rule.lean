/-! which rule can be used at a node, both sides -/
def sc_nil (τ : sf_S) (j : Nat) : Bool := decide (τ 11 j = 114 ∧ τ 13 j = 0 ∧ τ 14 j = 0)
theorem sc_has {p n j : Nat} {σ : sf_S} (hn : n ≤ 40) (h4 : σ p 4 = nI n) (hj : j < 2 ^ 31) : dX2_has p (nI j) σ = some (sc_b (decide (j < n)), σ) := by
  unfold dX2_has
  rw [if_neg (nI_pos hj), h4]
  by_cases h : j < n
  · rw [if_neg (nI_ge h (by omega)), decide_eq_true h]; rfl
  · rw [if_pos (nI_le (by omega) hj), decide_eq_false h]; rfl
theorem sc_nilC {p n j : Nat} {E : Nat → Nat} {σ τ : sf_S} (h : sc_Pq p n E σ τ) (hj : j < n) : dX2_isNil p (nI j) σ = some (sc_b (sc_nil τ j), σ) := by
  obtain ⟨p1, p2, p3, p4, p5, p6, p7, p8, p9, p10⟩ := h
  obtain ⟨q1, q2, q3, q4, -⟩ := p7 j hj
  unfold dX2_isNil
  rw [sc_has p2 p3 (by omega), decide_eq_true hj]
  simp only [Option.bind_some, sc_inI (show j < 40 by omega) (by omega : 40 ≤ 10000), if_true, sc_cl (show j < 2 ^ 31 by omega), q1, q3, q4]
  rw [if_neg (by decide), sc_nil]
  by_cases a : τ 11 j = 114
  · by_cases b : τ 13 j = 0
    · by_cases c : τ 14 j = 0
      · simp [a, b, c, sc_b]
      · simp [a, b, c, sc_b]
    · simp [a, b, sc_b]
  · simp [a, sc_b]
theorem sc_nilM {j : Nat} {τ : sf_S} (hj : j < 40) : dX12_isNil (nI j) τ = some (sc_b (sc_nil τ j), τ) := by
  unfold dX12_isNil
  simp only [sc_inI hj (by omega : 40 ≤ 10000), if_true, sc_cl (show j < 2 ^ 31 by omega)]
  rw [sc_nil]
  by_cases a : τ 11 j = 114
  · by_cases b : τ 13 j = 0
    · by_cases c : τ 14 j = 0
      · simp [a, b, c, sc_b]
      · simp [a, b, c, sc_b]
    · simp [a, b, sc_b]
  · simp [a, sc_b]
theorem sc_lat {p n j : Nat} {E : Nat → Nat} {σ τ : sf_S} (h : sc_Pq p n E σ τ) (hj : j < n) : dX2_letterAt p (nI j) σ = some (τ 11 j, σ) := by
  obtain ⟨p1, p2, p3, p4, p5, p6, p7, p8, p9, p10⟩ := h
  unfold dX2_letterAt
  rw [if_neg (nI_pos (by omega)), p3, if_neg (nI_ge hj (by omega)), if_pos (sc_inI (by omega) (by omega)), sc_cl (by omega), (p7 j hj).1]
theorem sc_2nd {p n k : Nat} {E : Nat → Nat} {σ τ : sf_S} (h : sc_Pq p n E σ τ) (hj : k + 1 < n) : dX2_secondPart p (nI k) σ = some (nI (E (k + 1)), σ) := by
  obtain ⟨p1, p2, p3, p4, p5, p6, p7, p8, p9, p10⟩ := h
  unfold dX2_secondPart
  rw [if_neg (nI_pos (by omega)), p3, nI_1, if_neg (nI_ge hj (by omega)), if_pos (sc_inI (by omega) (by omega)), sc_cl (by omega), (p8.1 (k + 1) hj).1]
theorem sc_inp {p n k : Nat} {E : Nat → Nat} {σ τ : sf_S} (h : sc_Pq p n E σ τ) (hk : k < n) (hp : 1 ≤ sc_p (τ 11 k)) : dX2_input p (nI k) σ = some (nI (sc_ps (τ 11) E k), σ) ∧ sc_ps (τ 11) E k < n ∧ k < sc_ps (τ 11) E k ∧ sc_ps (τ 11) E k < E k := by
  have hT := h.2.2.2.2.2.1
  unfold dX2_input
  rw [sc_lat h hk]
  simp only [Option.bind_some]
  by_cases hx : τ 11 k = 120
  · obtain ⟨q1, q2, q3, q4, q5⟩ := hT.p2 hk (sc_p120 hx)
    rw [if_neg (by simp [hx]), sc_2nd h q1, sc_ps, if_pos hx]
    exact ⟨rfl, q3, by omega, q4⟩
  · rw [if_pos hx, sc_ps, if_neg hx, nI_1]
    rcases sc_p3 (τ 11 k) with q | q | q
    · omega
    · obtain ⟨g1, g2⟩ := hT.p1 hk q
      have := (hT.lt g1).1
      exact ⟨rfl, g1, by omega, by omega⟩
    · obtain ⟨q1, q2, q3, q4, q5⟩ := hT.p2 hk q
      exact ⟨rfl, q1, by omega, by omega⟩
/-- what holds where a rule can be used -/
def sc_rl (τ : sf_S) (E : Nat → Nat) (k : Nat) : Nat → Prop
  | 0 => τ 11 k = 114
  | 1 => τ 11 k = 116 ∧ τ 11 (k + 1) = 116
  | 2 => τ 11 k = 100 ∧ τ 11 (k + 1) = 100
  | 3 => τ 11 k = 116 ∧ (τ 11 (k + 1) = 37 ∨ τ 11 (k + 1) = 42 ∨ τ 11 (k + 1) = 43)
  | 4 => τ 11 k = 100 ∧ (τ 11 (k + 1) = 37 ∨ τ 11 (k + 1) = 42 ∨ τ 11 (k + 1) = 43)
  | 5 => τ 11 k = 100 ∧ τ 11 (k + 1) = 116
  | 6 => τ 11 k = 116 ∧ τ 11 (k + 1) = 114
  | 7 => τ 11 k = 100 ∧ τ 11 (k + 1) = 114
  | 8 => τ 11 k = 100 ∧ τ 11 (k + 1) = 105
  | 9 => τ 11 k = 116
  | 10 => τ 11 k = 100
  | 11 => 1 ≤ sc_p (τ 11 k) ∧ sc_nil τ (sc_ps (τ 11) E k) = true
  | 12 => τ 11 k = 99 ∧ (sc_nil τ (k + 1) = true ∨ (sc_nil τ (k + 1) = false ∧ sc_nil τ (E (k + 1)) = true))
  | _ => False
def sc_ro (q : Nat) (σ τ : sf_S) (E : Nat → Nat) (k : Nat) (v : Int32) : Prop := dX5_ruleFor q (nI k) σ = some (v, σ) ∧ dX12_ruleAt (nI k) τ = some (v, τ) ∧ (v = -1 ∨ ∃ r, r < 13 ∧ v = nI r ∧ sc_rl τ E k r)
theorem sc_chg (c : Int32) (τ : sf_S) : dX12_changes c τ = some (sc_b (decide (c = 37 ∨ c = 42 ∨ c = 43)), τ) := by
  unfold dX12_changes
  by_cases h1 : c = 43
  · subst h1; rfl
  by_cases h2 : c = 42
  · subst h2; rfl
  by_cases h3 : c = 37
  · subst h3; rfl
  · simp only [h1, h2, h3, if_false, not_false_eq_true, if_true, or_self, decide_false]; rfl
theorem sc_ruleTake {q n k : Nat} {E : Nat → Nat} {σ τ : sf_S} (h : sc_Pq (sf_pl q) n E σ τ) (hk : k < n) (hc : τ 11 k = 116) : ∃ v, sc_ro q σ τ E k v := by
  have h' := h
  obtain ⟨p1, p2, p3, p4, p5, p6, p7, p8, p9, p10⟩ := h'
  obtain ⟨q1, q2, q3, q4, -⟩ := p7 k hk
  obtain ⟨g1, g2⟩ := p6.p1 hk (by rw [hc]; decide +kernel)
  have hik : sf_in (nI k) 40 = true := sc_inI (by omega) (by omega)
  have hC : dX5_ruleFor q (nI k) σ = dX5_ruleForTake q (nI k) σ := by
    unfold dX5_ruleFor
    rw [sc_has p2 p3 (by omega), decide_eq_true hk]
    simp only [Option.bind_some, hik, if_true, sc_cl (show k < 2 ^ 31 by omega), q1, hc]
    cases dX5_ruleForTake q (nI k) σ <;> rfl
  have hM : dX12_ruleAt (nI k) τ = dX12_ruleOfCut_16 (nI k) 1 τ := by
    unfold dX12_ruleAt dX12_ruleOfCut
    simp only [hik, if_true, sc_cl (show k < 2 ^ 31 by omega), hc]
    cases dX12_ruleOfCut_16 (nI k) 1 τ <;> rfl
  unfold dX5_ruleForTake at hC
  unfold dX12_ruleOfCut_16 dX12_ruleOfCut_85 dX12_ruleOfCut_116 at hM
  rw [nI_1, sc_lat h g1] at hC
  rw [nI_1] at hM
  simp only [Option.bind_some, hik, sc_inI (show k + 1 < 40 by omega) (by omega : 40 ≤ 10000), if_true, sc_cl (show k < 2 ^ 31 by omega), sc_cl (show k + 1 < 2 ^ 31 by omega), q3, hc, sc_chg] at hC hM
  generalize hd : τ 11 (k + 1) = d at hC hM
  by_cases d1 : d = 37
  · subst d1
    exact ⟨3, hC.trans rfl, hM.trans rfl, Or.inr ⟨3, by omega, by decide +kernel, hc, Or.inl hd⟩⟩
  by_cases d2 : d = 42
  · subst d2
    exact ⟨3, hC.trans rfl, hM.trans rfl, Or.inr ⟨3, by omega, by decide +kernel, hc, Or.inr (Or.inl hd)⟩⟩
  by_cases d3 : d = 43
  · subst d3
    exact ⟨3, hC.trans rfl, hM.trans rfl, Or.inr ⟨3, by omega, by decide +kernel, hc, Or.inr (Or.inr hd)⟩⟩
  by_cases d4 : d = 114
  · subst d4
    exact ⟨6, hC.trans rfl, hM.trans rfl, Or.inr ⟨6, by omega, by decide +kernel, hc, hd⟩⟩
  by_cases d5 : d = 116
  · subst d5
    exact ⟨1, hC.trans rfl, hM.trans rfl, Or.inr ⟨1, by omega, by decide +kernel, hc, hd⟩⟩
  simp only [d1, d2, d3, d4, d5, if_false, not_false_eq_true, if_true, or_self, decide_false] at hC hM
  by_cases hf : τ 13 k = 0
  · simp only [hf, not_true_eq_false, if_false] at hC hM
    exact ⟨9, hC, hM.trans rfl, Or.inr ⟨9, by omega, by decide +kernel, hc⟩⟩
  · simp only [hf, not_false_eq_true, if_true] at hC hM
    exact ⟨-1, hC, hM.trans rfl, Or.inl rfl⟩
