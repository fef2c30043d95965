/-! which rule: d, c and all others -/
theorem sc_ruleDrop {q n k : Nat} {E : Nat → Nat} {σ τ : sf_S} (h : sc_Pq (sf_pl q) n E σ τ) (hk : k < n) (hc : τ 11 k = 100) : ∃ v, sc_ro q σ τ E k v := by
  have h' := h
  obtain ⟨p1, p2, p3, p4, p5, p6, p7, p8, p9, p10⟩ := h'
  obtain ⟨q1, q2, q3, q4, -⟩ := p7 k hk
  obtain ⟨g1, g2⟩ := p6.p1 hk (by rw [hc]; decide +kernel)
  have hik : sf_in (nI k) 40 = true := sc_inI (by omega) (by omega)
  have hC : dX5_ruleFor q (nI k) σ = dX5_ruleForDrop q (nI k) σ := by
    unfold dX5_ruleFor
    rw [sc_has p2 p3 (by omega), decide_eq_true hk]
    simp only [Option.bind_some, hik, if_true, sc_cl (show k < 2 ^ 31 by omega), q1, hc]
    cases dX5_ruleForDrop q (nI k) σ <;> rfl
  have hM : dX12_ruleAt (nI k) τ = dX12_ruleOfCut_16 (nI k) 0 τ := by
    unfold dX12_ruleAt dX12_ruleOfCut
    simp only [hik, if_true, sc_cl (show k < 2 ^ 31 by omega), hc]
    cases dX12_ruleOfCut_16 (nI k) 0 τ <;> rfl
  unfold dX5_ruleForDrop at hC
  unfold dX12_ruleOfCut_16 at hM
  rw [nI_1, sc_lat h g1] at hC
  rw [nI_1] at hM
  have e2 : nI k + 2 = nI (k + 2) := by rw [sc_k2, nI_add]
  simp only [Option.bind_some, hik, sc_inI (show k + 1 < 40 by omega) (by omega : 40 ≤ 10000), if_true, sc_cl (show k < 2 ^ 31 by omega), sc_cl (show k + 1 < 2 ^ 31 by omega), hc, sc_chg, e2] at hC hM
  have h117 : dX5_ruleForDrop_117 q (nI k) σ = some (if τ 13 k = 0 then 10 else -1, σ) := by
    unfold dX5_ruleForDrop_117
    rw [if_pos hik, sc_cl (by omega), q3]
    by_cases hf : τ 13 k = 0
    · rw [if_neg (by simp [hf]), if_pos hf]
    · rw [if_pos hf, if_neg hf]
  have h116 : dX12_ruleOfCut_116 (nI k) 0 τ = some (if τ 13 k = 0 then 10 else -1, τ) := by
    unfold dX12_ruleOfCut_116
    rw [if_pos hik, sc_cl (by omega)]
    by_cases hf : τ 13 k = 0
    · rw [if_neg (by simp [hf]), if_pos rfl, if_pos hf]
    · rw [if_pos hf, if_neg hf]
  have hlast : dX5_ruleFor q (nI k) σ = some (if τ 13 k = 0 then 10 else -1, σ) → dX12_ruleAt (nI k) τ = some (if τ 13 k = 0 then 10 else -1, τ) → ∃ v, sc_ro q σ τ E k v := fun a b => by
    by_cases hf : τ 13 k = 0
    · rw [if_pos hf] at a b
      exact ⟨10, a, b, Or.inr ⟨10, by omega, by decide +kernel, hc⟩⟩
    · rw [if_neg hf] at a b
      exact ⟨-1, a, b, Or.inl rfl⟩
  rw [h117] at hC
  generalize hd : τ 11 (k + 1) = d at hC hM
  by_cases d1 : d = 37
  · subst d1
    exact ⟨4, hC.trans rfl, hM.trans rfl, Or.inr ⟨4, by omega, by decide +kernel, hc, Or.inl hd⟩⟩
  by_cases d2 : d = 42
  · subst d2
    exact ⟨4, hC.trans rfl, hM.trans rfl, Or.inr ⟨4, by omega, by decide +kernel, hc, Or.inr (Or.inl hd)⟩⟩
  by_cases d3 : d = 43
  · subst d3
    exact ⟨4, hC.trans rfl, hM.trans rfl, Or.inr ⟨4, by omega, by decide +kernel, hc, Or.inr (Or.inr hd)⟩⟩
  by_cases d4 : d = 100
  · subst d4
    exact ⟨2, hC.trans rfl, hM.trans rfl, Or.inr ⟨2, by omega, by decide +kernel, hc, hd⟩⟩
  by_cases d5 : d = 105
  · subst d5
    refine ⟨8, hC.trans rfl, hM.trans ?_, Or.inr ⟨8, by omega, by decide +kernel, hc, hd⟩⟩
    unfold dX12_ruleOfCut_85
    rfl
  by_cases d6 : d = 114
  · subst d6
    refine ⟨7, hC.trans rfl, hM.trans ?_, Or.inr ⟨7, by omega, by decide +kernel, hc, hd⟩⟩
    unfold dX12_ruleOfCut_85
    rfl
  have h85 : dX12_ruleOfCut_85 (nI k) 0 d τ = some (if τ 13 k = 0 then 10 else -1, τ) := by
    unfold dX12_ruleOfCut_85
    rw [if_pos d6, if_neg (by simp), if_pos d5, h116]
  by_cases d7 : d = 116
  · obtain ⟨f1, f2⟩ := p6.p1 g1 (by rw [hd, d7]; decide +kernel)
    rw [sc_has p2 p3 (by omega), decide_eq_true (show k + 2 < n by omega)] at hC
    rw [sc_isPM p2 p6 (show k + 2 < n by omega) (p9.1 (k + 2) (by omega)).1 (fun j _ => rfl)] at hM
    have epu : σ (sf_pl q + 9) (k + 2) = sc_b (sc_pu (τ 11) E (k + 2)) := (p8.1 (k + 2) (by omega)).2
    simp only [d1, d2, d3, d4, d5, d6, d7, if_false, not_true_eq_false, not_false_eq_true, if_true, or_self, decide_false, Option.bind_some, sc_inI (show k + 2 < 40 by omega) (by omega : 40 ≤ 10000), sc_cl (show k + 2 < 2 ^ 31 by omega), epu, sc_b0] at hC hM
    rw [d7] at h85
    cases hpu : sc_pu (τ 11) E (k + 2)
    · rw [hpu] at hC hM
      refine hlast (hC.trans ?_) (hM.trans ?_)
      · rw [← h117]; rfl
      · rw [← h85]; rfl
    · rw [hpu] at hC hM
      exact ⟨5, hC.trans rfl, hM.trans rfl, Or.inr ⟨5, by omega, by decide +kernel, hc, hd.trans d7⟩⟩
  · simp only [d1, d2, d3, d4, d5, d6, d7, if_false, not_false_eq_true, if_true, or_self, decide_false] at hC hM
    refine hlast hC (hM.trans ?_)
    rw [← h85]; rfl
theorem sc_rule {q n k : Nat} {E : Nat → Nat} {σ τ : sf_S} (h : sc_Pq (sf_pl q) n E σ τ) (hk : k < n) : ∃ v, sc_ro q σ τ E k v := by
  by_cases h116 : τ 11 k = 116
  · exact sc_ruleTake h hk h116
  by_cases h100 : τ 11 k = 100
  · exact sc_ruleDrop h hk h100
  have h' := h
  obtain ⟨p1, p2, p3, p4, p5, p6, p7, p8, p9, p10⟩ := h'
  obtain ⟨q1, q2, q3, q4, hvn⟩ := p7 k hk
  have hik : sf_in (nI k) 40 = true := sc_inI (by omega) (by omega)
  obtain ⟨m1, m2, m3⟩ := p9.1 k hk
  have hC0 : dX2_has (sf_pl q) (nI k) σ = some (1, σ) := by rw [sc_has p2 p3 (by omega), decide_eq_true hk]; rfl
  have hnk := sc_nilC h hk
  have hnkM := sc_nilM (τ := τ) (show k < 40 by omega)
  by_cases h114 : τ 11 k = 114
  · have hC : dX5_ruleFor q (nI k) σ = some (if τ 13 k < τ 14 k then -1 else if sc_nil τ k = true then -1 else 0, σ) := by
      unfold dX5_ruleFor
      rw [hC0]
      simp only [Option.bind_some, hik, if_true, sc_cl (show k < 2 ^ 31 by omega), q1, h114, q3, q4, hnk]
      by_cases hlt : τ 13 k < τ 14 k
      · simp only [hlt, if_true]; rfl
      · simp only [hlt, if_false]
        cases sc_nil τ k <;> rfl
    have hM : dX12_ruleAt (nI k) τ = some (if τ 13 k < τ 14 k then -1 else if sc_nil τ k = true then -1 else 0, τ) := by
      unfold dX12_ruleAt
      simp only [Option.bind_some, hik, if_true, sc_cl (show k < 2 ^ 31 by omega), h114, hnkM]
      by_cases hlt : τ 13 k < τ 14 k
      · simp only [hlt, if_true]; rfl
      · simp only [hlt, if_false]
        cases sc_nil τ k <;> rfl
    by_cases hlt : τ 13 k < τ 14 k
    · rw [if_pos hlt] at hC hM
      exact ⟨-1, hC, hM, Or.inl rfl⟩
    · rw [if_neg hlt] at hC hM
      cases hnn : sc_nil τ k
      · rw [hnn] at hC hM
        exact ⟨0, hC, hM, Or.inr ⟨0, by omega, by decide +kernel, h114⟩⟩
      · rw [hnn] at hC hM
        exact ⟨-1, hC, hM, Or.inl rfl⟩
  by_cases h99 : τ 11 k = 99
  · obtain ⟨g1, g2, g3, g4, g5⟩ := p6.p2 hk (by rw [h99]; decide +kernel)
    have e16 : τ 16 k = nI (k + 1) := by rw [m2, sc_ps, if_neg (by rw [h99]; decide)]
    have e17 : τ 17 k = nI (E (k + 1)) := by rw [m3, sc_qs, if_neg (by rw [h99]; decide), if_neg (by rw [h99]; decide +kernel)]
    have hC : dX5_ruleFor q (nI k) σ = some (if sc_nil τ (k + 1) = true then 12 else if sc_nil τ (E (k + 1)) = true then 12 else -1, σ) := by
      unfold dX5_ruleFor
      rw [hC0]
      simp only [Option.bind_some, hik, if_true, sc_cl (show k < 2 ^ 31 by omega), q1, h99, nI_1, sc_nilC h g1, sc_2nd h g1, sc_nilC h g3]
      cases sc_nil τ (k + 1) <;> cases sc_nil τ (E (k + 1)) <;> rfl
    have hM : dX12_ruleAt (nI k) τ = some (if sc_nil τ (k + 1) = true then 12 else if sc_nil τ (E (k + 1)) = true then 12 else -1, τ) := by
      unfold dX12_ruleAt
      simp only [Option.bind_some, hik, if_true, sc_cl (show k < 2 ^ 31 by omega), h99, e16, sc_nilM (show k + 1 < 40 by omega), e17, sc_nilM (show E (k + 1) < 40 by omega)]
      cases sc_nil τ (k + 1) <;> cases sc_nil τ (E (k + 1)) <;> rfl
    cases a : sc_nil τ (k + 1)
    · rw [a] at hC hM
      cases b : sc_nil τ (E (k + 1))
      · rw [b] at hC hM
        exact ⟨-1, hC, hM, Or.inl rfl⟩
      · rw [b] at hC hM
        exact ⟨12, hC, hM, Or.inr ⟨12, by omega, by decide +kernel, h99, Or.inr ⟨a, b⟩⟩⟩
    · rw [a] at hC hM
      exact ⟨12, hC, hM, Or.inr ⟨12, by omega, by decide +kernel, h99, Or.inl a⟩⟩
  have hleaf : (τ 11 k = 105 ∨ τ 11 k = 115 ∨ τ 11 k = 117 ∨ τ 11 k = 118) → ∃ v, sc_ro q σ τ E k v := fun hl => by
    refine ⟨-1, ?_, ?_, Or.inl rfl⟩
    · unfold dX5_ruleFor
      rw [hC0]
      simp only [Option.bind_some, hik, if_true, sc_cl (show k < 2 ^ 31 by omega), q1]
      rcases hl with hl | hl | hl | hl <;> rw [hl] <;> rfl
    · unfold dX12_ruleAt
      simp only [hik, if_true, sc_cl (show k < 2 ^ 31 by omega)]
      rcases hl with hl | hl | hl | hl <;> rw [hl] <;> rfl
  by_cases h105 : τ 11 k = 105
  · exact hleaf (Or.inl h105)
  by_cases h115 : τ 11 k = 115
  · exact hleaf (Or.inr (Or.inl h115))
  by_cases h117 : τ 11 k = 117
  · exact hleaf (Or.inr (Or.inr (Or.inl h117)))
  by_cases h118 : τ 11 k = 118
  · exact hleaf (Or.inr (Or.inr (Or.inr h118)))
  have hil := hvn.1
  have hp1 : 1 ≤ sc_p (τ 11 k) := by
    rcases sc_il_cases hil with e | e | e | e | e | e | e | e | e | e | e | e | e | e | e | e | e | e <;> first | (exfalso; first | exact h116 e | exact h100 e | exact h114 e | exact h99 e | exact h105 e | exact h115 e | exact h117 e | exact h118 e) | (rw [e]; decide +kernel)
  obtain ⟨i1, i2, i3, i4⟩ := sc_inp h hk hp1
  have hC : dX5_ruleFor q (nI k) σ = some (if sc_nil τ (sc_ps (τ 11) E k) = true then 11 else -1, σ) := by
    unfold dX5_ruleFor
    rw [hC0]
    simp only [Option.bind_some, hik, if_true, sc_cl (show k < 2 ^ 31 by omega), q1, i1, sc_nilC h i2]
    simp only [Option.bind_some, h99, h100, h105, h114, h115, h116, h117, h118, if_false, ite_self]
    cases sc_nil τ (sc_ps (τ 11) E k) <;> rfl
  have hM : dX12_ruleAt (nI k) τ = some (if sc_nil τ (sc_ps (τ 11) E k) = true then 11 else -1, τ) := by
    unfold dX12_ruleAt
    simp only [hik, if_true, sc_cl (show k < 2 ^ 31 by omega), h99, h100, h114, h116, not_false_eq_true, if_false, sc_partsM, hil, Option.bind_some, m2]
    rw [if_neg (nI_nle (by omega) (by have := sc_p_le (τ 11 k); omega)), sc_nilM (by omega)]
    cases sc_nil τ (sc_ps (τ 11) E k) <;> rfl
  cases a : sc_nil τ (sc_ps (τ 11) E k)
  · rw [a] at hC hM
    exact ⟨-1, hC, hM, Or.inl rfl⟩
  · rw [a] at hC hM
    exact ⟨11, hC, hM, Or.inr ⟨11, by omega, by decide +kernel, hp1, a⟩⟩
