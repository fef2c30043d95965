/-- every node of way 0 -/
theorem sc_p13 {c : Int32} (h : sc_p c ≠ 0) : c = 37 ∨ c = 42 ∨ c = 43 ∨ c = 47 ∨ c = 63 ∨ c = 99 ∨ c = 100 ∨ c = 107 ∨ c = 108 ∨ c = 116 ∨ c = 119 ∨ c = 120 ∨ c = 122 := by
  refine Classical.byContradiction fun q => h ?_
  simp only [not_or] at q
  obtain ⟨a1, a2, a3, a4, a5, a6, a7, a8, a9, a10, a11, a12, a13⟩ := q
  unfold sc_p
  rw [if_neg a1, if_neg a2, if_neg a3, if_neg a4, if_neg a5, if_neg a6, if_neg a7, if_neg a8, if_neg a9, if_neg a10, if_neg a11, if_neg a12, if_neg a13]
theorem sc_ask0 {X : sc_X} (hop : sf_op X.q = X.q + 3) : ∀ r k, k + r = X.n → k < X.n → sc_IH X k := by
  intro r
  induction r using Nat.strongRecOn with
  | _ r ih =>
    intro k hr hk
    have hI : ∀ a, k < a → a < X.n → sc_IH X a := fun a h1 h2 => ih (X.n - a) (by omega) a (by omega) h2
    intro m lev h D np g σ τ hm hlev hh w hv hfl h48
    have hn4 := w.cy.n40
    obtain ⟨m', rfl⟩ : ∃ m', m = m' + 1 := ⟨m - 1, by omega⟩
    by_cases hp : sc_p (X.L k) = 0
    · exact sc_leaf w hop hk hp (by omega) hfl h48 hv
    · have h1 : k + 1 < X.n := by
        rcases sc_p3 (X.L k) with q | q | q
        · exact absurd q hp
        · exact (w.cy.T.p1 hk q).1
        · exact (w.cy.T.p2 hk q).1
      have h0 := hI (k + 1) (by omega) h1
      rcases sc_p13 hp with q | q | q | q | q | q | q | q | q | q | q | q | q
      · exact sc_unary h0 w hk (Or.inl q) (by omega) hlev hh hfl h48 hv
      · exact sc_unary h0 w hk (Or.inr (Or.inl q)) (by omega) hlev hh hfl h48 hv
      · exact sc_unary h0 w hk (Or.inr (Or.inr (Or.inl q))) (by omega) hlev hh hfl h48 hv
      · exact sc_unary h0 w hk (Or.inr (Or.inr (Or.inr (Or.inl q)))) (by omega) hlev hh hfl h48 hv
      · exact sc_filt h0 w hk (Or.inl q) (by omega) hlev hh hfl h48 hv
      · exact sc_chain hI w hk q (by omega) hlev hh hfl h48 hv
      · exact sc_drop0 h0 w hk q (by omega) hlev hh hfl h48 hv
      · exact sc_filt h0 w hk (Or.inr q) (by omega) hlev hh hfl h48 hv
      · exact sc_unary h0 w hk (Or.inr (Or.inr (Or.inr (Or.inr q)))) (by omega) hlev hh hfl h48 hv
      · exact sc_tak0 h0 w hk q (by omega) hlev hh hfl h48 hv
      · exact sc_while h0 w hk q (by omega) hlev hh hfl h48 hv
      · exact sc_opener hI hop w hk q (by omega) hlev hh hfl h48 hv
      · exact sc_zip0 hI w hk q (by omega) hlev hh hfl h48 hv
