/-! the law's turn t, on two objects whose sheets are the same -/
theorem tg_o59 {σ σ' : sf_S} (h : ∀ a b, ¬ (0 ≤ a ∧ a < 0 + 59) → σ' a b = σ a b) : ∀ a b, a < 59 → sf_sl 59 σ' a b = sf_sl 59 σ a b := fun a b hab => by
  unfold sf_sl
  exact h _ _ (by omega)
theorem tg_o0 {σ σ' : sf_S} (h : ∀ a b, ¬ (59 ≤ a ∧ a < 59 + 59) → σ' a b = σ a b) : ∀ a b, a < 59 → sf_sl 0 σ' a b = sf_sl 0 σ a b := fun a b hab => by
  unfold sf_sl
  exact h _ _ (by omega)
theorem tg_law {ns t : Nat} {σ : sf_S} (hns : ns ≤ 260) (ht : t ≤ 2) (h0 : ∃ k, k ≤ 40 ∧ σ (0 + 46) 2 = nI k) (h59 : ∃ k, k ≤ 40 ∧ σ (59 + 46) 2 = nI k) (hlost : sf_sl 0 σ 17 3 = -1) (h17 : ∀ b, sf_sl 0 σ 17 b = sf_sl 59 σ 17 b) (h18 : ∀ b, sf_sl 0 σ 18 b = sf_sl 59 σ 18 b) : ∃ σ', dL_law ns (nI t) σ = some (nI t, σ') := by
  obtain ⟨T, t1, t2⟩ := tg_plan (ns := ns) (at_ := 1 + 20 * t) hns (by omega) (σ 118)
  obtain ⟨σ1, a1, a2, a3, a4⟩ := t2 0 σ (by omega) rfl h0
  obtain ⟨k, hk1, hk2⟩ := h59
  obtain ⟨σ2, b1, b2, b3, b4⟩ := t2 59 σ1 (by omega) (by funext y; exact a3 _ _ (by omega)) ⟨k, hk1, by rw [a3 _ _ (by omega)]; exact hk2⟩
  obtain ⟨σ3, c1, c2, c3, c4, c5⟩ := tg_sheets ns 0 (tg_ce ns (σ 118) 0 >>> (((7 : Int32) * nI t) &&& 31)) σ2 (by omega)
  obtain ⟨σ4, d1, d2, d3, d4, d5⟩ := tg_sheets ns 59 (tg_ce ns (σ 118) 0 >>> (((7 : Int32) * nI t) &&& 31)) σ3 (by omega)
  have hz0 := tt_wf_sz t1.1
  have hz40 := t1.2.2.2.2
  have hH0 : tg_H T (sf_sl 0 σ4) := a2.kept fun a b hab => by
    rw [tg_o0 d5 a b (by omega), c4 a b (by omega) (by omega), tg_o0 b3 a b (by omega)]
  have hH1 : tg_H T (sf_sl 59 σ4) := b2.kept fun a b hab => by
    rw [d4 a b (by omega) (by omega), tg_o59 c5 a b (by omega)]
  have e17 : ∀ b, sf_sl 59 σ4 17 b = sf_sl 0 σ4 17 b := fun b => by
    rw [d2 b, tg_o0 d5 17 b (by omega), c2 b, tg_o59 c5 17 b (by omega), b4 17 b (by omega) (by omega), tg_o59 a3 17 b (by omega), tg_o0 b3 17 b (by omega), a4 17 b (by omega) (by omega), h17 b]
  have e18 : ∀ b, sf_sl 59 σ4 18 b = sf_sl 0 σ4 18 b := fun b => by
    rw [d3 b, tg_o0 d5 18 b (by omega), c3 b, tg_o59 c5 18 b (by omega), b4 18 b (by omega) (by omega), tg_o59 a3 18 b (by omega), tg_o0 b3 18 b (by omega), a4 18 b (by omega) (by omega), h18 b]
  have hSh0 : tr_Sh (sf_sl 0 σ4) := fun s hs => by
    rw [tg_o0 d5 17 s (by omega), c2 s]
    by_cases h3 : s < 3
    · rw [if_pos h3]
      have : tg_sn (tg_ce ns (σ 118) 0 >>> (((7 : Int32) * nI t) &&& 31)) s < 5 := tg_u_lt (by omega)
      exact Or.inr ⟨_, by omega, rfl⟩
    · rw [if_neg h3]
      have : s = 3 := by omega
      subst this
      rw [tg_o0 b3 17 3 (by omega), a4 17 3 (by omega) (by omega)]
      exact Or.inl hlost
  have hSh1 : tr_Sh (sf_sl 59 σ4) := hSh0.kept fun a b hab => by
    rcases hab with rfl | rfl
    · exact e17 b
    · exact e18 b
  have hS : tr_S (sf_sl 59 σ4) = tr_S (sf_sl 0 σ4) := tr_S_congr fun a b hab => by
    rcases hab with rfl | rfl
    · exact e17 b
    · exact e18 b
  have hO0 : tp_O T (tr_S (sf_sl 0 σ4)) (sf_sl 0 σ4) := ⟨hH0.1, hSh0, rfl, hH0.2.1, hH0.2.2⟩
  have hO1 : tp_O T (tr_S (sf_sl 0 σ4)) (sf_sl 59 σ4) := ⟨hH1.1, hSh1, hS, hH1.2.1, hH1.2.2⟩
  have hm : tg_u (tg_ce ns (σ 118) 0 >>> (((7 : Int32) * nI t) &&& 31)) 41 < 41 := tg_u_lt (by omega)
  obtain ⟨σ5, f1⟩ := tq_back (ns := ns) (m := tg_u (tg_ce ns (σ 118) 0 >>> (((7 : Int32) * nI t) &&& 31)) 41) (x1 := nI t) (by omega) t1 hO0 hO1
  refine ⟨σ5, ?_⟩
  unfold dL_law
  simp only []
  rw [show (1 : Int32) + (20 : Int32) * nI t = nI (1 + 20 * t) by rw [show (20 : Int32) = nI 20 from by decide +kernel, pk_mul, sc_1, nI_add], tg_cell hns sc_0 (by omega)]
  simp only [Option.bind_some]
  rw [a1]
  simp only [Option.bind_some]
  rw [if_neg (by rw [sc_1]; exact nI_nlt (by omega) (by omega)), b1]
  simp only [Option.bind_some]
  rw [if_neg (by simp), c1]
  simp only [Option.bind_some]
  rw [if_neg (by decide), d1]
  simp only [Option.bind_some]
  rw [if_pos (by decide), tg_up (k := 41) (by decide +kernel) (by omega) (by omega)]
  simp only [Option.bind_some]
  exact f1
