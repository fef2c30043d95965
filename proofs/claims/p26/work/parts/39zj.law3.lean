/-! the law: runs -/
theorem tq_406 {ns m : Nat} {x1 x13 : Int32} {S : tt_S} {T : tt_T} {σ : sf_S} (hm : m ≤ 40) (hT : tt_ok T) (h0 : tp_O T S (sf_sl 0 σ)) (h1 : tp_O T S (sf_sl 59 σ)) (hr0 : tr_res 19 (tq_R S T m) (sf_sl 0 σ)) (hp : x13 = 0 ∨ ¬ sf_sl 59 σ 19 5 = 0 ∨ (sf_sl 59 σ 19 1 = nI (tq_R S T m).1.length ∧ ∀ i v, (tq_R S T m).1[i]? = some v → sf_sl 59 σ 20 i = v)) : ∀ (q i fuel : Nat), i + q = (tq_R S T m).1.length → q < fuel →
    ∃ σ', dL_law_406 ns fuel x1 (nI (tt_sz T)) (nI m) (nI (tq_R S T m).1.length) (tq_f (tq_R S T m)) (nI (tq_R S T m).2.2.1) x13 (nI i) σ = some (x1, σ') := by
  have hlT : (tq_R S T m).1.length ≤ 40 ∧ (tq_R S T m).2.1.length ≤ 100000 ∧ (tq_R S T m).2.2.1 ≤ 500 := tq_len (S := S) hm hT.2.2.2.2
  have hend := tq_450 (ns := ns) (x1 := x1) hm hT h0 h1 hr0
  intro q
  induction q with
  | zero =>
    intro i fuel hi hf
    obtain ⟨f, rfl⟩ : ∃ f, fuel = f + 1 := ⟨fuel - 1, by omega⟩
    simp only [dL_law_406]
    rw [if_pos (nI_le (by omega) (by omega))]
    exact hend
  | succ q ih =>
    intro i fuel hi hf
    obtain ⟨f, rfl⟩ : ∃ f, fuel = f + 1 := ⟨fuel - 1, by omega⟩
    simp only [dL_law_406]
    rw [if_neg (nI_ge (by omega) (by omega))]
    by_cases hx : x13 = 0
    · rw [if_pos hx]; exact hend
    · rw [if_neg hx, tq_fail0]
      simp only [Option.bind_some]
      by_cases hf5 : sf_sl 59 σ 19 5 = 0
      · rw [if_neg (by simp [hf5])]
        rcases hp with e | e | ⟨e1, e2⟩
        · exact absurd e hx
        · exact absurd hf5 e
        · have hlt : i < (tq_R S T m).1.length := by omega
          have hv : (tq_R S T m).1[i]? = some (tq_R S T m).1[i] := List.getElem?_eq_getElem hlt
          rw [tq_result e1 hlT.1 hlt (e2 i _ hv)]
          simp only [Option.bind_some]
          rw [tq_result hr0.1 hlT.1 hlt (hr0.2.1 i _ hv)]
          simp only [Option.bind_some]
          rw [tq_cmp, if_pos rfl, nI_1]
          exact ih (i + 1) f (by omega) (by omega)
      · rw [if_pos hf5]; exact hend
theorem tq_303 {ns m : Nat} {x1 x14 : Int32} {S : tt_S} {T : tt_T} {σ : sf_S} (hm : m ≤ 40) (hT : tt_ok T) (h0 : tp_O T S (sf_sl 0 σ)) (h1 : tp_O T S (sf_sl 59 σ)) (hr0 : tr_res 19 (tq_R S T m) (sf_sl 0 σ)) : ∀ (q i fuel : Nat), i + q = tt_sz T → q < fuel →
    ∃ σ', dL_law_303 ns fuel x1 (nI (tt_sz T)) (nI m) (nI (tq_R S T m).1.length) (tq_f (tq_R S T m)) (nI (tq_R S T m).2.2.1) (sc_b (!sc_en (sf_sl 0 σ 2) i)) (nI i) σ = some (x1, σ') := by
  have hF := sf_F_le
  have hz := hT.2.2.2.2
  have hlT : (tq_R S T m).1.length ≤ 40 ∧ (tq_R S T m).2.1.length ≤ 100000 ∧ (tq_R S T m).2.2.1 ≤ 500 := tq_len (S := S) hm hz
  intro q
  induction q with
  | zero =>
    intro i fuel hi hf
    obtain ⟨f, rfl⟩ : ∃ f, fuel = f + 1 := ⟨fuel - 1, by omega⟩
    simp only [dL_law_303]
    obtain rfl : i = tt_sz T := by omega
    have hen : sc_en (sf_sl 0 σ 2) (tt_sz T) = tt_en T := by
      have := tk_en (L := sf_sl 0 σ 2) T 0 (fun i e h => by rw [Nat.zero_add]; exact (h0.1.1.2 i e h).1)
      rw [Nat.zero_add] at this
      rw [this]; simp [sc_en]
    rw [if_pos (nI_le (Nat.le_refl _) (by omega)), hen]
    obtain ⟨v, τ, a1, a2, a3, a4⟩ := tp_run2 h1 hT.T hm
    have a1' := tq_on (r := 59) a1
    have hrun : dW_run 59 2 (nI m) σ = some (v, sf_pt 59 σ τ) := a1'
    rw [hrun]
    simp only [Option.bind_some]
    have ho : tq_oth 59 σ (sf_pt 59 σ τ) := tq_oth_pt
    have h0' := h0.oth ho (r' := 0) (by omega)
    have hr0' := hr0.oth ho (r' := 0) (by omega)
    have h1' : tp_O T S (sf_sl 59 (sf_pt 59 σ τ)) := a2.in
    have c5 : sf_sl 59 (sf_pt 59 σ τ) 19 5 = τ 19 5 := tq_in (by omega)
    have c1 : sf_sl 59 (sf_pt 59 σ τ) 19 1 = τ 19 1 := tq_in (by omega)
    have c2 : sf_sl 59 (sf_pt 59 σ τ) 19 2 = τ 19 2 := tq_in (by omega)
    have c20 : ∀ i, sf_sl 59 (sf_pt 59 σ τ) 20 i = τ 20 i := fun i => tq_in (by omega)
    rcases a4 with ⟨e1, rfl, -⟩ | ⟨e1, e2⟩
    · rw [e1, if_neg (by simp)]
      unfold dL_law_361
      rw [if_neg (by decide), if_pos (by decide), sc_0]
      exact tq_406 hm hT h0' h1' hr0' (Or.inl (by decide)) _ 0 sf_F (Nat.zero_add _) (by omega)
    · have hv3 : ¬ v = -3 := by
        rcases e2 with ⟨-, V, D, -, -, e, -⟩ | ⟨-, e⟩
        · rw [e]
          intro e4
          have := congrArg Int32.toInt e4
          have hl := List.length_take_le m V
          rw [nI_toInt (by omega), show (-3 : Int32).toInt = -3 from by decide] at this
          omega
        · rw [e, ← sc_0]; decide
      rw [e1, if_pos hv3]
      unfold dL_law_361
      rw [if_neg (by decide), if_neg (by decide), tq_fail0]
      simp only [Option.bind_some]
      rw [c5]
      rcases e2 with ⟨f5, V, D, g1, g2, g3, g4, g5, g6⟩ | ⟨f5, -⟩
      · rw [if_neg (by simp [f5])]
        obtain ⟨k1, k2, k3⟩ := tv_al_rn m 0 g1 (by omega)
        rw [Nat.zero_add] at k2
        rw [if_neg (by unfold tq_f; rw [show (tq_R S T m).2.2.2 = none from k3]; simp), if_neg (by rw [g3, ← k1]; simp), tq_told0]
        simp only [Option.bind_some]
        rw [c2, g6, if_pos (nI_le k2 (by omega)), sc_0]
        refine tq_406 hm hT h0' h1' hr0' (Or.inr (Or.inr ⟨?_, fun i v hv => ?_⟩)) _ 0 sf_F (Nat.zero_add _) (by omega)
        · rw [c1, g4, g3, ← k1]
        · rw [c20]; exact g5 i v (by rw [← k1]; exact hv)
      · rw [if_pos f5, sc_0]
        exact tq_406 hm hT h0' h1' hr0' (Or.inr (Or.inl (by rw [c5]; exact f5))) _ 0 sf_F (Nat.zero_add _) (by omega)
  | succ q ih =>
    intro i fuel hi hf
    obtain ⟨f, rfl⟩ : ∃ f, fuel = f + 1 := ⟨fuel - 1, by omega⟩
    have hlt : i < tt_sz T := by omega
    have hnext := ih (i + 1) f (by omega) (by omega)
    simp only [dL_law_303]
    rw [if_neg (nI_ge (by omega) (by omega))]
    simp only [sc_en] at hnext
    cases hb : sc_en (sf_sl 0 σ 2) i
    · rw [hb] at hnext
      rw [if_neg (by decide), (tq_node5 (r := 0) (σ := σ) h0 hz hlt).2.2]
      simp only [Option.bind_some]
      by_cases h105 : sf_sl 0 σ 2 i = 105
      · rw [if_pos h105, nI_1]
        simpa [h105, sc_b] using hnext
      · rw [if_neg h105, nI_1]
        simpa [h105, sc_b] using hnext
    · rw [hb] at hnext
      rw [if_pos (by decide), nI_1]
      simpa [sc_b] using hnext
