/-! the law: ways 0 and 1, limits -/
theorem tq_266 {ns m c : Nat} {x1 : Int32} {S : tt_S} {T : tt_T} {σ : sf_S} (hm : m ≤ 40) (hT : tt_ok T) (hc : c ≤ m) (h0 : tp_O T S (sf_sl 0 σ)) (h1 : tp_O T S (sf_sl 59 σ)) (hr0 : tr_res 19 (tq_R S T m) (sf_sl 0 σ)) (hr1 : tr_res 19 (tq_R S T c) (sf_sl 59 σ)) : ∀ (q i fuel : Nat), i + q = (tq_R S T c).1.length → q < fuel →
    ∃ σ', dL_law_266 ns fuel x1 (nI (tt_sz T)) (nI m) (nI (tq_R S T m).1.length) (tq_f (tq_R S T m)) (nI (tq_R S T m).2.2.1) (nI (tq_R S T c).1.length) (nI i) σ = some (x1, σ') := by
  have hF := sf_F_le
  have hz := hT.2.2.2.2
  have hlT : (tq_R S T m).1.length ≤ 40 ∧ (tq_R S T m).2.1.length ≤ 100000 ∧ (tq_R S T m).2.2.1 ≤ 500 := tq_len (S := S) hm hz
  have hlc : (tq_R S T c).1.length ≤ 40 ∧ (tq_R S T c).2.1.length ≤ 100000 ∧ (tq_R S T c).2.2.1 ≤ 500 := tq_len (S := S) (by omega) hz
  have htk : (tq_R S T c).1 = (tq_R S T m).1.take c := (tv_rn_less (tt_sem S T 0 0) m c 0 hc (by omega)).1
  intro q
  induction q with
  | zero =>
    intro i fuel hi hf
    obtain ⟨f, rfl⟩ : ∃ f, fuel = f + 1 := ⟨fuel - 1, by omega⟩
    simp only [dL_law_266]
    rw [if_pos (nI_le (by omega) (by omega))]
    have := tq_303 (ns := ns) (x1 := x1) (x14 := 0) hm hT h0 h1 hr0 (tt_sz T) 0 sf_F (Nat.zero_add _) (by omega)
    rw [sc_1, sc_0]
    exact this
  | succ q ih =>
    intro i fuel hi hf
    obtain ⟨f, rfl⟩ : ∃ f, fuel = f + 1 := ⟨fuel - 1, by omega⟩
    have hlt : i < (tq_R S T c).1.length := by omega
    obtain ⟨v, hv⟩ : ∃ v, (tq_R S T c).1[i]? = some v := ⟨_, List.getElem?_eq_getElem hlt⟩
    have hv2 : (tq_R S T m).1[i]? = some v := by
      have h2 : ((tq_R S T m).1.take c)[i]? = some v := by rw [← htk]; exact hv
      rw [List.getElem?_take] at h2
      split at h2
      · exact h2
      · cases h2
    simp only [dL_law_266]
    rw [if_neg (nI_ge (by omega) (by omega)), tq_result hr1.1 hlc.1 hlt (hr1.2.1 i _ hv)]
    simp only [Option.bind_some]
    rw [tq_result hr0.1 hlT.1 (List.getElem?_eq_some_iff.mp hv2).1 (hr0.2.1 i _ hv2)]
    simp only [Option.bind_some]
    rw [tq_cmp, if_pos rfl, nI_1]
    exact ih (i + 1) f (by omega) (by omega)
theorem nI_half {m : Nat} (hm : m ≤ 40) : nI m / 2 = nI (m / 2) := by
  have : ∀ x : Fin 41, nI x.1 / 2 = nI (x.1 / 2) := by decide +kernel
  exact this ⟨m, by omega⟩
theorem tq_248 {ns m y : Nat} {x1 : Int32} {S : tt_S} {T : tt_T} {σ1 : sf_S} (hm : m ≤ 40) (hT : tt_ok T) (hy : y = (tq_R S T (m / 2)).1.length) (h01 : tp_O T S (sf_sl 0 σ1)) (a2 : tp_O T S (sf_sl 59 σ1)) (hr01 : tr_res 19 (tq_R S T m) (sf_sl 0 σ1)) (a3 : tr_res 19 (tq_R S T (m / 2)) (sf_sl 59 σ1)) : ∃ σ', dL_law_248 ns x1 (nI (tt_sz T)) (nI m) (nI (tq_R S T m).1.length) (tq_f (tq_R S T m)) (nI (tq_R S T m).2.2.1) (nI (tq_R S T (m / 2)).1.length) (nI y) (nI (tq_R S T (m / 2)).1.length) σ1 = some (x1, σ') := by
  have hF := sf_F_le
  have hz := hT.2.2.2.2
  have hlT : (tq_R S T m).1.length ≤ 40 ∧ (tq_R S T m).2.1.length ≤ 100000 ∧ (tq_R S T m).2.2.1 ≤ 500 := tq_len (S := S) hm hz
  have hlc : (tq_R S T (m / 2)).1.length ≤ 40 ∧ (tq_R S T (m / 2)).2.1.length ≤ 100000 ∧ (tq_R S T (m / 2)).2.2.1 ≤ 500 := tq_len (S := S) (by omega) hz
  have hle : (tq_R S T (m / 2)).2.2.1 ≤ (tq_R S T m).2.2.1 := (tv_rn_less (tt_sem S T 0 0) m (m / 2) 0 (Nat.div_le_self _ _) (by omega)).2
  unfold dL_law_248
  rw [hy, if_neg (by simp), tq_told0]
  simp only [Option.bind_some]
  rw [a3.2.2.1, if_pos (nI_le hle (by omega)), sc_0]
  exact tq_266 hm hT (Nat.div_le_self _ _) h01 a2 hr01 a3 _ 0 sf_F (Nat.zero_add _) (by omega)
theorem tq_f4 {S : tt_S} {T : tt_T} {m : Nat} : ¬ tq_f (tq_R S T m) = 4 := by
  obtain ⟨-, h2⟩ := tv_gd_rn (m := m) (d := 0) (tt_gd S T 0 0) (Nat.le_refl _) (by omega)
  unfold tq_f
  rcases h2 with e | ⟨e, -⟩ | ⟨a, b, e, e2⟩
  · rw [show (tq_R S T m).2.2.2 = none from e]; decide
  · rw [show (tq_R S T m).2.2.2 = some (3, 0) from e]; decide
  · rw [show (tq_R S T m).2.2.2 = some (a, b) from e]
    show ¬ a = 4
    rcases e2 with e2 | e2 <;> rw [e2] <;> decide
theorem tq_172u {ns : Nat} {x1 x6 x7 x10 : Int32} {σ : sf_S} : dL_law_172 ns x1 x6 x7 x10 σ = if sf_sl 0 σ 19 5 = 4 then none else if sf_sl 0 σ 19 3 < x10 then none else if x10 ≤ sf_sl 59 σ 19 3 then (dW_run 59 0 (x7 / 2) σ).bind fun u7 => if x7 / 2 ≤ x10 then dL_law_248 ns x1 x6 x7 x10 (sf_sl 0 σ 19 5) (sf_sl 0 σ 19 2) u7.1 (x7 / 2) u7.1 u7.2 else dL_law_248 ns x1 x6 x7 x10 (sf_sl 0 σ 19 5) (sf_sl 0 σ 19 2) u7.1 x10 u7.1 u7.2 else none := by
  have h20 : ∀ {α : Type} (a b : α), (if (2 : Int32) = 0 then a else b) = b := fun a b => if_neg (by decide)
  unfold dL_law_172
  rw [tq_fail0, Option.bind_some]
  dsimp only
  rw [tq_told1, Option.bind_some]
  dsimp only
  rw [tq_told1, Option.bind_some]
  dsimp only
  rw [tq_fail0, Option.bind_some]
  dsimp only
  rw [tq_told0, Option.bind_some]
  dsimp only
  rw [h20]
theorem tq_172 {ns m : Nat} {x1 : Int32} {S : tt_S} {T : tt_T} {σ : sf_S} (hm : m ≤ 40) (hT : tt_ok T) (h0 : tp_O T S (sf_sl 0 σ)) (h1 : tp_O T S (sf_sl 59 σ)) (hr0 : tr_res 19 (tq_R S T m) (sf_sl 0 σ)) (hr1 : tr_res 19 (tq_R S T m) (sf_sl 59 σ)) :
    ∃ σ', dL_law_172 ns x1 (nI (tt_sz T)) (nI m) (nI (tq_R S T m).1.length) σ = some (x1, σ') := by
  have hF := sf_F_le
  have hz := hT.2.2.2.2
  have hlT : (tq_R S T m).1.length ≤ 40 ∧ (tq_R S T m).2.1.length ≤ 100000 ∧ (tq_R S T m).2.2.1 ≤ 500 := tq_len (S := S) hm hz
  have hlc : (tq_R S T (m / 2)).1.length ≤ 40 ∧ (tq_R S T (m / 2)).2.1.length ≤ 100000 ∧ (tq_R S T (m / 2)).2.2.1 ≤ 500 := tq_len (S := S) (by omega) hz
  have h4 : ¬ tq_f (tq_R S T m) = 4 := tq_f4
  obtain ⟨A0, p1, p2, p3⟩ := hr0.2.2.2.2.2
  obtain ⟨A1, q1, q2, q3⟩ := hr1.2.2.2.2.2
  have hless := tv_rn_less (tt_sem S T 0 0) m (m / 2) 0 (Nat.div_le_self _ _) (by omega)
  have htk : (tq_R S T (m / 2)).1 = (tq_R S T m).1.take (m / 2) := hless.1
  have hlen : (tq_R S T (m / 2)).1.length = min (m / 2) (tq_R S T m).1.length := by rw [htk, List.length_take]
  rw [tq_172u, tq_f5 hr0, if_neg h4, p1, if_neg (nI_nlt p2 (by omega)), q1, if_pos (nI_le q2 (by omega)), hr0.2.2.1, nI_half hm]
  obtain ⟨σ1, a1, a2, a3, a4⟩ := tq_run0 (m := m / 2) h1 hT.T (by omega)
  rw [a1]
  simp only [Option.bind_some]
  have h01 := h0.oth a4 (r' := 0) (by omega)
  have hr01 := hr0.oth a4 (r' := 0) (by omega)
  have hgo := fun y hy => tq_248 (ns := ns) (x1 := x1) (y := y) hm hT hy h01 a2 hr01 a3
  by_cases hle : m / 2 ≤ (tq_R S T m).1.length
  · rw [if_pos (nI_le hle (by omega))]
    exact hgo _ (by omega)
  · rw [if_neg (nI_ge (by omega) (by omega))]
    exact hgo _ (by omega)
/-- the law, once both have the same plan and the same sheets -/
theorem tq_back {ns m : Nat} {x1 : Int32} {S : tt_S} {T : tt_T} {σ : sf_S} (hm : m ≤ 40) (hT : tt_ok T) (h0 : tp_O T S (sf_sl 0 σ)) (h1 : tp_O T S (sf_sl 59 σ)) :
    ∃ σ', ((dW_run 0 (0 : Int32) (nI m) σ).bind fun u9 =>
          (dW_run 59 (1 : Int32) (nI m) u9.2).bind fun u10 =>
          if ¬ u10.1 = u9.1 then
            none
          else
            (dL_same ns u10.2).bind fun u11 =>
            if u11.1 = 0 then
              none
            else
              (dW_told 0 (0 : Int32) u11.2).bind fun u12 =>
              (dW_told 59 (0 : Int32) u12.2).bind fun u13 =>
              if ¬ u12.1 = u13.1 then
                none
              else
                (dW_told 0 (0 : Int32) u13.2).bind fun u14 =>
                if (500 : Int32) < u14.1 then
                  none
                else
                  (dW_failure 0 (0 : Int32) u14.2).bind fun u15 =>
                  if ¬ u15.1 = (3 : Int32) then
                    dL_law_172 ns x1 (nI (tt_sz T)) (nI m) u9.1 u15.2
                  else
                    (dW_told 0 (0 : Int32) u15.2).bind fun u16 =>
                    if ¬ u16.1 = (500 : Int32) then
                      none
                    else
                      dL_law_172 ns x1 (nI (tt_sz T)) (nI m) u9.1 u16.2) = some (x1, σ') := by
  have hz := hT.2.2.2.2
  have hlT : (tq_R S T m).1.length ≤ 40 ∧ (tq_R S T m).2.1.length ≤ 100000 ∧ (tq_R S T m).2.2.1 ≤ 500 := tq_len (S := S) hm hz
  obtain ⟨σ1, a1, a2, a3, a4⟩ := tq_run0 (m := m) h0 hT.T hm
  obtain ⟨σ2, b1, b2, b3, b4⟩ := tq_run1 (m := m) (h1.oth a4 (r' := 59) (by omega)) hT.T hm
  have h02 := a2.oth b4 (r' := 0) (by omega)
  have hr02 := a3.oth b4 (r' := 0) (by omega)
  obtain ⟨σ3, c1⟩ := tq_172 (ns := ns) (x1 := x1) hm hT h02 b2 hr02 b3
  rw [a1]
  simp only [Option.bind_some]
  rw [b1]
  simp only [Option.bind_some]
  rw [if_neg (by simp), tq_same hr02 b3 hlT.1 hlT.2.1]
  simp only [Option.bind_some]
  rw [if_neg (by decide), tq_told0]
  simp only [Option.bind_some]
  rw [tq_told0]
  simp only [Option.bind_some]
  rw [hr02.2.2.1, b3.2.2.1, if_neg (by simp), tq_told0]
  simp only [Option.bind_some]
  rw [hr02.2.2.1, if_neg (by rw [show (500 : Int32) = nI 500 from by decide +kernel]; exact nI_nlt hlT.2.2 (by omega)), tq_fail0]
  simp only [Option.bind_some]
  rw [tq_f5 hr02]
  by_cases h3 : tq_f (tv_rn m (tt_sem S T 0 0) 0) = 3
  · rw [if_neg (by simp [h3]), tq_told0]
    simp only [Option.bind_some]
    have h500 : (tv_rn m (tt_sem S T 0 0) 0).2.2.1 = 500 := by
      obtain ⟨-, h2⟩ := tv_gd_rn (m := m) (d := 0) (tt_gd S T 0 0) (Nat.le_refl _) (by omega)
      unfold tq_f at h3
      rcases h2 with e | ⟨-, e⟩ | ⟨a, b, e, e2⟩
      · rw [e] at h3; exact absurd h3 (by decide)
      · exact e
      · rw [e] at h3
        have h3' : a = 3 := h3
        rcases e2 with e2 | e2 <;> rw [e2] at h3' <;> exact absurd h3' (by decide)
    rw [hr02.2.2.1, h500, if_neg (by rw [show (500 : Int32) = nI 500 from by decide +kernel]; simp)]
    exact ⟨σ3, c1⟩
  · rw [if_pos h3]
    exact ⟨σ3, c1⟩
