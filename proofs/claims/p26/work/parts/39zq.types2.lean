/-! the law types a node -/
theorem tg_116 (ns : Nat) {c : Int32} (hil : sc_il c = true) (h1 : ¬ c = 108) (h2 : ¬ c = 115) (r : Nat) (q x3 x4 : Int32) (σ : sf_S) : dL_types_116 ns r c q x3 x4 σ = dL_types_229 ns r sf_F c q x3 (nI (sc_nn c)) 0 σ := by
  have e0 : nI 0 = 0 := by decide +kernel
  have e1 : nI 1 = 1 := by decide +kernel
  have e2 : nI 2 = 2 := by decide +kernel
  unfold dL_types_116
  rw [if_pos h1, if_pos h2]
  by_cases h99 : c = 99
  · rw [if_pos h99, h99, show sc_nn 99 = 0 from by decide +kernel, e0]
  rw [if_neg h99]
  by_cases h122 : c = 122
  · rw [if_pos h122, h122, show sc_nn 122 = 0 from by decide +kernel, e0]
  rw [if_neg h122]
  by_cases h120 : c = 120
  · rw [if_pos h120, h120, show sc_nn 120 = 0 from by decide +kernel, e0]
  rw [if_neg h120]
  by_cases h117 : c = 117
  · rw [if_pos h117, h117, show sc_nn 117 = 0 from by decide +kernel, e0]
  rw [if_neg h117]
  by_cases h118 : c = 118
  · rw [if_neg (by simp only [Classical.not_not]; exact h118), h118, show sc_nn 118 = 0 from by decide +kernel, e0]
  rw [if_pos h118]
  by_cases h114 : c = 114
  · rw [if_pos h114, h114, show sc_nn 114 = 2 from by decide +kernel, e2]
  rw [if_neg h114]
  by_cases h105 : c = 105
  · rw [if_neg (by simp only [Classical.not_not]; exact h105), h105, show sc_nn 105 = 2 from by decide +kernel, e2]
  rw [if_pos h105]
  have hn : sc_nn c = 1 := by
    rcases sc_il_cases hil with q | q | q | q | q | q | q | q | q | q | q | q | q | q | q | q | q | q <;> first | (rw [q]; decide +kernel) | contradiction
  rw [hn, e1]
theorem tg_14 (ns : Nat) (c q : Int32) (h1 : ¬ c = 108) (h2 : ¬ c = 115) : ∃ x lm, tg_mb c x lm ∧ lm.length ≤ 1 ∧ ∀ (r : Nat) (σ : sf_S), tg_rm r 1 σ → dL_types_14 ns r c q 1 σ = dL_types_116 ns r c q (nI (1 + lm.length)) (nI (tg_u q 9)) (tg_ps r lm σ) := by
  have e9 : (9 : Int32) = nI 9 := by decide +kernel
  have e3 : (3 : Int32) = nI 3 := by decide +kernel
  have e11 : (1 : Int32) + 1 = nI (1 + 1) := by decide +kernel
  have hu := tg_u_lt (x := q >>> ((4 : Int32) &&& 31)) (show 0 < 3 by omega)
  have key : c = 63 ∨ c = 119 → ∃ x lm, tg_mb c x lm ∧ lm.length ≤ 1 ∧ ∀ (r : Nat) (σ : sf_S), tg_rm r 1 σ → dL_types_14 ns r c q 1 σ = dL_types_116 ns r c q (nI (1 + lm.length)) (nI (tg_u q 9)) (tg_ps r lm σ) := by
    intro hc
    have h122 : ¬ c = 122 := by rcases hc with h | h <;> rw [h] <;> decide
    have hmk : sc_mk c = 6 := by rcases hc with h | h <;> rw [h] <;> decide +kernel
    refine ⟨nI (60 + tg_u (q >>> ((4 : Int32) &&& 31)) 3), [nI (60 + tg_u (q >>> ((4 : Int32) &&& 31)) 3)], Or.inr ⟨by omega, _, ?_, rfl, by rw [if_neg (by rcases hc with h | h <;> rw [h] <;> decide)]⟩, Nat.le_refl 1, fun r σ h => ?_⟩
    · rw [hmk]
      have : ∀ u : Fin 3, sc_fm 6 (nI (60 + u.1)) = true := by decide +kernel
      exact this ⟨_, hu⟩
    · have e35 : dL_types_14 ns r c q 1 σ = dL_types_35 ns r c q 1 (nI (tg_u q 9)) σ := by
        unfold dL_types_14
        rw [tg_up e9 (by omega) (by omega)]
        simp only [Option.bind_some]
        rcases hc with g | g
        · rw [if_pos g]
        · rw [if_neg (by rw [g]; decide), if_neg (by simp only [Classical.not_not]; exact g)]
      have e61 : ∀ x3 s, dL_types_61 ns r c q x3 (nI (tg_u q 9)) s = dL_types_116 ns r c q x3 (nI (tg_u q 9)) s := fun x3 s => by
        unfold dL_types_61
        rw [if_pos h122]
      rw [e35]
      unfold dL_types_35
      rw [tg_up e3 (by omega) (by omega)]
      simp only [Option.bind_some, e61]
      rw [show (60 : Int32) = nI 60 from by decide +kernel, nI_add]
      refine (tg_ty (f := fun s => dL_types_116 ns r c q (1 + (-100 : Int32)) (nI (tg_u q 9)) s) (g := fun s => dL_types_116 ns r c q (1 + (1 : Int32)) (nI (tg_u q 9)) s) h (tg_by_c (by omega))).trans ?_
      rw [e11]; rfl
  by_cases hc : c = 63 ∨ c = 119
  · exact key hc
  have e14 : ∀ (r : Nat) (σ : sf_S), dL_types_14 ns r c q 1 σ = dL_types_61 ns r c q 1 (nI (tg_u q 9)) σ := fun r σ => by
    unfold dL_types_14
    rw [tg_up e9 (by omega) (by omega)]
    simp only [Option.bind_some]
    rw [if_neg (fun e => hc (Or.inl e)), if_pos (fun e => hc (Or.inr e))]
  by_cases h122 : c = 122
  · refine ⟨if tg_u (q >>> ((4 : Int32) &&& 31)) 3 = 0 then 43 else if tg_u (q >>> ((4 : Int32) &&& 31)) 3 = 1 then 42 else 60, [if tg_u (q >>> ((4 : Int32) &&& 31)) 3 = 0 then 43 else if tg_u (q >>> ((4 : Int32) &&& 31)) 3 = 1 then 42 else 60], Or.inr ⟨by rw [h122]; decide +kernel, _, ?_, rfl, (if_neg (by rw [h122]; decide)).symm⟩, Nat.le_refl 1, fun r σ h => ?_⟩
    · rw [h122, show sc_mk 122 = 7 from by decide +kernel]
      split
      · decide +kernel
      · split
        · decide +kernel
        · decide +kernel
    · rw [e14]
      unfold dL_types_61
      have e102 : ∀ b s, tg_rm r 1 s → tg_by b → dL_types_102 ns r c q (nI (tg_u q 9)) b 1 s = dL_types_116 ns r c q (nI (1 + 1)) (nI (tg_u q 9)) (tg_pu r b s) := fun b s h hb => by
        unfold dL_types_102
        rw [← e11]
        exact tg_ty (f := fun s => dL_types_116 ns r c q (1 + (-100 : Int32)) (nI (tg_u q 9)) s) (g := fun s => dL_types_116 ns r c q (1 + (1 : Int32)) (nI (tg_u q 9)) s) h hb
      rw [if_neg (by simp only [Classical.not_not]; exact h122), tg_up e3 (by omega) (by omega)]
      simp only [Option.bind_some]
      generalize hw : tg_u (q >>> ((4 : Int32) &&& 31)) 3 = w at hu
      by_cases g0 : w = 0
      · rw [if_neg (by rw [g0]; decide +kernel), e102 _ _ h ⟨43, by omega, by decide +kernel⟩, if_pos g0]; rfl
      · rw [if_pos (nI_ne0 (by omega) (by omega)), tg_up e3 (by omega) (by omega), hw]
        simp only [Option.bind_some]
        by_cases g1 : w = 1
        · rw [if_neg (by rw [g1]; decide +kernel), e102 _ _ h ⟨42, by omega, by decide +kernel⟩, if_neg g0, if_pos g1]; rfl
        · rw [if_pos (by rw [sc_1, nI_eq (by omega) (by omega)]; exact g1), e102 _ _ h ⟨60, by omega, by decide +kernel⟩, if_neg g0, if_neg g1]; rfl
  · have hmk : sc_mk c = 0 := by
      unfold sc_mk
      rw [if_neg (fun e => hc (Or.inl e)), if_neg (fun e => hc (Or.inr e)), if_neg h122, if_neg h2, if_neg h1]
    refine ⟨-1, [], Or.inl ⟨hmk, rfl, rfl⟩, by decide, fun r σ h => ?_⟩
    rw [e14]
    unfold dL_types_61
    rw [if_pos h122]; rfl
/-- a letter that has a digit alone -/
theorem tg_dg {c x : Int32} {j : Nat} (hc : c = 108 ∧ j ≤ 9 ∨ c = 115 ∧ j ≤ 3) (hx : x = nI j) : tg_N (c, x, 0, 0) [c, nI (48 + j)] := by
  have hd : c = 115 ∨ c = 108 := by
    rcases hc with ⟨h, -⟩ | ⟨h, -⟩
    · exact Or.inr h
    · exact Or.inl h
  have hil : sc_il c = true := by rcases hd with h | h <;> rw [h] <;> decide +kernel
  have hn : sc_nn c = 0 := by rcases hd with h | h <;> rw [h] <;> decide +kernel
  have hm : sc_mk c ≠ 0 := by rcases hd with h | h <;> rw [h] <;> decide +kernel
  refine ⟨hil, [nI (48 + j)], [], [], rfl, Or.inr ⟨hm, _, ?_, rfl, ?_⟩, ?_, ?_⟩
  · show sc_fm (sc_mk c) (nI (48 + j)) = true
    rcases hc with ⟨h, hj⟩ | ⟨h, hj⟩
    · rw [h, show sc_mk 108 = 9 from by decide +kernel]
      have : ∀ u : Fin 10, sc_fm 9 (nI (48 + u.1)) = true := by decide +kernel
      exact this ⟨j, by omega⟩
    · rw [h, show sc_mk 115 = 8 from by decide +kernel]
      have : ∀ u : Fin 4, sc_fm 8 (nI (48 + u.1)) = true := by decide +kernel
      exact this ⟨j, by omega⟩
  · show x = if c = 115 ∨ c = 108 then nI (48 + j) - 48 else nI (48 + j)
    rw [if_pos hd, hx, sc_c48, pk_sub (by omega)]
    congr 1; omega
  · show if 0 < sc_nn c then _ else _
    rw [hn, if_neg (by omega)]; exact ⟨rfl, rfl⟩
  · show if 1 < sc_nn c then _ else _
    rw [hn, if_neg (by omega)]; exact ⟨rfl, rfl⟩
theorem tg_types (ns : Nat) {c q : Int32} (hil : sc_il c = true) : ∃ (N : tt_C) (l : List Int32), N.1 = c ∧ tg_N N l ∧ ∀ (r : Nat) (σ : sf_S), tg_rm r 8 σ → dL_types ns r c q σ = some (nI l.length, tg_ps r l σ) := by
  have e0 : ∀ (r : Nat) (σ : sf_S), tg_rm r 8 σ → dL_types ns r c q σ = dL_types_14 ns r c q 1 (tg_pu r c σ) := fun r σ h =>
    tg_ty (f := fun s => dL_types_14 ns r c q (-100 : Int32) s) (g := fun s => dL_types_14 ns r c q (1 : Int32) s) h (tg_by_il hil)
  have e9 : (9 : Int32) = nI 9 := by decide +kernel
  have hu9 := tg_u_lt (x := q) (show 0 < 9 by omega)
  have hu4 := tg_u_lt (x := q) (show 0 < 4 by omega)
  by_cases hd : c = 108 ∨ c = 115
  · have e14 : ∀ (r : Nat) (σ : sf_S), dL_types_14 ns r c q 1 σ = dL_types_116 ns r c q 1 (nI (tg_u q 9)) σ := fun r σ => by
      unfold dL_types_14
      rw [tg_up e9 (by omega) (by omega)]
      simp only [Option.bind_some]
      rw [if_neg (by rcases hd with h | h <;> rw [h] <;> decide), if_pos (by rcases hd with h | h <;> rw [h] <;> decide)]
      unfold dL_types_61
      rw [if_pos (by rcases hd with h | h <;> rw [h] <;> decide)]
    have e12 : (1 : Int32) + 1 = nI 2 := by decide +kernel
    rcases hd with h108 | h115
    · refine ⟨(c, nI (tg_u q 9), 0, 0), [c, nI (48 + tg_u q 9)], rfl, tg_dg (Or.inl ⟨h108, by omega⟩) rfl, fun r σ h => ?_⟩
      rw [e0 r σ h, e14]
      unfold dL_types_116
      rw [if_neg (by simp only [Classical.not_not]; exact h108), sc_c48, nI_add]
      refine (tg_ty (f := fun s => some (((1 : Int32) + (-100 : Int32)), s)) (g := fun s => some (((1 : Int32) + (1 : Int32)), s)) (h.le (show 2 ≤ 8 by omega)).pu (tg_by_dig (by omega))).trans ?_
      rw [e12]; rfl
    · refine ⟨(c, nI (tg_u q 4), 0, 0), [c, nI (48 + tg_u q 4)], rfl, tg_dg (Or.inr ⟨h115, by omega⟩) rfl, fun r σ h => ?_⟩
      rw [e0 r σ h, e14]
      unfold dL_types_116
      rw [if_pos (by rw [h115]; decide), if_neg (by simp only [Classical.not_not]; exact h115), tg_up (k := 4) (by decide +kernel) (by omega) (by omega)]
      simp only [Option.bind_some]
      rw [sc_c48, nI_add]
      refine (tg_ty (f := fun s => some (((1 : Int32) + (-100 : Int32)), s)) (g := fun s => some (((1 : Int32) + (1 : Int32)), s)) (h.le (show 2 ≤ 8 by omega)).pu (tg_by_dig (by omega))).trans ?_
      rw [e12]; rfl
  · have h1 : ¬ c = 108 := fun e => hd (Or.inl e)
    have h2 : ¬ c = 115 := fun e => hd (Or.inr e)
    obtain ⟨x, lm, m1, m2, m3⟩ := tg_14 ns c q h1 h2
    obtain ⟨y1, y2, l1, l2, n1, n2, n3⟩ := tg_229 ns c q hil
    refine ⟨(c, x, y1, y2), c :: (lm ++ (l1 ++ l2)), rfl, ⟨hil, lm, l1, l2, rfl, m1, n1, n2⟩, fun r σ h => ?_⟩
    rw [e0 r σ h, m3 r _ (h.pu.le (by omega)), tg_116 ns hil h1 h2, n3 r _ _ (tg_rm.ps (h.pu.le (by omega))), ← tg_ps_app]
    rw [show (c :: (lm ++ (l1 ++ l2))).length = 1 + lm.length + (l1 ++ l2).length by simp only [List.length_cons, List.length_append]; omega]
    rfl
