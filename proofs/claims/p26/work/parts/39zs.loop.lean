/-! one letter of the law's plan, then all -/
theorem tg_nb.l3 {c x : Int32} {l : List Int32} (h : tg_nb c x l) : l.length ≤ 3 := by
  obtain ⟨s, v, -, -, -, -, rfl⟩ := h
  exact tg_nt_len
theorem tg_N.bound {c : tt_C} {l : List Int32} (h : tg_N c l) : 1 ≤ l.length ∧ l.length ≤ 7 ∧ (sc_p c.1 = 1 → l.length ≤ 5) ∧ (sc_p c.1 = 2 → l.length ≤ 2) := by
  have hl := h.len
  obtain ⟨hil, lm, l1, l2, rfl, hm, h1, h2⟩ := h
  have e0 : lm.length ≤ if sc_mk c.1 = 0 then 0 else 1 := by
    rcases hm with ⟨e, -, rfl⟩ | ⟨e, b, -, rfl, -⟩
    · exact Nat.zero_le _
    · rw [if_neg e]; exact Nat.le_refl 1
  have e1 : l1.length ≤ if 0 < sc_nn c.1 then 3 else 0 := by
    split
    · rename_i g
      rw [if_pos g] at h1; exact h1.l3
    · rename_i g
      rw [if_neg g] at h1; rw [h1.2]; exact Nat.le_refl 0
  have e2 : l2.length ≤ if 1 < sc_nn c.1 then 3 else 0 := by
    split
    · rename_i g
      rw [if_pos g] at h2; exact h2.l3
    · rename_i g
      rw [if_neg g] at h2; rw [h2.2]; exact Nat.le_refl 0
  have e3 : (if sc_mk c.1 = 0 then 0 else 1) + (if 0 < sc_nn c.1 then 3 else 0) + (if 1 < sc_nn c.1 then 3 else 0) ≤ 6 ∧ (sc_p c.1 = 1 → (if sc_mk c.1 = 0 then 0 else 1) + (if 0 < sc_nn c.1 then 3 else 0) + (if 1 < sc_nn c.1 then 3 else 0) ≤ 4) ∧ (sc_p c.1 = 2 → (if sc_mk c.1 = 0 then 0 else 1) + (if 0 < sc_nn c.1 then 3 else 0) + (if 1 < sc_nn c.1 then 3 else 0) ≤ 1) := by
    rcases sc_il_cases hil with q | q | q | q | q | q | q | q | q | q | q | q | q | q | q | q | q | q <;> rw [q] <;> decide +kernel
  simp only [List.length_cons, List.length_append] at hl ⊢
  refine ⟨hl, by omega, fun e => ?_, fun e => ?_⟩
  · have := e3.2.1 e
    omega
  · have := e3.2.2 e
    omega
theorem tg_100 {ns r a : Nat} {X : List Nat} {K : Int32 → Int64 → Int32 → Int32 → Int32 → sf_S → Option (Int32 × sf_S)} {x2 x6 x7 x8 y0 y1 y2 c : Int32} {σ : sf_S} (hil : sc_il c = true) (hX : X.length ≤ 4) (hc : dL_letter ns y2 y1 y0 σ = some (c, σ)) : dL_plans_100 ns r K x2 (lN (tg_P (a :: X))) (nI (X.length + 1)) x6 x7 x8 (if a = 0 then 0 else 1) y0 y1 y2 σ = dL_plans_275 ns r K x2 (lN (tg_P (sc_push c a X))) (nI (sc_push c a X).length) x6 x7 x8 c σ := by
  have hP : tg_P X < 16 := Nat.lt_of_lt_of_le (tg_P_lt X) (Nat.pow_le_pow_right (by omega) hX)
  have hP2 : tg_P (a :: X) < 64 ∧ tg_P (a :: X) / 2 = tg_P X := by
    simp only [tg_P]
    split <;> omega
  obtain ⟨b1, -, -, -⟩ := tg_bits ⟨tg_P (a :: X), hP2.1⟩
  simp only [] at b1
  rw [hP2.2] at b1
  have e5 : nI (X.length + 1) + -1 = nI X.length := by
    rw [← nI_1, Int32.add_assoc, show (1 : Int32) + -1 = 0 from by decide, Int32.add_zero]
  have h138 := tg_138 (ns := ns) (r := r) (a := a) (K := K) (x2 := x2) (x6 := x6) (x7 := x7) (x8 := x8) (σ := σ) hil hX
  unfold dL_plans_100
  rw [hc]
  simp only [Option.bind_some]
  rw [b1, e5]
  by_cases h99 : c = 99
  · rw [if_pos (show sc_p c = 2 by rw [h99]; decide +kernel)] at h138
    rw [if_pos h99]; exact h138
  by_cases h122 : c = 122
  · rw [if_pos (show sc_p c = 2 by rw [h122]; decide +kernel)] at h138
    rw [if_neg h99, if_pos h122]; exact h138
  by_cases h120 : c = 120
  · rw [if_pos (show sc_p c = 2 by rw [h120]; decide +kernel)] at h138
    rw [if_neg h99, if_neg h122, if_neg (by simp only [Classical.not_not]; exact h120)]; exact h138
  · have hp : ¬ sc_p c = 2 := by
      rcases sc_il_cases hil with q | q | q | q | q | q | q | q | q | q | q | q | q | q | q | q | q | q <;> first | exact absurd q h99 | exact absurd q h122 | exact absurd q h120 | (rw [q]; decide +kernel)
    rw [if_neg hp] at h138
    rw [if_neg h99, if_neg h122, if_pos h120]; exact h138
theorem tg_step (ns : Nat) {q : Int32} {a b : Nat} {X : List Nat} (hX : b + 8 * (X.length + 1) ≤ 40) : ∃ (N : tt_C) (l : List Int32), tg_N N l ∧ ¬ (sc_uv N.1 = true ∧ a = 0) ∧ b + l.length + 8 * (sc_push N.1 a X).length ≤ 40 ∧ ∀ (r : Nat) (K : Int32 → Int64 → Int32 → Int32 → Int32 → sf_S → Option (Int32 × sf_S)) (x2 : Int32) (j : Nat) (σ : sf_S), tg_rm r 8 σ → dL_plans_60 ns r K x2 (lN (tg_P (a :: X))) (nI (X.length + 1)) (nI j) (nI b) q (if a = 0 then 0 else 1) σ = K x2 (lN (tg_P (sc_push N.1 a X))) (nI (sc_push N.1 a X).length) (nI (j + 1)) (nI (b + l.length)) (tg_ps r l σ) := by
  have hcmp : ((40 : Int32) - nI b < (8 : Int32) * nI (X.length + 1) + 10) ↔ 40 - b < 8 * (X.length + 1) + 10 := by
    rw [show (40 : Int32) = nI 40 from by decide +kernel, show (8 : Int32) = nI 8 from by decide +kernel, show (10 : Int32) = nI 10 from by decide +kernel, pk_sub (by omega), pk_mul, nI_add, nI_ltI (by omega) (by omega)]
  have tail : ∀ c : Int32, sc_il c = true → ¬ (sc_uv c = true ∧ a = 0) → (∀ (N : tt_C) (l : List Int32), N.1 = c → tg_N N l → b + l.length + 8 * (sc_push c a X).length ≤ 40) → (∀ (r : Nat) (K : Int32 → Int64 → Int32 → Int32 → Int32 → sf_S → Option (Int32 × sf_S)) (x2 : Int32) (j : Nat) (σ : sf_S), dL_plans_60 ns r K x2 (lN (tg_P (a :: X))) (nI (X.length + 1)) (nI j) (nI b) q (if a = 0 then 0 else 1) σ = dL_plans_275 ns r K x2 (lN (tg_P (sc_push c a X))) (nI (sc_push c a X).length) (nI j) (nI b) q c σ) → ∃ (N : tt_C) (l : List Int32), tg_N N l ∧ ¬ (sc_uv N.1 = true ∧ a = 0) ∧ b + l.length + 8 * (sc_push N.1 a X).length ≤ 40 ∧ ∀ (r : Nat) (K : Int32 → Int64 → Int32 → Int32 → Int32 → sf_S → Option (Int32 × sf_S)) (x2 : Int32) (j : Nat) (σ : sf_S), tg_rm r 8 σ → dL_plans_60 ns r K x2 (lN (tg_P (a :: X))) (nI (X.length + 1)) (nI j) (nI b) q (if a = 0 then 0 else 1) σ = K x2 (lN (tg_P (sc_push N.1 a X))) (nI (sc_push N.1 a X).length) (nI (j + 1)) (nI (b + l.length)) (tg_ps r l σ) := by
    intro c hil huv hb he
    obtain ⟨N, l, rfl, h2, h3⟩ := tg_types ns (q := q) hil
    refine ⟨N, l, h2, huv, hb N l rfl h2, fun r K x2 j σ h => ?_⟩
    have hl := h2.bound
    rw [he]
    unfold dL_plans_275
    rw [h3 r σ h]
    simp only [Option.bind_some]
    rw [if_pos (by rw [sc_1]; exact nI_le hl.1 (by omega)), nI_add, nI_1]
  have small : (∀ (r : Nat) (K : Int32 → Int64 → Int32 → Int32 → Int32 → sf_S → Option (Int32 × sf_S)) (x2 : Int32) (j : Nat) (σ : sf_S), dL_plans_60 ns r K x2 (lN (tg_P (a :: X))) (nI (X.length + 1)) (nI j) (nI b) q (if a = 0 then 0 else 1) σ = dL_plans_100 ns r K x2 (lN (tg_P (a :: X))) (nI (X.length + 1)) (nI j) (nI b) q (if a = 0 then 0 else 1) 1 (if a = 0 then 0 else 1) q σ) → ∃ (N : tt_C) (l : List Int32), tg_N N l ∧ ¬ (sc_uv N.1 = true ∧ a = 0) ∧ b + l.length + 8 * (sc_push N.1 a X).length ≤ 40 ∧ ∀ (r : Nat) (K : Int32 → Int64 → Int32 → Int32 → Int32 → sf_S → Option (Int32 × sf_S)) (x2 : Int32) (j : Nat) (σ : sf_S), tg_rm r 8 σ → dL_plans_60 ns r K x2 (lN (tg_P (a :: X))) (nI (X.length + 1)) (nI j) (nI b) q (if a = 0 then 0 else 1) σ = K x2 (lN (tg_P (sc_push N.1 a X))) (nI (sc_push N.1 a X).length) (nI (j + 1)) (nI (b + l.length)) (tg_ps r l σ) := by
    intro he
    obtain ⟨c, c1, c2, c3, c4⟩ := tg_letter1 ns q (if a = 0 then 0 else 1)
    refine tail c c1 (fun e => ?_) (fun N l hN h => ?_) (fun r K x2 j σ => ?_)
    · have := c3 (if_pos e.2)
      rw [e.1] at this; cases this
    · have := h.bound
      simp only [sc_push, c2]; omega
    · rw [he, tg_100 c1 (by omega) (c4 σ)]
  by_cases hs : 40 - b < 8 * (X.length + 1) + 10
  · refine small fun r K x2 j σ => ?_
    unfold dL_plans_60
    rw [if_pos (hcmp.mpr hs)]
  · have hu := tg_u_lt (x := q >>> ((23 : Int32) &&& 31)) (show 0 < 6 by omega)
    by_cases h0 : tg_u (q >>> ((23 : Int32) &&& 31)) 6 = 0
    · refine small fun r K x2 j σ => ?_
      unfold dL_plans_60
      rw [if_neg (fun e => hs (hcmp.mp e)), tg_up (k := 6) (by decide +kernel) (by omega) (by omega), h0]
      simp only [Option.bind_some]
      rw [if_neg (by decide +kernel)]
    · obtain ⟨c, c1, c3, c4⟩ := tg_letter0 ns q (if a = 0 then 0 else 1)
      refine tail c c1 (fun e => by rw [c3] at e; exact absurd e.1 (by decide)) (fun N l hN h => ?_) (fun r K x2 j σ => ?_)
      · obtain ⟨b1, b2, b3, b4⟩ := h.bound
        rw [hN] at b3 b4
        rcases sc_p3 c with hp | hp | hp
        · simp only [sc_push, hp]; omega
        · have := b3 hp
          simp only [sc_push, hp, List.length_cons]; omega
        · have := b4 hp
          simp only [sc_push, hp, List.length_cons]; omega
      · unfold dL_plans_60
        rw [if_neg (fun e => hs (hcmp.mp e)), tg_up (k := 6) (by decide +kernel) (by omega) (by omega)]
        simp only [Option.bind_some]
        rw [if_pos (nI_ne0 (by omega) (by omega)), tg_100 c1 (by omega) (c4 σ)]
theorem tg_pu_ne {r : Nat} {b : Int32} {σ : sf_S} {x y : Nat} (h : ¬ (x = r + 47 ∨ (x = r + 46 ∧ y = 2))) : tg_pu r b σ x y = σ x y := by
  unfold tg_pu
  have g1 : ¬ (x = r + 46 ∧ y = 2) := by omega
  rw [show sf_up (sf_up σ (r + 47) (σ (r + 46) 2).toNatClampNeg b) (r + 46) 2 (σ (r + 46) 2 + 1) x y = sf_up σ (r + 47) (σ (r + 46) 2).toNatClampNeg b x y from if_neg g1, sc_upK (by omega)]
theorem tg_ps_ne {r : Nat} : ∀ (l : List Int32) (σ : sf_S) {x y : Nat}, ¬ (x = r + 47 ∨ (x = r + 46 ∧ y = 2)) → tg_ps r l σ x y = σ x y
  | [], _, _, _, _ => rfl
  | b :: l, σ, x, y, h => by rw [tg_ps, tg_ps_ne l _ h, tg_pu_ne h]
/-- the text so far -/
def tg_X (r : Nat) (B : List Int32) (σ : sf_S) : Prop := σ (r + 46) 2 = nI B.length ∧ ∀ j x, B[j]? = some x → σ (r + 47) j = x
theorem tg_X.ps {r : Nat} : ∀ {l B : List Int32} {σ : sf_S}, tg_X r B σ → B.length + l.length ≤ 40 → tg_X r (B ++ l) (tg_ps r l σ)
  | [], B, σ, h, _ => by rw [List.append_nil]; exact h
  | b :: l, B, σ, h, hl => by
    simp only [List.length_cons] at hl
    have h1 : tg_X r (B ++ [b]) (tg_pu r b σ) := by
      obtain ⟨a1, a2⟩ := h
      unfold tg_pu
      rw [a1, sc_cl (by omega), nI_1]
      refine ⟨by rw [sc_upS, List.length_append]; rfl, fun j x hj => ?_⟩
      rw [sc_upK (by omega)]
      by_cases hjB : j < B.length
      · rw [List.getElem?_append_left hjB] at hj
        rw [sc_upJ (by omega)]; exact a2 j x hj
      · have hlt := (List.getElem?_eq_some_iff.mp hj).1
        simp only [List.length_append, List.length_cons, List.length_nil] at hlt
        have hjB : j = B.length := by omega
        subst hjB
        rw [List.getElem?_append_right (Nat.le_refl _), Nat.sub_self] at hj
        cases hj
        exact sc_upS
    have := h1.ps (l := l) (by simp only [List.length_append, List.length_cons, List.length_nil]; omega)
    rw [List.append_assoc] at this
    exact this
/-- the script's cell -/
def tg_ce (ns : Nat) (sc : Nat → Int32) (i : Nat) : Int32 := if ns ≤ i then (763049417 : Int32) * (nI i + 3) else sc i
theorem tg_cell {ns i : Nat} {x : Int32} {σ : sf_S} (hns : ns ≤ 260) (hx : x = nI i) (hi : i < 1000) : dL_cell ns x σ = some (tg_ce ns (σ 118) i, σ) := by
  have e : Int32.ofNat ns = nI ns := rfl
  unfold dL_cell tg_ce
  rw [hx, e]
  by_cases h : ns ≤ i
  · rw [if_pos (nI_le h (by omega)), if_pos h]
  · rw [if_neg (nI_ge (by omega) (by omega)), if_neg h, if_pos (sc_inI (by omega) (by omega)), sc_cl (by omega)]
theorem tg_loop {ns at_ : Nat} (hns : ns ≤ 260) (hat : at_ ≤ 100) (sc : Nat → Int32) : ∀ (m b j : Nat) (X : List Nat), 40 - b ≤ m → b + 8 * X.length ≤ 40 → j ≤ b → ∃ Ns bs, tg_run Ns bs X ∧ b + bs.length ≤ 40 ∧ ∀ (r fuel : Nat) (B : List Int32) (σ : sf_S), m < fuel → r + 59 ≤ 118 → σ 118 = sc → B.length = b → tg_X r B σ → ∃ f, dL_plans_20 ns r fuel (nI at_) (lN (tg_P X)) (nI X.length) (nI j) (nI b) σ = dL_plans_20 ns r (f + 1) (nI at_) (lN 0) 0 (nI (j + Ns.length)) (nI (b + bs.length)) (tg_ps r bs σ)
  | m, b, j, [], hm, hX, hj => ⟨[], [], ⟨rfl, rfl⟩, by simp only [List.length_nil]; omega, fun r fuel B σ hf hr hs hB hT => by
      obtain ⟨f, rfl⟩ : ∃ f, fuel = f + 1 := ⟨fuel - 1, by omega⟩
      exact ⟨f, by rw [sc_0]; rfl⟩⟩
  | 0, b, j, a :: X, hm, hX, hj => by simp only [List.length_cons] at hX; omega
  | m + 1, b, j, a :: X, hm, hX, hj => by
    simp only [List.length_cons] at hX
    obtain ⟨N, l, n1, n2, n3, n4⟩ := tg_step ns (q := tg_ce ns sc (at_ + j % 20) ^^^ ((nI j / (20 : Int32)) <<< ((9 : Int32) &&& 31))) (a := a) hX
    have hl := n1.bound
    obtain ⟨Ns, bs, r1, r2, r3⟩ := tg_loop hns hat sc m (b + l.length) (j + 1) (sc_push N.1 a X) (by omega) n3 (by omega)
    refine ⟨N :: Ns, l ++ bs, ⟨l, bs, a, X, rfl, rfl, n1, n2, r1⟩, by rw [List.length_append]; omega, fun r fuel B σ hf hr hs hB hT => ?_⟩
    obtain ⟨f, rfl⟩ : ∃ f, fuel = f + 1 := ⟨fuel - 1, by omega⟩
    obtain ⟨g, hg⟩ := r3 r f (B ++ l) (tg_ps r l σ) (by omega) hr (by funext y; rw [tg_ps_ne _ _ (by omega), hs]) (by rw [List.length_append, hB]) (hT.ps (by omega))
    refine ⟨g, ?_⟩
    simp only [List.length_cons]
    rw [tg_ps_app, List.length_append, show j + (Ns.length + 1) = j + 1 + Ns.length by omega, ← Nat.add_assoc, ← hg]
    have h20 : (20 : Int32) = nI 20 := by decide +kernel
    have hP : tg_P X < 16 := Nat.lt_of_lt_of_le (tg_P_lt X) (Nat.pow_le_pow_right (by omega) (show X.length ≤ 4 by omega))
    have hP2 : tg_P (a :: X) < 64 ∧ (tg_P (a :: X) % 2 = 0 ↔ a = 0) := by
      simp only [tg_P]
      by_cases ha : a = 0
      · rw [if_pos ha]; omega
      · rw [if_neg ha]; omega
    obtain ⟨-, -, -, b4⟩ := tg_bits ⟨tg_P (a :: X), hP2.1⟩
    simp only [] at b4
    have hn := n4 r (dL_plans_20 ns r f) (nI at_) j σ ⟨b, by rw [hT.1, hB], by omega⟩
    rw [← hn]
    simp only [dL_plans_20]
    rw [if_neg (by rw [sc_0, nI_leI (by omega) (by omega)]; omega), if_neg (by decide), h20, pk_rem (by omega) (by omega) (by omega), nI_add, tg_cell hns rfl (by omega)]
    simp only [Option.bind_some]
    rw [if_neg (by decide +kernel), hs]
    by_cases hc : (lg_cmp (lN (tg_P (a :: X)) &&& (1 : Int64)) (1 : Int64)) = 0
    · rw [if_neg (by simp only [Classical.not_not]; exact hc)] at b4
      rw [if_neg (by simp only [Classical.not_not]; exact hc), if_neg (show ¬ a = 0 by omega)]
    · rw [if_pos hc] at b4
      rw [if_pos hc, if_pos (show a = 0 by omega)]
