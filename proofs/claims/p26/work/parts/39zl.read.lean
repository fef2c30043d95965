/-! the reader, one letter (as in the claim of the whole) -/
theorem sc_c48 : (48 : Int32) = nI 48 := by decide +kernel
theorem sc_p2n {c : Int32} (h : sc_p c ≠ 2) : ¬ c = 120 := fun q => h (sc_p120 q)
theorem sc_digC (x : Int32) (σ : sf_S) : dX4_isDigit x σ = some (sc_b (decide (48 ≤ x.toInt ∧ x.toInt ≤ 57)), σ) := by
  unfold dX4_isDigit
  simp only [Int32.lt_iff_toInt_lt, show (48 : Int32).toInt = 48 from by decide, show (57 : Int32).toInt = 57 from by decide]
  repeat' split
  all_goals first | (rw [decide_eq_false (by omega)]; rfl) | (rw [decide_eq_true (by omega)]; rfl)
theorem sc_nn_il {c : Int32} (h : sc_nn c ≠ 0) : sc_il c = true := by
  by_cases h37 : c = 37
  · subst h37; decide +kernel
  by_cases h42 : c = 42
  · subst h42; decide +kernel
  by_cases h43 : c = 43
  · subst h43; decide +kernel
  by_cases h47 : c = 47
  · subst h47; decide +kernel
  by_cases h63 : c = 63
  · subst h63; decide +kernel
  by_cases h100 : c = 100
  · subst h100; decide +kernel
  by_cases h105 : c = 105
  · subst h105; decide +kernel
  by_cases h107 : c = 107
  · subst h107; decide +kernel
  by_cases h114 : c = 114
  · subst h114; decide +kernel
  by_cases h116 : c = 116
  · subst h116; decide +kernel
  by_cases h119 : c = 119
  · subst h119; decide +kernel
  exact absurd (by simp only [sc_nn, h37, h42, h43, h47, h63, h100, h105, h107, h114, h116, h119, if_false]) h
theorem sc_p_il {c : Int32} (h : sc_p c ≠ 0) : sc_il c = true := by
  unfold sc_il
  exact decide_eq_true (Or.inr (Or.inr (Or.inr (Or.inr (Or.inr h)))))
theorem sc_nle0 {a : Nat} (h : a < 2 ^ 31) : (nI a ≤ 0) ↔ a = 0 := by rw [sc_0, nI_leI h (by omega)]; omega
theorem sc_ilC {b : Int32} {a : Nat} (ha : a < 2 ^ 31) (σ : sf_S) : dX4_isLetter b (nI a) σ = some (sc_b (sc_il b && !(sc_uv b && decide (a = 0))), σ) := by
  unfold dX4_isLetter
  simp only [sc_partsC, sc_numsC, Option.bind_some, sc_nle0 ha]
  by_cases h1 : b = 117
  · subst h1
    rw [if_pos rfl, show sc_il 117 = true from by decide +kernel, show sc_uv 117 = true from by decide +kernel]
    by_cases h0 : a = 0 <;> simp [h0, sc_b]
  by_cases h2 : b = 118
  · subst h2
    rw [if_neg h1, if_neg (by simp), show sc_il 118 = true from by decide +kernel, show sc_uv 118 = true from by decide +kernel]
    by_cases h0 : a = 0 <;> simp [h0, sc_b]
  rw [if_neg h1, if_pos h2, show sc_uv b = false from by simp [sc_uv, h1, h2]]
  by_cases h3 : b = 115
  · subst h3
    rw [if_pos rfl, show sc_il 115 = true from by decide +kernel]; rfl
  rw [if_neg h3]
  have hp2 := sc_p_le b
  by_cases hp : sc_p b = 0
  · rw [hp, if_neg (by decide +kernel : ¬ (0 : Int32) < nI 0)]
    have hn2 : sc_nn b ≤ 2 := by unfold sc_nn; repeat' split
                                 all_goals omega
    by_cases hn : sc_nn b = 0
    · rw [hn, if_pos (by decide +kernel : nI 0 ≤ 0)]
      have : sc_il b = false := by
        cases e : sc_il b
        · rfl
        · exfalso
          rcases sc_il_cases e with q | q | q | q | q | q | q | q | q | q | q | q | q | q | q | q | q | q <;> subst q <;> first | exact absurd hp (by decide +kernel) | exact absurd hn (by decide +kernel) | exact h3 rfl | exact h1 rfl | exact h2 rfl
      rw [this]; rfl
    · rw [if_neg (by rw [sc_nle0 (by omega)]; exact hn), sc_nn_il hn]; rfl
  · rw [if_pos (by rw [sc_0, nI_ltI (by omega) (by omega)]; omega), sc_p_il hp]; rfl
def sc_sm (c : Int32) : Bool := decide (c = 116 ∨ c = 100)
def sc_wh (c : Int32) : Bool := decide (c = 37 ∨ c = 107)
theorem sc_rn (c : Int32) (σ : sf_S) : dX4_readNumber c σ = dX4_readNumber_35 (sc_b (sc_sm c)) (sc_b (sc_wh c)) σ := by
  unfold dX4_readNumber dX4_readNumber_17 sc_sm sc_wh
  by_cases h1 : c = 116
  · subst h1; rfl
  by_cases h2 : c = 100
  · subst h2; rfl
  by_cases h3 : c = 37
  · subst h3; rfl
  by_cases h4 : c = 107
  · subst h4; rfl
  · simp only [h1, h2, h3, h4, if_false, not_false_eq_true, if_true, or_self, decide_false]
    rfl
def sc_fm (k : Nat) (b : Int32) : Bool := if k = 6 then decide (b = 60 ∨ b = 62 ∨ b = 61) else if k = 7 then decide (b = 43 ∨ b = 42 ∨ b = 60) else if k = 8 then decide (48 ≤ b.toInt ∧ b.toInt ≤ 51) else decide (48 ≤ b.toInt ∧ b.toInt ≤ 57)
theorem sc_fmC {c : Int32} (hc : sc_mk c ≠ 0) (b : Int32) (σ : sf_S) : dX4_fitsMark c b σ = some (sc_b (sc_fm (sc_mk c) b), σ) := by
  have h67 : ∀ k, k = 6 ∨ k = 7 ∨ k = 8 ∨ k = 9 → True := fun _ _ => trivial
  unfold dX4_fitsMark
  simp only [sc_digC, Option.bind_some, sc_b01, if_true]
  by_cases h1 : c = 108
  · subst h1; rfl
  by_cases h2 : c = 115
  · subst h2
    rw [if_neg (by decide), if_pos rfl, show sc_mk 115 = 8 from by decide +kernel]
    simp only [sc_fm, Int32.lt_iff_toInt_lt, show (48 : Int32).toInt = 48 from by decide, show (51 : Int32).toInt = 51 from by decide, show ¬ (8 : Nat) = 6 by decide, show ¬ (8 : Nat) = 7 by decide, if_false, if_true]
    repeat' split
    all_goals first | (rw [decide_eq_false (by omega)]; rfl) | (rw [decide_eq_true (by omega)]; rfl)
  by_cases h3 : c = 122
  · subst h3
    rw [if_neg (by decide), if_neg (by decide), if_pos rfl, show sc_mk 122 = 7 from by decide +kernel]
    simp only [sc_fm, show ¬ (7 : Nat) = 6 by decide, if_false, if_true]
    by_cases g1 : b = 43
    · simp only [g1, if_true, true_or, decide_true]; rfl
    by_cases g2 : b = 42
    · simp only [g1, g2, if_false, if_true, true_or, or_true, decide_true]
      rw [if_neg (by decide)]; rfl
    by_cases g3 : b = 60
    · simp only [g1, g2, g3, if_false, if_true, or_true, decide_true, not_true_eq_false]
      rw [if_neg (by decide), if_neg (by decide)]; rfl
    · simp only [g1, g2, g3, if_false, if_true, or_self, decide_false, not_false_eq_true]; rfl
  have h6 : sc_mk c = 6 := by
    unfold sc_mk at hc ⊢
    simp only [h1, h2, h3, if_false] at hc ⊢
    by_cases g : c = 63
    · rw [if_pos g]
    · rw [if_neg g] at hc ⊢
      by_cases g2 : c = 119
      · rw [if_pos g2]
      · rw [if_neg g2] at hc; exact absurd rfl hc
  rw [if_neg h1, if_neg h2, if_neg h3, h6]
  simp only [sc_fm, if_true]
  by_cases g1 : b = 60
  · simp only [g1, if_true, true_or, decide_true]; rfl
  by_cases g2 : b = 62
  · simp only [g1, g2, if_false, if_true, true_or, or_true, decide_true]
    rw [if_neg (by decide)]; rfl
  by_cases g3 : b = 61
  · simp only [g1, g2, g3, if_false, if_true, or_true, decide_true, not_true_eq_false]
    rw [if_neg (by decide), if_neg (by decide)]; rfl
  · simp only [g1, g2, g3, if_false, if_true, or_self, decide_false, not_false_eq_true]; rfl
def sc_due (f : Nat → Int32) : List Nat → Prop
  | [] => True
  | a :: S => f S.length = nI a ∧ sc_due f S
theorem sc_due_congr {f g : Nat → Int32} : ∀ {S : List Nat}, (∀ j, j < S.length → g j = f j) → sc_due f S → sc_due g S
  | [], _, _ => trivial
  | a :: S, h, hd => ⟨(h _ (by simp)).trans hd.1, sc_due_congr (fun j hj => h j (by simp; omega)) hd.2⟩
theorem sc_expect {σ : sf_S} {d a : Nat} {x : Int32} (hx : x = nI a) (h : σ 46 4 = nI d) (hd : d ≤ 40) : dX4_expect x σ = some (sf_up (sf_up σ 48 d (nI a)) 46 4 (nI (d + 1))) := by
  unfold dX4_expect
  rw [h, sc_c40, if_pos (nI_le hd (by omega))]
  simp only []
  rw [if_pos (sc_inI (by omega) (by omega)), sc_cl (by omega), sc_upK (by omega), h, nI_1, hx]
theorem sc_expParts {σ : sf_S} {c : Int32} {a : Nat} {S : List Nat} (hS : S.length + 2 ≤ 41) (h : σ 46 4 = nI S.length) (hd : sc_due (σ 48) S) : ∃ σ', dX4_expectParts c (nI a) σ = some σ' ∧ σ' 46 4 = nI (sc_push c a S).length ∧ sc_due (σ' 48) (sc_push c a S) ∧ ∀ x y, ¬ (x = 48 ∨ (x = 46 ∧ y = 4)) → σ' x y = σ x y := by
  unfold dX4_expectParts dX4_expectParts_15
  rw [sc_partsC]
  simp only [Option.bind_some]
  have frm : ∀ (s : sf_S) (d : Nat) (v w : Int32) (x y : Nat), ¬ (x = 48 ∨ (x = 46 ∧ y = 4)) → sf_up (sf_up s 48 d v) 46 4 w x y = s x y := fun s d v w x y hxy => by
    by_cases h46 : x = 46
    · subst h46; rw [sc_upJ (by omega), sc_upK (by omega)]
    · rw [sc_upK h46, sc_upK (by omega)]
  have row : ∀ (s : sf_S) (d : Nat) (v w : Int32) (j : Nat), j ≠ d → sf_up (sf_up s 48 d v) 46 4 w 48 j = s 48 j := fun s d v w j hj => by
    rw [sc_upK (by omega), sc_upJ hj]
  have top : ∀ (s : sf_S) (d : Nat) (v w : Int32), sf_up (sf_up s 48 d v) 46 4 w 48 d = v := fun s d v w => by
    rw [sc_upK (by omega), sc_upS]
  rcases sc_p3 c with hp | hp | hp
  · rw [hp, if_pos (by decide +kernel), if_pos (by decide +kernel)]
    exact ⟨σ, rfl, by simp only [sc_push, hp]; exact h, by simp only [sc_push, hp]; exact hd, fun _ _ _ => rfl⟩
  · have hx : ¬ c = 120 := sc_p2n (by omega)
    rw [hp, if_pos (by decide +kernel), if_neg (by decide +kernel), if_pos hx, sc_expect rfl h (by omega)]
    refine ⟨_, rfl, by simp only [sc_push, hp]; exact sc_upS, ?_, fun x y hxy => frm _ _ _ _ _ _ hxy⟩
    simp only [sc_push, hp]
    exact ⟨top _ _ _ _, sc_due_congr (fun j hj => row _ _ _ _ j (by omega)) hd⟩
  · rw [hp, if_neg (by decide +kernel), sc_expect rfl h (by omega)]
    simp only [Option.bind_some]
    rw [if_neg (by decide +kernel)]
    by_cases hx : c = 120
    · rw [if_neg (by simp [hx]), sc_expect (a := a + 1) (nI_1 a) sc_upS (by omega)]
      refine ⟨_, rfl, by simp only [sc_push, hp, List.length_cons]; exact sc_upS, ?_, fun x y hxy => by rw [frm _ _ _ _ _ _ hxy, frm _ _ _ _ _ _ hxy]⟩
      simp only [sc_push, hp, if_pos hx]
      exact ⟨top _ _ _ _, (row _ _ _ _ _ (by omega)).trans (top _ _ _ _), sc_due_congr (fun j hj => (row _ _ _ _ j (by omega)).trans (row _ _ _ _ j (by omega))) hd⟩
    · rw [if_pos hx, sc_expect rfl sc_upS (by omega)]
      refine ⟨_, rfl, by simp only [sc_push, hp, List.length_cons]; exact sc_upS, ?_, fun x y hxy => by rw [frm _ _ _ _ _ _ hxy, frm _ _ _ _ _ _ hxy]⟩
      simp only [sc_push, hp, if_neg hx]
      exact ⟨top _ _ _ _, (row _ _ _ _ _ (by omega)).trans (top _ _ _ _), sc_due_congr (fun j hj => (row _ _ _ _ j (by omega)).trans (row _ _ _ _ j (by omega))) hd⟩
