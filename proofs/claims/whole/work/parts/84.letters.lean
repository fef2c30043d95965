/-! reading: letters -/
theorem sc_il_cases {c : Int32} (h : sc_il c = true) : c = 37 ∨ c = 42 ∨ c = 43 ∨ c = 47 ∨ c = 63 ∨ c = 99 ∨ c = 100 ∨ c = 105 ∨ c = 107 ∨ c = 108 ∨ c = 114 ∨ c = 115 ∨ c = 116 ∨ c = 117 ∨ c = 118 ∨ c = 119 ∨ c = 120 ∨ c = 122 := by
  by_cases h37 : c = 37
  · simp [h37]
  by_cases h42 : c = 42
  · simp [h42]
  by_cases h43 : c = 43
  · simp [h43]
  by_cases h47 : c = 47
  · simp [h47]
  by_cases h63 : c = 63
  · simp [h63]
  by_cases h99 : c = 99
  · simp [h99]
  by_cases h100 : c = 100
  · simp [h100]
  by_cases h105 : c = 105
  · simp [h105]
  by_cases h107 : c = 107
  · simp [h107]
  by_cases h108 : c = 108
  · simp [h108]
  by_cases h114 : c = 114
  · simp [h114]
  by_cases h115 : c = 115
  · simp [h115]
  by_cases h116 : c = 116
  · simp [h116]
  by_cases h117 : c = 117
  · simp [h117]
  by_cases h118 : c = 118
  · simp [h118]
  by_cases h119 : c = 119
  · simp [h119]
  by_cases h120 : c = 120
  · simp [h120]
  by_cases h122 : c = 122
  · simp [h122]
  simp only [sc_il, sc_p, h37, h42, h43, h47, h63, h99, h100, h105, h107, h108, h114, h115, h116, h117, h118, h119, h120, h122, if_false, or_self, ne_eq, not_true_eq_false, decide_false] at h
  cases h
theorem sc_nn_il {c : Int32} (h : sc_nn c ≠ 0) : sc_il c = true := by
  by_cases h37 : c = 37
  · subst h37; decide +kernel
  by_cases h42 : c = 42
  · subst h42; decide +kernel
  by_cases h43 : c = 43
  · subst h43; decide +kernel
  by_cases h47 : c = 47
  · subst h47; decide +kernel
  by_cases h63 : c = 63
  · subst h63; decide +kernel
  by_cases h100 : c = 100
  · subst h100; decide +kernel
  by_cases h105 : c = 105
  · subst h105; decide +kernel
  by_cases h107 : c = 107
  · subst h107; decide +kernel
  by_cases h114 : c = 114
  · subst h114; decide +kernel
  by_cases h116 : c = 116
  · subst h116; decide +kernel
  by_cases h119 : c = 119
  · subst h119; decide +kernel
  exact absurd (by simp only [sc_nn, h37, h42, h43, h47, h63, h100, h105, h107, h114, h116, h119, if_false]) h
theorem sc_p_il {c : Int32} (h : sc_p c ≠ 0) : sc_il c = true := by
  unfold sc_il
  exact decide_eq_true (Or.inr (Or.inr (Or.inr (Or.inr (Or.inr h)))))
theorem sc_il_m1 : sc_il (-1) = false := by decide +kernel
theorem sc_nle0 {a : Nat} (h : a < 2 ^ 31) : (nI a ≤ 0) ↔ a = 0 := by rw [sc_0, nI_leI h (by omega)]; omega
theorem sc_ilC {b : Int32} {a : Nat} (ha : a < 2 ^ 31) (σ : sf_S) : dX4_isLetter b (nI a) σ = some (sc_b (sc_il b && !(sc_uv b && decide (a = 0))), σ) := by
  unfold dX4_isLetter
  simp only [sc_partsC, sc_numsC, Option.bind_some, sc_nle0 ha]
  by_cases h1 : b = 117
  · subst h1
    rw [if_pos rfl, show sc_il 117 = true from by decide +kernel, show sc_uv 117 = true from by decide +kernel]
    by_cases h0 : a = 0 <;> simp [h0, sc_b]
  by_cases h2 : b = 118
  · subst h2
    rw [if_neg h1, if_neg (by simp), show sc_il 118 = true from by decide +kernel, show sc_uv 118 = true from by decide +kernel]
    by_cases h0 : a = 0 <;> simp [h0, sc_b]
  rw [if_neg h1, if_pos h2, show sc_uv b = false from by simp [sc_uv, h1, h2]]
  by_cases h3 : b = 115
  · subst h3
    rw [if_pos rfl, show sc_il 115 = true from by decide +kernel]; rfl
  rw [if_neg h3]
  have hp2 := sc_p_le b
  by_cases hp : sc_p b = 0
  · rw [hp, if_neg (by decide +kernel : ¬ (0 : Int32) < nI 0)]
    have hn2 : sc_nn b ≤ 2 := by unfold sc_nn; repeat' split
                                 all_goals omega
    by_cases hn : sc_nn b = 0
    · rw [hn, if_pos (by decide +kernel : nI 0 ≤ 0)]
      have : sc_il b = false := by
        cases e : sc_il b
        · rfl
        · exfalso
          rcases sc_il_cases e with q | q | q | q | q | q | q | q | q | q | q | q | q | q | q | q | q | q <;> subst q <;> first | exact absurd hp (by decide +kernel) | exact absurd hn (by decide +kernel) | exact h3 rfl | exact h1 rfl | exact h2 rfl
      rw [this]; rfl
    · rw [if_neg (by rw [sc_nle0 (by omega)]; exact hn), sc_nn_il hn]; rfl
  · rw [if_pos (by rw [sc_0, nI_ltI (by omega) (by omega)]; omega), sc_p_il hp]; rfl
/-- what the reference wants behind a letter, over its parts -/
def sc_xw (c : Int32) : List Nat := if sc_nn c = 2 then [3, 2] else if sc_nn c = 1 then (if sc_mk c = 0 then [if sc_sm c = true then 5 else if sc_wh c = true then 4 else 2] else [2, sc_mk c]) else if sc_mk c = 0 then [] else [sc_mk c]
def sc_pt (c : Int32) (o : Nat) : List Nat := if sc_p c = 0 then [] else if sc_p c = 1 then [o] else if c = 120 then [o, 1] else [o, o]
def sc_pw : List Nat → Nat → sf_S → sf_S
  | [], _, τ => τ
  | x :: xs, w, τ => sc_pw xs (w + 1) (sf_up (sf_up τ 6 w (nI x)) 0 8 (nI (w + 1)))
theorem sc_pw8 : ∀ (l : List Nat) (w : Nat) (τ : sf_S), τ 0 8 = nI w → sc_pw l w τ 0 8 = nI (w + l.length)
  | [], _, _, h => h
  | x :: xs, w, τ, _ => by
    rw [sc_pw, sc_pw8 xs (w + 1) _ sc_upS]
    congr 1
    simp; omega
theorem sc_pw_ne : ∀ (l : List Nat) (w : Nat) (τ : sf_S) (a b : Nat), ¬ (a = 0 ∧ b = 8) → ¬ (a = 6 ∧ w ≤ b) → sc_pw l w τ a b = τ a b
  | [], _, _, _, _, _, _ => rfl
  | x :: xs, w, τ, a, b, h1, h2 => by
    rw [sc_pw, sc_pw_ne xs (w + 1) _ a b h1 (by omega)]
    by_cases h0 : a = 0
    · subst h0; rw [sc_upJ (by omega), sc_upK (by omega)]
    · rw [sc_upK h0]
      by_cases h6 : a = 6
      · subst h6; rw [sc_upJ (by omega)]
      · rw [sc_upK h6]
theorem sc_pw_at : ∀ (l : List Nat) (w : Nat) (τ : sf_S) (j : Nat) (x : Nat), l[j]? = some x → sc_pw l w τ 6 (w + j) = nI x
  | [], _, _, _, _, h => by simp at h
  | y :: ys, w, τ, 0, x, h => by
    simp at h
    subst h
    rw [sc_pw, sc_pw_ne ys (w + 1) _ 6 (w + 0) (by omega) (by omega), sc_upK (by omega), Nat.add_zero, sc_upS]
  | y :: ys, w, τ, j + 1, x, h => by
    rw [sc_pw, show w + (j + 1) = w + 1 + j by omega]
    exact sc_pw_at ys (w + 1) _ j x (by simpa using h)
theorem sc_pw_app : ∀ (l l2 : List Nat) (w : Nat) (τ : sf_S), sc_pw (l ++ l2) w τ = sc_pw l2 (w + l.length) (sc_pw l w τ)
  | [], _, _, _ => rfl
  | x :: xs, l2, w, τ => by
    rw [List.cons_append, sc_pw, sc_pw_app xs l2, sc_pw]
    congr 1
    simp; omega
theorem sc_wants {w x : Nat} {τ : sf_S} {y : Int32} (hy : y = nI x) (h : τ 0 8 = nI w) (hw : w < 160) : dX12_wants y τ = some (sf_up (sf_up τ 6 w (nI x)) 0 8 (nI (w + 1))) := by
  unfold dX12_wants
  simp only [h]
  rw [if_pos (sc_inI hw (by omega)), sc_cl (by omega), sc_upK (by omega), h, nI_1, hy]
theorem sc_wb1 {c x2 : Int32} {n o w : Nat} {τ : sf_S} (h : τ 0 8 = nI w) (hw : w + 4 < 160) (hx2 : x2 = nI o) (hp : sc_p c ≤ 2) : dX12_wantsBehind_8 (n + 3) c x2 (nI (sc_p c)) 0 τ = dX12_wantsBehind_8 1 c x2 0 0 (sc_pw (sc_pt c o) w τ) := by
  have tl : ∀ (q : Nat) (y z : Int32) (s : sf_S), y ≤ z → dX12_wantsBehind_8 (q + 1) c x2 y z s = dX12_wantsBehind_8 1 c x2 0 0 s := fun q y z s hyz => by
    simp only [dX12_wantsBehind_8]
    rw [if_pos hyz, if_pos (by decide : (0 : Int32) ≤ 0)]
  rcases sc_p3 c with q | q | q
  · rw [q, sc_pt, if_pos q]
    exact tl _ _ _ _ (by decide +kernel)
  · have hx : ¬ c = 120 := sc_p2n (by omega)
    rw [q, sc_pt, if_neg (by omega), if_pos q]
    conv => lhs; rw [dX12_wantsBehind_8.eq_2]
    simp only []
    rw [if_neg (by decide +kernel), if_pos hx, sc_wants hx2 h (by omega)]
    simp only [Option.bind_some]
    rw [tl _ _ _ _ (by decide +kernel)]
    rfl
  · rw [q, sc_pt, if_neg (by omega), if_neg (by omega)]
    conv => lhs; rw [dX12_wantsBehind_8.eq_2]
    simp only []
    rw [if_neg (by decide +kernel)]
    by_cases hx : c = 120
    · rw [if_neg (by simp [hx]), if_pos (by decide), sc_wants hx2 h (by omega), if_pos hx]
      simp only [Option.bind_some]
      conv => lhs; rw [dX12_wantsBehind_8.eq_2]
      simp only []
      rw [if_neg (by decide +kernel), if_neg (by simp [hx]), if_neg (by decide), sc_wants (x := 1) (by decide +kernel) sc_upS (by omega)]
      simp only [Option.bind_some]
      rw [tl _ _ _ _ (by decide +kernel)]
      rfl
    · rw [if_pos hx, sc_wants hx2 h (by omega), if_neg hx]
      simp only [Option.bind_some]
      conv => lhs; rw [dX12_wantsBehind_8.eq_2]
      simp only []
      rw [if_neg (by decide +kernel), if_pos hx, sc_wants hx2 sc_upS (by omega)]
      simp only [Option.bind_some]
      rw [tl _ _ _ _ (by decide +kernel)]
      rfl
theorem sc_wb2 {c x2 : Int32} {w : Nat} {τ : sf_S} (hc : sc_il c = true) (h : τ 0 8 = nI w) (hw : w + 3 < 160) : dX12_wantsBehind_8 1 c x2 0 0 τ = some (sc_pw (sc_xw c) w τ) := by
  have w1 : ∀ (x : Nat) (y : Int32), y = nI x → dX12_wants y τ = some (sf_up (sf_up τ 6 w (nI x)) 0 8 (nI (w + 1))) := fun x y hy => sc_wants hy h (by omega)
  have w2 : ∀ (x : Nat) (y : Int32) (s : sf_S), y = nI x → dX12_wants y (sf_up s 0 8 (nI (w + 1))) = some (sf_up (sf_up (sf_up s 0 8 (nI (w + 1))) 6 (w + 1) (nI x)) 0 8 (nI (w + 1 + 1))) := fun x y s hy => sc_wants hy sc_upS (by omega)
  simp only [dX12_wantsBehind_8]
  rw [if_pos (by decide : (0 : Int32) ≤ 0)]
  rcases sc_il_cases hc with rfl | rfl | rfl | rfl | rfl | rfl | rfl | rfl | rfl | rfl | rfl | rfl | rfl | rfl | rfl | rfl | rfl | rfl
  · rw [if_pos rfl, show sc_xw 37 = [4] from by decide +kernel]
    rw [w1 4 _ (by decide +kernel)]
    simp only [Option.bind_some, dX12_wantsBehind_228]
    rw [if_neg (by decide), if_pos (by decide)]
    rfl
  · rw [if_neg (by decide), if_pos rfl, show sc_xw 42 = [2] from by decide +kernel]
    rw [w1 2 _ (by decide +kernel)]
    simp only [Option.bind_some, dX12_wantsBehind_228]
    rw [if_neg (by decide), if_pos (by decide)]
    rfl
  · rw [if_neg (by decide), if_neg (by decide), if_pos rfl, show sc_xw 43 = [2] from by decide +kernel]
    rw [w1 2 _ (by decide +kernel)]
    simp only [Option.bind_some, dX12_wantsBehind_228]
    rw [if_neg (by decide), if_pos (by decide)]
    rfl
  · rw [if_neg (by decide), if_neg (by decide), if_neg (by decide), if_pos rfl, show sc_xw 47 = [2] from by decide +kernel]
    rw [w1 2 _ (by decide +kernel)]
    simp only [Option.bind_some, dX12_wantsBehind_228]
    rw [if_neg (by decide), if_pos (by decide)]
    rfl
  · rw [if_neg (by decide), if_neg (by decide), if_neg (by decide), if_neg (by decide), if_pos rfl, show sc_xw 63 = [2, 6] from by decide +kernel]
    rw [w1 2 _ (by decide +kernel)]
    simp only [Option.bind_some, dX12_wantsBehind_228]
    rw [if_pos trivial, w2 6 _ _ (by decide +kernel)]
    rfl
  · rw [if_neg (by decide), if_neg (by decide), if_neg (by decide), if_neg (by decide), if_neg (by decide), if_neg (by decide), if_neg (by decide), if_neg (by decide), if_neg (by decide), if_neg (by decide), if_neg (by decide), if_neg (by decide), if_neg (by decide), if_neg (by decide), show sc_xw 99 = [] from by decide +kernel]
    simp only [dX12_wantsBehind_228]
    rw [if_neg (by decide), if_pos (by decide)]
    rfl
  · rw [if_neg (by decide), if_neg (by decide), if_neg (by decide), if_neg (by decide), if_neg (by decide), if_pos rfl, show sc_xw 100 = [5] from by decide +kernel]
    rw [w1 5 _ (by decide +kernel)]
    simp only [Option.bind_some, dX12_wantsBehind_228]
    rw [if_neg (by decide), if_pos (by decide)]
    rfl
  · rw [if_neg (by decide), if_neg (by decide), if_neg (by decide), if_neg (by decide), if_neg (by decide), if_neg (by decide), if_pos rfl, show sc_xw 105 = [3, 2] from by decide +kernel]
    rw [w1 3 _ (by decide +kernel)]
    simp only [Option.bind_some]
    rw [w2 2 _ _ (by decide +kernel)]
    simp only [Option.bind_some, dX12_wantsBehind_228]
    rw [if_neg (by decide), if_pos (by decide)]
    rfl
  · rw [if_neg (by decide), if_neg (by decide), if_neg (by decide), if_neg (by decide), if_neg (by decide), if_neg (by decide), if_neg (by decide), if_pos rfl, show sc_xw 107 = [4] from by decide +kernel]
    rw [w1 4 _ (by decide +kernel)]
    simp only [Option.bind_some, dX12_wantsBehind_228]
    rw [if_neg (by decide), if_pos (by decide)]
    rfl
  · rw [if_neg (by decide), if_neg (by decide), if_neg (by decide), if_neg (by decide), if_neg (by decide), if_neg (by decide), if_neg (by decide), if_neg (by decide), if_pos rfl, show sc_xw 108 = [9] from by decide +kernel]
    rw [w1 9 _ (by decide +kernel)]
    simp only [Option.bind_some, dX12_wantsBehind_228]
    rw [if_neg (by decide), if_pos (by decide)]
    rfl
  · rw [if_neg (by decide), if_neg (by decide), if_neg (by decide), if_neg (by decide), if_neg (by decide), if_neg (by decide), if_neg (by decide), if_neg (by decide), if_neg (by decide), if_pos rfl, show sc_xw 114 = [3, 2] from by decide +kernel]
    rw [w1 3 _ (by decide +kernel)]
    simp only [Option.bind_some]
    rw [w2 2 _ _ (by decide +kernel)]
    simp only [Option.bind_some, dX12_wantsBehind_228]
    rw [if_neg (by decide), if_pos (by decide)]
    rfl
  · rw [if_neg (by decide), if_neg (by decide), if_neg (by decide), if_neg (by decide), if_neg (by decide), if_neg (by decide), if_neg (by decide), if_neg (by decide), if_neg (by decide), if_neg (by decide), if_pos rfl, show sc_xw 115 = [8] from by decide +kernel]
    rw [w1 8 _ (by decide +kernel)]
    simp only [Option.bind_some, dX12_wantsBehind_228]
    rw [if_neg (by decide), if_pos (by decide)]
    rfl
  · rw [if_neg (by decide), if_neg (by decide), if_neg (by decide), if_neg (by decide), if_neg (by decide), if_neg (by decide), if_neg (by decide), if_neg (by decide), if_neg (by decide), if_neg (by decide), if_neg (by decide), if_pos rfl, show sc_xw 116 = [5] from by decide +kernel]
    rw [w1 5 _ (by decide +kernel)]
    simp only [Option.bind_some, dX12_wantsBehind_228]
    rw [if_neg (by decide), if_pos (by decide)]
    rfl
  · rw [if_neg (by decide), if_neg (by decide), if_neg (by decide), if_neg (by decide), if_neg (by decide), if_neg (by decide), if_neg (by decide), if_neg (by decide), if_neg (by decide), if_neg (by decide), if_neg (by decide), if_neg (by decide), if_neg (by decide), if_neg (by decide), show sc_xw 117 = [] from by decide +kernel]
    simp only [dX12_wantsBehind_228]
    rw [if_neg (by decide), if_pos (by decide)]
    rfl
  · rw [if_neg (by decide), if_neg (by decide), if_neg (by decide), if_neg (by decide), if_neg (by decide), if_neg (by decide), if_neg (by decide), if_neg (by decide), if_neg (by decide), if_neg (by decide), if_neg (by decide), if_neg (by decide), if_neg (by decide), if_neg (by decide), show sc_xw 118 = [] from by decide +kernel]
    simp only [dX12_wantsBehind_228]
    rw [if_neg (by decide), if_pos (by decide)]
    rfl
  · rw [if_neg (by decide), if_neg (by decide), if_neg (by decide), if_neg (by decide), if_neg (by decide), if_neg (by decide), if_neg (by decide), if_neg (by decide), if_neg (by decide), if_neg (by decide), if_neg (by decide), if_neg (by decide), if_pos rfl, show sc_xw 119 = [2, 6] from by decide +kernel]
    rw [w1 2 _ (by decide +kernel)]
    simp only [Option.bind_some, dX12_wantsBehind_228]
    rw [if_neg (by decide), if_neg (by simp), w2 6 _ _ (by decide +kernel)]
    rfl
  · rw [if_neg (by decide), if_neg (by decide), if_neg (by decide), if_neg (by decide), if_neg (by decide), if_neg (by decide), if_neg (by decide), if_neg (by decide), if_neg (by decide), if_neg (by decide), if_neg (by decide), if_neg (by decide), if_neg (by decide), if_neg (by decide), show sc_xw 120 = [] from by decide +kernel]
    simp only [dX12_wantsBehind_228]
    rw [if_neg (by decide), if_pos (by decide)]
    rfl
  · rw [if_neg (by decide), if_neg (by decide), if_neg (by decide), if_neg (by decide), if_neg (by decide), if_neg (by decide), if_neg (by decide), if_neg (by decide), if_neg (by decide), if_neg (by decide), if_neg (by decide), if_neg (by decide), if_neg (by decide), if_pos rfl, show sc_xw 122 = [7] from by decide +kernel]
    rw [w1 7 _ (by decide +kernel)]
    simp only [Option.bind_some, dX12_wantsBehind_228]
    rw [if_neg (by decide), if_pos (by decide)]
    rfl
theorem sc_wb {c : Int32} {o w : Nat} {τ : sf_S} (hc : sc_il c = true) (h : τ 0 8 = nI w) (hw : w + 8 < 160) : dX12_wantsBehind c (nI o) τ = some (sc_pw (sc_pt c o ++ sc_xw c) w τ) := by
  have hF := sf_F_le
  unfold dX12_wantsBehind
  rw [sc_partsM, hc]
  simp only [Option.bind_some, if_true]
  obtain ⟨n, hn⟩ : ∃ n, sf_F = n + 3 := ⟨sf_F - 3, by omega⟩
  have hl : (sc_pt c o).length ≤ 2 := by unfold sc_pt; repeat' split
                                         all_goals simp
  rw [hn, sc_wb1 h (by omega) rfl (sc_p_le c), sc_wb2 hc (sc_pw8 _ _ _ h) (by omega), sc_pw_app]
