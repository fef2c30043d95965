/-! the law's letters, and its pile of what is due -/
theorem tg_letter0 (ns : Nat) (x0 x1 : Int32) : ∃ c, sc_il c = true ∧ sc_uv c = false ∧ ∀ σ, dL_letter ns x0 x1 0 σ = some (c, σ) := by
  generalize hw : tg_u (x0 >>> ((18 : Int32) &&& 31)) 16 = w
  have e : ∀ σ, dL_letter ns x0 x1 0 σ = (some (nI w, σ)).bind fun u1 : Int32 × sf_S => if (0 : Int32) = 0 then
    if u1.1 = (0 : Int32) then some ((43 : Int32), u1.2) else
    if u1.1 = (1 : Int32) then some ((42 : Int32), u1.2) else
    if u1.1 = (2 : Int32) then some ((47 : Int32), u1.2) else
    if u1.1 = (3 : Int32) then some ((37 : Int32), u1.2) else
    if u1.1 = (4 : Int32) then some ((108 : Int32), u1.2) else
    if u1.1 = (5 : Int32) then some ((63 : Int32), u1.2) else
    if u1.1 = (6 : Int32) then some ((107 : Int32), u1.2) else
    if u1.1 = (7 : Int32) then some ((119 : Int32), u1.2) else
    if u1.1 = (8 : Int32) then some ((116 : Int32), u1.2) else
    if u1.1 = (9 : Int32) then some ((116 : Int32), u1.2) else
    if u1.1 = (10 : Int32) then some ((100 : Int32), u1.2) else
    if u1.1 = (11 : Int32) then some ((100 : Int32), u1.2) else
    if u1.1 = (12 : Int32) then some ((99 : Int32), u1.2) else
    if u1.1 = (13 : Int32) then some ((122 : Int32), u1.2) else
    some ((120 : Int32), u1.2) else none := fun σ => by
    unfold dL_letter
    rw [tg_up (k := 16) (by decide +kernel) (by omega) (by omega), hw]
    rfl
  simp only [Option.bind_some, if_true] at e
  by_cases g0 : nI w = 0
  · exact ⟨43, by decide +kernel, by decide +kernel, fun σ => by rw [e σ, if_pos g0]⟩
  by_cases g1 : nI w = 1
  · exact ⟨42, by decide +kernel, by decide +kernel, fun σ => by rw [e σ, if_neg g0, if_pos g1]⟩
  by_cases g2 : nI w = 2
  · exact ⟨47, by decide +kernel, by decide +kernel, fun σ => by rw [e σ, if_neg g0, if_neg g1, if_pos g2]⟩
  by_cases g3 : nI w = 3
  · exact ⟨37, by decide +kernel, by decide +kernel, fun σ => by rw [e σ, if_neg g0, if_neg g1, if_neg g2, if_pos g3]⟩
  by_cases g4 : nI w = 4
  · exact ⟨108, by decide +kernel, by decide +kernel, fun σ => by rw [e σ, if_neg g0, if_neg g1, if_neg g2, if_neg g3, if_pos g4]⟩
  by_cases g5 : nI w = 5
  · exact ⟨63, by decide +kernel, by decide +kernel, fun σ => by rw [e σ, if_neg g0, if_neg g1, if_neg g2, if_neg g3, if_neg g4, if_pos g5]⟩
  by_cases g6 : nI w = 6
  · exact ⟨107, by decide +kernel, by decide +kernel, fun σ => by rw [e σ, if_neg g0, if_neg g1, if_neg g2, if_neg g3, if_neg g4, if_neg g5, if_pos g6]⟩
  by_cases g7 : nI w = 7
  · exact ⟨119, by decide +kernel, by decide +kernel, fun σ => by rw [e σ, if_neg g0, if_neg g1, if_neg g2, if_neg g3, if_neg g4, if_neg g5, if_neg g6, if_pos g7]⟩
  by_cases g8 : nI w = 8
  · exact ⟨116, by decide +kernel, by decide +kernel, fun σ => by rw [e σ, if_neg g0, if_neg g1, if_neg g2, if_neg g3, if_neg g4, if_neg g5, if_neg g6, if_neg g7, if_pos g8]⟩
  by_cases g9 : nI w = 9
  · exact ⟨116, by decide +kernel, by decide +kernel, fun σ => by rw [e σ, if_neg g0, if_neg g1, if_neg g2, if_neg g3, if_neg g4, if_neg g5, if_neg g6, if_neg g7, if_neg g8, if_pos g9]⟩
  by_cases g10 : nI w = 10
  · exact ⟨100, by decide +kernel, by decide +kernel, fun σ => by rw [e σ, if_neg g0, if_neg g1, if_neg g2, if_neg g3, if_neg g4, if_neg g5, if_neg g6, if_neg g7, if_neg g8, if_neg g9, if_pos g10]⟩
  by_cases g11 : nI w = 11
  · exact ⟨100, by decide +kernel, by decide +kernel, fun σ => by rw [e σ, if_neg g0, if_neg g1, if_neg g2, if_neg g3, if_neg g4, if_neg g5, if_neg g6, if_neg g7, if_neg g8, if_neg g9, if_neg g10, if_pos g11]⟩
  by_cases g12 : nI w = 12
  · exact ⟨99, by decide +kernel, by decide +kernel, fun σ => by rw [e σ, if_neg g0, if_neg g1, if_neg g2, if_neg g3, if_neg g4, if_neg g5, if_neg g6, if_neg g7, if_neg g8, if_neg g9, if_neg g10, if_neg g11, if_pos g12]⟩
  by_cases g13 : nI w = 13
  · exact ⟨122, by decide +kernel, by decide +kernel, fun σ => by rw [e σ, if_neg g0, if_neg g1, if_neg g2, if_neg g3, if_neg g4, if_neg g5, if_neg g6, if_neg g7, if_neg g8, if_neg g9, if_neg g10, if_neg g11, if_neg g12, if_pos g13]⟩
  exact ⟨120, by decide +kernel, by decide +kernel, fun σ => by rw [e σ, if_neg g0, if_neg g1, if_neg g2, if_neg g3, if_neg g4, if_neg g5, if_neg g6, if_neg g7, if_neg g8, if_neg g9, if_neg g10, if_neg g11, if_neg g12, if_neg g13]⟩
theorem tg_letter1 (ns : Nat) (x0 x1 : Int32) : ∃ c, sc_il c = true ∧ sc_p c = 0 ∧ (x1 = 0 → sc_uv c = false) ∧ ∀ σ, dL_letter ns x0 x1 1 σ = some (c, σ) := by
  generalize hw : tg_u (x0 >>> ((18 : Int32) &&& 31)) 16 = w
  have e : ∀ σ, dL_letter ns x0 x1 1 σ = if x1 = 0 then dL_letter_40 ns (nI w) σ else if ¬ (nI w &&& (1 : Int32)) = 0 then dL_letter_40 ns (nI w) σ else if (8 : Int32) ≤ nI w then some ((118 : Int32), σ) else some ((117 : Int32), σ) := fun σ => by
    unfold dL_letter
    rw [tg_up (k := 16) (by decide +kernel) (by omega) (by omega), hw]
    simp only [Option.bind_some]
    rw [if_neg (by decide)]
  have e40 : ∃ c, sc_il c = true ∧ sc_p c = 0 ∧ sc_uv c = false ∧ ∀ σ, dL_letter_40 ns (nI w) σ = some (c, σ) := by
    unfold dL_letter_40
    by_cases h1 : (10 : Int32) ≤ nI w
    · by_cases h2 : (13 : Int32) ≤ nI w
      · exact ⟨105, by decide +kernel, by decide +kernel, by decide +kernel, fun σ => by rw [if_pos h1, if_pos h2]⟩
      · exact ⟨115, by decide +kernel, by decide +kernel, by decide +kernel, fun σ => by rw [if_pos h1, if_neg h2]⟩
    · exact ⟨114, by decide +kernel, by decide +kernel, by decide +kernel, fun σ => by rw [if_neg h1]⟩
  obtain ⟨c, c1, c2, c3, c4⟩ := e40
  by_cases h0 : x1 = 0
  · exact ⟨c, c1, c2, fun _ => c3, fun σ => by rw [e σ, if_pos h0, c4]⟩
  by_cases h1 : (nI w &&& (1 : Int32)) = 0
  · by_cases h2 : (8 : Int32) ≤ nI w
    · exact ⟨118, by decide +kernel, by decide +kernel, fun g => absurd g h0, fun σ => by rw [e σ, if_neg h0, if_neg (by simp only [Classical.not_not]; exact h1), if_pos h2]⟩
    · exact ⟨117, by decide +kernel, by decide +kernel, fun g => absurd g h0, fun σ => by rw [e σ, if_neg h0, if_neg (by simp only [Classical.not_not]; exact h1), if_neg h2]⟩
  · exact ⟨c, c1, c2, fun _ => c3, fun σ => by rw [e σ, if_neg h0, if_pos h1, c4]⟩
def tg_P : List Nat → Nat
  | [] => 0
  | a :: X => 2 * tg_P X + (if a = 0 then 0 else 1)
theorem tg_P_lt : ∀ X : List Nat, tg_P X < 2 ^ X.length
  | [] => by decide
  | a :: X => by
    have := tg_P_lt X
    simp only [tg_P, List.length_cons, Nat.pow_succ]
    split <;> omega
theorem tg_bits : ∀ P : Fin 64, (lN P.1 >>> (((1 : Int32)).toInt64 &&& 63)) = lN (P.1 / 2) ∧ ((lN P.1 <<< (((1 : Int32)).toInt64 &&& 63)) ||| (0 : Int64)) = lN (2 * P.1) ∧ ((lN P.1 <<< (((1 : Int32)).toInt64 &&& 63)) ||| (1 : Int64)) = lN (2 * P.1 + 1) ∧ (if ¬ (lg_cmp (lN P.1 &&& (1 : Int64)) (1 : Int64)) = 0 then P.1 % 2 = 0 else P.1 % 2 = 1) := by decide +kernel
/-- the bits behind a letter -/
theorem tg_227 {ns r k P : Nat} {K : Int32 → Int64 → Int32 → Int32 → Int32 → sf_S → Option (Int32 × sf_S)} {x2 x6 x7 x8 x9 x11 c : Int32} {σ : sf_S} (hP : P < 16) : dL_plans_227 ns r K x2 (lN P) (nI k) x6 x7 x8 x9 c x11 σ = dL_plans_245 ns r K x2 (lN (2 * P + (if x9 = 0 then 0 else 1))) (nI (k + 1)) x6 x7 x8 x9 c x11 σ := by
  obtain ⟨-, b2, b3, -⟩ := tg_bits ⟨P, by omega⟩
  unfold dL_plans_227
  by_cases h : x9 = 0
  · rw [if_pos h, if_pos h, nI_1]
    simp only [] at b2
    rw [b2]; rfl
  · rw [if_neg h, if_neg h, nI_1]
    simp only [] at b3
    rw [b3]
theorem tg_245 {ns r k P : Nat} {K : Int32 → Int64 → Int32 → Int32 → Int32 → sf_S → Option (Int32 × sf_S)} {x2 x6 x7 x8 x9 c : Int32} {σ : sf_S} (hP : P < 32) : dL_plans_245 ns r K x2 (lN P) (nI k) x6 x7 x8 x9 c 1 σ = dL_plans_275 ns r K x2 (lN (2 * P + (if x9 = 0 ∧ ¬ c = 120 then 0 else 1))) (nI (k + 1)) x6 x7 x8 c σ := by
  obtain ⟨-, b2, b3, -⟩ := tg_bits ⟨P, by omega⟩
  simp only [] at b2 b3
  unfold dL_plans_245
  rw [if_neg (by decide)]
  by_cases h : x9 = 0
  · rw [if_neg (by simp only [Classical.not_not]; exact h)]
    by_cases h2 : c = 120
    · rw [if_neg (by simp only [Classical.not_not]; exact h2), if_neg (fun e => e.2 h2), nI_1, b3]
    · rw [if_pos h2, if_pos ⟨h, h2⟩, nI_1, b2]; rfl
  · rw [if_pos h, if_neg (fun e => h e.1), nI_1, b3]
theorem tg_138 {ns r : Nat} {a : Nat} {X : List Nat} {K : Int32 → Int64 → Int32 → Int32 → Int32 → sf_S → Option (Int32 × sf_S)} {x2 x6 x7 x8 c : Int32} {σ : sf_S} (hil : sc_il c = true) (hX : X.length ≤ 4) : dL_plans_138 ns r K x2 (lN (tg_P X)) (nI X.length) x6 x7 x8 (if a = 0 then 0 else 1) c (if sc_p c = 2 then 1 else 0) σ = dL_plans_275 ns r K x2 (lN (tg_P (sc_push c a X))) (nI (sc_push c a X).length) x6 x7 x8 c σ := by
  have hP : tg_P X < 16 := Nat.lt_of_lt_of_le (tg_P_lt X) (Nat.pow_le_pow_right (by omega) hX)
  have hw : (if (if a = 0 then (0 : Int32) else 1) = 0 then 0 else 1) = if a = 0 then 0 else 1 := by
    by_cases h : a = 0
    · rw [if_pos h, if_pos h, if_pos rfl]
    · rw [if_neg h, if_neg h, if_neg (by decide)]
  rcases sc_p3 c with hp | hp | hp
  · have e1 : ∀ k : Int32, sc_p k ≠ 0 → ¬ c = k := fun k hk e => hk (by rw [← e]; exact hp)
    have f2 : (if sc_p c = 2 then (1 : Int32) else 0) = 0 := if_neg (by omega)
    rw [f2]
    unfold dL_plans_138
    rw [if_neg (e1 43 (by decide +kernel)), if_neg (e1 42 (by decide +kernel)), if_neg (e1 47 (by decide +kernel)), if_neg (e1 37 (by decide +kernel)), if_neg (e1 108 (by decide +kernel)), if_neg (e1 63 (by decide +kernel)), if_neg (e1 107 (by decide +kernel)), if_neg (e1 119 (by decide +kernel)), if_neg (e1 116 (by decide +kernel)), if_pos (e1 100 (by decide +kernel)), if_neg (by decide), if_pos (by decide)]
    unfold dL_plans_245
    rw [if_pos (by decide)]
    simp only [sc_push, hp]
  · have hx : ¬ c = 120 := sc_p2n (by omega)
    have e210 : dL_plans_138 ns r K x2 (lN (tg_P X)) (nI X.length) x6 x7 x8 (if a = 0 then 0 else 1) c (if sc_p c = 2 then 1 else 0) σ = dL_plans_210 ns r K x2 (lN (tg_P X)) (nI X.length) x6 x7 x8 (if a = 0 then 0 else 1) c (if sc_p c = 2 then 1 else 0) σ := by
      unfold dL_plans_138
      by_cases h1 : c = 43
      · rw [if_pos h1]
      by_cases h2 : c = 42
      · rw [if_neg h1, if_pos h2]
      by_cases h3 : c = 47
      · rw [if_neg h1, if_neg h2, if_pos h3]
      by_cases h4 : c = 37
      · rw [if_neg h1, if_neg h2, if_neg h3, if_pos h4]
      by_cases h5 : c = 108
      · rw [if_neg h1, if_neg h2, if_neg h3, if_neg h4, if_pos h5]
      by_cases h6 : c = 63
      · rw [if_neg h1, if_neg h2, if_neg h3, if_neg h4, if_neg h5, if_pos h6]
      by_cases h7 : c = 107
      · rw [if_neg h1, if_neg h2, if_neg h3, if_neg h4, if_neg h5, if_neg h6, if_pos h7]
      by_cases h8 : c = 119
      · rw [if_neg h1, if_neg h2, if_neg h3, if_neg h4, if_neg h5, if_neg h6, if_neg h7, if_pos h8]
      by_cases h9 : c = 116
      · rw [if_neg h1, if_neg h2, if_neg h3, if_neg h4, if_neg h5, if_neg h6, if_neg h7, if_neg h8, if_pos h9]
      have h10 : c = 100 := by
        rcases sc_il_cases hil with q | q | q | q | q | q | q | q | q | q | q | q | q | q | q | q | q | q <;> first | exact q | contradiction | (rw [q] at hp; exact absurd hp (by decide +kernel))
      rw [if_neg h1, if_neg h2, if_neg h3, if_neg h4, if_neg h5, if_neg h6, if_neg h7, if_neg h8, if_neg h9, if_neg (by simp only [Classical.not_not]; exact h10)]
    have f2 : (if sc_p c = 2 then (1 : Int32) else 0) = 0 := if_neg (by omega)
    rw [e210, f2]
    unfold dL_plans_210
    rw [if_pos (by decide), tg_227 hP, hw]
    unfold dL_plans_245
    rw [if_pos (by decide)]
    simp only [sc_push, hp, tg_P, List.length_cons]
  · have e1 : ∀ k : Int32, sc_p k ≠ 2 → ¬ c = k := fun k hk e => hk (by rw [← e]; exact hp)
    have f2 : (if sc_p c = 2 then (1 : Int32) else 0) = 1 := if_pos hp
    rw [f2]
    unfold dL_plans_138
    rw [if_neg (e1 43 (by decide +kernel)), if_neg (e1 42 (by decide +kernel)), if_neg (e1 47 (by decide +kernel)), if_neg (e1 37 (by decide +kernel)), if_neg (e1 108 (by decide +kernel)), if_neg (e1 63 (by decide +kernel)), if_neg (e1 107 (by decide +kernel)), if_neg (e1 119 (by decide +kernel)), if_neg (e1 116 (by decide +kernel)), if_pos (e1 100 (by decide +kernel)), if_neg (by decide), if_neg (by decide), tg_227 hP, hw, tg_245 (by split <;> omega)]
    simp only [sc_push, hp, tg_P, List.length_cons]
    by_cases ha : a = 0
    · by_cases hx : c = 120
      · rw [if_pos ha, if_neg (fun e => e.2 hx), if_pos hx, if_neg (Nat.succ_ne_zero a)]
      · rw [if_pos ha, if_pos ha, if_pos ⟨rfl, hx⟩, if_neg hx, if_pos ha]
    · rw [if_neg ha, if_neg ha, if_neg (fun e => absurd e.1 (by decide))]
      by_cases hx : c = 120
      · rw [if_pos hx, if_neg (Nat.succ_ne_zero a)]
      · rw [if_neg hx, if_neg ha]
