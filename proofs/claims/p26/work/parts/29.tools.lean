/-! THE PURE PART. Tools: numbers, cells, frames -/
def sc_b : Bool → Int32
  | true => 1
  | false => 0
theorem sc_b0 {b : Bool} : sc_b b = 0 ↔ b = false := by cases b <;> simp [sc_b]
theorem sc_b1 {b : Bool} : sc_b b = 1 ↔ b = true := by cases b <;> simp [sc_b]
theorem sc_b01 (b : Bool) : sf_01 (sc_b b) = true := by cases b <;> rfl
theorem sc_0 : (0 : Int32) = nI 0 := by decide +kernel
theorem sc_1 : (1 : Int32) = nI 1 := by decide +kernel
theorem sc_cl {k : Nat} (h : k < 2 ^ 31) : (nI k).toNatClampNeg = k := nI_clamp h
theorem sc_inI {k m : Nat} (h : k < m) (hm : m ≤ 10000) : sf_in (nI k) m = true := by
  unfold sf_in
  rw [nI_clamp (by omega)]
  simp only [Bool.and_eq_true, Bool.not_eq_true', decide_eq_false_iff_not, decide_eq_true_eq]
  exact ⟨nI_pos (by omega), h⟩
theorem sc_of {x : Int32} {m : Nat} (h : 0 ≤ x.toInt ∧ x.toInt < m) : ∃ k, k < m ∧ x = nI k := by
  refine ⟨x.toInt.toNat, by omega, Int32.toInt_inj.mp ?_⟩
  rw [nI_toInt (by have := x.toInt_lt; omega)]
  omega
theorem sc_ofp {x : Int32} (h : 0 ≤ x.toInt) : ∃ k, k < 2 ^ 31 ∧ x = nI k := sc_of ⟨h, by have := x.toInt_lt; omega⟩
theorem sc_t0 : (0 : Int32).toInt = 0 := by decide
theorem sc_lt0 {x : Int32} : x < 0 ↔ x.toInt < 0 := by rw [Int32.lt_iff_toInt_lt, show (0 : Int32).toInt = 0 from by decide]
theorem sc_le0 {x : Int32} : 0 ≤ x ↔ 0 ≤ x.toInt := by rw [Int32.le_iff_toInt_le, show (0 : Int32).toInt = 0 from by decide]
theorem sc_mul {a b : Nat} : nI a * nI b = nI (a * b) := pk_mul a b
theorem sc_idx1 {s i : Nat} : nI s * 60 + nI i = nI (60 * s + i) := by
  rw [show (60 : Int32) = nI 60 from by decide +kernel, sc_mul, nI_add]; congr 1; omega
theorem sc_idx2 {s i : Nat} : 60 * nI s + nI i = nI (60 * s + i) := by
  rw [show (60 : Int32) = nI 60 from by decide +kernel, sc_mul, nI_add]
/-! cells -/
theorem sc_upS {σ : sf_S} {k j : Nat} {v : Int32} : sf_up σ k j v k j = v := by simp [sf_up]
theorem sc_upK {σ : sf_S} {k j a b : Nat} {v : Int32} (h : a ≠ k) : sf_up σ k j v a b = σ a b := by simp [sf_up, h]
theorem sc_upJ {σ : sf_S} {k j a b : Nat} {v : Int32} (h : b ≠ j) : sf_up σ k j v a b = σ a b := by simp [sf_up, h]
def sc_fill (σ : sf_S) (q lo hi : Nat) (v : Int32) : sf_S := fun a b => if a = q ∧ lo ≤ b ∧ b < hi then v else σ a b
theorem sc_fill_nil {σ : sf_S} {q lo hi : Nat} {v : Int32} (h : hi ≤ lo) : sc_fill σ q lo hi v = σ := by
  funext a b
  simp only [sc_fill]
  rw [if_neg (by omega)]
theorem sc_fill_step {σ : sf_S} {q lo hi : Nat} {v : Int32} (h : lo < hi) : sc_fill (sf_up σ q lo v) q (lo + 1) hi v = sc_fill σ q lo hi v := by
  funext a b
  simp only [sc_fill, sf_up]
  by_cases h1 : a = q ∧ lo ≤ b ∧ b < hi
  · rw [if_pos h1]
    by_cases h2 : b = lo
    · rw [if_neg (by omega), if_pos ⟨h1.1, h2⟩]
    · rw [if_pos ⟨h1.1, by omega, h1.2.2⟩]
  · rw [if_neg (by omega), if_neg h1, if_neg (by omega)]
/-- changed only within S -/
def sc_fr (S : Nat → Nat → Bool) (σ σ' : sf_S) : Prop := ∀ a b, S a b = false → σ' a b = σ a b
theorem sc_fr_rf {S : Nat → Nat → Bool} {σ : sf_S} : sc_fr S σ σ := fun _ _ _ => rfl
theorem sc_fr_tr {S : Nat → Nat → Bool} {σ σ1 σ2 : sf_S} (h1 : sc_fr S σ σ1) (h2 : sc_fr S σ1 σ2) : sc_fr S σ σ2 := fun a b h => (h2 a b h).trans (h1 a b h)
theorem sc_fr_up {S : Nat → Nat → Bool} {σ : sf_S} {k j : Nat} {v : Int32} (h : S k j = true) : sc_fr S σ (sf_up σ k j v) := fun a b hab => by
  simp only [sf_up]
  rw [if_neg]
  rintro ⟨rfl, rfl⟩
  rw [h] at hab; cases hab
theorem sc_fr_wk {S S' : Nat → Nat → Bool} {σ σ' : sf_S} (h : sc_fr S σ σ') (hS : ∀ a b, S' a b = false → S a b = false) : sc_fr S' σ σ' := fun a b hab => h a b (hS a b hab)
theorem sc_sheetC (x : Int32) (σ : sf_S) : dX11_isSheet x σ = some (sc_b (decide (0 ≤ x.toInt ∧ x.toInt < 4)), σ) := by
  unfold dX11_isSheet
  simp only [Int32.lt_iff_toInt_lt, Int32.le_iff_toInt_le, sc_t0, show (4 : Int32).toInt = 4 from by decide]
  repeat' split
  all_goals first | (rw [decide_eq_false (by omega)]; rfl) | (rw [decide_eq_true (by omega)]; rfl)
theorem sc_formC (x : Int32) (σ : sf_S) : dX11_isForm x σ = some (sc_b (decide (0 ≤ x.toInt ∧ x.toInt < 3)), σ) := by
  unfold dX11_isForm
  simp only [Int32.lt_iff_toInt_lt, Int32.le_iff_toInt_le, sc_t0, show (3 : Int32).toInt = 3 from by decide]
  repeat' split
  all_goals first | (rw [decide_eq_false (by omega)]; rfl) | (rw [decide_eq_true (by omega)]; rfl)
theorem sc_l0 : (0 : Int64).toInt = 0 := by decide
theorem sc_l1 : (1 : Int64).toInt = 1 := by decide
theorem sc_l2 : (2 : Int64).toInt = 2 := by decide
theorem sc_l3 : (3 : Int64).toInt = 3 := by decide
/-! plans: letters, the tree of a text in Polish notation -/
/-- how many parts a letter has -/
def sc_p (c : Int32) : Nat :=
  if c = 37 then 1 else
  if c = 42 then 1 else
  if c = 43 then 1 else
  if c = 47 then 1 else
  if c = 63 then 1 else
  if c = 99 then 2 else
  if c = 100 then 1 else
  if c = 107 then 1 else
  if c = 108 then 1 else
  if c = 116 then 1 else
  if c = 119 then 1 else
  if c = 120 then 2 else
  if c = 122 then 2 else
  0
/-- how many numbers -/
def sc_nn (c : Int32) : Nat :=
  if c = 37 then 1 else
  if c = 42 then 1 else
  if c = 43 then 1 else
  if c = 47 then 1 else
  if c = 63 then 1 else
  if c = 100 then 1 else
  if c = 105 then 2 else
  if c = 107 then 1 else
  if c = 114 then 2 else
  if c = 116 then 1 else
  if c = 119 then 1 else
  0
/-- is a letter -/
def sc_il (c : Int32) : Bool := decide (c = 105 ∨ c = 114 ∨ c = 115 ∨ c = 117 ∨ c = 118 ∨ sc_p c ≠ 0)
theorem sc_partsC (c : Int32) (σ : sf_S) : dX2_partsOf c σ = some (nI (sc_p c), σ) := by
  by_cases h37 : c = 37
  · subst h37; rfl
  by_cases h42 : c = 42
  · subst h42; rfl
  by_cases h43 : c = 43
  · subst h43; rfl
  by_cases h47 : c = 47
  · subst h47; rfl
  by_cases h63 : c = 63
  · subst h63; rfl
  by_cases h99 : c = 99
  · subst h99; rfl
  by_cases h100 : c = 100
  · subst h100; rfl
  by_cases h107 : c = 107
  · subst h107; rfl
  by_cases h108 : c = 108
  · subst h108; rfl
  by_cases h116 : c = 116
  · subst h116; rfl
  by_cases h119 : c = 119
  · subst h119; rfl
  by_cases h120 : c = 120
  · subst h120; rfl
  by_cases h122 : c = 122
  · subst h122; rfl
  simp only [dX2_partsOf, sc_p, h37, h42, h43, h47, h63, h99, h100, h107, h108, h116, h119, h120, h122, if_false]
  rfl
theorem sc_numsC (c : Int32) (σ : sf_S) : dX2_numbersOf c σ = some (nI (sc_nn c), σ) := by
  by_cases h37 : c = 37
  · subst h37; rfl
  by_cases h42 : c = 42
  · subst h42; rfl
  by_cases h43 : c = 43
  · subst h43; rfl
  by_cases h47 : c = 47
  · subst h47; rfl
  by_cases h63 : c = 63
  · subst h63; rfl
  by_cases h100 : c = 100
  · subst h100; rfl
  by_cases h105 : c = 105
  · subst h105; rfl
  by_cases h107 : c = 107
  · subst h107; rfl
  by_cases h114 : c = 114
  · subst h114; rfl
  by_cases h116 : c = 116
  · subst h116; rfl
  by_cases h119 : c = 119
  · subst h119; rfl
  simp only [dX2_numbersOf, sc_nn, h37, h42, h43, h47, h63, h100, h105, h107, h114, h116, h119, if_false]
  rfl
