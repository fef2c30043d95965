/-! THE PURE PART. Tools: numbers, cells, frames -/
def sc_b : Bool → Int32
  | true => 1
  | false => 0
theorem sc_b0 {b : Bool} : sc_b b = 0 ↔ b = false := by cases b <;> simp [sc_b]
theorem sc_b1 {b : Bool} : sc_b b = 1 ↔ b = true := by cases b <;> simp [sc_b]
theorem sc_b01 (b : Bool) : sf_01 (sc_b b) = true := by cases b <;> rfl
theorem sc_0 : (0 : Int32) = nI 0 := by decide +kernel
theorem sc_1 : (1 : Int32) = nI 1 := by decide +kernel
theorem sc_cl {k : Nat} (h : k < 2 ^ 31) : (nI k).toNatClampNeg = k := nI_clamp h
theorem sc_inI {k m : Nat} (h : k < m) (hm : m ≤ 10000) : sf_in (nI k) m = true := by
  unfold sf_in
  rw [nI_clamp (by omega)]
  simp only [Bool.and_eq_true, Bool.not_eq_true', decide_eq_false_iff_not, decide_eq_true_eq]
  exact ⟨nI_pos (by omega), h⟩
theorem sc_of {x : Int32} {m : Nat} (h : 0 ≤ x.toInt ∧ x.toInt < m) : ∃ k, k < m ∧ x = nI k := by
  refine ⟨x.toInt.toNat, by omega, Int32.toInt_inj.mp ?_⟩
  rw [nI_toInt (by have := x.toInt_lt; omega)]
  omega
theorem sc_ofp {x : Int32} (h : 0 ≤ x.toInt) : ∃ k, k < 2 ^ 31 ∧ x = nI k := sc_of ⟨h, by have := x.toInt_lt; omega⟩
theorem sc_t0 : (0 : Int32).toInt = 0 := by decide
theorem sc_lt0 {x : Int32} : x < 0 ↔ x.toInt < 0 := by rw [Int32.lt_iff_toInt_lt, show (0 : Int32).toInt = 0 from by decide]
theorem sc_le0 {x : Int32} : 0 ≤ x ↔ 0 ≤ x.toInt := by rw [Int32.le_iff_toInt_le, show (0 : Int32).toInt = 0 from by decide]
theorem sc_mul {a b : Nat} : nI a * nI b = nI (a * b) := pk_mul a b
theorem sc_idx1 {s i : Nat} : nI s * 60 + nI i = nI (60 * s + i) := by
  rw [show (60 : Int32) = nI 60 from by decide +kernel, sc_mul, nI_add]; congr 1; omega
theorem sc_idx2 {s i : Nat} : 60 * nI s + nI i = nI (60 * s + i) := by
  rw [show (60 : Int32) = nI 60 from by decide +kernel, sc_mul, nI_add]
/-! cells -/
theorem sc_upS {σ : sf_S} {k j : Nat} {v : Int32} : sf_up σ k j v k j = v := by simp [sf_up]
theorem sc_upK {σ : sf_S} {k j a b : Nat} {v : Int32} (h : a ≠ k) : sf_up σ k j v a b = σ a b := by simp [sf_up, h]
theorem sc_upJ {σ : sf_S} {k j a b : Nat} {v : Int32} (h : b ≠ j) : sf_up σ k j v a b = σ a b := by simp [sf_up, h]
def sc_fill (σ : sf_S) (q lo hi : Nat) (v : Int32) : sf_S := fun a b => if a = q ∧ lo ≤ b ∧ b < hi then v else σ a b
theorem sc_fill_nil {σ : sf_S} {q lo hi : Nat} {v : Int32} (h : hi ≤ lo) : sc_fill σ q lo hi v = σ := by
  funext a b
  simp only [sc_fill]
  rw [if_neg (by omega)]
theorem sc_fill_step {σ : sf_S} {q lo hi : Nat} {v : Int32} (h : lo < hi) : sc_fill (sf_up σ q lo v) q (lo + 1) hi v = sc_fill σ q lo hi v := by
  funext a b
  simp only [sc_fill, sf_up]
  by_cases h1 : a = q ∧ lo ≤ b ∧ b < hi
  · rw [if_pos h1]
    by_cases h2 : b = lo
    · rw [if_neg (by omega), if_pos ⟨h1.1, h2⟩]
    · rw [if_pos ⟨h1.1, by omega, h1.2.2⟩]
  · rw [if_neg (by omega), if_neg h1, if_neg (by omega)]
/-- changed only within S -/
def sc_fr (S : Nat → Nat → Bool) (σ σ' : sf_S) : Prop := ∀ a b, S a b = false → σ' a b = σ a b
theorem sc_fr_rf {S : Nat → Nat → Bool} {σ : sf_S} : sc_fr S σ σ := fun _ _ _ => rfl
theorem sc_fr_tr {S : Nat → Nat → Bool} {σ σ1 σ2 : sf_S} (h1 : sc_fr S σ σ1) (h2 : sc_fr S σ1 σ2) : sc_fr S σ σ2 := fun a b h => (h2 a b h).trans (h1 a b h)
theorem sc_fr_up {S : Nat → Nat → Bool} {σ : sf_S} {k j : Nat} {v : Int32} (h : S k j = true) : sc_fr S σ (sf_up σ k j v) := fun a b hab => by
  simp only [sf_up]
  rw [if_neg]
  rintro ⟨rfl, rfl⟩
  rw [h] at hab; cases hab
theorem sc_fr_wk {S S' : Nat → Nat → Bool} {σ σ' : sf_S} (h : sc_fr S σ σ') (hS : ∀ a b, S' a b = false → S a b = false) : sc_fr S' σ σ' := fun a b hab => h a b (hS a b hab)
/-- both sides come to an end with the same answer -/
def sc_pr {α : Type} (S T : Nat → Nat → Bool) (R : sf_S → sf_S → Prop) (σ τ : sf_S) (x y : Option (α × sf_S)) : Prop := ∃ a σ' τ', x = some (a, σ') ∧ y = some (a, τ') ∧ sc_fr S σ σ' ∧ sc_fr T τ τ' ∧ R σ' τ'
theorem sc_pr_i {α : Type} {S T : Nat → Nat → Bool} {R : sf_S → sf_S → Prop} {σ τ σ' τ' : sf_S} {x y : Option (α × sf_S)} (a : α) (h1 : x = some (a, σ')) (h2 : y = some (a, τ')) (h3 : sc_fr S σ σ') (h4 : sc_fr T τ τ') (h5 : R σ' τ') : sc_pr S T R σ τ x y := ⟨a, σ', τ', h1, h2, h3, h4, h5⟩
/-! the little static methods -/
theorem sc_in12 (a b c : Int64) (τ : sf_S) : dX12_in a b c τ = some (sc_b (decide (b.toInt ≤ a.toInt ∧ a.toInt ≤ c.toInt)), τ) := by
  unfold dX12_in
  simp only [lg_cmp_lt, lg_cmp_gt, Int64.lt_iff_toInt_lt]
  split
  · rw [decide_eq_false (by omega)]; rfl
  · split
    · rw [decide_eq_false (by omega)]; rfl
    · rw [decide_eq_true (by omega)]; rfl
theorem sc_l0 : (0 : Int64).toInt = 0 := by decide
theorem sc_l1 : (1 : Int64).toInt = 1 := by decide
theorem sc_l2 : (2 : Int64).toInt = 2 := by decide
theorem sc_l3 : (3 : Int64).toInt = 3 := by decide
theorem sc_sheetC (x : Int32) (σ : sf_S) : dX11_isSheet x σ = some (sc_b (decide (0 ≤ x.toInt ∧ x.toInt < 4)), σ) := by
  unfold dX11_isSheet
  simp only [Int32.lt_iff_toInt_lt, Int32.le_iff_toInt_le, sc_t0, show (4 : Int32).toInt = 4 from by decide]
  repeat' split
  all_goals first | (rw [decide_eq_false (by omega)]; rfl) | (rw [decide_eq_true (by omega)]; rfl)
theorem sc_formC (x : Int32) (σ : sf_S) : dX11_isForm x σ = some (sc_b (decide (0 ≤ x.toInt ∧ x.toInt < 3)), σ) := by
  unfold dX11_isForm
  simp only [Int32.lt_iff_toInt_lt, Int32.le_iff_toInt_le, sc_t0, show (3 : Int32).toInt = 3 from by decide]
  repeat' split
  all_goals first | (rw [decide_eq_false (by omega)]; rfl) | (rw [decide_eq_true (by omega)]; rfl)
theorem sc_sheetM (x : Int32) (τ : sf_S) : dX12_isSheet x τ = some (sc_b (decide (0 ≤ x.toInt ∧ x.toInt < 4)), τ) := by
  unfold dX12_isSheet
  rw [sc_in12, Int32.toInt_toInt64, sc_l0, sc_l3]
  simp only [Option.bind_some, sc_b01, if_true]
  congr 3
  exact decide_eq_decide.mpr (by omega)
theorem sc_formM (x : Int32) (τ : sf_S) : dX12_in x.toInt64 0 2 τ = some (sc_b (decide (0 ≤ x.toInt ∧ x.toInt < 3)), τ) := by
  rw [sc_in12, Int32.toInt_toInt64, sc_l0, sc_l2]
  congr 3
  exact decide_eq_decide.mpr (by omega)
