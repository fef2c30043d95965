/-! plans: letters, the tree of a text in Polish notation -/
/-- how many parts a letter has -/
def sc_p (c : Int32) : Nat :=
  if c = 37 then 1 else
  if c = 42 then 1 else
  if c = 43 then 1 else
  if c = 47 then 1 else
  if c = 63 then 1 else
  if c = 99 then 2 else
  if c = 100 then 1 else
  if c = 107 then 1 else
  if c = 108 then 1 else
  if c = 116 then 1 else
  if c = 119 then 1 else
  if c = 120 then 2 else
  if c = 122 then 2 else
  0
/-- how many numbers -/
def sc_nn (c : Int32) : Nat :=
  if c = 37 then 1 else
  if c = 42 then 1 else
  if c = 43 then 1 else
  if c = 47 then 1 else
  if c = 63 then 1 else
  if c = 100 then 1 else
  if c = 105 then 2 else
  if c = 107 then 1 else
  if c = 114 then 2 else
  if c = 116 then 1 else
  if c = 119 then 1 else
  0
/-- is a letter -/
def sc_il (c : Int32) : Bool := decide (c = 105 ∨ c = 114 ∨ c = 115 ∨ c = 117 ∨ c = 118 ∨ sc_p c ≠ 0)
theorem sc_partsC (c : Int32) (σ : sf_S) : dX2_partsOf c σ = some (nI (sc_p c), σ) := by
  by_cases h37 : c = 37
  · subst h37; rfl
  by_cases h42 : c = 42
  · subst h42; rfl
  by_cases h43 : c = 43
  · subst h43; rfl
  by_cases h47 : c = 47
  · subst h47; rfl
  by_cases h63 : c = 63
  · subst h63; rfl
  by_cases h99 : c = 99
  · subst h99; rfl
  by_cases h100 : c = 100
  · subst h100; rfl
  by_cases h107 : c = 107
  · subst h107; rfl
  by_cases h108 : c = 108
  · subst h108; rfl
  by_cases h116 : c = 116
  · subst h116; rfl
  by_cases h119 : c = 119
  · subst h119; rfl
  by_cases h120 : c = 120
  · subst h120; rfl
  by_cases h122 : c = 122
  · subst h122; rfl
  simp only [dX2_partsOf, sc_p, h37, h42, h43, h47, h63, h99, h100, h107, h108, h116, h119, h120, h122, if_false]
  rfl
theorem sc_numsC (c : Int32) (σ : sf_S) : dX2_numbersOf c σ = some (nI (sc_nn c), σ) := by
  by_cases h37 : c = 37
  · subst h37; rfl
  by_cases h42 : c = 42
  · subst h42; rfl
  by_cases h43 : c = 43
  · subst h43; rfl
  by_cases h47 : c = 47
  · subst h47; rfl
  by_cases h63 : c = 63
  · subst h63; rfl
  by_cases h100 : c = 100
  · subst h100; rfl
  by_cases h105 : c = 105
  · subst h105; rfl
  by_cases h107 : c = 107
  · subst h107; rfl
  by_cases h114 : c = 114
  · subst h114; rfl
  by_cases h116 : c = 116
  · subst h116; rfl
  by_cases h119 : c = 119
  · subst h119; rfl
  simp only [dX2_numbersOf, sc_nn, h37, h42, h43, h47, h63, h100, h105, h107, h114, h116, h119, if_false]
  rfl
theorem sc_partsM (c : Int32) (σ : sf_S) : dX12_partsOf c σ = some (if sc_il c = true then nI (sc_p c) else -1, σ) := by
  by_cases h37 : c = 37
  · subst h37; rfl
  by_cases h42 : c = 42
  · subst h42; rfl
  by_cases h43 : c = 43
  · subst h43; rfl
  by_cases h47 : c = 47
  · subst h47; rfl
  by_cases h63 : c = 63
  · subst h63; rfl
  by_cases h99 : c = 99
  · subst h99; rfl
  by_cases h100 : c = 100
  · subst h100; rfl
  by_cases h105 : c = 105
  · subst h105; rfl
  by_cases h107 : c = 107
  · subst h107; rfl
  by_cases h108 : c = 108
  · subst h108; rfl
  by_cases h114 : c = 114
  · subst h114; rfl
  by_cases h115 : c = 115
  · subst h115; rfl
  by_cases h116 : c = 116
  · subst h116; rfl
  by_cases h117 : c = 117
  · subst h117; rfl
  by_cases h118 : c = 118
  · subst h118; rfl
  by_cases h119 : c = 119
  · subst h119; rfl
  by_cases h120 : c = 120
  · subst h120; rfl
  by_cases h122 : c = 122
  · subst h122; rfl
  simp only [dX12_partsOf, sc_p, sc_il, h37, h42, h43, h47, h63, h99, h100, h105, h107, h108, h114, h115, h116, h117, h118, h119, h120, h122, if_false]
  rfl
