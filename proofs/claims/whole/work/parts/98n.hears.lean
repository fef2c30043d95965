/-! what the reference hears, letter by letter -/
theorem sc_hrF0 {X : sc_X} {σ τ : sf_S} {k : Nat} (h : sc_Cy X σ τ) (hk : k < X.n) (hL : X.L k = 63 ∨ X.L k = 107) (h5 : τ 0 45 = 0) : dX12_hears (nI k) τ = some (-1, τ) := by
  have hL0 := hL
  obtain ⟨r1, r2, r3, r4⟩ := h.r1 k hk
  obtain ⟨r5, r6, r7, r8, r9⟩ := h.r5 k hk
  unfold dX12_hears
  simp only [h.nin hk, if_true, h.ncl hk, r1]
  rcases hL with hL | hL
  · rw [hL, if_pos (show (63 : Int32) = 63 from rfl)]
    rw [if_pos h5]
  · rw [hL, if_neg (show ¬ (107 : Int32) = 63 by decide), if_neg (show ¬ (107 : Int32) = 99 by decide), if_neg (show ¬ (107 : Int32) = 100 by decide), if_pos (show (107 : Int32) = 107 from rfl)]
    rw [if_pos h5]
theorem sc_hrF1 {X : sc_X} {σ τ : sf_S} {k : Nat} (h : sc_Cy X σ τ) (hk : k < X.n) (hL : X.L k = 63 ∨ X.L k = 107) (h5 : τ 0 45 = 1) (hp : dX12_passes (nI k) (τ 0 46) τ = some (1, τ)) : dX12_hears (nI k) τ = some (-1, τ) := by
  have hL0 := hL
  obtain ⟨r1, r2, r3, r4⟩ := h.r1 k hk
  obtain ⟨r5, r6, r7, r8, r9⟩ := h.r5 k hk
  unfold dX12_hears
  simp only [h.nin hk, if_true, h.ncl hk, r1]
  rcases hL with hL | hL
  · rw [hL, if_pos (show (63 : Int32) = 63 from rfl)]
    rw [if_neg (by rw [h5]; decide), hp]
    rfl
  · rw [hL, if_neg (show ¬ (107 : Int32) = 63 by decide), if_neg (show ¬ (107 : Int32) = 99 by decide), if_neg (show ¬ (107 : Int32) = 100 by decide), if_pos (show (107 : Int32) = 107 from rfl)]
    rw [if_neg (by rw [h5]; decide), hp]
    rfl
theorem sc_hrF2 {X : sc_X} {σ τ : sf_S} {k : Nat} (h : sc_Cy X σ τ) (hk : k < X.n) (hL : X.L k = 63 ∨ X.L k = 107) (h5 : τ 0 45 = 1) (hp : dX12_passes (nI k) (τ 0 46) τ = some (0, τ)) : dX12_hears (nI k) τ = some (nI (sc_ps X.L X.E k), τ) := by
  have hL0 := hL
  obtain ⟨r1, r2, r3, r4⟩ := h.r1 k hk
  obtain ⟨r5, r6, r7, r8, r9⟩ := h.r5 k hk
  unfold dX12_hears
  simp only [h.nin hk, if_true, h.ncl hk, r1]
  rcases hL with hL | hL
  · rw [hL, if_pos (show (63 : Int32) = 63 from rfl)]
    rw [if_neg (by rw [h5]; decide), hp]
    simp only [Option.bind_some]
    rw [if_neg (show ¬ ¬ True by simp), r6]
  · rw [hL, if_neg (show ¬ (107 : Int32) = 63 by decide), if_neg (show ¬ (107 : Int32) = 99 by decide), if_neg (show ¬ (107 : Int32) = 100 by decide), if_pos (show (107 : Int32) = 107 from rfl)]
    rw [if_neg (by rw [h5]; decide), hp]
    simp only [Option.bind_some]
    rw [if_neg (show ¬ ¬ True by simp), r6]
theorem sc_hrW0 {X : sc_X} {σ τ : sf_S} {k : Nat} (h : sc_Cy X σ τ) (hk : k < X.n) (hL : X.L k = 119) (h5 : τ 0 45 = 0) : dX12_hears (nI k) τ = some (-1, τ) := by
  obtain ⟨r1, r2, r3, r4⟩ := h.r1 k hk
  obtain ⟨r5, r6, r7, r8, r9⟩ := h.r5 k hk
  unfold dX12_hears
  simp only [h.nin hk, if_true, h.ncl hk, r1]
  rw [hL, if_neg (show ¬ (119 : Int32) = 63 by decide), if_neg (show ¬ (119 : Int32) = 99 by decide), if_neg (show ¬ (119 : Int32) = 100 by decide), if_neg (show ¬ (119 : Int32) = 107 by decide), if_neg (show ¬ (119 : Int32) = 116 by decide), if_pos (show (119 : Int32) = 119 from rfl)]
  rw [if_pos h5]
theorem sc_hrW1 {X : sc_X} {σ τ : sf_S} {k : Nat} (h : sc_Cy X σ τ) (hk : k < X.n) (hL : X.L k = 119) (h5 : τ 0 45 = 1) (hp : dX12_passes (nI k) (τ 0 46) τ = some (1, τ)) : dX12_hears (nI k) τ = some (-1, τ) := by
  obtain ⟨r1, r2, r3, r4⟩ := h.r1 k hk
  obtain ⟨r5, r6, r7, r8, r9⟩ := h.r5 k hk
  unfold dX12_hears
  simp only [h.nin hk, if_true, h.ncl hk, r1]
  rw [hL, if_neg (show ¬ (119 : Int32) = 63 by decide), if_neg (show ¬ (119 : Int32) = 99 by decide), if_neg (show ¬ (119 : Int32) = 100 by decide), if_neg (show ¬ (119 : Int32) = 107 by decide), if_neg (show ¬ (119 : Int32) = 116 by decide), if_pos (show (119 : Int32) = 119 from rfl)]
  rw [if_neg (by rw [h5]; decide), hp]
  rfl
theorem sc_hrW2 {X : sc_X} {σ τ : sf_S} {k : Nat} (h : sc_Cy X σ τ) (hk : k < X.n) (hL : X.L k = 119) (h5 : τ 0 45 = 1) (hp : dX12_passes (nI k) (τ 0 46) τ = some (0, τ)) : dX12_hears (nI k) τ = some (-1, sf_up (sf_up τ 0 45 0) 24 k 1) := by
  obtain ⟨r1, r2, r3, r4⟩ := h.r1 k hk
  obtain ⟨r5, r6, r7, r8, r9⟩ := h.r5 k hk
  unfold dX12_hears
  simp only [h.nin hk, if_true, h.ncl hk, r1]
  rw [hL, if_neg (show ¬ (119 : Int32) = 63 by decide), if_neg (show ¬ (119 : Int32) = 99 by decide), if_neg (show ¬ (119 : Int32) = 100 by decide), if_neg (show ¬ (119 : Int32) = 107 by decide), if_neg (show ¬ (119 : Int32) = 116 by decide), if_pos (show (119 : Int32) = 119 from rfl)]
  rw [if_neg (by rw [h5]; decide), hp]
  rfl
theorem sc_hrT0 {X : sc_X} {σ τ : sf_S} {k : Nat} (h : sc_Cy X σ τ) (hk : k < X.n) (hL : X.L k = 116) (h5 : τ 0 45 = 0) : dX12_hears (nI k) τ = some (-1, sf_up τ 24 k (τ 24 k + 0)) := by
  obtain ⟨r1, r2, r3, r4⟩ := h.r1 k hk
  obtain ⟨r5, r6, r7, r8, r9⟩ := h.r5 k hk
  unfold dX12_hears
  simp only [h.nin hk, if_true, h.ncl hk, r1]
  rw [hL, if_neg (show ¬ (116 : Int32) = 63 by decide), if_neg (show ¬ (116 : Int32) = 99 by decide), if_neg (show ¬ (116 : Int32) = 100 by decide), if_neg (show ¬ (116 : Int32) = 107 by decide), if_pos (show (116 : Int32) = 116 from rfl)]
  rw [if_pos h5]
theorem sc_hrT1 {X : sc_X} {σ τ : sf_S} {k : Nat} (h : sc_Cy X σ τ) (hk : k < X.n) (hL : X.L k = 116) (h5 : τ 0 45 = 1) : dX12_hears (nI k) τ = some (-1, sf_up τ 24 k (τ 24 k + 1)) := by
  obtain ⟨r1, r2, r3, r4⟩ := h.r1 k hk
  obtain ⟨r5, r6, r7, r8, r9⟩ := h.r5 k hk
  unfold dX12_hears
  simp only [h.nin hk, if_true, h.ncl hk, r1]
  rw [hL, if_neg (show ¬ (116 : Int32) = 63 by decide), if_neg (show ¬ (116 : Int32) = 99 by decide), if_neg (show ¬ (116 : Int32) = 100 by decide), if_neg (show ¬ (116 : Int32) = 107 by decide), if_pos (show (116 : Int32) = 116 from rfl)]
  rw [if_neg (by rw [h5]; decide)]
theorem sc_hrD0 {X : sc_X} {σ τ : sf_S} {k : Nat} (h : sc_Cy X σ τ) (hk : k < X.n) (hL : X.L k = 100) (h5 : τ 0 45 = 0) : dX12_hears (nI k) τ = some (-1, τ) := by
  obtain ⟨r1, r2, r3, r4⟩ := h.r1 k hk
  obtain ⟨r5, r6, r7, r8, r9⟩ := h.r5 k hk
  unfold dX12_hears
  simp only [h.nin hk, if_true, h.ncl hk, r1]
  rw [hL, if_neg (show ¬ (100 : Int32) = 63 by decide), if_neg (show ¬ (100 : Int32) = 99 by decide), if_pos (show (100 : Int32) = 100 from rfl)]
  rw [if_pos h5]
theorem sc_hrD1 {X : sc_X} {σ τ : sf_S} {k : Nat} (h : sc_Cy X σ τ) (hk : k < X.n) (hL : X.L k = 100) (h5 : τ 0 45 = 1) (hd : τ 24 k ≤ 0) : dX12_hears (nI k) τ = some (-1, τ) := by
  obtain ⟨r1, r2, r3, r4⟩ := h.r1 k hk
  obtain ⟨r5, r6, r7, r8, r9⟩ := h.r5 k hk
  unfold dX12_hears
  simp only [h.nin hk, if_true, h.ncl hk, r1]
  rw [hL, if_neg (show ¬ (100 : Int32) = 63 by decide), if_neg (show ¬ (100 : Int32) = 99 by decide), if_pos (show (100 : Int32) = 100 from rfl)]
  rw [if_neg (by rw [h5]; decide), if_pos hd]
theorem sc_hrD2 {X : sc_X} {σ τ : sf_S} {k : Nat} (h : sc_Cy X σ τ) (hk : k < X.n) (hL : X.L k = 100) (h5 : τ 0 45 = 1) (hd : ¬ τ 24 k ≤ 0) : dX12_hears (nI k) τ = some (nI (sc_ps X.L X.E k), sf_up τ 24 k (τ 24 k - 1)) := by
  obtain ⟨r1, r2, r3, r4⟩ := h.r1 k hk
  obtain ⟨r5, r6, r7, r8, r9⟩ := h.r5 k hk
  unfold dX12_hears
  simp only [h.nin hk, if_true, h.ncl hk, r1]
  rw [hL, if_neg (show ¬ (100 : Int32) = 63 by decide), if_neg (show ¬ (100 : Int32) = 99 by decide), if_pos (show (100 : Int32) = 100 from rfl)]
  rw [if_neg (by rw [h5]; decide), if_neg hd, sc_upK (by decide), r6]
theorem sc_hrC1 {X : sc_X} {σ τ : sf_S} {k : Nat} (h : sc_Cy X σ τ) (hk : k < X.n) (hL : X.L k = 99) (h5 : τ 0 45 = 1) : dX12_hears (nI k) τ = some (-1, τ) := by
  obtain ⟨r1, r2, r3, r4⟩ := h.r1 k hk
  obtain ⟨r5, r6, r7, r8, r9⟩ := h.r5 k hk
  unfold dX12_hears
  simp only [h.nin hk, if_true, h.ncl hk, r1]
  rw [hL, if_neg (show ¬ (99 : Int32) = 63 by decide), if_pos (show (99 : Int32) = 99 from rfl)]
  rw [if_pos (by rw [h5]; decide)]
theorem sc_hrC0 {X : sc_X} {σ τ : sf_S} {k : Nat} (h : sc_Cy X σ τ) (hk : k < X.n) (hL : X.L k = 99) (h5 : τ 0 45 = 0) (hd : τ 24 k = 0) : dX12_hears (nI k) τ = some (nI (sc_qs X.L X.E k), sf_up τ 24 k 1) := by
  obtain ⟨r1, r2, r3, r4⟩ := h.r1 k hk
  obtain ⟨r5, r6, r7, r8, r9⟩ := h.r5 k hk
  unfold dX12_hears
  simp only [h.nin hk, if_true, h.ncl hk, r1]
  rw [hL, if_neg (show ¬ (99 : Int32) = 63 by decide), if_pos (show (99 : Int32) = 99 from rfl)]
  rw [if_neg (by rw [h5]; decide), if_neg (by rw [hd]; decide), sc_upK (by decide), r7]
theorem sc_hrC2 {X : sc_X} {σ τ : sf_S} {k : Nat} (h : sc_Cy X σ τ) (hk : k < X.n) (hL : X.L k = 99) (h5 : τ 0 45 = 0) (hd : τ 24 k = 1) : dX12_hears (nI k) τ = some (-1, τ) := by
  obtain ⟨r1, r2, r3, r4⟩ := h.r1 k hk
  obtain ⟨r5, r6, r7, r8, r9⟩ := h.r5 k hk
  unfold dX12_hears
  simp only [h.nin hk, if_true, h.ncl hk, r1]
  rw [hL, if_neg (show ¬ (99 : Int32) = 63 by decide), if_pos (show (99 : Int32) = 99 from rfl)]
  rw [if_neg (by rw [h5]; decide), if_pos (by rw [hd]; decide)]
theorem sc_hrX0 {X : sc_X} {σ τ : sf_S} {k : Nat} (h : sc_Cy X σ τ) (hk : k < X.n) (hL : X.L k = 120) (h5 : τ 0 45 = 0) (hd : τ 24 k = 0) : dX12_hears (nI k) τ = some (-1, τ) := by
  obtain ⟨r1, r2, r3, r4⟩ := h.r1 k hk
  obtain ⟨r5, r6, r7, r8, r9⟩ := h.r5 k hk
  unfold dX12_hears
  simp only [h.nin hk, if_true, h.ncl hk, r1]
  rw [hL, if_neg (show ¬ (120 : Int32) = 63 by decide), if_neg (show ¬ (120 : Int32) = 99 by decide), if_neg (show ¬ (120 : Int32) = 100 by decide), if_neg (show ¬ (120 : Int32) = 107 by decide), if_neg (show ¬ (120 : Int32) = 116 by decide), if_neg (show ¬ (120 : Int32) = 119 by decide), if_pos (show (120 : Int32) = 120 from rfl)]
  unfold dX12_hearsOpen dX12_hearsOpen_27
  simp only [h.nin hk, if_true, h.ncl hk]
  rw [if_pos (by rw [hd]; decide), if_pos h5]
  rfl
theorem sc_hrX1 {X : sc_X} {σ τ : sf_S} {k : Nat} (h : sc_Cy X σ τ) (hk : k < X.n) (hL : X.L k = 120) {τ' : sf_S} (h5 : τ 0 45 = 1) (hd : τ 24 k = 0) (ho : dX12_opensFor (nI k) (τ 0 46) τ = some τ') (h17 : τ' 17 k = τ 17 k) : dX12_hears (nI k) τ = some (nI (sc_qs X.L X.E k), τ') := by
  obtain ⟨r1, r2, r3, r4⟩ := h.r1 k hk
  obtain ⟨r5, r6, r7, r8, r9⟩ := h.r5 k hk
  unfold dX12_hears
  simp only [h.nin hk, if_true, h.ncl hk, r1]
  rw [hL, if_neg (show ¬ (120 : Int32) = 63 by decide), if_neg (show ¬ (120 : Int32) = 99 by decide), if_neg (show ¬ (120 : Int32) = 100 by decide), if_neg (show ¬ (120 : Int32) = 107 by decide), if_neg (show ¬ (120 : Int32) = 116 by decide), if_neg (show ¬ (120 : Int32) = 119 by decide), if_pos (show (120 : Int32) = 120 from rfl)]
  unfold dX12_hearsOpen dX12_hearsOpen_27
  simp only [h.nin hk, if_true, h.ncl hk]
  rw [if_pos (by rw [hd]; decide), if_neg (by rw [h5]; decide), ho]
  simp only [Option.bind_some]
  rw [h17, r7]
theorem sc_hrX2 {X : sc_X} {σ τ : sf_S} {k : Nat} (h : sc_Cy X σ τ) (hk : k < X.n) (hL : X.L k = 120) (h5 : τ 0 45 = 1) (hd : τ 24 k = 1) : dX12_hears (nI k) τ = some (-1, sf_up τ 24 k 1) := by
  obtain ⟨r1, r2, r3, r4⟩ := h.r1 k hk
  obtain ⟨r5, r6, r7, r8, r9⟩ := h.r5 k hk
  unfold dX12_hears
  simp only [h.nin hk, if_true, h.ncl hk, r1]
  rw [hL, if_neg (show ¬ (120 : Int32) = 63 by decide), if_neg (show ¬ (120 : Int32) = 99 by decide), if_neg (show ¬ (120 : Int32) = 100 by decide), if_neg (show ¬ (120 : Int32) = 107 by decide), if_neg (show ¬ (120 : Int32) = 116 by decide), if_neg (show ¬ (120 : Int32) = 119 by decide), if_pos (show (120 : Int32) = 120 from rfl)]
  unfold dX12_hearsOpen dX12_hearsOpen_27
  simp only [h.nin hk, if_true, h.ncl hk]
  rw [if_neg (by rw [hd]; decide), if_neg (by rw [h5]; decide), if_neg (by rw [sc_upK (by decide), h5]; decide)]
  rfl
theorem sc_hrX3 {X : sc_X} {σ τ : sf_S} {k : Nat} (h : sc_Cy X σ τ) (hk : k < X.n) (hL : X.L k = 120) (h5 : τ 0 45 = 0) (hd : τ 24 k = 1) : dX12_hears (nI k) τ = some (nI (sc_ps X.L X.E k), sf_up τ 24 k 0) := by
  obtain ⟨r1, r2, r3, r4⟩ := h.r1 k hk
  obtain ⟨r5, r6, r7, r8, r9⟩ := h.r5 k hk
  unfold dX12_hears
  simp only [h.nin hk, if_true, h.ncl hk, r1]
  rw [hL, if_neg (show ¬ (120 : Int32) = 63 by decide), if_neg (show ¬ (120 : Int32) = 99 by decide), if_neg (show ¬ (120 : Int32) = 100 by decide), if_neg (show ¬ (120 : Int32) = 107 by decide), if_neg (show ¬ (120 : Int32) = 116 by decide), if_neg (show ¬ (120 : Int32) = 119 by decide), if_pos (show (120 : Int32) = 120 from rfl)]
  unfold dX12_hearsOpen dX12_hearsOpen_27
  simp only [h.nin hk, if_true, h.ncl hk]
  rw [if_neg (by rw [hd]; decide), if_pos h5, if_pos (by rw [sc_upK (by decide)]; exact h5), sc_upK (by decide), r6]
  rfl
theorem sc_hrZ0 {X : sc_X} {σ τ : sf_S} {k : Nat} (h : sc_Cy X σ τ) (hk : k < X.n) (hL : X.L k = 122) (h5 : τ 0 45 = 0) : dX12_hears (nI k) τ = some (-1, τ) := by
  obtain ⟨r1, r2, r3, r4⟩ := h.r1 k hk
  obtain ⟨r5, r6, r7, r8, r9⟩ := h.r5 k hk
  unfold dX12_hears
  simp only [h.nin hk, if_true, h.ncl hk, r1]
  rw [hL, if_neg (show ¬ (122 : Int32) = 63 by decide), if_neg (show ¬ (122 : Int32) = 99 by decide), if_neg (show ¬ (122 : Int32) = 100 by decide), if_neg (show ¬ (122 : Int32) = 107 by decide), if_neg (show ¬ (122 : Int32) = 116 by decide), if_neg (show ¬ (122 : Int32) = 119 by decide), if_neg (show ¬ (122 : Int32) = 120 by decide), if_pos (show (122 : Int32) = 122 from rfl)]
  unfold dX12_hearsOne
  rw [if_neg (by rw [h5]; decide)]
  rfl
theorem sc_hrZ1 {X : sc_X} {σ τ : sf_S} {k : Nat} (h : sc_Cy X σ τ) (hk : k < X.n) (hL : X.L k = 122) (h5 : τ 0 45 = 1) (hd : τ 24 k = 0) : dX12_hears (nI k) τ = some (nI (sc_qs X.L X.E k), sf_up (sf_up τ 25 k (τ 0 46)) 24 k 1) := by
  obtain ⟨r1, r2, r3, r4⟩ := h.r1 k hk
  obtain ⟨r5, r6, r7, r8, r9⟩ := h.r5 k hk
  unfold dX12_hears
  simp only [h.nin hk, if_true, h.ncl hk, r1]
  rw [hL, if_neg (show ¬ (122 : Int32) = 63 by decide), if_neg (show ¬ (122 : Int32) = 99 by decide), if_neg (show ¬ (122 : Int32) = 100 by decide), if_neg (show ¬ (122 : Int32) = 107 by decide), if_neg (show ¬ (122 : Int32) = 116 by decide), if_neg (show ¬ (122 : Int32) = 119 by decide), if_neg (show ¬ (122 : Int32) = 120 by decide), if_pos (show (122 : Int32) = 122 from rfl)]
  unfold dX12_hearsOne
  simp only [h.nin hk, if_true, h.ncl hk]
  rw [if_pos (by rw [h5]; decide), if_neg (by rw [hd]; decide), sc_upK (by decide), sc_upK (by decide), r7]
  rfl
theorem sc_hrZ2 {X : sc_X} {σ τ : sf_S} {k : Nat} (h : sc_Cy X σ τ) (hk : k < X.n) (hL : X.L k = 122) {v : Int32} (h5 : τ 0 45 = 1) (hd : τ 24 k = 1) (hj : dX12_joined (nI k) (τ 25 k) (τ 0 46) τ = some (v, τ)) : dX12_hears (nI k) τ = some (-1, sf_up τ 0 46 v) := by
  obtain ⟨r1, r2, r3, r4⟩ := h.r1 k hk
  obtain ⟨r5, r6, r7, r8, r9⟩ := h.r5 k hk
  unfold dX12_hears
  simp only [h.nin hk, if_true, h.ncl hk, r1]
  rw [hL, if_neg (show ¬ (122 : Int32) = 63 by decide), if_neg (show ¬ (122 : Int32) = 99 by decide), if_neg (show ¬ (122 : Int32) = 100 by decide), if_neg (show ¬ (122 : Int32) = 107 by decide), if_neg (show ¬ (122 : Int32) = 116 by decide), if_neg (show ¬ (122 : Int32) = 119 by decide), if_neg (show ¬ (122 : Int32) = 120 by decide), if_pos (show (122 : Int32) = 122 from rfl)]
  unfold dX12_hearsOne
  simp only [h.nin hk, if_true, h.ncl hk]
  rw [if_pos (by rw [h5]; decide), if_pos (by rw [hd]; decide), hj]
  rfl
theorem sc_hrU0 {X : sc_X} {σ τ : sf_S} {k : Nat} (h : sc_Cy X σ τ) (hk : k < X.n) (hL : X.L k = 37 ∨ X.L k = 42 ∨ X.L k = 43 ∨ X.L k = 47 ∨ X.L k = 108) (h5 : τ 0 45 = 0) : dX12_hears (nI k) τ = some (-1, sf_up τ 0 46 (τ 0 46)) := by
  obtain ⟨r1, r2, r3, r4⟩ := h.r1 k hk
  obtain ⟨r5, r6, r7, r8, r9⟩ := h.r5 k hk
  unfold dX12_hears
  simp only [h.nin hk, if_true, h.ncl hk, r1]
  rcases hL with hL | hL | hL | hL | hL
  · rw [hL, if_neg (show ¬ (37 : Int32) = 63 by decide), if_neg (show ¬ (37 : Int32) = 99 by decide), if_neg (show ¬ (37 : Int32) = 100 by decide), if_neg (show ¬ (37 : Int32) = 107 by decide), if_neg (show ¬ (37 : Int32) = 116 by decide), if_neg (show ¬ (37 : Int32) = 119 by decide), if_neg (show ¬ (37 : Int32) = 120 by decide), if_neg (show ¬ (37 : Int32) = 122 by decide)]
    rw [if_pos h5]
  · rw [hL, if_neg (show ¬ (42 : Int32) = 63 by decide), if_neg (show ¬ (42 : Int32) = 99 by decide), if_neg (show ¬ (42 : Int32) = 100 by decide), if_neg (show ¬ (42 : Int32) = 107 by decide), if_neg (show ¬ (42 : Int32) = 116 by decide), if_neg (show ¬ (42 : Int32) = 119 by decide), if_neg (show ¬ (42 : Int32) = 120 by decide), if_neg (show ¬ (42 : Int32) = 122 by decide)]
    rw [if_pos h5]
  · rw [hL, if_neg (show ¬ (43 : Int32) = 63 by decide), if_neg (show ¬ (43 : Int32) = 99 by decide), if_neg (show ¬ (43 : Int32) = 100 by decide), if_neg (show ¬ (43 : Int32) = 107 by decide), if_neg (show ¬ (43 : Int32) = 116 by decide), if_neg (show ¬ (43 : Int32) = 119 by decide), if_neg (show ¬ (43 : Int32) = 120 by decide), if_neg (show ¬ (43 : Int32) = 122 by decide)]
    rw [if_pos h5]
  · rw [hL, if_neg (show ¬ (47 : Int32) = 63 by decide), if_neg (show ¬ (47 : Int32) = 99 by decide), if_neg (show ¬ (47 : Int32) = 100 by decide), if_neg (show ¬ (47 : Int32) = 107 by decide), if_neg (show ¬ (47 : Int32) = 116 by decide), if_neg (show ¬ (47 : Int32) = 119 by decide), if_neg (show ¬ (47 : Int32) = 120 by decide), if_neg (show ¬ (47 : Int32) = 122 by decide)]
    rw [if_pos h5]
  · rw [hL, if_neg (show ¬ (108 : Int32) = 63 by decide), if_neg (show ¬ (108 : Int32) = 99 by decide), if_neg (show ¬ (108 : Int32) = 100 by decide), if_neg (show ¬ (108 : Int32) = 107 by decide), if_neg (show ¬ (108 : Int32) = 116 by decide), if_neg (show ¬ (108 : Int32) = 119 by decide), if_neg (show ¬ (108 : Int32) = 120 by decide), if_neg (show ¬ (108 : Int32) = 122 by decide)]
    rw [if_pos h5]
theorem sc_hrU1 {X : sc_X} {σ τ : sf_S} {k : Nat} (h : sc_Cy X σ τ) (hk : k < X.n) (hL : X.L k = 37 ∨ X.L k = 42 ∨ X.L k = 43 ∨ X.L k = 47 ∨ X.L k = 108) {v : Int32} {τ' : sf_S} (h5 : τ 0 45 = 1) (hm : dX12_made (nI k) (τ 0 46) τ = some (v, τ')) : dX12_hears (nI k) τ = some (-1, sf_up τ' 0 46 v) := by
  obtain ⟨r1, r2, r3, r4⟩ := h.r1 k hk
  obtain ⟨r5, r6, r7, r8, r9⟩ := h.r5 k hk
  unfold dX12_hears
  simp only [h.nin hk, if_true, h.ncl hk, r1]
  rcases hL with hL | hL | hL | hL | hL
  · rw [hL, if_neg (show ¬ (37 : Int32) = 63 by decide), if_neg (show ¬ (37 : Int32) = 99 by decide), if_neg (show ¬ (37 : Int32) = 100 by decide), if_neg (show ¬ (37 : Int32) = 107 by decide), if_neg (show ¬ (37 : Int32) = 116 by decide), if_neg (show ¬ (37 : Int32) = 119 by decide), if_neg (show ¬ (37 : Int32) = 120 by decide), if_neg (show ¬ (37 : Int32) = 122 by decide)]
    rw [if_neg (by rw [h5]; decide), hm]
    rfl
  · rw [hL, if_neg (show ¬ (42 : Int32) = 63 by decide), if_neg (show ¬ (42 : Int32) = 99 by decide), if_neg (show ¬ (42 : Int32) = 100 by decide), if_neg (show ¬ (42 : Int32) = 107 by decide), if_neg (show ¬ (42 : Int32) = 116 by decide), if_neg (show ¬ (42 : Int32) = 119 by decide), if_neg (show ¬ (42 : Int32) = 120 by decide), if_neg (show ¬ (42 : Int32) = 122 by decide)]
    rw [if_neg (by rw [h5]; decide), hm]
    rfl
  · rw [hL, if_neg (show ¬ (43 : Int32) = 63 by decide), if_neg (show ¬ (43 : Int32) = 99 by decide), if_neg (show ¬ (43 : Int32) = 100 by decide), if_neg (show ¬ (43 : Int32) = 107 by decide), if_neg (show ¬ (43 : Int32) = 116 by decide), if_neg (show ¬ (43 : Int32) = 119 by decide), if_neg (show ¬ (43 : Int32) = 120 by decide), if_neg (show ¬ (43 : Int32) = 122 by decide)]
    rw [if_neg (by rw [h5]; decide), hm]
    rfl
  · rw [hL, if_neg (show ¬ (47 : Int32) = 63 by decide), if_neg (show ¬ (47 : Int32) = 99 by decide), if_neg (show ¬ (47 : Int32) = 100 by decide), if_neg (show ¬ (47 : Int32) = 107 by decide), if_neg (show ¬ (47 : Int32) = 116 by decide), if_neg (show ¬ (47 : Int32) = 119 by decide), if_neg (show ¬ (47 : Int32) = 120 by decide), if_neg (show ¬ (47 : Int32) = 122 by decide)]
    rw [if_neg (by rw [h5]; decide), hm]
    rfl
  · rw [hL, if_neg (show ¬ (108 : Int32) = 63 by decide), if_neg (show ¬ (108 : Int32) = 99 by decide), if_neg (show ¬ (108 : Int32) = 100 by decide), if_neg (show ¬ (108 : Int32) = 107 by decide), if_neg (show ¬ (108 : Int32) = 116 by decide), if_neg (show ¬ (108 : Int32) = 119 by decide), if_neg (show ¬ (108 : Int32) = 120 by decide), if_neg (show ¬ (108 : Int32) = 122 by decide)]
    rw [if_neg (by rw [h5]; decide), hm]
    rfl
