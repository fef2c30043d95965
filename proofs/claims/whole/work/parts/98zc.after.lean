/-! way 1: what the reference makes of a child's step -/
theorem sc_afF1 {X : sc_X} {σ τ : sf_S} {k : Nat} (h : sc_Cy X σ τ) (hk : k < X.n) (hL : X.L k = 63 ∨ X.L k = 107) (hp : dX12_passes (nI k) (τ 0 46) τ = some (1, τ)) : dX12_after (nI k) (nI 0) τ = some (nI 0, τ) := by
  obtain ⟨r1, r2, r3, r4⟩ := h.r1 k hk
  obtain ⟨r5, r6, r7, r8, r9⟩ := h.r5 k hk
  unfold dX12_after
  simp only [h.nin hk, if_true, h.ncl hk, r1]
  rcases hL with hL | hL
  · rw [hL, if_pos (show ¬ (63 : Int32) = 99 by decide), if_pos (show ¬ (63 : Int32) = 120 by decide)]
    unfold dX12_after_68
    rw [if_neg (show ¬ ¬ nI 0 = 0 by decide)]
    unfold dX12_afterOne
    rw [if_pos (show (63 : Int32) = 63 from rfl)]
    rw [hp]
    rfl
  · rw [hL, if_pos (show ¬ (107 : Int32) = 99 by decide), if_pos (show ¬ (107 : Int32) = 120 by decide)]
    unfold dX12_after_68
    rw [if_neg (show ¬ ¬ nI 0 = 0 by decide)]
    unfold dX12_afterOne
    rw [if_neg (show ¬ (107 : Int32) = 63 by decide), if_neg (show ¬ (107 : Int32) = 100 by decide), if_pos (show (107 : Int32) = 107 from rfl)]
    rw [hp]
    rfl
theorem sc_afF0 {X : sc_X} {σ τ : sf_S} {k : Nat} (h : sc_Cy X σ τ) (hk : k < X.n) (hL : X.L k = 63 ∨ X.L k = 107) (hp : dX12_passes (nI k) (τ 0 46) τ = some (0, τ)) : dX12_after (nI k) (nI 0) τ = some (nI 1, τ) := by
  obtain ⟨r1, r2, r3, r4⟩ := h.r1 k hk
  obtain ⟨r5, r6, r7, r8, r9⟩ := h.r5 k hk
  unfold dX12_after
  simp only [h.nin hk, if_true, h.ncl hk, r1]
  rcases hL with hL | hL
  · rw [hL, if_pos (show ¬ (63 : Int32) = 99 by decide), if_pos (show ¬ (63 : Int32) = 120 by decide)]
    unfold dX12_after_68
    rw [if_neg (show ¬ ¬ nI 0 = 0 by decide)]
    unfold dX12_afterOne
    rw [if_pos (show (63 : Int32) = 63 from rfl)]
    rw [hp]
    rfl
  · rw [hL, if_pos (show ¬ (107 : Int32) = 99 by decide), if_pos (show ¬ (107 : Int32) = 120 by decide)]
    unfold dX12_after_68
    rw [if_neg (show ¬ ¬ nI 0 = 0 by decide)]
    unfold dX12_afterOne
    rw [if_neg (show ¬ (107 : Int32) = 63 by decide), if_neg (show ¬ (107 : Int32) = 100 by decide), if_pos (show (107 : Int32) = 107 from rfl)]
    rw [hp]
    rfl
theorem sc_afW1 {X : sc_X} {σ τ : sf_S} {k : Nat} (h : sc_Cy X σ τ) (hk : k < X.n) (hL : X.L k = 119) (hp : dX12_passes (nI k) (τ 0 46) τ = some (1, τ)) : dX12_after (nI k) (nI 0) τ = some (nI 0, τ) := by
  obtain ⟨r1, r2, r3, r4⟩ := h.r1 k hk
  obtain ⟨r5, r6, r7, r8, r9⟩ := h.r5 k hk
  unfold dX12_after
  simp only [h.nin hk, if_true, h.ncl hk, r1]
  rw [hL, if_pos (show ¬ (119 : Int32) = 99 by decide), if_pos (show ¬ (119 : Int32) = 120 by decide)]
  unfold dX12_after_68
  rw [if_neg (show ¬ ¬ nI 0 = 0 by decide)]
  unfold dX12_afterOne
  rw [if_neg (show ¬ (119 : Int32) = 63 by decide), if_neg (show ¬ (119 : Int32) = 100 by decide), if_neg (show ¬ (119 : Int32) = 107 by decide), if_neg (show ¬ (119 : Int32) = 116 by decide), if_pos (show (119 : Int32) = 119 from rfl)]
  rw [hp]
  rfl
theorem sc_afW0 {X : sc_X} {σ τ : sf_S} {k : Nat} (h : sc_Cy X σ τ) (hk : k < X.n) (hL : X.L k = 119) (hp : dX12_passes (nI k) (τ 0 46) τ = some (0, τ)) : dX12_after (nI k) (nI 0) τ = some (nI 2, τ) := by
  obtain ⟨r1, r2, r3, r4⟩ := h.r1 k hk
  obtain ⟨r5, r6, r7, r8, r9⟩ := h.r5 k hk
  unfold dX12_after
  simp only [h.nin hk, if_true, h.ncl hk, r1]
  rw [hL, if_pos (show ¬ (119 : Int32) = 99 by decide), if_pos (show ¬ (119 : Int32) = 120 by decide)]
  unfold dX12_after_68
  rw [if_neg (show ¬ ¬ nI 0 = 0 by decide)]
  unfold dX12_afterOne
  rw [if_neg (show ¬ (119 : Int32) = 63 by decide), if_neg (show ¬ (119 : Int32) = 100 by decide), if_neg (show ¬ (119 : Int32) = 107 by decide), if_neg (show ¬ (119 : Int32) = 116 by decide), if_pos (show (119 : Int32) = 119 from rfl)]
  rw [hp]
  rfl
theorem sc_afT {X : sc_X} {σ τ : sf_S} {k : Nat} (h : sc_Cy X σ τ) (hk : k < X.n) (hL : X.L k = 116)  : dX12_after (nI k) (nI 0) τ = some (nI 0, sf_up τ 24 k (τ 24 k + 1)) := by
  obtain ⟨r1, r2, r3, r4⟩ := h.r1 k hk
  obtain ⟨r5, r6, r7, r8, r9⟩ := h.r5 k hk
  unfold dX12_after
  simp only [h.nin hk, if_true, h.ncl hk, r1]
  rw [hL, if_pos (show ¬ (116 : Int32) = 99 by decide), if_pos (show ¬ (116 : Int32) = 120 by decide)]
  unfold dX12_after_68
  rw [if_neg (show ¬ ¬ nI 0 = 0 by decide)]
  unfold dX12_afterOne
  rw [if_neg (show ¬ (116 : Int32) = 63 by decide), if_neg (show ¬ (116 : Int32) = 100 by decide), if_neg (show ¬ (116 : Int32) = 107 by decide), if_pos (show (116 : Int32) = 116 from rfl)]
  simp only [h.nin hk, if_true, h.ncl hk]
  rfl
theorem sc_afD0 {X : sc_X} {σ τ : sf_S} {k : Nat} (h : sc_Cy X σ τ) (hk : k < X.n) (hL : X.L k = 100) (hd : τ 24 k - 1 < 0) : dX12_after (nI k) (nI 0) τ = some (nI 0, sf_up τ 24 k (τ 24 k - 1)) := by
  obtain ⟨r1, r2, r3, r4⟩ := h.r1 k hk
  obtain ⟨r5, r6, r7, r8, r9⟩ := h.r5 k hk
  unfold dX12_after
  simp only [h.nin hk, if_true, h.ncl hk, r1]
  rw [hL, if_pos (show ¬ (100 : Int32) = 99 by decide), if_pos (show ¬ (100 : Int32) = 120 by decide)]
  unfold dX12_after_68
  rw [if_neg (show ¬ ¬ nI 0 = 0 by decide)]
  unfold dX12_afterOne
  rw [if_neg (show ¬ (100 : Int32) = 63 by decide), if_pos (show (100 : Int32) = 100 from rfl)]
  simp only [h.nin hk, if_true, h.ncl hk]
  rw [sc_upS, if_pos hd]
  rfl
theorem sc_afD1 {X : sc_X} {σ τ : sf_S} {k : Nat} (h : sc_Cy X σ τ) (hk : k < X.n) (hL : X.L k = 100) (hd : ¬ τ 24 k - 1 < 0) : dX12_after (nI k) (nI 0) τ = some (nI 1, sf_up τ 24 k (τ 24 k - 1)) := by
  obtain ⟨r1, r2, r3, r4⟩ := h.r1 k hk
  obtain ⟨r5, r6, r7, r8, r9⟩ := h.r5 k hk
  unfold dX12_after
  simp only [h.nin hk, if_true, h.ncl hk, r1]
  rw [hL, if_pos (show ¬ (100 : Int32) = 99 by decide), if_pos (show ¬ (100 : Int32) = 120 by decide)]
  unfold dX12_after_68
  rw [if_neg (show ¬ ¬ nI 0 = 0 by decide)]
  unfold dX12_afterOne
  rw [if_neg (show ¬ (100 : Int32) = 63 by decide), if_pos (show (100 : Int32) = 100 from rfl)]
  simp only [h.nin hk, if_true, h.ncl hk]
  rw [sc_upS, if_neg hd]
  rfl
theorem sc_afX0 {X : sc_X} {σ τ : sf_S} {k : Nat} (h : sc_Cy X σ τ) (hk : k < X.n) (hL : X.L k = 120) (hd : τ 24 k = 1) : dX12_after (nI k) (nI 0) τ = some (nI 0, τ) := by
  obtain ⟨r1, r2, r3, r4⟩ := h.r1 k hk
  obtain ⟨r5, r6, r7, r8, r9⟩ := h.r5 k hk
  unfold dX12_after
  simp only [h.nin hk, if_true, h.ncl hk, r1]
  rw [hL, if_pos (show ¬ (120 : Int32) = 99 by decide), if_neg (show ¬ ¬ (120 : Int32) = 120 by decide), if_pos (show ¬ nI 0 = 2 by decide)]
  unfold dX12_after_68
  rw [if_neg (show ¬ ¬ nI 0 = 0 by decide)]
  unfold dX12_afterOne
  rw [if_neg (show ¬ (120 : Int32) = 63 by decide), if_neg (show ¬ (120 : Int32) = 100 by decide), if_neg (show ¬ (120 : Int32) = 107 by decide), if_neg (show ¬ (120 : Int32) = 116 by decide), if_neg (show ¬ (120 : Int32) = 119 by decide), if_pos (show (120 : Int32) = 120 from rfl)]
  simp only [h.nin hk, if_true, h.ncl hk]
  rw [if_pos (by rw [hd]; decide)]
  rfl
theorem sc_afX1 {X : sc_X} {σ τ : sf_S} {k : Nat} (h : sc_Cy X σ τ) (hk : k < X.n) (hL : X.L k = 120) {τ' : sf_S} (hd : τ 24 k = 0) (ho : dX12_opensFor (nI k) (τ 0 46) τ = some τ') : dX12_after (nI k) (nI 0) τ = some (nI 1, τ') := by
  obtain ⟨r1, r2, r3, r4⟩ := h.r1 k hk
  obtain ⟨r5, r6, r7, r8, r9⟩ := h.r5 k hk
  unfold dX12_after
  simp only [h.nin hk, if_true, h.ncl hk, r1]
  rw [hL, if_pos (show ¬ (120 : Int32) = 99 by decide), if_neg (show ¬ ¬ (120 : Int32) = 120 by decide), if_pos (show ¬ nI 0 = 2 by decide)]
  unfold dX12_after_68
  rw [if_neg (show ¬ ¬ nI 0 = 0 by decide)]
  unfold dX12_afterOne
  rw [if_neg (show ¬ (120 : Int32) = 63 by decide), if_neg (show ¬ (120 : Int32) = 100 by decide), if_neg (show ¬ (120 : Int32) = 107 by decide), if_neg (show ¬ (120 : Int32) = 116 by decide), if_neg (show ¬ (120 : Int32) = 119 by decide), if_pos (show (120 : Int32) = 120 from rfl)]
  simp only [h.nin hk, if_true, h.ncl hk]
  rw [if_neg (by rw [hd]; decide), ho]
  rfl
theorem sc_afZ0 {X : sc_X} {σ τ : sf_S} {k : Nat} (h : sc_Cy X σ τ) (hk : k < X.n) (hL : X.L k = 122) {v : Int32} (hd : τ 24 k = 1) (hj : dX12_joined (nI k) (τ 25 k) (τ 0 46) (sf_up τ 24 k 0) = some (v, sf_up τ 24 k 0)) : dX12_after (nI k) (nI 0) τ = some (nI 0, sf_up (sf_up τ 24 k 0) 0 46 v) := by
  obtain ⟨r1, r2, r3, r4⟩ := h.r1 k hk
  obtain ⟨r5, r6, r7, r8, r9⟩ := h.r5 k hk
  unfold dX12_after
  simp only [h.nin hk, if_true, h.ncl hk, r1]
  rw [hL, if_pos (show ¬ (122 : Int32) = 99 by decide), if_pos (show ¬ (122 : Int32) = 120 by decide)]
  unfold dX12_after_68
  rw [if_neg (show ¬ ¬ nI 0 = 0 by decide)]
  unfold dX12_afterOne
  rw [if_neg (show ¬ (122 : Int32) = 63 by decide), if_neg (show ¬ (122 : Int32) = 100 by decide), if_neg (show ¬ (122 : Int32) = 107 by decide), if_neg (show ¬ (122 : Int32) = 116 by decide), if_neg (show ¬ (122 : Int32) = 119 by decide), if_neg (show ¬ (122 : Int32) = 120 by decide), if_pos (show (122 : Int32) = 122 from rfl)]
  simp only [h.nin hk, if_true, h.ncl hk]
  rw [if_pos (by rw [hd]; decide), sc_upK (show (25 : Nat) ≠ 24 by decide), sc_upK (show (0 : Nat) ≠ 24 by decide), hj]
  rfl
theorem sc_afZ1 {X : sc_X} {σ τ : sf_S} {k : Nat} (h : sc_Cy X σ τ) (hk : k < X.n) (hL : X.L k = 122) (hd : τ 24 k = 0) : dX12_after (nI k) (nI 0) τ = some (nI 1, sf_up (sf_up τ 25 k (τ 0 46)) 24 k 1) := by
  obtain ⟨r1, r2, r3, r4⟩ := h.r1 k hk
  obtain ⟨r5, r6, r7, r8, r9⟩ := h.r5 k hk
  unfold dX12_after
  simp only [h.nin hk, if_true, h.ncl hk, r1]
  rw [hL, if_pos (show ¬ (122 : Int32) = 99 by decide), if_pos (show ¬ (122 : Int32) = 120 by decide)]
  unfold dX12_after_68
  rw [if_neg (show ¬ ¬ nI 0 = 0 by decide)]
  unfold dX12_afterOne
  rw [if_neg (show ¬ (122 : Int32) = 63 by decide), if_neg (show ¬ (122 : Int32) = 100 by decide), if_neg (show ¬ (122 : Int32) = 107 by decide), if_neg (show ¬ (122 : Int32) = 116 by decide), if_neg (show ¬ (122 : Int32) = 119 by decide), if_neg (show ¬ (122 : Int32) = 120 by decide), if_pos (show (122 : Int32) = 122 from rfl)]
  simp only [h.nin hk, if_true, h.ncl hk]
  rw [if_neg (by rw [hd]; decide)]
  rfl
theorem sc_afU {X : sc_X} {σ τ : sf_S} {k : Nat} (h : sc_Cy X σ τ) (hk : k < X.n) (hL : X.L k = 37 ∨ X.L k = 42 ∨ X.L k = 43 ∨ X.L k = 47 ∨ X.L k = 108) {v : Int32} {τ' : sf_S} (hm : dX12_made (nI k) (τ 0 46) τ = some (v, τ')) : dX12_after (nI k) (nI 0) τ = some (nI 0, sf_up τ' 0 46 v) := by
  obtain ⟨r1, r2, r3, r4⟩ := h.r1 k hk
  obtain ⟨r5, r6, r7, r8, r9⟩ := h.r5 k hk
  unfold dX12_after
  simp only [h.nin hk, if_true, h.ncl hk, r1]
  rcases hL with hL | hL | hL | hL | hL
  · rw [hL, if_pos (show ¬ (37 : Int32) = 99 by decide), if_pos (show ¬ (37 : Int32) = 120 by decide)]
    unfold dX12_after_68
    rw [if_neg (show ¬ ¬ nI 0 = 0 by decide)]
    unfold dX12_afterOne
    rw [if_neg (show ¬ (37 : Int32) = 63 by decide), if_neg (show ¬ (37 : Int32) = 100 by decide), if_neg (show ¬ (37 : Int32) = 107 by decide), if_neg (show ¬ (37 : Int32) = 116 by decide), if_neg (show ¬ (37 : Int32) = 119 by decide), if_neg (show ¬ (37 : Int32) = 120 by decide), if_neg (show ¬ (37 : Int32) = 122 by decide), hm]
    rfl
  · rw [hL, if_pos (show ¬ (42 : Int32) = 99 by decide), if_pos (show ¬ (42 : Int32) = 120 by decide)]
    unfold dX12_after_68
    rw [if_neg (show ¬ ¬ nI 0 = 0 by decide)]
    unfold dX12_afterOne
    rw [if_neg (show ¬ (42 : Int32) = 63 by decide), if_neg (show ¬ (42 : Int32) = 100 by decide), if_neg (show ¬ (42 : Int32) = 107 by decide), if_neg (show ¬ (42 : Int32) = 116 by decide), if_neg (show ¬ (42 : Int32) = 119 by decide), if_neg (show ¬ (42 : Int32) = 120 by decide), if_neg (show ¬ (42 : Int32) = 122 by decide), hm]
    rfl
  · rw [hL, if_pos (show ¬ (43 : Int32) = 99 by decide), if_pos (show ¬ (43 : Int32) = 120 by decide)]
    unfold dX12_after_68
    rw [if_neg (show ¬ ¬ nI 0 = 0 by decide)]
    unfold dX12_afterOne
    rw [if_neg (show ¬ (43 : Int32) = 63 by decide), if_neg (show ¬ (43 : Int32) = 100 by decide), if_neg (show ¬ (43 : Int32) = 107 by decide), if_neg (show ¬ (43 : Int32) = 116 by decide), if_neg (show ¬ (43 : Int32) = 119 by decide), if_neg (show ¬ (43 : Int32) = 120 by decide), if_neg (show ¬ (43 : Int32) = 122 by decide), hm]
    rfl
  · rw [hL, if_pos (show ¬ (47 : Int32) = 99 by decide), if_pos (show ¬ (47 : Int32) = 120 by decide)]
    unfold dX12_after_68
    rw [if_neg (show ¬ ¬ nI 0 = 0 by decide)]
    unfold dX12_afterOne
    rw [if_neg (show ¬ (47 : Int32) = 63 by decide), if_neg (show ¬ (47 : Int32) = 100 by decide), if_neg (show ¬ (47 : Int32) = 107 by decide), if_neg (show ¬ (47 : Int32) = 116 by decide), if_neg (show ¬ (47 : Int32) = 119 by decide), if_neg (show ¬ (47 : Int32) = 120 by decide), if_neg (show ¬ (47 : Int32) = 122 by decide), hm]
    rfl
  · rw [hL, if_pos (show ¬ (108 : Int32) = 99 by decide), if_pos (show ¬ (108 : Int32) = 120 by decide)]
    unfold dX12_after_68
    rw [if_neg (show ¬ ¬ nI 0 = 0 by decide)]
    unfold dX12_afterOne
    rw [if_neg (show ¬ (108 : Int32) = 63 by decide), if_neg (show ¬ (108 : Int32) = 100 by decide), if_neg (show ¬ (108 : Int32) = 107 by decide), if_neg (show ¬ (108 : Int32) = 116 by decide), if_neg (show ¬ (108 : Int32) = 119 by decide), if_neg (show ¬ (108 : Int32) = 120 by decide), if_neg (show ¬ (108 : Int32) = 122 by decide), hm]
    rfl
theorem sc_afN {X : sc_X} {σ τ : sf_S} {k : Nat} (h : sc_Cy X σ τ) (hk : k < X.n) {kd : Nat} (h1 : X.L k ≠ 99) (h2 : X.L k ≠ 120) (h3 : 1 ≤ kd) (h4 : kd ≤ 2) : dX12_after (nI k) (nI kd) τ = some (nI kd, τ) := by
  obtain ⟨r1, r2, r3, r4⟩ := h.r1 k hk
  obtain ⟨r5, r6, r7, r8, r9⟩ := h.r5 k hk
  unfold dX12_after
  simp only [h.nin hk, if_true, h.ncl hk, r1]
  rw [if_pos h1, if_pos h2]
  unfold dX12_after_68
  rw [if_pos (nI_ne0 (by omega) (by omega))]
theorem sc_n2 {kd : Nat} (h : kd ≤ 1) : ¬ nI kd = 2 := fun q => by
  have := (nI_eq (a := kd) (b := 2) (by omega) (by omega)).mp q
  omega
theorem sc_afC1 {X : sc_X} {σ τ : sf_S} {k : Nat} (h : sc_Cy X σ τ) (hk : k < X.n) {kd : Nat} (hL : X.L k = 99) (h4 : kd ≤ 1) : dX12_after (nI k) (nI kd) τ = some (nI kd, τ) := by
  obtain ⟨r1, r2, r3, r4⟩ := h.r1 k hk
  obtain ⟨r5, r6, r7, r8, r9⟩ := h.r5 k hk
  unfold dX12_after
  simp only [h.nin hk, if_true, h.ncl hk, r1]
  rw [hL, if_neg (show ¬ ¬ (99 : Int32) = 99 by decide), if_pos (sc_n2 h4)]
theorem sc_afC2 {X : sc_X} {σ τ : sf_S} {k : Nat} (h : sc_Cy X σ τ) (hk : k < X.n) (hL : X.L k = 99) (hd : τ 24 k = 1) : dX12_after (nI k) (nI 2) τ = some (nI 2, τ) := by
  obtain ⟨r1, r2, r3, r4⟩ := h.r1 k hk
  obtain ⟨r5, r6, r7, r8, r9⟩ := h.r5 k hk
  unfold dX12_after
  simp only [h.nin hk, if_true, h.ncl hk, r1]
  rw [hL, if_neg (show ¬ ¬ (99 : Int32) = 99 by decide), if_neg (show ¬ ¬ nI 2 = 2 by decide), if_pos (by rw [hd]; decide)]
theorem sc_afC3 {X : sc_X} {σ τ : sf_S} {k : Nat} (h : sc_Cy X σ τ) (hk : k < X.n) (hL : X.L k = 99) (hd : τ 24 k = 0) : dX12_after (nI k) (nI 2) τ = some (nI 1, sf_up τ 24 k 1) := by
  obtain ⟨r1, r2, r3, r4⟩ := h.r1 k hk
  obtain ⟨r5, r6, r7, r8, r9⟩ := h.r5 k hk
  unfold dX12_after
  simp only [h.nin hk, if_true, h.ncl hk, r1]
  rw [hL, if_neg (show ¬ ¬ (99 : Int32) = 99 by decide), if_neg (show ¬ ¬ nI 2 = 2 by decide), if_neg (by rw [hd]; decide)]
  rfl
theorem sc_afX2 {X : sc_X} {σ τ : sf_S} {k : Nat} (h : sc_Cy X σ τ) (hk : k < X.n) (hL : X.L k = 120) : dX12_after (nI k) (nI 1) τ = some (nI 1, τ) := by
  obtain ⟨r1, r2, r3, r4⟩ := h.r1 k hk
  obtain ⟨r5, r6, r7, r8, r9⟩ := h.r5 k hk
  unfold dX12_after
  simp only [h.nin hk, if_true, h.ncl hk, r1]
  rw [hL, if_pos (show ¬ (120 : Int32) = 99 by decide), if_neg (show ¬ ¬ (120 : Int32) = 120 by decide), if_pos (show ¬ nI 1 = 2 by decide)]
  unfold dX12_after_68
  rw [if_pos (show ¬ nI 1 = 0 by decide)]
theorem sc_afX3 {X : sc_X} {σ τ : sf_S} {k : Nat} (h : sc_Cy X σ τ) (hk : k < X.n) (hL : X.L k = 120) (hd : τ 24 k = 0) : dX12_after (nI k) (nI 2) τ = some (nI 2, τ) := by
  obtain ⟨r1, r2, r3, r4⟩ := h.r1 k hk
  obtain ⟨r5, r6, r7, r8, r9⟩ := h.r5 k hk
  unfold dX12_after
  simp only [h.nin hk, if_true, h.ncl hk, r1]
  rw [hL, if_pos (show ¬ (120 : Int32) = 99 by decide), if_neg (show ¬ ¬ (120 : Int32) = 120 by decide), if_neg (show ¬ ¬ nI 2 = 2 by decide), if_pos (by rw [hd]; decide)]
  unfold dX12_after_68
  rw [if_pos (show ¬ nI 2 = 0 by decide)]
theorem sc_afX4 {X : sc_X} {σ τ : sf_S} {k : Nat} (h : sc_Cy X σ τ) (hk : k < X.n) (hL : X.L k = 120) (hd : τ 24 k = 1) : dX12_after (nI k) (nI 2) τ = some (nI 1, sf_up τ 24 k 0) := by
  obtain ⟨r1, r2, r3, r4⟩ := h.r1 k hk
  obtain ⟨r5, r6, r7, r8, r9⟩ := h.r5 k hk
  unfold dX12_after
  simp only [h.nin hk, if_true, h.ncl hk, r1]
  rw [hL, if_pos (show ¬ (120 : Int32) = 99 by decide), if_neg (show ¬ ¬ (120 : Int32) = 120 by decide), if_neg (show ¬ ¬ nI 2 = 2 by decide), if_neg (by rw [hd]; decide)]
  rfl
