/-! trees: what lies within what, depths and openers -/
theorem sc_down {n : Nat} {P : Nat → Prop} (h : ∀ k, k < n → (∀ j, k < j → j < n → P j) → P k) : ∀ k, k < n → P k := by
  have : ∀ r k, n ≤ k + r → k < n → P k := by
    intro r
    induction r with
    | zero => intro k h1 h2; omega
    | succ r ih => intro k h1 h2; exact h k h2 (fun j h3 h4 => ih j (by omega) h4)
  exact fun k hk => this n k (by omega) hk
theorem sc_T.lt {n k : Nat} {L : Nat → Int32} {E : Nat → Nat} (hT : sc_T n L E) (hk : k < n) : k < E k ∧ E k ≤ n := by
  obtain ⟨a, X, -, h2, h3, -⟩ := hT k hk
  exact ⟨h2, h3⟩
theorem sc_T.p0 {n k : Nat} {L : Nat → Int32} {E : Nat → Nat} (hT : sc_T n L E) (hk : k < n) (hp : sc_p (L k) = 0) : E k = k + 1 := by
  obtain ⟨a, X, -, -, -, -, h, -⟩ := hT k hk
  exact h hp
theorem sc_T.p1 {n k : Nat} {L : Nat → Int32} {E : Nat → Nat} (hT : sc_T n L E) (hk : k < n) (hp : sc_p (L k) = 1) : k + 1 < n ∧ E k = E (k + 1) := by
  obtain ⟨a, X, -, -, -, -, -, h, -⟩ := hT k hk
  exact ⟨(h hp).1, (h hp).2.1⟩
theorem sc_T.p2 {n k : Nat} {L : Nat → Int32} {E : Nat → Nat} (hT : sc_T n L E) (hk : k < n) (hp : sc_p (L k) = 2) : k + 1 < n ∧ k + 1 < E (k + 1) ∧ E (k + 1) < n ∧ E (k + 1) < E k ∧ E k = E (E (k + 1)) := by
  obtain ⟨a, X, -, -, -, -, -, -, h, -⟩ := hT k hk
  obtain ⟨h1, h2, h3, -⟩ := h hp
  have := (hT.lt h1).1
  have := (hT.lt h2).1
  exact ⟨h1, by omega, h2, by omega, h3⟩
theorem sc_p3 (c : Int32) : sc_p c = 0 ∨ sc_p c = 1 ∨ sc_p c = 2 := by have := sc_p_le c; omega
theorem sc_T.nest {n : Nat} {L : Nat → Int32} {E : Nat → Nat} (hT : sc_T n L E) : ∀ i, i < n → ∀ j, i ≤ j → j < E i → E j ≤ E i := by
  refine sc_down fun i hi ih j h1 h2 => ?_
  by_cases hij : j = i
  · rw [hij]; exact Nat.le_refl _
  rcases sc_p3 (L i) with hp | hp | hp
  · have := hT.p0 hi hp; omega
  · obtain ⟨q1, q2⟩ := hT.p1 hi hp
    rw [q2] at h2 ⊢
    exact ih (i + 1) (by omega) q1 j (by omega) h2
  · obtain ⟨q1, q2, q3, q4, q5⟩ := hT.p2 hi hp
    by_cases hj : j < E (i + 1)
    · have := ih (i + 1) (by omega) q1 j (by omega) hj; omega
    · rw [q5] at h2 ⊢
      exact ih (E (i + 1)) (by omega) q3 j (by omega) h2
/-- what goes from a node to its parts goes to all -/
theorem sc_T.sub {n : Nat} {L : Nat → Int32} {E : Nat → Nat} (hT : sc_T n L E) {P : Nat → Prop} (h1 : ∀ k, k < n → P k → 1 ≤ sc_p (L k) → P (k + 1)) (h2 : ∀ k, k < n → P k → sc_p (L k) = 2 → P (E (k + 1))) : ∀ k, k < n → P k → ∀ j, k ≤ j → j < E k → P j := by
  refine sc_down fun k hk ih hP j a1 a2 => ?_
  by_cases hkj : j = k
  · rw [hkj]; exact hP
  rcases sc_p3 (L k) with hp | hp | hp
  · have := hT.p0 hk hp; omega
  · obtain ⟨q1, q2⟩ := hT.p1 hk hp
    exact ih (k + 1) (by omega) q1 (h1 k hk hP (by omega)) j (by omega) (by omega)
  · obtain ⟨q1, q2, q3, q4, q5⟩ := hT.p2 hk hp
    by_cases hj : j < E (k + 1)
    · exact ih (k + 1) (by omega) q1 (h1 k hk hP (by omega)) j (by omega) hj
    · exact ih (E (k + 1)) (by omega) q3 (h2 k hk hP hp) j (by omega) (by omega)
theorem sc_T.ind {n : Nat} {L : Nat → Int32} {E : Nat → Nat} (hG : sc_G n L) (hT : sc_T n L E) {P : Nat → Prop} (h0 : P 0) (h1 : ∀ k, k < n → P k → 1 ≤ sc_p (L k) → P (k + 1)) (h2 : ∀ k, k < n → P k → sc_p (L k) = 2 → P (E (k + 1))) : ∀ j, j < n → P j := fun j hj =>
  hT.sub h1 h2 0 hG.pos h0 j (Nat.zero_le j) (by rw [sc_T_0 hG hT]; exact hj)
/-- depth, in how many Q, in whose nearest: what measure and places find -/
def sc_Dk (L : Nat → Int32) (E : Nat → Nat) (w o b : Nat → Int32) (k : Nat) : Prop := (1 ≤ sc_p (L k) → w (k + 1) = w k + 1 ∧ o (k + 1) = (if L k = 120 then o k + 1 else o k) ∧ b (k + 1) = (if L k = 120 then nI k else b k)) ∧ (sc_p (L k) = 2 → w (E (k + 1)) = w k + 1 ∧ o (E (k + 1)) = o k ∧ b (E (k + 1)) = b k)
def sc_D0 (w o b : Nat → Int32) : Prop := w 0 = 0 ∧ o 0 = 0 ∧ b 0 = -1
def sc_D (n : Nat) (L : Nat → Int32) (E : Nat → Nat) (w o b : Nat → Int32) : Prop := sc_D0 w o b ∧ ∀ k, k < n → sc_Dk L E w o b k
theorem sc_Dk.congr {L : Nat → Int32} {E : Nat → Nat} {w o b w' o' b' : Nat → Int32} {k : Nat} (h : sc_Dk L E w o b k) (h0 : w' k = w k ∧ o' k = o k ∧ b' k = b k) (h1 : 1 ≤ sc_p (L k) → w' (k + 1) = w (k + 1) ∧ o' (k + 1) = o (k + 1) ∧ b' (k + 1) = b (k + 1)) (h2 : sc_p (L k) = 2 → w' (E (k + 1)) = w (E (k + 1)) ∧ o' (E (k + 1)) = o (E (k + 1)) ∧ b' (E (k + 1)) = b (E (k + 1))) : sc_Dk L E w' o' b' k := by
  refine ⟨fun hp => ?_, fun hp => ?_⟩
  · obtain ⟨e1, e2, e3⟩ := h1 hp
    rw [e1, e2, e3, h0.1, h0.2.1, h0.2.2]
    exact h.1 hp
  · obtain ⟨e1, e2, e3⟩ := h2 hp
    rw [e1, e2, e3, h0.1, h0.2.1, h0.2.2]
    exact h.2 hp
theorem sc_D_step {n k : Nat} {L : Nat → Int32} {E : Nat → Nat} (hT : sc_T n L E) (hk : k < n) (hp : 1 ≤ sc_p (L k)) {w o b w' o' b' : Nat → Int32} (h : ∀ i, i < k → sc_Dk L E w o b i) (hc : ∀ j, j ≠ k + 1 → (sc_p (L k) = 2 → j ≠ E (k + 1)) → w' j = w j ∧ o' j = o j ∧ b' j = b j) (hk' : sc_Dk L E w' o' b' k) : ∀ i, i < k + 1 → sc_Dk L E w' o' b' i := by
  intro i hi
  by_cases hik : i = k
  · rw [hik]; exact hk'
  have h2E : sc_p (L k) = 2 → k + 1 < E (k + 1) ∧ E (k + 1) < E k := fun q => ⟨(hT.p2 hk q).2.1, (hT.p2 hk q).2.2.2.1⟩
  have hkE : k + 1 < E k := by
    rcases sc_p3 (L k) with q | q | q
    · omega
    · obtain ⟨q1, q2⟩ := hT.p1 hk q
      have := (hT.lt q1).1
      omega
    · have := h2E q; omega
  refine (h i (by omega)).congr (hc i (by omega) (fun q => by have := h2E q; omega)) (fun _ => hc (i + 1) (by omega) (fun q => by have := h2E q; omega)) (fun hp2 => ?_)
  obtain ⟨q1, q2, q3, q4, q5⟩ := hT.p2 (show i < n by omega) hp2
  by_cases hki : k < E (i + 1)
  · have := hT.nest (i + 1) q1 k (by omega) hki
    exact hc _ (by omega) (fun q => by have := h2E q; omega)
  · exact hc _ (by omega) (fun q => by have := h2E q; omega)
theorem sc_D_uniq {n : Nat} {L : Nat → Int32} {E : Nat → Nat} (hG : sc_G n L) (hT : sc_T n L E) {w o b w' o' b' : Nat → Int32} (h : sc_D n L E w o b) (h' : sc_D n L E w' o' b') : ∀ j, j < n → w' j = w j ∧ o' j = o j ∧ b' j = b j := by
  refine hT.ind hG ⟨h'.1.1.trans h.1.1.symm, h'.1.2.1.trans h.1.2.1.symm, h'.1.2.2.trans h.1.2.2.symm⟩ (fun k hk hP hp => ?_) (fun k hk hP hp => ?_)
  · obtain ⟨a1, a2, a3⟩ := (h.2 k hk).1 hp
    obtain ⟨b1, b2, b3⟩ := (h'.2 k hk).1 hp
    rw [a1, a2, a3, b1, b2, b3, hP.1, hP.2.1, hP.2.2]
    exact ⟨rfl, rfl, rfl⟩
  · obtain ⟨a1, a2, a3⟩ := (h.2 k hk).2 hp
    obtain ⟨b1, b2, b3⟩ := (h'.2 k hk).2 hp
    rw [a1, a2, a3, b1, b2, b3, hP.1, hP.2.1, hP.2.2]
    exact ⟨rfl, rfl, rfl⟩
/-- what the openers are -/
def sc_Ob (L : Nat → Int32) (E : Nat → Nat) (b : Nat → Int32) (j a : Nat) : Prop := (b j = -1 ∧ a = 0) ∨ ∃ x, b j = nI x ∧ L x = 120 ∧ x + 1 ≤ j ∧ j < E (x + 1) ∧ 1 ≤ a
theorem sc_p120 {c : Int32} (h : c = 120) : sc_p c = 2 := by rw [h]; decide +kernel
theorem sc_D_sem {n : Nat} {L : Nat → Int32} {E : Nat → Nat} (hG : sc_G n L) (hT : sc_T n L E) {w o b : Nat → Int32} (h : sc_D n L E w o b) : ∀ j, j < n → ∃ a X d, sc_st L j = some (a :: X) ∧ o j = nI a ∧ w j = nI d ∧ d ≤ j ∧ sc_Ob L E b j a := by
  refine hT.ind hG ⟨0, [], 0, rfl, h.1.2.1, h.1.1, Nat.le_refl _, Or.inl ⟨h.1.2.2, rfl⟩⟩ (fun k hk hP hp => ?_) (fun k hk hP hp => ?_)
  · obtain ⟨a, X, d, e1, e2, e3, e4, e5⟩ := hP
    obtain ⟨a1, a2, a3⟩ := (h.2 k hk).1 hp
    obtain ⟨a0, X0, g1, -, -, -, -, g6, g7, -⟩ := hT k hk
    rw [e1] at g1; cases g1
    by_cases hx : L k = 120
    · obtain ⟨q1, q2, q3, q4, q5⟩ := hT.p2 hk (sc_p120 hx)
      obtain ⟨-, -, -, g8, -⟩ := g7 (sc_p120 hx)
      rw [if_pos hx] at a2 a3 g8
      exact ⟨a + 1, a :: X, d + 1, g8, by rw [a2, e2, nI_1], by rw [a1, e3, nI_1], by omega, Or.inr ⟨k, a3, hx, Nat.le_refl _, q2, by omega⟩⟩
    · rw [if_neg hx] at a2 a3
      have hst : ∃ Y, sc_st L (k + 1) = some (a :: Y) := by
        rcases sc_p3 (L k) with q | q | q
        · omega
        · exact ⟨X, (g6 q).2.2⟩
        · have := (g7 q).2.2.2.1
          rw [if_neg hx] at this
          exact ⟨_, this⟩
      obtain ⟨Y, hst⟩ := hst
      refine ⟨a, Y, d + 1, hst, by rw [a2, e2], by rw [a1, e3, nI_1], by omega, ?_⟩
      rcases e5 with ⟨e5, e6⟩ | ⟨x, e5, e6, e7, e8, e9⟩
      · exact Or.inl ⟨by rw [a3, e5], e6⟩
      · have hx2 := hT.p2 (show x < n by omega) (sc_p120 e6)
        have := hT.nest (x + 1) hx2.1 k e7 e8
        have hkE : k + 1 < E k := by
          rcases sc_p3 (L k) with q | q | q
          · omega
          · obtain ⟨q1, q2⟩ := hT.p1 hk q
            have := (hT.lt q1).1
            omega
          · have := hT.p2 hk q; omega
        exact Or.inr ⟨x, by rw [a3, e5], e6, by omega, by omega, e9⟩
  · obtain ⟨a, X, d, e1, e2, e3, e4, e5⟩ := hP
    obtain ⟨a1, a2, a3⟩ := (h.2 k hk).2 hp
    obtain ⟨a0, X0, g1, -, -, -, -, g6, g7, -⟩ := hT k hk
    rw [e1] at g1; cases g1
    obtain ⟨q1, q2, q3, q4, q5⟩ := hT.p2 hk hp
    obtain ⟨-, -, -, -, g9⟩ := g7 hp
    refine ⟨a, X, d + 1, g9, by rw [a2, e2], by rw [a1, e3, nI_1], by omega, ?_⟩
    rcases e5 with ⟨e5, e6⟩ | ⟨x, e5, e6, e7, e8, e9⟩
    · exact Or.inl ⟨by rw [a3, e5], e6⟩
    · have hx2 := hT.p2 (show x < n by omega) (sc_p120 e6)
      have := hT.nest (x + 1) hx2.1 k e7 e8
      exact Or.inr ⟨x, by rw [a3, e5], e6, by omega, by omega, e9⟩
/-- purity, by counting the impure -/
def sc_im (c : Int32) : Bool := decide (c = 47 ∨ c = 108 ∨ c = 115)
def sc_ni (L : Nat → Int32) : Nat → Nat
  | 0 => 0
  | j + 1 => sc_ni L j + (if sc_im (L j) = true then 1 else 0)
theorem sc_ni_mono {L : Nat → Int32} {i j : Nat} (h : i ≤ j) : sc_ni L i ≤ sc_ni L j := by
  induction j with
  | zero => rw [show i = 0 by omega]; exact Nat.le_refl _
  | succ j ih =>
    by_cases e : i = j + 1
    · rw [e]; exact Nat.le_refl _
    · exact Nat.le_trans (ih (by omega)) (Nat.le_add_right _ _)
def sc_pu (L : Nat → Int32) (E : Nat → Nat) (k : Nat) : Bool := decide (sc_ni L (E k) = sc_ni L k)
theorem sc_pu0 {n k : Nat} {L : Nat → Int32} {E : Nat → Nat} (hT : sc_T n L E) (hk : k < n) (hp : sc_p (L k) = 0) : sc_pu L E k = !sc_im (L k) := by
  rw [sc_pu, hT.p0 hk hp, sc_ni]
  cases sc_im (L k) <;> simp
theorem sc_pu1 {n k : Nat} {L : Nat → Int32} {E : Nat → Nat} (hT : sc_T n L E) (hk : k < n) (hp : sc_p (L k) = 1) : sc_pu L E k = (!sc_im (L k) && sc_pu L E (k + 1)) := by
  obtain ⟨q1, q2⟩ := hT.p1 hk hp
  have m1 := sc_ni_mono (L := L) (Nat.le_of_lt (hT.lt q1).1)
  rw [sc_pu, sc_pu, q2]
  have e : sc_ni L (k + 1) = sc_ni L k + (if sc_im (L k) = true then 1 else 0) := rfl
  cases hi : sc_im (L k)
  · rw [hi] at e
    simp at e
    rw [e]; simp
  · rw [hi] at e
    simp at e
    simp
    omega
theorem sc_pu2 {n k : Nat} {L : Nat → Int32} {E : Nat → Nat} (hT : sc_T n L E) (hk : k < n) (hp : sc_p (L k) = 2) : sc_pu L E k = (!sc_im (L k) && sc_pu L E (k + 1) && sc_pu L E (E (k + 1))) := by
  obtain ⟨q1, q2, q3, q4, q5⟩ := hT.p2 hk hp
  have m1 := sc_ni_mono (L := L) (Nat.le_of_lt q2)
  have m2 := sc_ni_mono (L := L) (Nat.le_of_lt (hT.lt q3).1)
  have e : sc_ni L (k + 1) = sc_ni L k + (if sc_im (L k) = true then 1 else 0) := rfl
  rw [Bool.eq_iff_iff]
  simp only [sc_pu, q5, decide_eq_true_eq, Bool.and_eq_true, Bool.not_eq_true']
  cases hi : sc_im (L k)
  · rw [hi] at e
    simp at e
    simp
    omega
  · rw [hi] at e
    simp at e
    simp
    omega
