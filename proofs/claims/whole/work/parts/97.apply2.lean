/-! rules that take a node out, merge or swap -/
theorem sc_Xd_ok {n a m : Nat} {X X' : Nat → Nat → Int32} (h : sc_Xok n X) (hX' : sc_Xok n X' ∨ True) (ha : a + m ≤ n) (hn0 : 0 < n - m) (hlow : ∀ j, j < n → X' 0 j = X 0 j) (hst : sc_st (X 0) a = sc_st (X 0) (a + m)) (hv : ∀ j, j < n - m → sc_vn (X' 0 (sc_sh a m j)) (X' 1 (sc_sh a m j)) (X' 2 (sc_sh a m j)) (X' 3 (sc_sh a m j))) : sc_Xok (n - m) (sc_Xd X' a m) := by
  obtain ⟨h0, hn, hG, -, hws⟩ := h
  have low : ∀ j, j < a → sc_Xd X' a m 0 j = X 0 j := fun j hj => by
    unfold sc_Xd sc_sh
    rw [if_pos hj]; exact hlow j (by omega)
  have up : ∀ j, a ≤ j → j < n - m → sc_Xd X' a m 0 j = X 0 (j + m) := fun j hj hj2 => by
    unfold sc_Xd sc_sh
    rw [if_neg (by omega)]; exact hlow _ (by omega)
  have hN : n - m + m = n := by omega
  refine ⟨hn0, by omega, ?_, fun j hj => hv j hj, ?_⟩
  · have := sc_st_shift (L := X 0) (L' := sc_Xd X' a m 0) (b := a) (m := m) ((sc_st_congr (L := X 0) (n := a) low).trans hst) (n - m) (by omega) up
    rw [hN] at this
    exact this.trans hG
  · have := sc_ws_shift (L := X 0) (L' := sc_Xd X' a m 0) (b := a) (m := m) (n - m) (by omega) up
    rw [hN, sc_ws_congr (L := X 0) (n := a) low] at this
    have := sc_ws_mono (L := X 0) a m
    omega
theorem sc_st_p1 {n k : Nat} {L : Nat → Int32} {E : Nat → Nat} (hT : sc_T n L E) (hk : k < n) (hp : sc_p (L k) = 1) : sc_st L k = sc_st L (k + 1) ∧ k + 1 < n := by
  obtain ⟨a, Y, h1, h2, h3, h4, h5, h6, -⟩ := hT k hk
  obtain ⟨q1, q2, q3⟩ := h6 hp
  exact ⟨h1.trans q3.symm, q1⟩
/-- a node of one part, over the next one, which gets other numbers -/
def sc_Xg (X : Nat → Nat → Int32) (k : Nat) (f s : Int32) : Nat → Nat → Int32 := sc_X1 (sc_X1 X 2 (k + 1) f) 3 (k + 1) s
theorem sc_Xg_ok {n k : Nat} {X : Nat → Nat → Int32} {E : Nat → Nat} {f s : Int32} (h : sc_Xok n X) (hT : sc_T n (X 0) E) (hk : k < n) (hp : sc_p (X 0 k) = 1) (hv : sc_vn (X 0 (k + 1)) (X 1 (k + 1)) f s) : sc_Xok (n - 1) (sc_Xd (sc_Xg X k f s) k 1) := by
  obtain ⟨e1, e2⟩ := sc_st_p1 hT hk hp
  refine sc_Xd_ok h (Or.inr trivial) (by omega) (by omega) (fun j hj => ?_) e1 (fun j hj => ?_)
  · unfold sc_Xg sc_X1; simp
  · have hb : sc_sh k 1 j < n := by unfold sc_sh; split <;> omega
    unfold sc_Xg sc_X1
    by_cases hj1 : sc_sh k 1 j = k + 1
    · simp [hj1]; exact hv
    · simp [hj1]; exact h.2.2.2.1 _ hb
theorem sc_has1 {p n : Nat} {X : Nat → Nat → Int32} {σ : sf_S} (h : sc_Xc p n X σ) (hn : n ≤ 40) {j : Nat} (hj : j < n) : dX2_has p (nI j) σ = some (1, σ) := by
  rw [sc_has hn h.1 (by omega), decide_eq_true hj]; rfl
/-- the class's mergeWithNext -/
theorem sc_mergeC {q n k r : Nat} {X : Nat → Nat → Int32} {σ : sf_S} (h : sc_Xc (sf_pl q) n X σ) (hn : n ≤ 40) (hk : k + 1 < n) (hr : r = 1 ∨ r = 2 ∨ r = 6 ∨ r = 7 ∨ r = 8) {f s : Int32}
    (hf : f = if r = 1 then (if X 2 (k + 1) < X 2 k then X 2 (k + 1) else X 2 k) else if r = 2 then X 2 k + X 2 (k + 1) else if r = 7 then (if X 2 (k + 1) + X 2 k < X 3 (k + 1) then X 2 (k + 1) + X 2 k else X 3 (k + 1)) else if r = 8 then X 2 (k + 1) + X 2 k * X 3 (k + 1) else X 2 (k + 1))
    (hs : s = if r = 6 then (if X 2 (k + 1) + X 2 k < X 3 (k + 1) then X 2 (k + 1) + X 2 k else X 3 (k + 1)) else X 3 (k + 1)) :
    ∃ σ', dX5_mergeWithNext q (nI r) (nI k) σ = some σ' ∧ sc_Xc (sf_pl q) (n - 1) (sc_Xd (sc_Xg X k f s) k 1) σ' ∧ sc_aC (sf_pl q) σ σ' := by
  have x20 : σ (sf_pl q + 3) k = X 2 k := by have := h.2 2 (by omega) k (by omega); rwa [Nat.add_assoc] at this
  have x21 : σ (sf_pl q + 3) (k + 1) = X 2 (k + 1) := by have := h.2 2 (by omega) (k + 1) hk; rwa [Nat.add_assoc] at this
  have x31 : σ (sf_pl q + 4) (k + 1) = X 3 (k + 1) := by have := h.2 3 (by omega) (k + 1) hk; rwa [Nat.add_assoc] at this
  have er : ∀ c : Nat, c < 20 → ((nI r : Int32) = nI c ↔ r = c) := fun c hc => nI_eq (by omega) (by omega)
  have i1 : sf_in (nI k) 40 = true := sc_inI (by omega) (by omega)
  have i2 : sf_in (nI (k + 1)) 40 = true := sc_inI (by omega) (by omega)
  have c8 : (8 : Int32) = nI 8 := by decide +kernel
  have c7 : (7 : Int32) = nI 7 := by decide +kernel
  have up3 : ∀ v, sc_aC (sf_pl q) σ (sf_up σ (sf_pl q + 3) (k + 1) v) := fun v x y hxy => sc_upK (by omega)
  have up4 : ∀ v, sc_aC (sf_pl q) σ (sf_up σ (sf_pl q + 4) (k + 1) v) := fun v x y hxy => sc_upK (by omega)
  unfold dX5_mergeWithNext
  rw [sc_has1 h hn (by omega)]
  simp only [Option.bind_some, nI_1]
  rw [sc_has1 h hn hk]
  simp only [Option.bind_some, i1, i2, if_true, sc_cl (show k < 2 ^ 31 by omega), sc_cl (show k + 1 < 2 ^ 31 by omega), x20, x21, x31]
  rw [if_neg (by decide), if_pos (by decide)]
  unfold dX5_mergeWithNext_81 dX5_mergeWithNext_100 dX5_mergeWithNext_125 dX5_mergeWithNext_150
  simp only [i2, if_true, sc_cl (show k + 1 < 2 ^ 31 by omega), sc_1, sc_k2, sc_k6, c7, c8, er 1 (by omega), er 2 (by omega), er 6 (by omega), er 7 (by omega), er 8 (by omega)]
  have fin : ∀ (σ1 : sf_S), sc_Xc (sf_pl q) n (sc_Xg X k f s) σ1 → sc_aC (sf_pl q) σ σ1 → ∃ σ', ((dX2_cut (sf_pl q) (nI k) (nI (k + 1)) σ1).bind fun u1 => some u1) = some σ' ∧ sc_Xc (sf_pl q) (n - 1) (sc_Xd (sc_Xg X k f s) k 1) σ' ∧ sc_aC (sf_pl q) σ σ' := fun σ1 h1 h2 => by
    obtain ⟨s', s1, s2, s3⟩ := sc_Xc_cut (a := k) (m := 1) h1 hn (by omega) rfl rfl
    rw [s1]
    exact ⟨s', rfl, s2, sc_aC_tr h2 s3⟩
  have gX : ∀ (c0 : Nat) (v : Int32), (c0 = 2 ∧ v = f ∧ s = X 3 (k + 1)) ∨ (c0 = 3 ∧ v = s ∧ f = X 2 (k + 1)) → sc_Xc (sf_pl q) n (sc_Xg X k f s) (sf_up σ (sf_pl q + 1 + c0) (k + 1) v) := fun c0 v hcv => by
    refine (sc_Xc_up h c0 (k + 1) v).congr (fun c hc j hj => ?_)
    unfold sc_Xg sc_X1
    rcases hcv with ⟨a1, a2, a3⟩ | ⟨a1, a2, a3⟩
    · subst a1; rw [← a2, a3]
      by_cases hj1 : j = k + 1
      · subst hj1
        rcases (by omega : c = 0 ∨ c = 1 ∨ c = 2 ∨ c = 3) with q | q | q | q <;> subst q <;> simp
      · simp [hj1]
    · subst a1; rw [← a2, a3]
      by_cases hj1 : j = k + 1
      · subst hj1
        rcases (by omega : c = 0 ∨ c = 1 ∨ c = 2 ∨ c = 3) with q | q | q | q <;> subst q <;> simp
      · simp [hj1]
  rcases hr with rfl | rfl | rfl | rfl | rfl
  · simp only [show ¬ (1 : Nat) = 2 by decide, show ¬ (1 : Nat) = 6 by decide, show ¬ (1 : Nat) = 7 by decide, show ¬ (1 : Nat) = 8 by decide, not_true_eq_false, not_false_eq_true, if_true, if_false] at hf hs ⊢
    exact fin _ (gX 2 _ (Or.inl ⟨rfl, hf.symm, hs⟩)) (up3 _)
  · simp only [show ¬ (2 : Nat) = 1 by decide, show ¬ (2 : Nat) = 6 by decide, show ¬ (2 : Nat) = 7 by decide, show ¬ (2 : Nat) = 8 by decide, not_true_eq_false, not_false_eq_true, if_true, if_false] at hf hs ⊢
    exact fin _ (gX 2 _ (Or.inl ⟨rfl, hf.symm, hs⟩)) (up3 _)
  · simp only [show ¬ (6 : Nat) = 1 by decide, show ¬ (6 : Nat) = 2 by decide, show ¬ (6 : Nat) = 7 by decide, show ¬ (6 : Nat) = 8 by decide, not_true_eq_false, not_false_eq_true, if_true, if_false] at hf hs ⊢
    exact fin _ (gX 3 _ (Or.inr ⟨rfl, hs.symm, hf⟩)) (up4 _)
  · simp only [show ¬ (7 : Nat) = 1 by decide, show ¬ (7 : Nat) = 2 by decide, show ¬ (7 : Nat) = 6 by decide, show ¬ (7 : Nat) = 8 by decide, not_true_eq_false, not_false_eq_true, if_true, if_false] at hf hs ⊢
    exact fin _ (gX 2 _ (Or.inl ⟨rfl, hf.symm, hs⟩)) (up3 _)
  · simp only [show ¬ (8 : Nat) = 1 by decide, show ¬ (8 : Nat) = 2 by decide, show ¬ (8 : Nat) = 6 by decide, show ¬ (8 : Nat) = 7 by decide, not_true_eq_false, not_false_eq_true, if_true, if_false] at hf hs ⊢
    exact fin _ (gX 2 _ (Or.inl ⟨rfl, hf.symm, hs⟩)) (up3 _)
/-- the reference's merge: a node k is written, then the next is cut out -/
theorem sc_mergeM {n k : Nat} {X Y : Nat → Nat → Int32} {τ : sf_S} {f s : Int32} (h : sc_Xm n Y τ) (hn : n ≤ 40) (hk : k + 1 < n) (hlow : ∀ c, c < 4 → ∀ j, j < n → j ≠ k → Y c j = X c j) (h0 : Y 0 k = X 0 (k + 1)) (h1 : Y 1 k = X 1 (k + 1)) (h2 : Y 2 k = f) (h3 : Y 3 k = s) : ∃ τ', dX12_cuts (nI (k + 1)) 1 τ = some τ' ∧ sc_Xm (n - 1) (sc_Xd (sc_Xg X k f s) k 1) τ' ∧ sc_aM τ τ' := by
  obtain ⟨s', s1, s2, s3⟩ := sc_Xm_cut (a := k + 1) (m := 1) (x := nI (k + 1)) (y := 1) h hn (by omega) rfl sc_1
  refine ⟨s', s1, s2.congr (fun c hc j hj => ?_), s3⟩
  unfold sc_Xd sc_Xg sc_X1 sc_sh
  rcases (by omega : j < k ∨ j = k ∨ k < j) with g | g | g
  · rw [if_pos (show j < k by omega), if_pos (show j < k + 1 by omega), hlow c hc j (by omega) (by omega)]
    simp [show ¬ j = k + 1 by omega]
  · subst g
    rw [if_neg (show ¬ j < j by omega), if_pos (show j < j + 1 by omega)]
    rcases (by omega : c = 0 ∨ c = 1 ∨ c = 2 ∨ c = 3) with q | q | q | q <;> subst q <;> simp [h0, h1, h2, h3]
  · rw [if_neg (show ¬ j < k by omega), if_neg (show ¬ j < k + 1 by omega), hlow c hc (j + 1) (by omega) (by omega)]
    simp [show ¬ j = k by omega]
