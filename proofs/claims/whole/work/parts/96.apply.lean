/-! a plan's rows, as one function of both sides -/
def sc_Xc (p n : Nat) (X : Nat → Nat → Int32) (σ : sf_S) : Prop := σ p 4 = nI n ∧ ∀ c, c < 4 → ∀ j, j < n → σ (p + 1 + c) j = X c j
def sc_Xm (n : Nat) (X : Nat → Nat → Int32) (τ : sf_S) : Prop := τ 0 21 = nI n ∧ ∀ c, c < 4 → ∀ j, j < n → τ (11 + c) j = X c j
def sc_Rp (p n : Nat) (σ τ : sf_S) : Prop := 0 < n ∧ n ≤ 40 ∧ σ p 4 = nI n ∧ τ 0 21 = nI n ∧ sc_G n (τ 11) ∧ sc_Ar p n σ τ ∧ sc_ws (τ 11) n ≤ 400
def sc_Xok (n : Nat) (X : Nat → Nat → Int32) : Prop := 0 < n ∧ n ≤ 40 ∧ sc_G n (X 0) ∧ (∀ j, j < n → sc_vn (X 0 j) (X 1 j) (X 2 j) (X 3 j)) ∧ sc_ws (X 0) n ≤ 400
theorem sc_mk_Rp {p n : Nat} {X : Nat → Nat → Int32} {σ τ : sf_S} (hc : sc_Xc p n X σ) (hm : sc_Xm n X τ) (h : sc_Xok n X) : sc_Rp p n σ τ := by
  obtain ⟨h0, hn, hG, hv, hw⟩ := h
  have e : ∀ j, j < n → τ 11 j = X 0 j := fun j hj => hm.2 0 (by omega) j hj
  refine ⟨h0, hn, hc.1, hm.1, (sc_st_congr (L := X 0) (n := n) e).trans hG, fun j hj => ?_, by rw [sc_ws_congr (L := X 0) (n := n) e]; exact hw⟩
  have c0 := hc.2 0 (by omega) j hj
  have c1 := hc.2 1 (by omega) j hj
  have c2 := hc.2 2 (by omega) j hj
  have c3 := hc.2 3 (by omega) j hj
  have m0 := hm.2 0 (by omega) j hj
  have m1 := hm.2 1 (by omega) j hj
  have m2 := hm.2 2 (by omega) j hj
  have m3 := hm.2 3 (by omega) j hj
  simp only [Nat.add_zero, Nat.add_assoc, Nat.reduceAdd] at c0 c1 c2 c3 m0 m1 m2 m3
  rw [c0, c1, c2, c3, m0, m1, m2, m3]
  exact ⟨rfl, rfl, rfl, rfl, hv j hj⟩
theorem sc_Xc.congr {p n : Nat} {X X' : Nat → Nat → Int32} {σ : sf_S} (h : sc_Xc p n X σ) (hX : ∀ c, c < 4 → ∀ j, j < n → X' c j = X c j) : sc_Xc p n X' σ := ⟨h.1, fun c hc j hj => (h.2 c hc j hj).trans (hX c hc j hj).symm⟩
theorem sc_Xm.congr {n : Nat} {X X' : Nat → Nat → Int32} {τ : sf_S} (h : sc_Xm n X τ) (hX : ∀ c, c < 4 → ∀ j, j < n → X' c j = X c j) : sc_Xm n X' τ := ⟨h.1, fun c hc j hj => (h.2 c hc j hj).trans (hX c hc j hj).symm⟩
def sc_X0 (τ : sf_S) : Nat → Nat → Int32 := fun c j => τ (11 + c) j
theorem sc_Pq.X {p n : Nat} {E : Nat → Nat} {σ τ : sf_S} (h : sc_Pq p n E σ τ) : sc_Xc p n (sc_X0 τ) σ ∧ sc_Xm n (sc_X0 τ) τ := by
  obtain ⟨p1, p2, p3, p4, p5, p6, p7, p8, p9, p10⟩ := h
  refine ⟨⟨p3, fun c hc j hj => ?_⟩, p4, fun c hc j hj => rfl⟩
  obtain ⟨q1, q2, q3, q4, -⟩ := p7 j hj
  rcases (by omega : c = 0 ∨ c = 1 ∨ c = 2 ∨ c = 3) with q | q | q | q <;> subst q
  · exact q1
  · exact q2
  · exact q3
  · exact q4
/-- one place written -/
def sc_X1 (X : Nat → Nat → Int32) (c0 j0 : Nat) (v : Int32) : Nat → Nat → Int32 := fun c j => if c = c0 ∧ j = j0 then v else X c j
theorem sc_Xc_up {p n : Nat} {X : Nat → Nat → Int32} {σ : sf_S} (h : sc_Xc p n X σ) (c0 j0 : Nat) (v : Int32) : sc_Xc p n (sc_X1 X c0 j0 v) (sf_up σ (p + 1 + c0) j0 v) := by
  refine ⟨by rw [sc_upK (by omega)]; exact h.1, fun c hc j hj => ?_⟩
  unfold sc_X1
  by_cases hcj : c = c0 ∧ j = j0
  · rw [if_pos hcj, hcj.1, hcj.2, sc_upS]
  · rw [if_neg hcj]
    by_cases hc0 : c = c0
    · rw [sc_upJ (by omega)]; exact h.2 c hc j hj
    · rw [sc_upK (by omega)]; exact h.2 c hc j hj
theorem sc_Xm_up {n : Nat} {X : Nat → Nat → Int32} {τ : sf_S} (h : sc_Xm n X τ) (c0 j0 : Nat) (v : Int32) : sc_Xm n (sc_X1 X c0 j0 v) (sf_up τ (11 + c0) j0 v) := by
  refine ⟨by rw [sc_upK (by omega)]; exact h.1, fun c hc j hj => ?_⟩
  unfold sc_X1
  by_cases hcj : c = c0 ∧ j = j0
  · rw [if_pos hcj, hcj.1, hcj.2, sc_upS]
  · rw [if_neg hcj]
    by_cases hc0 : c = c0
    · rw [sc_upJ (by omega)]; exact h.2 c hc j hj
    · rw [sc_upK (by omega)]; exact h.2 c hc j hj
/-- a node written -/
def sc_X4 (X : Nat → Nat → Int32) (k : Nat) (v : Nat → Int32) : Nat → Nat → Int32 := fun c j => if j = k then v c else X c j
def sc_w4 (a b c d : Int32) : Nat → Int32
  | 0 => a
  | 1 => b
  | 2 => c
  | _ => d
def sc_aC (p : Nat) (σ σ' : sf_S) : Prop := ∀ x y, ¬ ((x = p ∧ y = 4) ∨ (p + 1 ≤ x ∧ x ≤ p + 4)) → σ' x y = σ x y
def sc_aM (τ τ' : sf_S) : Prop := ∀ x y, ¬ ((x = 0 ∧ y = 21) ∨ (11 ≤ x ∧ x ≤ 14)) → τ' x y = τ x y
theorem sc_aC_tr {p : Nat} {a b c : sf_S} (h1 : sc_aC p a b) (h2 : sc_aC p b c) : sc_aC p a c := fun x y h => (h2 x y h).trans (h1 x y h)
theorem sc_aM_tr {a b c : sf_S} (h1 : sc_aM a b) (h2 : sc_aM b c) : sc_aM a c := fun x y h => (h2 x y h).trans (h1 x y h)
theorem sc_Xc_4 {p n k : Nat} {X : Nat → Nat → Int32} {σ : sf_S} (h : sc_Xc p n X σ) (a b c d : Int32) : sc_Xc p n (sc_X4 X k (sc_w4 a b c d)) (sf_up (sf_up (sf_up (sf_up σ (p + 1) k a) (p + 2) k b) (p + 3) k c) (p + 4) k d) ∧ sc_aC p σ (sf_up (sf_up (sf_up (sf_up σ (p + 1) k a) (p + 2) k b) (p + 3) k c) (p + 4) k d) := by
  refine ⟨?_, fun x y hxy => by rw [sc_upK (by omega), sc_upK (by omega), sc_upK (by omega), sc_upK (by omega)]⟩
  have := sc_Xc_up (sc_Xc_up (sc_Xc_up (sc_Xc_up h 0 k a) 1 k b) 2 k c) 3 k d
  refine this.congr (fun e he j hj => ?_)
  unfold sc_X4 sc_X1
  rcases (by omega : e = 0 ∨ e = 1 ∨ e = 2 ∨ e = 3) with q | q | q | q <;> subst q <;> by_cases hjk : j = k <;> simp [hjk, sc_w4]
theorem sc_Xm_4 {n k : Nat} {X : Nat → Nat → Int32} {τ : sf_S} (h : sc_Xm n X τ) (a b c d : Int32) : sc_Xm n (sc_X4 X k (sc_w4 a b c d)) (sf_up (sf_up (sf_up (sf_up τ 11 k a) 12 k b) 13 k c) 14 k d) ∧ sc_aM τ (sf_up (sf_up (sf_up (sf_up τ 11 k a) 12 k b) 13 k c) 14 k d) := by
  refine ⟨?_, fun x y hxy => by rw [sc_upK (by omega), sc_upK (by omega), sc_upK (by omega), sc_upK (by omega)]⟩
  have := sc_Xm_up (sc_Xm_up (sc_Xm_up (sc_Xm_up h 0 k a) 1 k b) 2 k c) 3 k d
  refine this.congr (fun e he j hj => ?_)
  unfold sc_X4 sc_X1
  rcases (by omega : e = 0 ∨ e = 1 ∨ e = 2 ∨ e = 3) with q | q | q | q <;> subst q <;> by_cases hjk : j = k <;> simp [hjk, sc_w4]
/-- nodes cut out -/
def sc_Xd (X : Nat → Nat → Int32) (a m : Nat) : Nat → Nat → Int32 := fun c j => X c (sc_sh a m j)
theorem sc_Xc_cut {p n a m : Nat} {X : Nat → Nat → Int32} {σ : sf_S} (h : sc_Xc p n X σ) (hn : n ≤ 40) (ha : a + m ≤ n) {x y : Int32} (hx : x = nI a) (hy : y = nI (a + m)) : ∃ s, dX2_cut p x y σ = some s ∧ sc_Xc p (n - m) (sc_Xd X a m) s ∧ sc_aC p σ s := by
  obtain ⟨s, s1, s2, s3, s4⟩ := sc_cutC (p := p) (a := a) (b := a + m) hn (by omega) ha h.1
  rw [show a + m - a = m by omega] at s2 s3
  refine ⟨s, by rw [hx, hy]; exact s1, ⟨s2, fun c hc j hj => ?_⟩, fun u v huv => s4 u v (by omega)⟩
  rw [Nat.add_assoc, s3 (1 + c) (by omega) (by omega) j hj, ← Nat.add_assoc]
  exact h.2 c hc _ (by unfold sc_sh; split <;> omega)
theorem sc_Xm_cut {n a m : Nat} {X : Nat → Nat → Int32} {τ : sf_S} (h : sc_Xm n X τ) (hn : n ≤ 40) (ha : a + m ≤ n) {x y : Int32} (hx : x = nI a) (hy : y = nI m) : ∃ s, dX12_cuts x y τ = some s ∧ sc_Xm (n - m) (sc_Xd X a m) s ∧ sc_aM τ s := by
  obtain ⟨s, s1, s2, s3, s4⟩ := sc_cutM (a := a) (m := m) hn ha h.1
  refine ⟨s, by rw [hx, hy]; exact s1, ⟨s2, fun c hc j hj => ?_⟩, s4⟩
  rw [s3 (11 + c) (by omega) (by omega) j hj]
  exact h.2 c hc _ (by unfold sc_sh; split <;> omega)
theorem sc_becomes {n k : Nat} {X : Nat → Nat → Int32} {τ : sf_S} (h : sc_Xm n X τ) (hk : k < 40) (a c d : Int32) : ∃ s, dX12_becomes (nI k) a c d τ = some s ∧ sc_Xm n (sc_X4 X k (sc_w4 a (-1) c d)) s ∧ sc_aM τ s := by
  obtain ⟨h1, h2⟩ := sc_Xm_4 (k := k) h a (-1) c d
  refine ⟨_, ?_, h1, h2⟩
  unfold dX12_becomes
  simp only [sc_inI hk (by omega : 40 ≤ 10000), if_true, sc_cl (show k < 2 ^ 31 by omega)]
/-! a node becomes the nil -/
def sc_Xn (X : Nat → Nat → Int32) (k m : Nat) : Nat → Nat → Int32 := sc_Xd (sc_X4 X k (sc_w4 114 (-1) 0 0)) (k + 1) m
theorem sc_makeNil {p n k : Nat} {E : Nat → Nat} {X : Nat → Nat → Int32} {σ : sf_S} (h : sc_Xc p n X σ) (hn : n ≤ 40) (hk : k < n) (h5 : σ (p + 5) k = nI (E k)) (hE : k < E k ∧ E k ≤ n) : ∃ s, dX2_makeNil p (nI k) σ = some s ∧ sc_Xc p (n - (E k - (k + 1))) (sc_Xn X k (E k - (k + 1))) s ∧ sc_aC p σ s := by
  obtain ⟨h1, h2⟩ := sc_Xc_4 (k := k) h 114 (-1) 0 0
  unfold dX2_makeNil
  rw [sc_has hn h.1 (by omega), decide_eq_true hk]
  simp (disch := omega) only [Option.bind_some, sc_inI (show k < 40 by omega) (by omega : 40 ≤ 10000), if_true, sc_cl (show k < 2 ^ 31 by omega), nI_1, sc_upK, h5]
  rw [if_pos (by decide)]
  obtain ⟨s, s1, s2, s3⟩ := sc_Xc_cut (a := k + 1) (m := E k - (k + 1)) h1 hn (by omega) rfl (by rw [show k + 1 + (E k - (k + 1)) = E k by omega])
  rw [s1]
  exact ⟨s, rfl, s2, sc_aC_tr h2 s3⟩
theorem sc_nilOp {n k : Nat} {E : Nat → Nat} {X : Nat → Nat → Int32} {τ : sf_S} (h : sc_Xm n X τ) (hn : n ≤ 40) (hk : k < n) (h15 : τ 15 k = nI (E k - k)) (hE : k < E k ∧ E k ≤ n) : ∃ s, dX12_nil (nI k) τ = some s ∧ sc_Xm (n - (E k - (k + 1))) (sc_Xn X k (E k - (k + 1))) s ∧ sc_aM τ s := by
  obtain ⟨s, s1, s2, s3⟩ := sc_becomes h (show k < 40 by omega) 114 0 0
  unfold dX12_nil
  rw [if_pos (sc_inI (by omega) (by omega)), sc_cl (by omega), h15]
  simp only [s1, Option.bind_some, nI_1]
  obtain ⟨s', t1, t2, t3⟩ := sc_Xm_cut (a := k + 1) (m := E k - (k + 1)) (x := nI (k + 1)) (y := nI (E k - k) - 1) s2 hn (by omega) rfl (by rw [sc_1, pk_sub (by omega)]; congr 1)
  rw [t1]
  exact ⟨s', rfl, t2, sc_aM_tr s3 t3⟩
theorem sc_vn_nil : sc_vn 114 (-1) 0 0 := ⟨by decide +kernel, by rw [if_pos (by decide +kernel)], fun _ => rfl, fun _ => rfl, fun q => absurd q (by decide), fun q => absurd q (by decide +kernel)⟩
theorem sc_Xn_ok {n k : Nat} {E : Nat → Nat} {X : Nat → Nat → Int32} (h : sc_Xok n X) (hT : sc_T n (X 0) E) (hk : k < n) (hw : sc_ws (X 0) k + 25 ≤ sc_ws (X 0) (E k)) : sc_Xok (n - (E k - (k + 1))) (sc_Xn X k (E k - (k + 1))) := by
  obtain ⟨h0, hn, hG, hv, hws⟩ := h
  obtain ⟨a, Y, t1, t2, t3, t4, -, -, -, tuv⟩ := hT k hk
  have low : ∀ j, j < k → sc_Xn X k (E k - (k + 1)) 0 j = X 0 j := fun j hj => by
    unfold sc_Xn sc_Xd sc_X4 sc_sh
    rw [if_pos (show j < k + 1 by omega), if_neg (show ¬ j = k by omega)]
  have mid : sc_Xn X k (E k - (k + 1)) 0 k = 114 := by
    unfold sc_Xn sc_Xd sc_X4 sc_sh
    rw [if_pos (show k < k + 1 by omega), if_pos rfl]; rfl
  have up : ∀ j, k + 1 ≤ j → j < n - (E k - (k + 1)) → sc_Xn X k (E k - (k + 1)) 0 j = X 0 (j + (E k - (k + 1))) := fun j hj _ => by
    unfold sc_Xn sc_Xd sc_X4 sc_sh
    rw [if_neg (show ¬ j < k + 1 by omega), if_neg (by omega)]
  have e1 : k + 1 + (E k - (k + 1)) = E k := by omega
  have st1 : sc_st (sc_Xn X k (E k - (k + 1)) 0) (k + 1) = sc_st (X 0) (k + 1 + (E k - (k + 1))) := by
    rw [e1, t4, sc_st, sc_st_congr (L := X 0) (n := k) low, t1, mid]
    rfl
  have wlow : sc_ws (sc_Xn X k (E k - (k + 1)) 0) (k + 1) = sc_ws (X 0) k + 25 := by
    rw [sc_ws, sc_ws_congr (L := X 0) (n := k) low, mid]
    rfl
  have hN : n - (E k - (k + 1)) + (E k - (k + 1)) = n := by omega
  refine ⟨by omega, by omega, ?_, fun j hj => ?_, ?_⟩
  · have := sc_st_shift st1 (n - (E k - (k + 1))) (by omega) (fun j hj1 hj2 => up j hj1 hj2)
    rw [hN] at this
    exact this.trans hG
  · unfold sc_Xn sc_Xd sc_X4
    by_cases hjk : sc_sh (k + 1) (E k - (k + 1)) j = k
    · rw [if_pos hjk, if_pos hjk, if_pos hjk, if_pos hjk]
      exact sc_vn_nil
    · rw [if_neg hjk, if_neg hjk, if_neg hjk, if_neg hjk]
      exact hv _ (by unfold sc_sh; split <;> omega)
  · have := sc_ws_shift (n - (E k - (k + 1))) (show k + 1 ≤ n - (E k - (k + 1)) by omega) (fun j hj1 hj2 => up j hj1 hj2)
    rw [hN, wlow, e1] at this
    omega
