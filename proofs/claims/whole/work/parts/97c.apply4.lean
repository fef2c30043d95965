/-! a rule is used, both sides -/
def sc_ap (q r k : Nat) (σ τ : sf_S) : Prop := ∃ n' X' σ' τ', dX5_apply q (nI r) (nI k) σ = some σ' ∧ dX12_uses (nI k) (nI r) τ = dX12_uses_157 (nI r) τ' ∧ sc_Xc (sf_pl q) n' X' σ' ∧ sc_Xm n' X' τ' ∧ sc_Xok n' X' ∧ sc_aC (sf_pl q) σ σ' ∧ sc_aM τ τ' ∧ ∀ m, m ≤ 40 → τ 0 21 = nI m → sc_dd m (τ 11) (τ 13) → sc_dd n' (X' 0) (X' 2)
theorem sc_Pq.ok {p n : Nat} {E : Nat → Nat} {σ τ : sf_S} (h : sc_Pq p n E σ τ) : sc_Xok n (sc_X0 τ) := by
  obtain ⟨p1, p2, p3, p4, p5, p6, p7, p8, p9, p10⟩ := h
  exact ⟨p1, p2, p5, fun j hj => (p7 j hj).2.2.2.2, p10⟩
theorem sc_er {r : Nat} (hr : r < 13) (c : Nat) (hc : c < 20) : (nI r : Int32) = nI c ↔ r = c := nI_eq (by omega) (by omega)
theorem sc_e12 : (1 : Int32) = nI 1 ∧ (2 : Int32) = nI 2 ∧ (3 : Int32) = nI 3 ∧ (4 : Int32) = nI 4 ∧ (5 : Int32) = nI 5 ∧ (6 : Int32) = nI 6 ∧ (7 : Int32) = nI 7 ∧ (8 : Int32) = nI 8 ∧ (9 : Int32) = nI 9 ∧ (10 : Int32) = nI 10 ∧ (11 : Int32) = nI 11 ∧ (12 : Int32) = nI 12 := by decide +kernel
/-- which method of the class a rule is -/
theorem sc_applyC (q r k : Nat) (σ : sf_S) (hr : r < 13) : dX5_apply q (nI r) (nI k) σ = ((if r = 0 ∨ r = 9 ∨ r = 11 then dX2_makeNil (sf_pl q) (nI k) σ else if r = 3 ∨ r = 4 then dX2_swapWithNext (sf_pl q) (nI k) σ else if r = 5 then dX5_swapDropWithTake q (nI k) σ else if r = 10 then dX2_cut (sf_pl q) (nI k) (nI k + 1) σ else if r = 12 then dX5_keepOnePart q (nI k) σ else dX5_mergeWithNext q (nI r) (nI k) σ).bind fun u => some u) := by
  obtain ⟨c1, c2, c3, c4, c5, c6, c7, c8, c9, c10, c11, c12⟩ := sc_e12
  unfold dX5_apply
  match r, hr with
  | 0, _ => rw [← sc_0, if_pos rfl, if_pos (by omega)]
  | 1, _ => rw [← c1, if_neg (by decide), if_pos rfl]; simp
  | 2, _ => rw [← c2, if_neg (by decide), if_neg (by decide), if_pos rfl]; simp
  | 3, _ => rw [← c3, if_neg (by decide), if_neg (by decide), if_neg (by decide), if_pos rfl]; simp
  | 4, _ => rw [← c4, if_neg (by decide), if_neg (by decide), if_neg (by decide), if_neg (by decide), if_pos rfl]; simp
  | 5, _ => rw [← c5, if_neg (by decide), if_neg (by decide), if_neg (by decide), if_neg (by decide), if_neg (by decide), if_pos rfl]; simp
  | 6, _ => rw [← c6, if_neg (by decide), if_neg (by decide), if_neg (by decide), if_neg (by decide), if_neg (by decide), if_neg (by decide), if_pos rfl]; simp
  | 7, _ => rw [← c7, if_neg (by decide), if_neg (by decide), if_neg (by decide), if_neg (by decide), if_neg (by decide), if_neg (by decide), if_neg (by decide), if_pos rfl]; simp
  | 8, _ => rw [← c8, if_neg (by decide), if_neg (by decide), if_neg (by decide), if_neg (by decide), if_neg (by decide), if_neg (by decide), if_neg (by decide), if_neg (by decide), if_pos rfl]; simp
  | 9, _ => rw [← c9, if_neg (by decide), if_neg (by decide), if_neg (by decide), if_neg (by decide), if_neg (by decide), if_neg (by decide), if_neg (by decide), if_neg (by decide), if_neg (by decide), if_pos rfl]; simp
  | 10, _ => rw [← c10, if_neg (by decide), if_neg (by decide), if_neg (by decide), if_neg (by decide), if_neg (by decide), if_neg (by decide), if_neg (by decide), if_neg (by decide), if_neg (by decide), if_neg (by decide), if_pos rfl]; simp
  | 11, _ => rw [← c11, if_neg (by decide), if_neg (by decide), if_neg (by decide), if_neg (by decide), if_neg (by decide), if_neg (by decide), if_neg (by decide), if_neg (by decide), if_neg (by decide), if_neg (by decide), if_neg (by decide), if_pos rfl]; simp
  | 12, _ => rw [← c12, if_neg (by decide), if_neg (by decide), if_neg (by decide), if_neg (by decide), if_neg (by decide), if_neg (by decide), if_neg (by decide), if_neg (by decide), if_neg (by decide), if_neg (by decide), if_neg (by decide), if_neg (by decide), if_pos rfl]; simp
  | r + 13, h => omega
