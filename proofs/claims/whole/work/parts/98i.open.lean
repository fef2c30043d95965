/-! beginning anew, and opening the Q of an x -/
theorem sc_narI0 : vp_nar .boolean (0 : Int32) = 0 := by decide +kernel
theorem sc_narI1 : vp_nar .boolean (1 : Int32) = 1 := by decide +kernel
theorem sc_rst {q n hi : Nat} (hn : n ≤ 40) (hh : hi ≤ n) (hq : q + 2 < sf_pl q ∨ sf_pl q < q) : ∀ r lo m (σ : sf_S), lo + r = hi → r + 1 ≤ m → σ (sf_pl q) 4 = nI n → ∃ σ', dX9_restart_6 q m (nI hi) (nI lo) σ = some σ' ∧ (∀ j, lo ≤ j → j < hi → σ' (q + 1) j = 0 ∧ σ' (q + 2) j = 0) ∧ ∀ a b, ¬ ((a = q + 1 ∨ a = q + 2) ∧ lo ≤ b ∧ b < hi) → σ' a b = σ a b := by
  intro r
  induction r with
  | zero =>
    intro lo m σ h1 h2 h3
    obtain ⟨m, rfl⟩ : ∃ m', m = m' + 1 := ⟨m - 1, by omega⟩
    unfold dX9_restart_6
    rw [if_pos (nI_le (by omega) (by omega))]
    exact ⟨σ, rfl, fun j a b => by omega, fun a b _ => rfl⟩
  | succ r ih =>
    intro lo m σ h1 h2 h3
    obtain ⟨m, rfl⟩ : ∃ m', m = m' + 1 := ⟨m - 1, by omega⟩
    unfold dX9_restart_6
    rw [if_neg (nI_ge (by omega) (by omega)), h3, if_neg (nI_ge (by omega) (by omega))]
    simp only [sc_inI (show lo < 40 by omega) (by omega : 40 ≤ 10000), if_true, sc_cl (show lo < 2 ^ 31 by omega), nI_1, sc_narI0]
    obtain ⟨σ', e1, e2, e3⟩ := ih (lo + 1) m (sf_up (sf_up σ (q + 1) lo 0) (q + 2) lo 0) (by omega) (by omega) (by rw [sc_upK (by omega), sc_upK (by omega)]; exact h3)
    refine ⟨σ', e1, fun j a b => ?_, fun a b hab => ?_⟩
    · by_cases e : j = lo
      · subst e
        rw [e3 _ _ (by omega), e3 _ _ (by omega), sc_upK (by omega), sc_upS, sc_upS]
        exact ⟨rfl, rfl⟩
      · exact e2 j (by omega) b
    · rw [e3 _ _ (by omega)]
      by_cases ea : a = q + 1
      · rw [sc_upK (by omega), sc_upJ (by omega)]
      · by_cases eb : a = q + 2
        · rw [sc_upJ (by omega), sc_upK (by omega)]
        · rw [sc_upK (by omega), sc_upK (by omega)]
/-- how far a node is at its beginning -/
def sc_k0 (c f : Int32) : Int32 := if c = 114 then f else if c = 105 then f else if c = 100 then f else 0
theorem sc_bgn {X : sc_X} {lo sz : Nat} (hh : lo + sz ≤ 40) : ∀ r x m (τ : sf_S), x + r = lo + sz → r + 1 ≤ m → (∀ j, x ≤ j → j < lo + sz → τ 11 j = X.L j ∧ τ 13 j = X.f j) → ∃ τ', dX12_begins_2 m (nI lo) (nI sz) (nI x) τ = some τ' ∧ (∀ j, x ≤ j → j < lo + sz → τ' 24 j = sc_k0 (X.L j) (X.f j)) ∧ ∀ a b, ¬ (a = 24 ∧ x ≤ b ∧ b < lo + sz) → τ' a b = τ a b := by
  intro r
  induction r with
  | zero =>
    intro x m τ h1 h2 h3
    obtain ⟨m, rfl⟩ : ∃ m', m = m' + 1 := ⟨m - 1, by omega⟩
    unfold dX12_begins_2
    rw [nI_add, if_pos (nI_le (by omega) (by omega))]
    exact ⟨τ, rfl, fun j a b => by omega, fun a b _ => rfl⟩
  | succ r ih =>
    intro x m τ h1 h2 h3
    obtain ⟨m, rfl⟩ : ∃ m', m = m' + 1 := ⟨m - 1, by omega⟩
    obtain ⟨g1, g2⟩ := h3 x (by omega) (by omega)
    have key : dX12_begins_2 (m + 1) (nI lo) (nI sz) (nI x) τ = dX12_begins_2 m (nI lo) (nI sz) (nI (x + 1)) (sf_up τ 24 x (sc_k0 (X.L x) (X.f x))) := by
      conv => lhs; unfold dX12_begins_2
      rw [nI_add, if_neg (nI_ge (by omega) (by omega))]
      simp only [sc_inI (show x < 40 by omega) (by omega : 40 ≤ 10000), if_true, sc_cl (show x < 2 ^ 31 by omega), nI_1, g1, g2]
      unfold sc_k0
      by_cases e1 : X.L x = 114
      · rw [if_pos e1, if_pos e1]
      · rw [if_neg e1, if_neg e1]
        by_cases e2 : X.L x = 105
        · rw [if_pos e2, if_pos e2]
        · rw [if_neg e2, if_neg e2]
          by_cases e3 : X.L x = 100
          · rw [if_neg (not_not_intro e3), if_pos e3]
          · rw [if_pos e3, if_neg e3]
    obtain ⟨τ', e1, e2, e3⟩ := ih (x + 1) m (sf_up τ 24 x (sc_k0 (X.L x) (X.f x))) (by omega) (by omega) (fun j a b => by rw [sc_upK (by omega), sc_upK (by omega)]; exact h3 j (by omega) b)
    refine ⟨τ', key.trans e1, fun j a b => ?_, fun a b hab => ?_⟩
    · by_cases e : j = x
      · subst e
        rw [e3 _ _ (by omega), sc_upS]
      · exact e2 j (by omega) b
    · rw [e3 _ _ (by omega)]
      by_cases ea : a = 24
      · rw [sc_upJ (by omega)]
      · rw [sc_upK (by omega)]
/-- the nodes from lo on are at their beginnings -/
def sc_Bg (X : sc_X) (lo hi : Nat) (σ τ : sf_S) : Prop := ∀ j, lo ≤ j → j < hi → σ (X.q + 1) j = 0 ∧ σ (X.q + 2) j = 0 ∧ τ 24 j = sc_k0 (X.L j) (X.f j)
/-- at their beginnings nodes may be asked -/
theorem sc_Lv_bg {X : sc_X} {N : sc_NT} {D k : Nat} {σ τ : sf_S} (hN : ∀ {c mk f s op he hc hk}, sc_vn c mk f s → (c = 117 ∨ c = 118 → op = he) → N c f s D 0 0 (sc_k0 c f) op he hc hk) (h : sc_Cy X σ τ) (hk : k < X.n) (hb : sc_Bg X k (X.E k) σ τ)
    (ho : X.o k = -1 ∨ σ (X.q + 3) (X.o k).toNatClampNeg = τ 25 (X.o k).toNatClampNeg) : sc_Lv X N D σ τ k := by
  obtain ⟨w, o2, hD⟩ := h.D
  have hT := h.T
  refine ⟨fun j => (k ≤ j ∧ j < X.E k) ∧ (X.o j = -1 ∨ σ (X.q + 3) (X.o j).toNatClampNeg = τ 25 (X.o j).toNatClampNeg), ⟨⟨Nat.le_refl _, (hT.lt hk).1⟩, ho⟩, fun j hj => ?_⟩
  obtain ⟨⟨j2, j3⟩, j4⟩ := hj
  obtain ⟨b1, b2, b3⟩ := hb j j2 j3
  have hjn : j < X.n := by have := (hT.lt hk).2; omega
  have hE := hT.nest k hk j j2 j3
  refine ⟨?_, fun q => ⟨⟨by omega, ?_⟩, ?_⟩, fun q => ⟨⟨?_, ?_⟩, ?_⟩⟩
  · unfold sc_Nat
    rw [b1, b2, b3]
    refine hN (h.vn j hjn) (fun hu => ?_)
    rcases j4 with q | q
    · obtain ⟨x, x1, -, -, -, x5⟩ := h.ow hjn hu
      rw [x1] at q
      have e := congrArg Int32.toInt q
      rw [nI_toInt (by have := h.n40; omega), show (-1 : Int32).toInt = -1 from by decide] at e
      omega
    · exact q
  · have hp := sc_a1_p q
    rcases sc_p3 (X.L j) with e | e | e
    · omega
    · obtain ⟨q1, q2⟩ := hT.p1 hjn e
      have := (hT.lt q1).1
      omega
    · have := hT.p2 hjn e
      omega
  · rw [((hD.2 j hjn).1 (sc_a1_p q)).2.2]
    rw [b2] at q
    rw [if_neg]
    · exact j4
    · intro e
      rcases q with q | q | ⟨q, -⟩ | ⟨-, q⟩
      · rw [e] at q; exact absurd q (by decide +kernel)
      · rw [e] at q; exact absurd q (by decide)
      · rw [e] at q; exact absurd q (by decide)
      · exact q rfl
  · have := hT.p2 hjn q
    omega
  · have := hT.p2 hjn q
    omega
  · rw [((hD.2 j hjn).2 q).2.2]
    exact j4
theorem sc_N0_bg {D : Nat} {c mk f s op he hc hk : Int32} (hv : sc_vn c mk f s) (h : c = 117 ∨ c = 118 → op = he) : sc_N0 c f s D 0 0 (sc_k0 c f) op he hc hk := by
  refine ⟨0, Nat.zero_le _, rfl, ⟨fun q => ?_, fun q => ?_, fun q => ?_, h⟩, fun q => ?_, fun q => ?_, fun q => ?_, fun q => ⟨false, rfl, ?_⟩⟩
  · subst q; exact ⟨by simp [sc_k0, nI_0], Or.inl rfl⟩
  · subst q; simp [sc_k0, nI_0]
  · rcases q with q | q | q <;> subst q <;> rfl
  · subst q; exact ⟨rfl, by have := hv.2.2.2.2.1 rfl; omega⟩
  · subst q; exact ⟨rfl, by simp [sc_k0, nI_0], Or.inl rfl⟩
  · subst q; exact ⟨rfl, rfl⟩
  · rcases q with q | q <;> subst q <;> rfl
