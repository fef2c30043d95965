/-! way 2: rows put behind one another, and joined -/
theorem sc_subI {a b : Nat} (h : b ≤ a) : nI a - nI b = nI (a - b) := by
  obtain ⟨c, rfl⟩ : ∃ c, a = c + b := ⟨a - b, by omega⟩
  rw [← nI_add, Int32.add_sub_cancel, Nat.add_sub_cancel]
def sc_ar (σ : sf_S) (k j len n : Nat) : sf_S := sf_up (sf_cpy σ 34 (nI (60 * j)) (nI (60 * k + len)) (nI n)) 35 k (nI (len + n))
theorem sc_ar_34 {σ : sf_S} {k j len n x : Nat} (hk : k < 40) (hj : j < 40) (hl : len ≤ 60) (hn : n ≤ 60) : sc_ar σ k j len n 34 x = if 60 * k + len ≤ x ∧ x < 60 * k + len + n then σ 34 (60 * j + (x - (60 * k + len))) else σ 34 x := by
  unfold sc_ar
  rw [sc_upK (by decide)]
  simp only [sf_cpy, if_true, va_cpy, sc_cl (show 60 * j < 2 ^ 31 by omega), sc_cl (show 60 * k + len < 2 ^ 31 by omega), sc_cl (show n < 2 ^ 31 by omega)]
theorem sc_ar_fr {σ : sf_S} {k j len n : Nat} (hk : k < 40) (hj : j < 40) (hl : len + n ≤ 60) : sc_fr (sc_rwC k) σ (sc_ar σ k j len n) := fun a b hab => by
  simp [sc_rwC] at hab
  by_cases q : a = 34
  · subst q
    rw [sc_ar_34 hk hj (by omega) (by omega), if_neg (by omega)]
  · unfold sc_ar
    by_cases q2 : a = 35
    · subst q2
      rw [sc_upJ (by omega)]
      simp [sf_cpy]
    · rw [sc_upK q2]
      simp [sf_cpy, q]
theorem sc_addRow {X : sc_X} {σ τ : sf_S} (hq : X.q = 32) (h : sc_Cy X σ τ) {k j len n : Nat} (hk : k < X.n) (hj : j < X.n) (h1 : σ 35 k = nI len) (h2 : σ 35 j = nI n) (hl : len ≤ 60) (hn : n ≤ 60) (hjk : j ≠ k) :
    dX1_addRow (nI k) (nI j) σ = if len + n ≤ 60 then some (1, sc_ar σ k j len n) else some (0, sf_up (sf_up σ 19 5 4) 19 6 (X.dp k)) := by
  obtain ⟨g1, g2, g3, g4⟩ := sc_r32 hq
  have hn4 := h.n40
  have hk' := h.has hk
  have hj' := h.has hj
  have c7 := (h.c5 k hk).2.1
  rw [g1] at hk' hj' c7
  unfold dX1_addRow
  rw [hk']
  simp only [Option.bind_some]
  rw [if_neg (show ¬ (1 : Int32) = 0 by decide), hj']
  simp only [Option.bind_some]
  rw [if_pos (show ¬ (1 : Int32) = 0 by decide)]
  simp only [h.nin hk, h.nin hj, if_true, h.ncl hk, h.ncl hj, h1, h2, nI_add]
  by_cases hs : len + n ≤ 60
  · rw [if_pos hs, if_pos (show nI (len + n) ≤ 60 from nI_le (b := 60) hs (by decide)), sc_c60, sc_mul, sc_mul, nI_add, show j * 60 = 60 * j by omega, show k * 60 + len = 60 * k + len by omega]
    rw [if_pos]
    · unfold sc_ar
      congr 3
      rw [show sf_cpy σ 34 (nI (60 * j)) (nI (60 * k + len)) (nI n) 35 k = nI len by simp [sf_cpy, h1], show sf_cpy σ 34 (nI (60 * j)) (nI (60 * k + len)) (nI n) 35 j = nI n by simp [sf_cpy, h2], nI_add]
    · simp only [sc_cl (show 60 * j < 2 ^ 31 by omega), sc_cl (show 60 * k + len < 2 ^ 31 by omega), sc_cl (show n < 2 ^ 31 by omega), nI_pos (show 60 * j < 2 ^ 31 by omega), nI_pos (show 60 * k + len < 2 ^ 31 by omega), nI_pos (show n < 2 ^ 31 by omega), decide_false, Bool.not_false, Bool.and_eq_true, Bool.true_and, Nat.ble_eq]
      omega
  · rw [if_neg hs, if_neg (show ¬ nI (len + n) ≤ 60 from nI_ge (a := 60) (by omega) (by omega)), show σ 8 k = X.dp k from c7]
    unfold dX6_fail
    simp only [Option.bind_some]
theorem sc_addsE {k len : Nat} {τ : sf_S} (hk : k < 40) (hl : len < 60) (h : τ 31 k = nI len) (v : Int32) : dX12_adds (nI k) v τ = some (sf_up (sf_up τ 30 (60 * k + len) v) 31 k (nI (len + 1))) := by
  unfold dX12_adds
  simp only [sc_inI (show k < 40 from hk) (by omega : 40 ≤ 10000), if_true, sc_cl (show k < 2 ^ 31 by omega)]
  rw [h, sc_idx2]
  simp only [sc_inI (show 60 * k + len < 2400 by omega) (by omega : 2400 ≤ 10000), if_true, sc_cl (show 60 * k + len < 2 ^ 31 by omega)]
  rw [sc_upK (by decide), h, nI_1]
/-- the reference puts one row behind another -/
theorem sc_or45 {k j len n : Nat} (hk : k < 40) (hj : j < 40) (hjk : j ≠ k) (hl : len + n ≤ 60) : ∀ r i m (τ : sf_S), i + r = n → r + 1 ≤ m → τ 31 j = nI n → τ 31 k = nI (len + i) →
    ∃ τ', dX12_opensRow_45 m (nI k) (nI j) (nI i) τ = dX12_opensRow_87 (nI k) (nI j) (sf_up τ' 33 k (τ 33 k + 1)) ∧ sc_fr (sc_rwM k) τ τ' ∧ τ' 31 k = nI (len + n) ∧ (∀ x, x < len + i → τ' 30 (60 * k + x) = τ 30 (60 * k + x)) ∧ ∀ x, i ≤ x → x < n → τ' 30 (60 * k + len + x) = τ 30 (60 * j + x) := by
  intro r
  induction r with
  | zero =>
    intro i m τ h1 h2 hj1 hk1
    obtain ⟨m, rfl⟩ : ∃ m', m = m' + 1 := ⟨m - 1, by omega⟩
    have e : i = n := by omega
    subst e
    unfold dX12_opensRow_45
    simp only [sc_inI (show j < 40 from hj) (by omega : 40 ≤ 10000), sc_inI (show k < 40 from hk) (by omega : 40 ≤ 10000), if_true, sc_cl (show j < 2 ^ 31 by omega), sc_cl (show k < 2 ^ 31 by omega)]
    rw [hj1, if_pos (nI_le (Nat.le_refl _) (by omega))]
    exact ⟨τ, rfl, sc_fr_rf, hk1, fun _ _ => rfl, fun x a b => by omega⟩
  | succ r ih =>
    intro i m τ h1 h2 hj1 hk1
    obtain ⟨m, rfl⟩ : ∃ m', m = m' + 1 := ⟨m - 1, by omega⟩
    obtain ⟨τ', e1, e2, e3, e4, e5⟩ := ih (i + 1) m (sf_up (sf_up τ 30 (60 * k + (len + i)) (τ 30 (60 * j + i))) 31 k (nI (len + i + 1))) (by omega) (by omega) (by rw [sc_upJ hjk, sc_upK (by decide)]; exact hj1) sc_upS
    refine ⟨τ', ?_, sc_fr_tr (sc_fr_tr (sc_fr_up (by simp [sc_rwM]; omega)) (sc_fr_up (by simp [sc_rwM]))) e2, e3, fun x hx => ?_, fun x a b => ?_⟩
    · rw [sc_upK (by decide), sc_upK (by decide)] at e1
      rw [← e1]
      conv => lhs; unfold dX12_opensRow_45
      simp only [sc_inI (show j < 40 from hj) (by omega : 40 ≤ 10000), if_true, sc_cl (show j < 2 ^ 31 by omega)]
      rw [hj1, if_neg (nI_ge (by omega) (by omega)), sc_idx2]
      simp only [sc_inI (show 60 * j + i < 2400 by omega) (by omega : 2400 ≤ 10000), if_true, sc_cl (show 60 * j + i < 2 ^ 31 by omega)]
      rw [sc_addsE hk (by omega) hk1]
      simp only [Option.bind_some, nI_1]
    · rw [e4 x (by omega), sc_upK (by decide), sc_upJ (by omega)]
    · by_cases q : x = i
      · rw [q, show 60 * k + len + i = 60 * k + (len + i) by omega, e4 (len + i) (by omega), sc_upK (by decide), sc_upS]
      · rw [e5 x (by omega) b, sc_upK (by decide), sc_upJ (by omega)]
/-- the reference puts two rows together -/
theorem sc_jr123 {k p q n1 n2 : Nat} (hk : k < 40) (hp : p < 40) (hq : q < 40) (hpk : p ≠ k) (hqk : q ≠ k) (hl : n1 + n2 ≤ 60) : ∀ r i m (τ : sf_S), i + r = n1 + n2 → r + 1 ≤ m → τ 31 p = nI n1 → τ 31 q = nI n2 → τ 31 k = nI i →
    ∃ τ', dX12_joinsRows_123 m (nI k) (nI p) (nI q) (nI i) τ = some τ' ∧ sc_fr (sc_rwM k) τ τ' ∧ τ' 31 k = nI (n1 + n2) ∧ (∀ x, x < i → τ' 30 (60 * k + x) = τ 30 (60 * k + x)) ∧ ∀ x, i ≤ x → x < n1 + n2 → τ' 30 (60 * k + x) = if x < n1 then τ 30 (60 * p + x) else τ 30 (60 * q + (x - n1)) := by
  intro r
  induction r with
  | zero =>
    intro i m τ h1 h2 hp1 hq1 hk1
    obtain ⟨m, rfl⟩ : ∃ m', m = m' + 1 := ⟨m - 1, by omega⟩
    have e : i = n1 + n2 := by omega
    subst e
    unfold dX12_joinsRows_123
    simp only [sc_inI (show p < 40 from hp) (by omega : 40 ≤ 10000), sc_inI (show q < 40 from hq) (by omega : 40 ≤ 10000), if_true, sc_cl (show p < 2 ^ 31 by omega), sc_cl (show q < 2 ^ 31 by omega)]
    rw [hp1, hq1, nI_add, if_pos (nI_le (Nat.le_refl _) (by omega))]
    exact ⟨τ, rfl, sc_fr_rf, hk1, fun _ _ => rfl, fun x a b => by omega⟩
  | succ r ih =>
    intro i m τ h1 h2 hp1 hq1 hk1
    obtain ⟨m, rfl⟩ : ∃ m', m = m' + 1 := ⟨m - 1, by omega⟩
    have key : ∃ v, v = (if i < n1 then τ 30 (60 * p + i) else τ 30 (60 * q + (i - n1))) ∧ dX12_joinsRows_123 (m + 1) (nI k) (nI p) (nI q) (nI i) τ = dX12_joinsRows_123 m (nI k) (nI p) (nI q) (nI (i + 1)) (sf_up (sf_up τ 30 (60 * k + i) v) 31 k (nI (i + 1))) := by
      conv in (dX12_joinsRows_123 (m + 1) _ _ _ _ _) => unfold dX12_joinsRows_123
      simp only [sc_inI (show p < 40 from hp) (by omega : 40 ≤ 10000), sc_inI (show q < 40 from hq) (by omega : 40 ≤ 10000), if_true, sc_cl (show p < 2 ^ 31 by omega), sc_cl (show q < 2 ^ 31 by omega)]
      rw [hp1, hq1, nI_add, if_neg (nI_ge (by omega) (by omega)), sc_idx2, sc_idx2]
      by_cases z : i < n1
      · rw [if_neg (nI_ge z (by omega)), if_pos z]
        simp only [sc_inI (show 60 * p + i < 2400 by omega) (by omega : 2400 ≤ 10000), if_true, sc_cl (show 60 * p + i < 2 ^ 31 by omega)]
        rw [sc_addsE hk (by omega) hk1]
        exact ⟨_, rfl, by simp only [Option.bind_some, nI_1]⟩
      · rw [if_pos (nI_le (by omega) (by omega)), if_neg z, sc_subI (show n1 ≤ 60 * q + i by omega), show 60 * q + i - n1 = 60 * q + (i - n1) by omega]
        simp only [sc_inI (show 60 * q + (i - n1) < 2400 by omega) (by omega : 2400 ≤ 10000), if_true, sc_cl (show 60 * q + (i - n1) < 2 ^ 31 by omega)]
        rw [sc_addsE hk (by omega) hk1]
        exact ⟨_, rfl, by simp only [Option.bind_some, nI_1]⟩
    obtain ⟨v, hv, hkey⟩ := key
    obtain ⟨τ', e1, e2, e3, e4, e5⟩ := ih (i + 1) m (sf_up (sf_up τ 30 (60 * k + i) v) 31 k (nI (i + 1))) (by omega) (by omega) (by rw [sc_upJ hpk, sc_upK (by decide)]; exact hp1) (by rw [sc_upJ hqk, sc_upK (by decide)]; exact hq1) sc_upS
    refine ⟨τ', hkey.trans e1, sc_fr_tr (sc_fr_tr (sc_fr_up (by simp [sc_rwM]; omega)) (sc_fr_up (by simp [sc_rwM]))) e2, e3, fun x hx => ?_, fun x a b => ?_⟩
    · rw [e4 x (by omega), sc_upK (by decide), sc_upJ (by omega)]
    · by_cases z : x = i
      · rw [z, e4 i (by omega), sc_upK (by decide), sc_upS, hv]
      · rw [e5 x (by omega) b]
        by_cases z2 : x < n1
        · rw [if_pos z2, if_pos z2, sc_upK (by decide), sc_upJ (by omega)]
        · rw [if_neg z2, if_neg z2, sc_upK (by decide), sc_upJ (by omega)]
/-- c: both rows -/
theorem sc_chn2 {X : sc_X} {D np g k p q n1 n2 : Nat} {σ τ : sf_S} (hq : X.q = 32) (w : sc_W X D np g σ τ) (hk : k < X.n) (hp : p < X.n) (hqn : q < X.n) (hpk : p ≠ k) (hqk : q ≠ k) (hfl : σ 19 5 = 0) (r0 : sc_row k 0 σ τ) (r1 : sc_row p n1 σ τ) (r2 : sc_row q n2 σ τ) (hL : X.L k = 99) (hps : τ 16 k = nI p) (hqs : τ 17 k = nI q) :
    ∃ b σ' τ', (dX1_addRow (nI k) (nI p) σ).bind (fun u7 => if u7.1 = 0 then some ((0 : Int32), u7.2) else (dX1_addRow (nI k) (nI q) u7.2).bind fun u8 => if u8.1 = 0 then some ((0 : Int32), u8.2) else some ((1 : Int32), u8.2)) = some (sc_b b, σ') ∧ dX12_joinsRows (nI k) τ = some τ' ∧ sc_W X D np g σ' τ' ∧ sc_fr (sc_fpC k) σ σ' ∧ sc_fr (sc_fpM k) τ τ' ∧
      ((b = true ∧ σ' 19 5 = 0 ∧ sc_row k (n1 + n2) σ' τ') ∨ (b = false ∧ ¬ σ' 19 5 = 0)) := by
  obtain ⟨g1, g2, g3, g4⟩ := sc_r32 hq
  have hn4 := w.cy.n40
  have hF := sf_F_le
  obtain ⟨a1, a2, a3, a4⟩ := r1
  obtain ⟨b1, b2, b3, b4⟩ := r2
  obtain ⟨z1, z2, z3, z4⟩ := r0
  obtain ⟨c1, c2, c3, c4⟩ := w.cy.r1 k hk
  obtain ⟨c5, c6, c7, c8, c9⟩ := w.cy.r5 k hk
  have fr1 := sc_ar_fr (σ := σ) (k := k) (j := p) (len := 0) (n := n1) (by omega) (by omega) (by omega)
  have w1 : sc_W X D np g (sc_ar σ k p 0 n1) τ := w.light2 (sc_rwC_L hq fr1) sc_fr_rf
  have hs1 : sc_ar σ k p 0 n1 35 k = nI n1 := by unfold sc_ar; rw [sc_upS, Nat.zero_add]
  have hs2 : sc_ar σ k p 0 n1 35 q = nI n2 := by rw [fr1 _ _ (by simp [sc_rwC]; omega)]; exact b2
  rw [sc_addRow hq w.cy hk hp z2 a2 (by omega) a1 hpk, if_pos (by omega)]
  simp only [Option.bind_some]
  rw [if_neg (show ¬ (1 : Int32) = 0 by decide), sc_addRow hq w1.cy hk hqn hs1 hs2 a1 b1 hqk]
  unfold dX12_joinsRows
  simp only [w.cy.nin hk, if_true, w.cy.ncl hk, c1, hps, hqs]
  rw [if_pos (show ¬ X.L k = 122 by rw [hL]; decide)]
  simp only [w.cy.nin hp, w.cy.nin hqn, if_true, w.cy.ncl hp, w.cy.ncl hqn, a3, b3, nI_add]
  by_cases hs : n1 + n2 ≤ 60
  · rw [if_pos hs, if_pos (show nI (n1 + n2) ≤ 60 from nI_le (b := 60) hs (by decide))]
    simp only [Option.bind_some]
    rw [if_neg (show ¬ (1 : Int32) = 0 by decide)]
    obtain ⟨τ', y1, y2, y3, -, y5⟩ := sc_jr123 (k := k) (p := p) (q := q) (n1 := n1) (n2 := n2) (by omega) (by omega) (by omega) hpk hqk hs (n1 + n2) 0 sf_F τ (by omega) (by omega) a3 b3 z3
    rw [nI_0] at y1
    have fr2 := sc_ar_fr (σ := sc_ar σ k p 0 n1) (k := k) (j := q) (len := n1) (n := n2) (by omega) (by omega) hs
    refine ⟨true, _, τ', rfl, y1, w1.light2 (sc_rwC_L hq fr2) (sc_rwM_L y2), sc_fpC_r (sc_fr_tr fr1 fr2), sc_fpM_r y2, Or.inl ⟨rfl, ?_, hs, by unfold sc_ar; rw [sc_upS], y3, fun x hx => ?_⟩⟩
    · rw [fr2 _ _ (by simp [sc_rwC]), fr1 _ _ (by simp [sc_rwC])]; exact hfl
    · rw [y5 x (by omega) hx, sc_ar_34 (by omega) (by omega) a1 b1]
      by_cases z : x < n1
      · rw [if_pos z, if_neg (by omega), sc_ar_34 (by omega) (by omega) (by omega) a1, if_pos (by omega), show 60 * k + x - (60 * k + 0) = x by omega]
        exact a4 x z
      · rw [if_neg z, if_pos (by omega), sc_ar_34 (by omega) (by omega) (by omega) a1, if_neg (by omega), show 60 * k + x - (60 * k + n1) = x - n1 by omega]
        exact b4 _ (by omega)
  · rw [if_neg hs, if_neg (show ¬ nI (n1 + n2) ≤ 60 from nI_ge (a := 60) (by omega) (by omega))]
    simp only [Option.bind_some, if_true]
    unfold dX12_fails
    rw [if_pos (show ¬ (4 : Int32) = 3 by decide), if_pos (w.cy.nin hk), w.cy.ncl hk, sc_upK (by decide), c8]
    simp only [Option.bind_some]
    have W1 := w1.fail 4 (X.dp k)
    rw [g2] at W1
    refine ⟨false, _, _, rfl, rfl, W1, sc_fr_tr (sc_fpC_r fr1) (sc_fr_tr (sc_fr_up (by simp [sc_fpC])) (sc_fr_up (by simp [sc_fpC]))), sc_fr_tr (sc_fr_up (by simp [sc_fpM])) (sc_fr_up (by simp [sc_fpM])), Or.inr ⟨rfl, ?_⟩⟩
    rw [sc_upJ (by decide), sc_upS]; decide
/-- z: both rows joined -/
theorem sc_zipL {X : sc_X} {D np g k p q n1 n2 : Nat} (hq : X.q = 32) (hk : k < X.n) (hp : p < X.n) (hqn : q < X.n) (hpk : p ≠ k) (hqk : q ≠ k) (h16 : p = k + 1) : ∀ r i m m' (σ τ : sf_S), i + r = min n1 n2 → r + 1 ≤ m → r + 1 ≤ m' → sc_W X D np g σ τ → sc_row k i σ τ → sc_row p n1 σ τ → sc_row q n2 σ τ →
    ∃ σ' τ', dX1_zip_47 m (nI k) (nI q) (nI p) (nI (min n1 n2)) (nI i) σ = some σ' ∧ dX12_joinsRows_28 m' (nI k) (nI p) (nI q) (nI i) τ = some τ' ∧ sc_W X D np g σ' τ' ∧ sc_fr (sc_rwC k) σ σ' ∧ sc_fr (sc_rwM k) τ τ' ∧ sc_row k (min n1 n2) σ' τ' := by
  intro r
  induction r with
  | zero =>
    intro i m m' σ τ h1 h2 h3 w r0 r1 r2
    obtain ⟨m, rfl⟩ : ∃ x, m = x + 1 := ⟨m - 1, by omega⟩
    obtain ⟨m', rfl⟩ : ∃ x, m' = x + 1 := ⟨m' - 1, by omega⟩
    have hn4 := w.cy.n40
    have e : i = min n1 n2 := by omega
    have l1 := r1.1
    have l2 := r2.1
    unfold dX1_zip_47 dX12_joinsRows_28
    simp only [w.cy.nin hp, w.cy.nin hqn, if_true, w.cy.ncl hp, w.cy.ncl hqn]
    rw [r1.2.2.1, r2.2.2.1, if_pos (nI_le (by omega) (by omega))]
    refine ⟨σ, τ, rfl, ?_, w, sc_fr_rf, sc_fr_rf, e ▸ r0⟩
    by_cases z : n1 ≤ i
    · rw [if_pos (nI_le z (by omega))]
    · rw [if_neg (nI_ge (by omega) (by omega)), if_pos (nI_le (by omega) (by omega))]
  | succ r ih =>
    intro i m m' σ τ h1 h2 h3 w r0 r1 r2
    obtain ⟨m, rfl⟩ : ∃ x, m = x + 1 := ⟨m - 1, by omega⟩
    obtain ⟨m', rfl⟩ : ∃ x, m' = x + 1 := ⟨m' - 1, by omega⟩
    have hn4 := w.cy.n40
    have l1 := r1.1
    have l2 := r2.1
    unfold dX1_zip_47 dX12_joinsRows_28
    simp only [w.cy.nin hp, w.cy.nin hqn, if_true, w.cy.ncl hp, w.cy.ncl hqn]
    rw [r1.2.2.1, r2.2.2.1, if_neg (nI_ge (by omega) (by omega)), if_neg (nI_ge (by omega) (by omega)), if_neg (nI_ge (by omega) (by omega)), sc_idx2, sc_idx2]
    simp only [sc_inI (show 60 * p + i < 2400 by omega) (by omega : 2400 ≤ 10000), sc_inI (show 60 * q + i < 2400 by omega) (by omega : 2400 ≤ 10000), if_true, sc_cl (show 60 * p + i < 2 ^ 31 by omega), sc_cl (show 60 * q + i < 2 ^ 31 by omega)]
    rw [sc_el2 hq w.cy hp r1 (show i < n1 by omega)]
    simp only [Option.bind_some]
    rw [sc_el2 hq w.cy hqn r2 (show i < n2 by omega)]
    simp only [Option.bind_some]
    obtain ⟨v, j1, j2⟩ := sc_joinE w.cy hk (σ 34 (60 * p + i)) (σ 34 (60 * q + i))
    rw [hq] at j1
    rw [r1.2.2.2 i (by omega), r2.2.2.2 i (by omega)] at j1 j2
    rw [r1.2.2.2 i (by omega), r2.2.2.2 i (by omega), j1, j2]
    simp only [Option.bind_some]
    obtain ⟨σ1, τ1, x1, y1, w1, s0, f1, f2⟩ := sc_add2 hq w hk r0 (by omega) v
    rw [x1, y1]
    simp only [Option.bind_some, nI_1]
    obtain ⟨σ2, τ2, x2, y2, w2, f3, f4, s2⟩ := ih (i + 1) m m' σ1 τ1 (by omega) (by omega) (by omega) w1 s0 (r1.far hpk f1 f2) (r2.far hqk f1 f2)
    exact ⟨σ2, τ2, x2, y2, w2, sc_fr_tr f1 f3, sc_fr_tr f2 f4, s2⟩
theorem sc_zip2 {X : sc_X} {D np g k q n1 n2 : Nat} {σ τ : sf_S} (hq : X.q = 32) (w : sc_W X D np g σ τ) (hk : k < X.n) (hp : k + 1 < X.n) (hqn : q < X.n) (hqk : q ≠ k) (r0 : sc_row k 0 σ τ) (r1 : sc_row (k + 1) n1 σ τ) (r2 : sc_row q n2 σ τ) (hL : X.L k = 122) (hps : τ 16 k = nI (k + 1)) (hqs : τ 17 k = nI q) :
    ∃ σ' τ', dX1_zip (nI k) (nI q) σ = some σ' ∧ dX12_joinsRows (nI k) τ = some τ' ∧ sc_W X D np g σ' τ' ∧ sc_fr (sc_rwC k) σ σ' ∧ sc_fr (sc_rwM k) τ τ' ∧ sc_row k (min n1 n2) σ' τ' := by
  obtain ⟨g1, g2, g3, g4⟩ := sc_r32 hq
  have hn4 := w.cy.n40
  have hF := sf_F_le
  obtain ⟨c1, c2, c3, c4⟩ := w.cy.r1 k hk
  have hp' := w.cy.has hp
  have hq' := w.cy.has hqn
  rw [g1] at hp' hq'
  have l1 := r1.1
  have l2 := r2.1
  obtain ⟨σ2, τ2, x2, y2, w2, f3, f4, s2⟩ := sc_zipL (D := D) (np := np) (g := g) (n1 := n1) (n2 := n2) hq hk hp hqn (by omega) hqk rfl (min n1 n2) 0 sf_F sf_F σ τ (by omega) (by omega) (by omega) w r0 r1 r2
  rw [nI_0] at x2 y2
  refine ⟨σ2, τ2, ?_, ?_, w2, f3, f4, s2⟩
  · unfold dX1_zip
    rw [nI_1, hp']
    simp only [Option.bind_some]
    rw [if_neg (show ¬ (1 : Int32) = 0 by decide), hq']
    simp only [Option.bind_some]
    rw [if_pos (show ¬ (1 : Int32) = 0 by decide)]
    simp only [w.cy.nin hp, w.cy.nin hqn, if_true, w.cy.ncl hp, w.cy.ncl hqn, r1.2.1, r2.2.1]
    rw [show (if nI n2 < nI n1 then nI n2 else nI n1) = nI (min n1 n2) by
      by_cases z : n2 < n1
      · rw [if_pos (nI_lt z (by omega)), Nat.min_eq_right (by omega)]
      · rw [if_neg (nI_nlt (by omega) (by omega)), Nat.min_eq_left (by omega)]]
    exact x2
  · unfold dX12_joinsRows
    simp only [w.cy.nin hk, if_true, w.cy.ncl hk, c1, hps, hqs]
    rw [if_neg (show ¬ ¬ X.L k = 122 from not_not_intro hL)]
    exact y2
