/-! reading: the digits of a number -/
theorem sc_pkI {t i : Nat} {B : Nat → Nat} (hB : i < t → B i < 256) : (sc_pk t B i).toInt = if i < t then (B i : Int) else -1 := by
  unfold sc_pk
  by_cases h : i < t
  · rw [if_pos h, if_pos h, nI_toInt (by have := hB h; omega)]
  · rw [if_neg h, if_neg h]; decide
theorem sc_pkE {t i c : Nat} {B : Nat → Nat} (hB : i < t → B i < 256) (hc : c < 256) : sc_pk t B i = nI c ↔ i < t ∧ B i = c := by
  rw [← Int32.toInt_inj, sc_pkI hB, nI_toInt (by omega)]
  by_cases h : i < t
  · rw [if_pos h]; omega
  · rw [if_neg h]; omega
theorem sc_c59 : (59 : Int32) = nI 59 := by decide +kernel
theorem sc_m1ne {n : Nat} (h : n < 2 ^ 31) : ¬ nI n = -1 := sc_nm1 h
/-- what a number, as far as it was read, is -/
def sc_dig (sm : Bool) (d v : Nat) : Prop := 1 ≤ d ∧ d ≤ (if sm = true then 2 else 4) ∧ ((v = 0 ∧ d = 1) ∨ (10 ^ (d - 1) ≤ v ∧ v < 10 ^ d))
theorem sc_dig_lt {sm : Bool} {d v : Nat} (h : sc_dig sm d v) : v < 10000 ∧ d ≤ 4 := by
  obtain ⟨h1, h2, h3⟩ := h
  have hd : d ≤ 4 := by cases sm <;> simp at h2 <;> omega
  refine ⟨?_, hd⟩
  rcases h3 with ⟨h3, -⟩ | ⟨-, h3⟩
  · omega
  · have : (10 : Nat) ^ d ≤ 10 ^ 4 := Nat.pow_le_pow_right (by omega) hd
    omega
theorem sc_dig_next {sm : Bool} {d v x : Nat} (h : sc_dig sm d v) (hv : 0 < v) (hx : x < 10) : (d < (if sm = true then 2 else 4) → sc_dig sm (d + 1) (10 * v + x) ∧ 10 * v + x ≤ (if sm = true then 99 else 9999)) ∧ (¬ d < (if sm = true then 2 else 4) → (if sm = true then 99 else 9999) < 10 * v + x) := by
  obtain ⟨h1, h2, h3⟩ := h
  rcases h3 with ⟨h3, -⟩ | ⟨h3, h4⟩
  · omega
  obtain ⟨e, rfl⟩ : ∃ e, d = e + 1 := ⟨d - 1, by omega⟩
  simp only [Nat.add_sub_cancel] at h3
  have p1 : (10 : Nat) ^ (e + 1) = 10 * 10 ^ e := by rw [Nat.pow_succ]; omega
  have p2 : (10 : Nat) ^ (e + 1 + 1) = 10 * 10 ^ (e + 1) := by rw [Nat.pow_succ]; omega
  refine ⟨fun h5 => ⟨⟨by omega, by omega, Or.inr ⟨?_, ?_⟩⟩, ?_⟩, fun h5 => ?_⟩
  · simp only [Nat.add_sub_cancel]; omega
  · omega
  · cases sm
    · simp only [Bool.false_eq_true, if_false] at h5 ⊢
      have : (10 : Nat) ^ (e + 1 + 1) ≤ 10 ^ 4 := Nat.pow_le_pow_right (by omega) (by omega)
      omega
    · simp only [if_true] at h5 ⊢
      have : e = 0 := by omega
      subst this
      omega
  · cases sm
    · simp only [Bool.false_eq_true, if_false] at h2 h5 ⊢
      have : e = 3 := by omega
      subst this
      omega
    · simp only [if_true] at h2 h5 ⊢
      have : e = 1 := by omega
      subst this
      omega
theorem sc_v4 {v c : Nat} (hc : 48 ≤ c) : nI v * 10 + nI c - 48 = nI (10 * v + (c - 48)) := by
  rw [show (10 : Int32) = nI 10 from by decide +kernel, sc_mul, nI_add, sc_c48, pk_sub (by omega)]
  congr 1; omega
theorem sc_v5 {v c : Nat} (hc : 48 ≤ c) : 10 * nI v + nI c - 48 = nI (10 * v + (c - 48)) := by
  rw [show (10 : Int32) = nI 10 from by decide +kernel, sc_mul, nI_add, sc_c48, pk_sub (by omega)]
  congr 1; omega
def sc_sgn (neg : Bool) (v : Nat) : Int32 := if neg = true then - nI v else nI v
theorem sc_sgnM (neg : Bool) (v : Nat) : (if sc_b neg = 0 then nI v else 0 - nI v) = sc_sgn neg v := by
  cases neg
  · rfl
  · show 0 - nI v = - nI v
    rw [Int32.zero_sub]
/-- the class's end of a number -/
theorem sc_199 {σ : sf_S} {t i : Nat} {B : Nat → Nat} (ht : t ≤ 40) (h2 : σ 46 2 = nI t) (hB : ∀ j, j < t → σ 47 j = nI (B j)) (hB2 : i < t → B i < 256) (h5 : σ 46 5 = nI i) (hi : i ≤ t) (h6 : σ 46 6 = -1) (neg : Bool) (v : Nat) :
    dX4_readNumber_199 (sc_b neg) (nI v) σ = some (sc_sgn neg v, if i < t ∧ B i = 59 then sf_up σ 46 5 (nI (i + 1)) else sf_up σ 46 6 (nI i)) := by
  unfold dX4_readNumber_199
  rw [sc_peek ht h2 hB h5 hi]
  simp only [Option.bind_some, sc_c59, sc_pkE hB2 (show 59 < 256 by omega)]
  by_cases h : i < t ∧ B i = 59
  · simp only [h, not_true_eq_false, and_self, if_false, if_true]
    rw [sc_acc1 ht h2 h5 h6 h.1 (by decide)]
    simp only [Option.bind_some]
    cases neg <;> rfl
  · simp only [h, not_false_eq_true, if_false, if_true]
    rw [sc_acc0 h5 h6]
    simp only [Option.bind_some]
    cases neg <;> rfl
theorem sc_most (sm : Bool) : (if sm = true then (99 : Int32) else 9999) = nI (if sm = true then 99 else 9999) := by cases sm <;> decide +kernel
def sc_end1 (neg : Bool) (k i w m t : Nat) (σ τ : sf_S) (v : Nat) (rc : Option (Int32 × sf_S)) : Prop :=
  ∃ i' σ' τ', i < i' ∧ i' ≤ t ∧ rc = some (sc_sgn neg v, σ') ∧ sc_kC σ σ' ∧ σ' 46 5 = nI i' ∧ σ' 46 6 = -1 ∧ sc_fl i τ = sc_fl i' τ' ∧ sc_kM m τ τ' ∧ τ' 0 8 = nI w ∧ τ' 0 9 = 0 ∧ τ' 0 10 = 0 ∧ τ' 0 11 = 0 ∧ τ' 8 m = τ 8 m ∧ τ' 9 m = (if k = 3 then τ 9 m else sc_sgn neg v) ∧ τ' 10 m = (if k = 3 then sc_sgn neg v else τ 10 m)
theorem sc_lim {sm : Bool} {k : Nat} (hsm : sm = true ↔ k = 5) : (if sm = true then 2 else 4) = if k = 5 then 2 else 4 := by
  by_cases h : k = 5
  · rw [if_pos (hsm.mpr h), if_pos h]
  · rw [if_neg (fun q => h (hsm.mp q)), if_neg h]
theorem sc_digit1 {t m w k d v i m1 : Nat} {B : Nat → Nat} {neg sm : Bool} {σ τ : sf_S} {MS : Int32} (hMS : MS = nI (if sm = true then 99 else 9999)) (hm : m < 40) (hw : w < 160) (hk2 : 2 ≤ k) (hk5 : k ≤ 5) (hsm : sm = true ↔ k = 5) (hm1 : 1 ≤ m1) (hdig : sc_dig sm d v) (hBy : sc_By σ τ t B) (hi : i ≤ t) (h5 : σ 46 5 = nI i) (h6 : σ 46 6 = -1) (g8 : τ 0 8 = nI (w + 1)) (gk : τ 6 w = nI k) (g9 : τ 0 9 = nI d) (g10 : τ 0 10 = nI v) (g11 : τ 0 11 = sc_b neg) (g16 : τ 0 16 = nI (m + 1)) :
    sc_end1 neg k i w m t σ τ v (dX4_readNumber_129 (m1 + 1) (sc_b neg) (nI v) MS (nI (d - 1)) σ) ∨ sc_nbad t σ τ (dX4_readNumber_129 (m1 + 1) (sc_b neg) (nI v) MS (nI (d - 1)) σ) (sc_fl i τ) ∨
    ∃ v4, d < (if sm = true then 2 else 4) ∧ sc_dig sm (d + 1) v4 ∧ v ≤ v4 ∧ i < t ∧ dX4_readNumber_129 (m1 + 1) (sc_b neg) (nI v) MS (nI (d - 1)) σ = dX4_readNumber_129 m1 (sc_b neg) (nI v4) MS (nI d) (sf_up σ 46 5 (nI (i + 1))) ∧ sc_fl i τ = sc_fl (i + 1) (sf_up (sf_up τ 0 10 (nI v4)) 0 9 (nI (d + 1))) := by
  obtain ⟨hv, hd4⟩ := sc_dig_lt hdig
  have hd1 := hdig.1
  obtain ⟨ht, b2, b6, bB⟩ := hBy
  have hBc : ∀ j, j < t → σ 47 j = nI (B j) := fun j hj => (bB j hj).1
  have hBm : ∀ j, j < t → τ 5 j = nI (B j) := fun j hj => (bB j hj).2.1
  have hB2 : i < t → B i < 256 := fun h => (bB i h).2.2
  have hd0 : ¬ nI d = 0 := nI_ne0 (by omega) (by omega)
  have e59 : ∀ c : Nat, c < 256 → ((nI c : Int32) = 59 ↔ c = 59) := fun c hc => by rw [sc_c59, nI_eq (by omega) (by omega)]
  -- the class
  have hc : dX4_readNumber_129 (m1 + 1) (sc_b neg) (nI v) MS (nI (d - 1)) σ = (if 48 ≤ (sc_pk t B i).toInt ∧ (sc_pk t B i).toInt ≤ 57 then
      (if nI v ≤ 0 then (dX4_accept 0 σ).bind fun u => dX4_readNumber_129 m1 (sc_b neg) (nI v * 10 + sc_pk t B i - 48) MS (nI d) u
       else if MS < nI v * 10 + sc_pk t B i - 48 then (dX4_accept 0 σ).bind fun u => dX4_readNumber_129 m1 (sc_b neg) (nI v * 10 + sc_pk t B i - 48) MS (nI d) u
       else (dX4_accept 1 σ).bind fun u => dX4_readNumber_129 m1 (sc_b neg) (nI v * 10 + sc_pk t B i - 48) MS (nI d) u)
      else dX4_readNumber_199 (sc_b neg) (nI v) σ) := by
    conv => lhs; simp only [dX4_readNumber_129]
    rw [sc_c4, if_neg (nI_ge (by omega) (by omega)), if_neg (by simp [h6]), sc_peek ht b2 hBc h5 hi]
    simp only [Option.bind_some, sc_digC, sc_b0, decide_eq_false_iff_not]
    rw [sc_peek ht b2 hBc h5 hi]
    simp only [Option.bind_some, nI_1, show d - 1 + 1 = d by omega]
    by_cases h : 48 ≤ (sc_pk t B i).toInt ∧ (sc_pk t B i).toInt ≤ 57
    · rw [if_neg (by simpa using h), if_pos h]
    · rw [if_pos h, if_neg h]
  rw [sc_pkI hB2] at hc
  by_cases hdg : i < t ∧ 48 ≤ B i ∧ B i ≤ 57
  rotate_left
  · -- no figure
    rw [if_neg (by by_cases h : i < t; rw [if_pos h]; omega; rw [if_neg h]; omega), sc_199 ht b2 hBc hB2 h5 hi h6] at hc
    by_cases hit : i < t
    · have hgo := sc_fl_go ht b6 hit hw g8 gk (by omega)
      rw [if_neg (by omega), if_pos hk2, hBm i hit] at hgo
      have htn : dX12_takesNumber (nI (B i)) (nI k) τ = if B i = 59 then dX12_takesNumber_94 (nI k) (sc_sgn neg v) τ else some (0, τ) := by
        unfold dX12_takesNumber
        rw [sc_digM]
        simp only [Option.bind_some, g9, g10, g11, sc_b0, decide_eq_false_iff_not, e59 (B i) (hB2 hit)]
        rw [if_pos hd0, nI_toInt (by have := hB2 hit; omega)]
        by_cases h59 : B i = 59
        · rw [if_neg (by simp [h59]), if_pos h59, ← sc_sgnM]
          cases neg <;> rfl
        · rw [if_pos h59, if_neg h59, if_pos (by omega)]
      rw [htn] at hgo
      by_cases h59 : B i = 59
      · rw [if_pos h59] at hgo
        obtain ⟨τ', f1, f2, f3, f4, f5, f6, f7, f8, f9⟩ := sc_fin (v := sc_sgn neg v) hm g8 g16 (show k < 6 by omega)
        rw [f1] at hgo
        simp only [Option.bind_some] at hgo
        rw [if_pos (by decide)] at hgo
        rw [if_pos ⟨hit, h59⟩] at hc
        exact Or.inl ⟨i + 1, _, τ', by omega, by omega, hc, sc_kC5 _ _, sc_upS, by rw [sc_upJ (by omega)]; exact h6, hgo, f2, f3, f4, f5, f6, f7, f8, f9⟩
      · rw [if_neg h59] at hgo
        simp only [Option.bind_some] at hgo
        rw [if_neg (by simp)] at hgo
        rw [if_neg (by omega)] at hc
        exact Or.inr (Or.inl ⟨i, i, _, _, τ, hi, hi, hc, sc_kC6 _ _, sc_upS, by rw [sc_upJ (by omega)]; exact h5, hgo, fun _ _ _ => rfl⟩)
    · have hgo := sc_fl_end ht b6 (by omega : i ≤ 40) (by omega)
      rw [g8, if_pos (nI_ne0 (by omega) (by omega))] at hgo
      rw [if_neg (by omega)] at hc
      exact Or.inr (Or.inl ⟨t, i, _, _, τ, Nat.le_refl _, hi, hc, sc_kC6 _ _, by rw [sc_upS, show i = t by omega], by rw [sc_upJ (by omega)]; exact h5, hgo, fun _ _ _ => rfl⟩)
  · -- a figure
    obtain ⟨hit, hb1, hb2⟩ := hdg
    rw [if_pos (by rw [if_pos hit]; omega), show sc_pk t B i = nI (B i) from if_pos hit, sc_v4 hb1] at hc
    have hgo := sc_fl_go ht b6 hit hw g8 gk (by omega)
    rw [if_neg (by omega), if_pos hk2, hBm i hit] at hgo
    have hlim := sc_lim hsm
    have htn : dX12_takesNumber (nI (B i)) (nI k) τ = if v = 0 ∨ ¬ d < (if sm = true then 2 else 4) then some (0, τ) else some (1, sf_up (sf_up τ 0 10 (nI (10 * v + (B i - 48)))) 0 9 (nI (d + 1))) := by
      unfold dX12_takesNumber dX12_takesNumber_217
      rw [sc_digM]
      have hv0 : (nI v = 0) ↔ v = 0 := by rw [sc_0, nI_eq (by omega) (by omega)]
      have hk5' : (nI k = 5) ↔ k = 5 := by rw [show (5 : Int32) = nI 5 from by decide +kernel, nI_eq (by omega) (by omega)]
      have hd4' : (nI d = 4) ↔ d = 4 := by rw [sc_c4, nI_eq (by omega) (by omega)]
      have hd2' : (nI d = 2) ↔ d = 2 := by rw [show (2 : Int32) = nI 2 from by decide +kernel, nI_eq (by omega) (by omega)]
      simp only [Option.bind_some, g9, g10, sc_b0, decide_eq_false_iff_not, e59 (B i) (hB2 hit), sc_v5 hb1, hv0, hk5', hd4', hd2']
      rw [if_pos hd0, if_pos (by omega), nI_toInt (by have := hB2 hit; omega), if_neg (by omega), sc_upJ (by omega), g9, nI_1, hlim]
      by_cases h0 : v = 0
      · rw [if_pos h0, if_pos (Or.inl h0)]
      rw [if_neg h0]
      have hd2 := hdig.2.1
      rw [hlim] at hd2
      by_cases hk : k = 5
      · rw [if_neg (by simp [hk])]
        simp only [hk, if_true] at hd2 ⊢
        by_cases h2 : d = 2
        · rw [if_neg (by simp [h2]), if_pos (by omega)]
        · rw [if_pos h2, if_neg (by omega)]
      · rw [if_pos hk]
        simp only [hk, if_false] at hd2 ⊢
        by_cases h2 : d = 4
        · rw [if_neg (by simp [h2]), if_pos (by omega)]
        · rw [if_pos h2, if_neg (by omega)]
    rw [htn] at hgo
    -- where the class doesn't accept it
    have hdead : ∀ x y, ∃ z, ((dX4_accept 0 σ).bind fun u => dX4_readNumber_129 m1 (sc_b neg) x MS y u) = some (z, sf_up σ 46 6 (nI i)) := fun x y => by
      rw [sc_acc0 h5 h6]
      simp only [Option.bind_some]
      obtain ⟨m2, rfl⟩ : ∃ m2, m1 = m2 + 1 := ⟨m1 - 1, by omega⟩
      exact sc_129D ht (by rw [sc_upJ (by omega)]; exact b2) (by rw [sc_upJ (by omega)]; exact h5) hi (by rw [sc_upS]; exact sc_nm1 (by omega)) m2 _ _ _ _
    obtain ⟨z, hz⟩ := hdead (nI (10 * v + (B i - 48))) (nI d)
    have hbad : dX4_readNumber_129 (m1 + 1) (sc_b neg) (nI v) MS (nI (d - 1)) σ = some (z, sf_up σ 46 6 (nI i)) → sc_fl i τ = some (nI i, τ) → sc_nbad t σ τ (dX4_readNumber_129 (m1 + 1) (sc_b neg) (nI v) MS (nI (d - 1)) σ) (sc_fl i τ) := fun q1 q2 =>
      ⟨i, i, z, _, τ, hi, hi, q1, sc_kC6 _ _, sc_upS, by rw [sc_upJ (by omega)]; exact h5, q2, fun _ _ _ => rfl⟩
    by_cases h0 : v = 0
    · rw [if_pos (by rw [h0]; decide +kernel), hz] at hc
      rw [if_pos (Or.inl h0)] at hgo
      exact Or.inr (Or.inl (hbad hc (by simpa using hgo)))
    rw [if_neg (nI_nle (by omega) (by omega))] at hc
    obtain ⟨n1, n2⟩ := sc_dig_next hdig (by omega : 0 < v) (show B i - 48 < 10 by omega)
    have hl1 : (if sm = true then 99 else 9999) < 2 ^ 31 := by cases sm <;> decide
    by_cases hdl : d < (if sm = true then 2 else 4)
    · obtain ⟨p1, p2⟩ := n1 hdl
      rw [if_neg (by rw [hMS]; exact nI_nlt p2 hl1), sc_acc1 ht b2 h5 h6 hit (by decide)] at hc
      rw [if_neg (by omega)] at hgo
      simp only [Option.bind_some] at hc hgo
      rw [if_pos (by decide)] at hgo
      exact Or.inr (Or.inr ⟨10 * v + (B i - 48), hdl, p1, by omega, hit, hc, hgo⟩)
    · have p1 := n2 hdl
      rw [if_pos (by rw [hMS]; exact nI_lt p1 (by omega)), hz] at hc
      rw [if_pos (Or.inr hdl)] at hgo
      exact Or.inr (Or.inl (hbad hc (by simpa using hgo)))
theorem sc_digits {t m w k : Nat} {B : Nat → Nat} {neg sm : Bool} {MS : Int32} (hMS : MS = nI (if sm = true then 99 else 9999)) (hm : m < 40) (hw : w < 160) (hk2 : 2 ≤ k) (hk5 : k ≤ 5) (hsm : sm = true ↔ k = 5) : ∀ (r d v i m1 : Nat) (σ τ : sf_S), d + r = (if sm = true then 2 else 4) → r < m1 → sc_dig sm d v → sc_By σ τ t B → i ≤ t → σ 46 5 = nI i → σ 46 6 = -1 → τ 0 8 = nI (w + 1) → τ 6 w = nI k → τ 0 9 = nI d → τ 0 10 = nI v → τ 0 11 = sc_b neg → τ 0 16 = nI (m + 1) →
    (∃ v', v ≤ v' ∧ v' < 10000 ∧ sc_end1 neg k i w m t σ τ v' (dX4_readNumber_129 (m1 + 1) (sc_b neg) (nI v) MS (nI (d - 1)) σ)) ∨ sc_nbad t σ τ (dX4_readNumber_129 (m1 + 1) (sc_b neg) (nI v) MS (nI (d - 1)) σ) (sc_fl i τ) := by
  intro r
  induction r with
  | zero =>
    intro d v i m1 σ τ hd hr hdig hBy hi h5 h6 g8 gk g9 g10 g11 g16
    rcases sc_digit1 (m1 := m1) hMS hm hw hk2 hk5 hsm (by omega) hdig hBy hi h5 h6 g8 gk g9 g10 g11 g16 with h | h | ⟨v4, h, -⟩
    · exact Or.inl ⟨v, Nat.le_refl _, (sc_dig_lt hdig).1, h⟩
    · exact Or.inr h
    · omega
  | succ r ih =>
    intro d v i m1 σ τ hd hr hdig hBy hi h5 h6 g8 gk g9 g10 g11 g16
    rcases sc_digit1 (m1 := m1) hMS hm hw hk2 hk5 hsm (by omega) hdig hBy hi h5 h6 g8 gk g9 g10 g11 g16 with h | h | ⟨v4, q1, q2, q3, q4, q5, q6⟩
    · exact Or.inl ⟨v, Nat.le_refl _, (sc_dig_lt hdig).1, h⟩
    · exact Or.inr h
    · obtain ⟨m2, rfl⟩ : ∃ m2, m1 = m2 + 1 := ⟨m1 - 1, by omega⟩
      have hk : sc_kM m τ (sf_up (sf_up τ 0 10 (nI v4)) 0 9 (nI (d + 1))) := fun a b hab => by
        by_cases ha : a = 0
        · subst ha; rw [sc_upJ (by omega), sc_upJ (by omega)]
        · rw [sc_upK ha, sc_upK ha]
      have := ih (d + 1) v4 (i + 1) m2 (sf_up σ 46 5 (nI (i + 1))) (sf_up (sf_up τ 0 10 (nI v4)) 0 9 (nI (d + 1))) (by omega) (by omega) q2 (hBy.kept (fun a b hab => by rcases hab with ⟨h, h'⟩ | h; exact sc_upJ (by omega); exact sc_upK (by omega)) (fun a b hab => hk a b (by omega))) (by omega) sc_upS (by rw [sc_upJ (by omega)]; exact h6)
        (by rw [sc_upJ (by omega), sc_upJ (by omega)]; exact g8) ((hk 6 w (by omega)).trans gk) sc_upS (by rw [sc_upJ (by omega), sc_upS]) ((by rw [sc_upJ (by omega), sc_upJ (by omega)]; exact g11)) ((hk 0 16 (by omega)).trans g16)
      rw [show d + 1 - 1 = d by omega, ← q5] at this
      rcases this with ⟨v', p1, p2, i', σ', τ', f1, f2, f3, f4, f5, f6, f7, f8, f9, e1, e2, e3, e4, e5, e6⟩ | ⟨f, i', v', σ', τ', f1, f2, f3, f4, f5, f6, f7, f8⟩
      · have k8 : sf_up (sf_up τ 0 10 (nI v4)) 0 9 (nI (d + 1)) 8 m = τ 8 m := by rw [sc_upK (by omega), sc_upK (by omega)]
        have k9 : sf_up (sf_up τ 0 10 (nI v4)) 0 9 (nI (d + 1)) 9 m = τ 9 m := by rw [sc_upK (by omega), sc_upK (by omega)]
        have k10 : sf_up (sf_up τ 0 10 (nI v4)) 0 9 (nI (d + 1)) 10 m = τ 10 m := by rw [sc_upK (by omega), sc_upK (by omega)]
        rw [k8] at e4; rw [k9] at e5; rw [k10] at e6
        exact Or.inl ⟨v', by omega, p2, i', σ', τ', by omega, f2, f3, sc_kC_tr (sc_kC5 _ _) f4, f5, f6, q6.trans f7, sc_kM_tr hk f8, f9, e1, e2, e3, e4, e5, e6⟩
      · exact Or.inr ⟨f, i', v', σ', τ', f1, f2, f3, sc_kC_tr (sc_kC5 _ _) f4, f5, f6, q6.trans f7, sc_kF_tr (sc_kM_F hk) f8⟩
