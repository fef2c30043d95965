/-! printing: bytes and numbers -/
def sc_em (c q j : Nat) : List Int32 → Nat → sf_S → sf_S
  | [], _, s => s
  | d :: ds, l, s => sc_em c q j ds (l + 1) (sf_up (sf_up s c l d) q j (nI (l + 1)))
theorem sc_em_cnt {c q j : Nat} : ∀ (ds : List Int32) (l : Nat) (s : sf_S), s q j = nI l → sc_em c q j ds l s q j = nI (l + ds.length)
  | [], _, _, h => h
  | d :: ds, l, s, _ => by
    rw [sc_em, sc_em_cnt ds (l + 1) _ sc_upS]
    congr 1
    simp; omega
theorem sc_em_ne {c q j : Nat} : ∀ (ds : List Int32) (l : Nat) (s : sf_S) (a b : Nat), ¬ (a = q ∧ b = j) → ¬ (a = c ∧ l ≤ b) → sc_em c q j ds l s a b = s a b
  | [], _, _, _, _, _, _ => rfl
  | d :: ds, l, s, a, b, h1, h2 => by
    rw [sc_em, sc_em_ne ds (l + 1) _ a b h1 (by omega)]
    have : ∀ (s : sf_S) (k' j' : Nat) (v : Int32), (a ≠ k' ∨ b ≠ j') → sf_up s k' j' v a b = s a b := fun s k' j' v h => by
      rcases h with h | h
      · exact sc_upK h
      · exact sc_upJ h
    rw [this _ _ _ _ (by omega), this _ _ _ _ (by omega)]
theorem sc_em_at {c q j : Nat} (hcq : c ≠ q) : ∀ (ds : List Int32) (l : Nat) (s : sf_S) (i : Nat) (x : Int32), ds[i]? = some x → sc_em c q j ds l s c (l + i) = x
  | [], _, _, _, _, h => by simp at h
  | y :: ys, l, s, 0, x, h => by
    simp at h
    subst h
    rw [sc_em, sc_em_ne ys (l + 1) _ c (l + 0) (by omega) (by omega), sc_upK hcq, Nat.add_zero, sc_upS]
  | y :: ys, l, s, i + 1, x, h => by
    rw [sc_em, show l + (i + 1) = l + 1 + i by omega]
    exact sc_em_at hcq ys (l + 1) _ i x (by simpa using h)
theorem sc_em_app {c q j : Nat} : ∀ (l1 l2 : List Int32) (l : Nat) (s : sf_S), sc_em c q j (l1 ++ l2) l s = sc_em c q j l2 (l + l1.length) (sc_em c q j l1 l s)
  | [], _, _, _ => rfl
  | x :: xs, l2, l, s => by
    rw [List.cons_append, sc_em, sc_em_app xs l2, sc_em]
    congr 1
    simp; omega
theorem sc_byte0 : (List.range 128).all (fun b => decide ((nI b).toInt8.toInt32 = nI b)) = true := by decide +kernel
theorem sc_byte {b : Nat} (h : b < 128) : vp_nar .byte (nI b).toInt8.toInt32 = nI b := by
  rw [pk_vb]
  exact of_decide_eq_true (List.all_eq_true.mp sc_byte0 b (List.mem_range.mpr h))
theorem sc_put {σ : sf_S} {l b : Nat} {x : Int32} (hx : x = nI b) (hb : b < 128) (h : σ 11 2 = nI l) (hl : l < 400) : dX3_put x σ = some (sf_up (sf_up σ 12 l x) 11 2 (nI (l + 1))) := by
  unfold dX3_put
  rw [h, show (400 : Int32) = nI 400 from by decide +kernel, if_pos (nI_lt hl (by omega))]
  simp only []
  rw [if_pos (sc_inI hl (by omega)), sc_cl (by omega), hx, sc_byte hb, sc_upK (by omega), h, nI_1]
theorem sc_tell {τ : sf_S} {l : Nat} {x : Int32} (h : τ 0 29 = nI l) (hl : l < 1200) : dX12_tells x τ = some (sf_up (sf_up τ 21 l x) 0 29 (nI (l + 1))) := by
  unfold dX12_tells
  simp only [h]
  rw [if_pos (sc_inI hl (by omega)), sc_cl (by omega), sc_upK (by omega), h, nI_1]
/-- the figures of R, from the k-th on -/
def sc_dl (R : Nat) : Nat → List Int32
  | 0 => [nI (48 + R / 10 ^ 0 % 10)]
  | k + 1 => nI (48 + R / 10 ^ (k + 1) % 10) :: sc_dl R k
theorem sc_dl_len (R : Nat) : ∀ k, (sc_dl R k).length = k + 1
  | 0 => rfl
  | k + 1 => by rw [sc_dl, List.length_cons, sc_dl_len R k]
theorem sc_p10 {k : Nat} (h : k ≤ 10) : 0 < 10 ^ k ∧ 10 ^ k ≤ 10 ^ 10 := ⟨Nat.pow_pos (by decide), Nat.pow_le_pow_right (by decide) h⟩
theorem sc_L10 : (10 : Int64) = lN 10 := by decide +kernel
theorem sc_L0 : (0 : Int64) = lN 0 := by decide +kernel
theorem sc_L1 : (1 : Int64) = lN 1 := by decide +kernel
theorem sc_48 {d : Nat} : (48 : Int32) + nI d = nI (48 + d) := by rw [sc_c48, nI_add]
theorem sc_dCstep {R k j n l : Nat} {σ : sf_S} (hR : R < 10 ^ 10) (hk : k ≤ 9) (hj : j ≤ 10) (h : σ 11 2 = nI l) (hl : l < 400) :
    dX3_putNumber_57 (n + 1) (lN R) (lN (10 ^ k)) (nI j) σ = dX3_putNumber_57 n (lN R) (lN (10 ^ k / 10)) (nI (j + 1)) (sf_up (sf_up σ 12 l (nI (48 + R / 10 ^ k % 10))) 11 2 (nI (l + 1))) := by
  obtain ⟨p1, p2⟩ := sc_p10 (show k ≤ 10 by omega)
  have hd : R / 10 ^ k < 2 ^ 63 := Nat.lt_of_le_of_lt (Nat.div_le_self _ _) (by omega)
  have hm : R / 10 ^ k % 10 < 10 := Nat.mod_lt _ (by decide)
  conv => lhs; rw [dX3_putNumber_57.eq_2]
  simp only [lg_cmp_le]
  rw [show (11 : Int32) = nI 11 from by decide +kernel, if_neg (nI_ge (by omega) (by omega)), sc_L0, if_neg (by rw [pk_lLE (by omega) (by omega)]; omega), if_neg (by rw [pk_lEQ (by omega) (by omega)]; omega), sc_L10, if_neg (by decide +kernel), pk_lDiv (by omega) p1 (by omega), pk_lRem hd (by omega) (by omega), lN_i, sc_48, sc_put rfl (by omega) h hl]
  simp only [Option.bind_some]
  rw [if_neg (by decide +kernel), pk_lDiv (by omega) (by omega) (by omega), nI_1]
theorem sc_dCend {R n l : Nat} {x : Int32} {σ : sf_S} (h : σ 11 2 = nI l) (hl : l < 400) : dX3_putNumber_57 (n + 1) (lN R) (lN 0) x σ = some (sc_em 12 11 2 [nI 59] l σ) := by
  conv => lhs; rw [dX3_putNumber_57.eq_2]
  simp only [lg_cmp_le]
  rw [show (59 : Int32) = nI 59 from by decide +kernel, sc_put rfl (by omega) h hl]
  have e0 : lN 0 ≤ (0 : Int64) := by rw [sc_L0]; exact Int64.le_refl _
  rw [if_pos e0]
  simp only [Option.bind_some, ite_self]
  rfl
theorem sc_dC {R : Nat} (hR : R < 10 ^ 10) : ∀ (k j n l : Nat) (σ : sf_S), k + j ≤ 9 → k + 2 ≤ n → σ 11 2 = nI l → l + k + 2 ≤ 400 → dX3_putNumber_57 n (lN R) (lN (10 ^ k)) (nI j) σ = some (sc_em 12 11 2 (sc_dl R k ++ [nI 59]) l σ) := by
  intro k
  induction k with
  | zero =>
    intro j n l σ hj hn h hl
    obtain ⟨m, rfl⟩ : ∃ m, n = m + 2 := ⟨n - 2, by omega⟩
    rw [sc_dCstep hR (by omega) (by omega) h (by omega), show 10 ^ 0 / 10 = 0 from rfl, sc_dCend sc_upS (by omega)]
    rfl
  | succ k ih =>
    intro j n l σ hj hn h hl
    obtain ⟨m, rfl⟩ : ∃ m, n = m + 1 := ⟨n - 1, by omega⟩
    rw [sc_dCstep hR (by omega) (by omega) h (by omega), show 10 ^ (k + 1) / 10 = 10 ^ k from by rw [Nat.pow_succ, Nat.mul_div_cancel _ (by decide)], ih (j + 1) m (l + 1) _ (by omega) (by omega) sc_upS (by omega)]
    rfl
theorem sc_dMstep {R k j n l : Nat} {τ : sf_S} (hR : R < 10 ^ 10) (hk : k ≤ 9) (hj : j ≤ 10) (h : τ 0 29 = nI l) (hl : l < 1200) :
    dX12_tellsNumber_58 (n + 1) (lN (R % 10 ^ (k + 1))) (lN (10 ^ k)) (nI j) τ = dX12_tellsNumber_58 n (lN (R % 10 ^ k)) (lN (10 ^ k / 10)) (nI (j + 1)) (sf_up (sf_up τ 21 l (nI (48 + R / 10 ^ k % 10))) 0 29 (nI (l + 1))) := by
  obtain ⟨p1, p2⟩ := sc_p10 (show k ≤ 10 by omega)
  have hr : R % 10 ^ (k + 1) < 2 ^ 63 := Nat.lt_of_le_of_lt (Nat.mod_le _ _) (by omega)
  have e1 : R % 10 ^ (k + 1) / 10 ^ k = R / 10 ^ k % 10 := by rw [Nat.pow_succ]; exact Nat.mod_mul_right_div_self _ _ _
  have e2 : R % 10 ^ (k + 1) % 10 ^ k = R % 10 ^ k := Nat.mod_mod_of_dvd _ ⟨10, by rw [Nat.pow_succ]⟩
  conv => lhs; rw [dX12_tellsNumber_58.eq_2]
  simp only [lg_cmp_le]
  rw [show (11 : Int32) = nI 11 from by decide +kernel, if_neg (nI_ge (by omega) (by omega)), sc_L0, if_neg (by rw [pk_lLE (by omega) (by omega)]; omega), if_neg (by rw [pk_lEQ (by omega) (by omega)]; omega), pk_lRem hr p1 (by omega), pk_lDiv hr p1 (by omega), lN_i, sc_48, sc_tell h hl]
  simp only [Option.bind_some]
  rw [if_neg (by rw [pk_lEQ (by omega) (by omega)]; omega), sc_L10, if_neg (by decide +kernel), pk_lDiv (by omega) (by omega) (by omega), nI_1, e1, e2]
theorem sc_dMend {R n l : Nat} {x : Int32} {τ : sf_S} (h : τ 0 29 = nI l) (hl : l < 1200) : dX12_tellsNumber_58 (n + 1) (lN R) (lN 0) x τ = some (sc_em 21 0 29 [nI 59] l τ) := by
  conv => lhs; rw [dX12_tellsNumber_58.eq_2]
  simp only [lg_cmp_le]
  rw [show (59 : Int32) = nI 59 from by decide +kernel, sc_tell h hl]
  have e0 : lN 0 ≤ (0 : Int64) := by rw [sc_L0]; exact Int64.le_refl _
  rw [if_pos e0]
  simp only [Option.bind_some, ite_self]
  rfl
theorem sc_dM {R : Nat} (hR : R < 10 ^ 10) : ∀ (k j n l : Nat) (τ : sf_S), k + j ≤ 9 → k + 2 ≤ n → τ 0 29 = nI l → l + k + 2 ≤ 1200 → dX12_tellsNumber_58 n (lN (R % 10 ^ (k + 1))) (lN (10 ^ k)) (nI j) τ = some (sc_em 21 0 29 (sc_dl R k ++ [nI 59]) l τ) := by
  intro k
  induction k with
  | zero =>
    intro j n l τ hj hn h hl
    obtain ⟨m, rfl⟩ : ∃ m, n = m + 2 := ⟨n - 2, by omega⟩
    rw [sc_dMstep hR (by omega) (by omega) h (by omega), show 10 ^ 0 / 10 = 0 from rfl, sc_dMend sc_upS (by omega)]
    rfl
  | succ k ih =>
    intro j n l τ hj hn h hl
    obtain ⟨m, rfl⟩ : ∃ m, n = m + 1 := ⟨n - 1, by omega⟩
    rw [sc_dMstep hR (by omega) (by omega) h (by omega), show 10 ^ (k + 1) / 10 = 10 ^ k from by rw [Nat.pow_succ, Nat.mul_div_cancel _ (by decide)], ih (j + 1) m (l + 1) _ (by omega) (by omega) sc_upS (by omega)]
    rfl
/-- the greatest unit -/
theorem sc_unit {R : Nat} (hR : R < 10 ^ 10) (x : Int32) : ∀ (r j n : Nat), j + r = 9 → r < n → ∃ k, k ≤ 9 ∧ R < 10 ^ (k + 1) ∧ (∀ σ, dX3_putNumber_12 n x (lN R) (lN (10 ^ j)) (nI j) σ = dX3_putNumber_44 x (lN R) (lN (10 ^ k)) σ) ∧ ∀ τ, dX12_tellsNumber_23 n (lN R) (lN (10 ^ j)) (nI j) τ = dX12_tellsNumber_58 sf_F (lN R) (lN (10 ^ k)) 0 τ := by
  intro r
  induction r with
  | zero =>
    intro j n hj hn
    obtain ⟨m, rfl⟩ : ∃ m, n = m + 1 := ⟨n - 1, by omega⟩
    have hj9 : j = 9 := by omega
    subst hj9
    have hlt : lN R < lN (10 ^ 9) * 10 := by
      rw [sc_L10, lN_mul, pk_lLT (by omega) (by omega)]; omega
    refine ⟨9, Nat.le_refl _, by omega, fun σ => ?_, fun τ => ?_⟩
    · rw [dX3_putNumber_12.eq_2]
      simp only [lg_cmp_gt]
      rw [if_pos hlt]
      split <;> rfl
    · rw [dX12_tellsNumber_23.eq_2]
      simp only [lg_cmp_gt]
      rw [if_pos hlt]
      split <;> rfl
  | succ r ih =>
    intro j n hj hn
    obtain ⟨m, rfl⟩ : ∃ m, n = m + 1 := ⟨n - 1, by omega⟩
    obtain ⟨p1, p2⟩ := sc_p10 (show j + 1 ≤ 10 by omega)
    have emul : lN (10 ^ j) * 10 = lN (10 ^ (j + 1)) := by rw [sc_L10, lN_mul, Nat.pow_succ]
    have h10 : ¬ (10 : Int32) ≤ nI j := by rw [show (10 : Int32) = nI 10 from by decide +kernel]; exact nI_ge (by omega) (by omega)
    by_cases hlt : R < 10 ^ (j + 1)
    · have hlt' : lN R < lN (10 ^ j) * 10 := by rw [emul, pk_lLT (by omega) (by omega)]; exact hlt
      refine ⟨j, by omega, hlt, fun σ => ?_, fun τ => ?_⟩
      · rw [dX3_putNumber_12.eq_2]
        simp only [lg_cmp_gt]
        rw [if_neg h10, if_pos hlt']
      · rw [dX12_tellsNumber_23.eq_2]
        simp only [lg_cmp_gt]
        rw [if_neg h10, if_pos hlt']
    · have hlt' : ¬ lN R < lN (10 ^ j) * 10 := by rw [emul, pk_lLT (by omega) (by omega)]; exact hlt
      obtain ⟨k, k1, k2, k3, k4⟩ := ih (j + 1) m (by omega) (by omega)
      refine ⟨k, k1, k2, fun σ => ?_, fun τ => ?_⟩
      · rw [← k3 σ]
        conv => lhs; rw [dX3_putNumber_12.eq_2]
        simp only [lg_cmp_gt]
        rw [if_neg h10, if_neg hlt', emul, nI_1]
      · rw [← k4 τ]
        conv => lhs; rw [dX12_tellsNumber_23.eq_2]
        simp only [lg_cmp_gt]
        rw [if_neg h10, if_neg hlt', emul, nI_1]
theorem sc_absC (x : Int32) : (if 0 < x.toInt64 then x.toInt64 else -x.toInt64) = lN x.toInt.natAbs := by
  have h1 := x.toInt_lt
  have h2 := x.le_toInt
  apply Int64.toInt_inj.mp
  rw [pk_lT (by omega)]
  by_cases h : 0 < x.toInt64
  · rw [if_pos h, Int32.toInt_toInt64]
    rw [Int64.lt_iff_toInt_lt, Int32.toInt_toInt64, sc_l0] at h
    omega
  · rw [if_neg h, Int64.toInt_neg, Int32.toInt_toInt64, Int.bmod_eq_of_le (by omega) (by omega)]
    rw [Int64.lt_iff_toInt_lt, Int32.toInt_toInt64, sc_l0] at h
    omega
theorem sc_absM (x : Int32) (h : ¬ 0 ≤ x) : (0 : Int64) - x.toInt64 = lN x.toInt.natAbs := by
  have h1 := x.toInt_lt
  have h2 := x.le_toInt
  rw [sc_le0] at h
  apply Int64.toInt_inj.mp
  rw [pk_lT (by omega), Int64.toInt_sub, Int32.toInt_toInt64, sc_l0, Int.bmod_eq_of_le (by omega) (by omega)]
  omega
theorem sc_absP (x : Int32) (h : 0 ≤ x) : x.toInt64 = lN x.toInt.natAbs := by
  have h1 := x.toInt_lt
  rw [sc_le0] at h
  apply Int64.toInt_inj.mp
  rw [pk_lT (by omega), Int32.toInt_toInt64]
  omega
/-- a number's text -/
theorem sc_numtext (x : Int32) : ∃ ds : List Int32, ds.length ≤ 12 ∧ (∀ σ l, σ 11 2 = nI l → l + 12 ≤ 400 → dX3_putNumber x σ = some (sc_em 12 11 2 ds l σ)) ∧ ∀ τ l, τ 0 29 = nI l → l + 12 ≤ 1200 → dX12_tellsNumber x τ = some (sc_em 21 0 29 ds l τ) := by
  have hF := sf_F_le
  have h1 := x.toInt_lt
  have h2 := x.le_toInt
  generalize hR : x.toInt.natAbs = R
  have hRb : R < 10 ^ 10 := by omega
  obtain ⟨k, k1, k2, k3, k4⟩ := sc_unit hRb x 9 0 sf_F (by omega) (by omega)
  have c3 : ∀ σ, dX3_putNumber x σ = dX3_putNumber_44 x (lN R) (lN (10 ^ k)) σ := fun σ => by
    unfold dX3_putNumber
    simp only [sc_absC, hR]
    rw [← k3 σ, sc_0, show (10 : Nat) ^ 0 = 1 from rfl, ← sc_L1]
  have hmod : R % 10 ^ (k + 1) = R := Nat.mod_eq_of_lt k2
  by_cases hx : 0 ≤ x
  · refine ⟨sc_dl R k ++ [nI 59], by simp [sc_dl_len]; omega, fun σ l h hl => ?_, fun τ l h hl => ?_⟩
    · rw [c3, dX3_putNumber_44, if_pos hx, sc_0, sc_dC hRb k 0 sf_F l σ (by omega) (by omega) h (by omega)]
    · unfold dX12_tellsNumber
      rw [if_pos hx, sc_absP x hx, hR, sc_L1, sc_0, show lN 1 = lN (10 ^ 0) from rfl, k4 τ, sc_0]
      have := sc_dM hRb k 0 sf_F l τ (by omega) (by omega) h (by omega)
      rw [hmod] at this
      exact this
  · refine ⟨nI 45 :: (sc_dl R k ++ [nI 59]), by simp [sc_dl_len]; omega, fun σ l h hl => ?_, fun τ l h hl => ?_⟩
    · rw [c3, dX3_putNumber_44, if_neg hx, show (45 : Int32) = nI 45 from by decide +kernel, sc_put rfl (by omega) h (by omega)]
      simp only [Option.bind_some]
      rw [sc_0, sc_dC hRb k 0 sf_F (l + 1) _ (by omega) (by omega) sc_upS (by omega)]
      rfl
    · unfold dX12_tellsNumber
      rw [if_neg hx, show (45 : Int32) = nI 45 from by decide +kernel, sc_tell h (by omega)]
      simp only [Option.bind_some]
      rw [sc_absM x hx, hR, sc_L1, sc_0, show lN 1 = lN (10 ^ 0) from rfl, k4, sc_0]
      have := sc_dM hRb k 0 sf_F (l + 1) (sf_up (sf_up τ 21 l (nI 45)) 0 29 (nI (l + 1))) (by omega) (by omega) sc_upS (by omega)
      rw [hmod] at this
      exact this
