/-! the normal form: what rules leave as it is -/
theorem tt_mkD_sd {n m : Int32} {P : tt_T} (h : m = 0 → tt_sd n P = tt_mkD n P) : tt_sd n (tt_mkD m P) = tt_mkD (n + m) P := by
  by_cases h0 : m = 0
  · subst h0
    rw [Int32.add_zero, ← h rfl]
    unfold tt_mkD
    rw [if_pos rfl]
  · conv => lhs; unfold tt_mkD
    rw [if_neg h0]
    rfl
theorem tt_E2 {n m : Int32} (hn : 0 ≤ n.toInt) (hm : 0 ≤ m.toInt) : ∀ X : tt_T, n.toInt.toNat + m.toInt.toNat + tt_dw X ≤ 100000 → tt_gd1 X → tt_sd n (tt_sd m X) = tt_sd (n + m) X
  | .leaf, _, h => absurd h.1 id
  | .inner s c u P Q, hd, h => by
    obtain ⟨⟨hs, hv, hil, w0, w1, w2⟩, ⟨hap, nP, nQ⟩, ⟨hc, kP, kQ⟩⟩ := id h
    have hd2 := hd
    simp only [tt_dw] at hd2
    have ea : (n + m).toInt = n.toInt + m.toInt := tt_add (by omega) (by omega)
    simp only [tt_sd]
    split
    · rename_i hp
      obtain ⟨q1, q2⟩ := w1 (tt_pmd_il hp).1
      have g := (tt_sd_gd P m hm (by omega) ⟨q1, nP, kP⟩).1
      rw [tt_E5 hn hp g.1, tt_E2 hn hm P (by omega) ⟨q1, nP, kP⟩]
    rename_i hp
    split
    · rename_i hr
      obtain ⟨q1, q2⟩ := w1 (by rw [hr]; decide +kernel)
      have b1 := hc.2.1 hr
      rw [if_pos hr] at hd2
      rw [tt_ap_d hr] at hap
      obtain ⟨z, s2, e2, u2, X2, Y2, rfl, r2, r3, r4, r5, r6⟩ := (tt_apd_none q1).mp hap
      rw [tt_mkD_sd, Int32.add_assoc]
      intro _
      simp only [tt_sd]
      rw [if_neg r2, if_neg r3, if_neg r4, if_neg r5, if_neg r6, tt_nd_eq q1.1]
    rename_i hr2
    split
    · rename_i hi
      simp only [tt_sd]
      rw [if_neg hp, if_neg hr2, if_pos hi, Int32.add_mul, Int32.add_assoc, Int32.add_comm (m * _)]
    rename_i hi
    split
    · rename_i hr
      obtain ⟨a1, a2, a3, a4⟩ := hc.2.2 hr
      have e1 : (c.2.2.1 + m).toInt = c.2.2.1.toInt + m.toInt := tt_add (by omega) (by omega)
      have e3 : (c.2.2.1 + (n + m)).toInt = c.2.2.1.toInt + (n.toInt + m.toInt) := by rw [tt_add (by omega) (by omega), ea]
      rw [tt_E7 hr hn (by omega) ⟨by rw [tt_mn_i]; omega, by rw [tt_mn_i]; omega, a3, a4⟩]
      have e4 : (tt_mn (c.2.2.1 + m) c.2.2.2 + n).toInt = (tt_mn (c.2.2.1 + m) c.2.2.2).toInt + n.toInt := tt_add (by rw [tt_mn_i]; omega) (by rw [tt_mn_i]; omega)
      have : tt_mn (tt_mn (c.2.2.1 + m) c.2.2.2 + n) c.2.2.2 = tt_mn (c.2.2.1 + (n + m)) c.2.2.2 := Int32.toInt_inj.mp (by rw [tt_mn_i, e4, tt_mn_i, tt_mn_i]; omega)
      rw [this]
    rename_i hr
    split
    · rename_i ht
      obtain ⟨q1, q2⟩ := w1 (by rw [ht.1]; decide +kernel)
      obtain ⟨b1, b2⟩ := hc.1 ht.1
      obtain ⟨g1, g2⟩ := tt_sd_gd P m hm (by omega) ⟨q1, nP, kP⟩
      have hs1 : (c.2.2.1 - m).toInt = c.2.2.1.toInt - m.toInt := tt_sub (by omega) (by omega)
      have hs2 : (tt_mz (c.2.2.1 - m) - n).toInt = (tt_mz (c.2.2.1 - m)).toInt - n.toInt := tt_sub (by rw [tt_mz_i]; omega) (by rw [tt_mz_i]; omega)
      have hs3 : (c.2.2.1 - (n + m)).toInt = c.2.2.1.toInt - (n.toInt + m.toInt) := by rw [tt_sub (by omega) (by omega), ea]
      rw [tt_E3 hn (by rw [tt_mz_i]; omega) (by rw [tt_mz_i]; omega) _ (by omega) (tt_sd_pu P ht.2) g1, tt_E2 hn hm P (by omega) ⟨q1, nP, kP⟩]
      have : tt_mz (tt_mz (c.2.2.1 - m) - n) = tt_mz (c.2.2.1 - (n + m)) := Int32.toInt_inj.mp (by rw [tt_mz_i, hs2, tt_mz_i, tt_mz_i]; omega)
      rw [this]
    · rename_i ht
      rw [tt_mkD_sd]
      intro _
      simp only [tt_sd]
      rw [if_neg hp, if_neg hr2, if_neg hi, if_neg hr, if_neg ht]
/-- a normal t, a normal d -/
theorem tt_st_id {s : Nat} {c : tt_C} {u : Unit} {P Q : tt_T} (ht : c.1 = 116) (h : tt_gd1 (.inner s c u P Q)) : tt_st c.2.2.1 P = .inner s c u P Q := by
  obtain ⟨⟨hs, hv, hil, w0, w1, w2⟩, ⟨hap, nP, nQ⟩, ⟨hc, kP, kQ⟩⟩ := h
  obtain ⟨q1, q2⟩ := w1 (by rw [ht]; decide +kernel)
  rw [tt_ap_t ht] at hap
  obtain ⟨z, s2, e2, u2, X2, Y2, rfl, r2, r3, r4⟩ := (tt_apt_none q1).mp hap
  simp only [tt_st]
  rw [if_neg r2, if_neg r3, if_neg r4]
  unfold tt_mkT
  rw [if_neg z]
  obtain ⟨L, M, A, B⟩ := c
  obtain ⟨hM, hB⟩ := hv.2 (Or.inl ht)
  have ht : L = 116 := ht
  have hM : M = -1 := hM
  have hB : B = 0 := hB
  subst ht; subst hM; subst hB; subst hs; subst q2
  obtain ⟨z1, -⟩ := q1
  subst z1
  rfl
theorem tt_sd_id {s : Nat} {c : tt_C} {u : Unit} {P Q : tt_T} (ht : c.1 = 100) (h : tt_gd1 (.inner s c u P Q)) : tt_sd c.2.2.1 P = .inner s c u P Q := by
  obtain ⟨⟨hs, hv, hil, w0, w1, w2⟩, ⟨hap, nP, nQ⟩, ⟨hc, kP, kQ⟩⟩ := h
  obtain ⟨q1, q2⟩ := w1 (by rw [ht]; decide +kernel)
  rw [tt_ap_d ht] at hap
  obtain ⟨z, s2, e2, u2, X2, Y2, rfl, r2, r3, r4, r5, r6⟩ := (tt_apd_none q1).mp hap
  simp only [tt_sd]
  rw [if_neg r2, if_neg r3, if_neg r4, if_neg r5, if_neg r6]
  unfold tt_mkD
  rw [if_neg z]
  obtain ⟨L, M, A, B⟩ := c
  obtain ⟨hM, hB⟩ := hv.2 (Or.inr ht)
  have ht : L = 100 := ht
  have hM : M = -1 := hM
  have hB : B = 0 := hB
  subst ht; subst hM; subst hB; subst hs; subst q2
  obtain ⟨z1, -⟩ := q1
  subst z1
  rfl
theorem tt_mkR_id {s : Nat} {c : tt_C} {u : Unit} {P Q : tt_T} (hr : c.1 = 114) (h : tt_gd1 (.inner s c u P Q)) : tt_mkR c = .inner s c u P Q := by
  obtain ⟨hw, ⟨hap, nP, nQ⟩, ⟨hc, kP, kQ⟩⟩ := h
  obtain ⟨hs, hv, hil, w0, w1, w2⟩ := id hw
  obtain ⟨q1, q2⟩ := w0 (by rw [hr]; decide +kernel)
  simp only [tt_ap, if_pos hr] at hap
  unfold tt_mkR
  by_cases hi : c.2.2.2 ≤ c.2.2.1
  · rw [if_pos hi]
    by_cases hz : c.2.2.1 = 0 ∧ c.2.2.2 = 0
    · exact (tt_isnil_eq hw (by simp only [tt_isnil, decide_eq_true_eq]; exact ⟨hr, hz⟩)).symm
    · rw [if_pos ⟨hi, hz⟩] at hap; cases hap
  · rw [if_neg hi]
    subst q1; subst q2; subst hs
    rfl
theorem tt_E10 : ∀ X : tt_T, tt_gd1 X → tt_dw X ≤ 100000 → tt_sd 0 X = X
  | .leaf, h, _ => absurd h.1 id
  | .inner s c u P Q, h, hd => by
    have z := tt_z
    obtain ⟨⟨hs, hv, hil, w0, w1, w2⟩, ⟨hap, nP, nQ⟩, ⟨hc, kP, kQ⟩⟩ := id h
    simp only [tt_dw] at hd
    simp only [tt_sd]
    split
    · rename_i hp
      obtain ⟨q1, q2⟩ := w1 (tt_pmd_il hp).1
      rw [tt_E10 P ⟨q1, nP, kP⟩ (by omega)]
      rw [tt_ap_pm hp] at hap
      unfold tt_mkU
      by_cases hi : tt_isnil P = true
      · rw [if_pos hi] at hap; cases hap
      · rw [if_neg hi]
        subst q2; subst hs; rfl
    split
    · rename_i hr
      rw [Int32.zero_add, ← tt_sd_id hr h]
      obtain ⟨q1, q2⟩ := w1 (by rw [hr]; decide +kernel)
      rw [tt_ap_d hr] at hap
      obtain ⟨z, s2, e2, u2, X2, Y2, rfl, r2, r3, r4, r5, r6⟩ := (tt_apd_none q1).mp hap
      simp only [tt_sd]
      rw [if_neg r2, if_neg r3, if_neg r4, if_neg r5, if_neg r6, tt_nd_eq q1.1]
    split
    · rename_i hi
      obtain ⟨q1, q2⟩ := w0 (by rw [hi]; decide +kernel)
      subst q1; subst q2; subst hs
      rw [Int32.zero_mul, Int32.add_zero]
    split
    · rename_i hr
      rw [Int32.add_zero]
      have hc2 : tt_mkR c = .inner s c u P Q := tt_mkR_id hr h
      by_cases hi : c.2.2.1 ≤ c.2.2.2
      · have : tt_mn c.2.2.1 c.2.2.2 = c.2.2.1 := Int32.toInt_inj.mp (by rw [tt_mn_i]; rw [Int32.le_iff_toInt_le] at hi; omega)
        rw [this]; exact hc2
      · have h1 : c.2.2.2 ≤ c.2.2.1 := by rw [Int32.le_iff_toInt_le] at hi ⊢; omega
        have : tt_mn c.2.2.1 c.2.2.2 = c.2.2.2 := Int32.toInt_inj.mp (by rw [tt_mn_i]; rw [Int32.le_iff_toInt_le] at hi; omega)
        rw [this, ← hc2]
        unfold tt_mkR
        rw [if_pos (Int32.le_refl _), if_pos h1]
    split
    · rename_i ht
      obtain ⟨q1, q2⟩ := w1 (by rw [ht.1]; decide +kernel)
      obtain ⟨b1, b2⟩ := hc.1 ht.1
      rw [tt_E10 P ⟨q1, nP, kP⟩ (by omega)]
      have : tt_mz (c.2.2.1 - 0) = c.2.2.1 := Int32.toInt_inj.mp (by rw [tt_mz_i, Int32.sub_zero]; omega)
      rw [this, tt_st_id ht.1 h]
    · unfold tt_mkD
      rw [if_pos rfl, tt_nd_eq hs]
theorem tt_nf_pu : ∀ T : tt_T, tt_pu T = true → tt_pu (tt_nf T) = true
  | .leaf, _ => rfl
  | .inner s c u P Q, h => by
    simp only [tt_pu, Bool.and_eq_true, Bool.not_eq_true'] at h
    obtain ⟨⟨h1, h2⟩, h3⟩ := h
    have iP := tt_nf_pu P h2
    have iQ := tt_nf_pu Q h3
    have hn : tt_pu tt_nil = true := by decide +kernel
    simp only [tt_nf]
    split
    · exact tt_mkR_pu h1
    split
    · exact tt_st_pu _ iP
    split
    · exact tt_sd_pu _ iP
    split
    · split
      · exact iQ
      split
      · exact iP
      · simp [tt_pu, h1, iP, iQ]
    split
    · simp [tt_pu, h1]
    split
    · split
      · exact hn
      · simp [tt_pu, h1, iP, iQ]
    · split
      · exact hn
      · simp [tt_pu, h1, iP, iQ]
theorem tt_nf_gd : ∀ T : tt_T, tt_wf T → tt_nw T → tt_dw T ≤ 100000 → tt_gd1 (tt_nf T) ∧ tt_dw (tt_nf T) ≤ tt_dw T
  | .leaf, h, _, _ => absurd h id
  | .inner s c u P Q, hw, hn, hd => by
    obtain ⟨hs, hv, hil, w0, w1, w2⟩ := hw
    obtain ⟨hc, kP, kQ⟩ := hn
    simp only [tt_dw] at hd
    have dnil : tt_dw tt_nil = 0 := by decide +kernel
    simp only [tt_nf]
    split
    · rename_i hr
      refine ⟨tt_mkR_gd hr hv hc, ?_⟩
      unfold tt_mkR
      split
      · rw [dnil]; exact Nat.zero_le _
      · simp only [tt_dw]; omega
    rename_i g1
    split
    · rename_i ht
      obtain ⟨q1, q2⟩ := w1 (by rw [ht]; decide +kernel)
      obtain ⟨b1, b2⟩ := hc.1 ht
      obtain ⟨i1, i2⟩ := tt_nf_gd P q1 kP (by omega)
      refine ⟨tt_st_gd b1 b2 _ i1, ?_⟩
      have := tt_st_dw (n := c.2.2.1) (tt_nf P)
      simp only [tt_dw]; omega
    rename_i g2
    split
    · rename_i ht
      obtain ⟨q1, q2⟩ := w1 (by rw [ht]; decide +kernel)
      have b1 := hc.2.1 ht
      rw [if_pos ht] at hd
      obtain ⟨i1, i2⟩ := tt_nf_gd P q1 kP (by omega)
      obtain ⟨j1, j2⟩ := tt_sd_gd (tt_nf P) c.2.2.1 b1 (by omega) i1
      refine ⟨j1, ?_⟩
      simp only [tt_dw, if_pos ht]; omega
    rename_i g3
    split
    · rename_i ht
      obtain ⟨q1, q2⟩ := w2 (by rw [ht]; decide +kernel)
      obtain ⟨i1, i2⟩ := tt_nf_gd P q1 kP (by omega)
      obtain ⟨j1, j2⟩ := tt_nf_gd Q q2 kQ (by omega)
      split
      · refine ⟨j1, ?_⟩; simp only [tt_dw]; omega
      split
      · refine ⟨i1, ?_⟩; simp only [tt_dw]; omega
      · rename_i a b
        refine ⟨⟨⟨rfl, hv, hil, fun q => absurd q (by rw [ht]; decide +kernel), fun q => absurd q (by rw [ht]; decide +kernel), fun _ => ⟨i1.1, j1.1⟩⟩, ⟨?_, i1.2.1, j1.2.1⟩, hc, i1.2.2, j1.2.2⟩, ?_⟩
        · simp only [tt_ap]
          rw [if_neg g1, if_neg g2, if_neg g3, if_pos ht, if_neg a, if_neg b]
        · simp only [tt_dw]; omega
    rename_i g4
    split
    · rename_i ht
      have hp0 : sc_p c.1 = 0 := by rcases ht with q | q | q | q <;> rw [q] <;> decide +kernel
      refine ⟨⟨⟨rfl, hv, hil, fun _ => ⟨rfl, rfl⟩, fun q => absurd hp0 (by have q : sc_p c.1 = 1 := q; omega), fun q => absurd hp0 (by have q : sc_p c.1 = 2 := q; omega)⟩, ⟨?_, trivial, trivial⟩, hc, trivial, trivial⟩, ?_⟩
      · simp only [tt_ap]
        rw [if_neg g1, if_neg g2, if_neg g3, if_neg g4, if_pos ht]
      · simp only [tt_dw]; omega
    rename_i g5
    have hp0 : ¬ sc_p c.1 = 0 := fun q => by
      simp only [sc_il, decide_eq_true_eq] at hil
      simp only [not_or] at g5
      rcases hil with e1 | e1 | e1 | e1 | e1 | e1
      · exact g5.1 e1
      · exact g1 e1
      · exact g5.2.1 e1
      · exact g5.2.2.1 e1
      · exact g5.2.2.2 e1
      · exact e1 q
    split
    · rename_i ht
      obtain ⟨q1, q2⟩ := w2 (by rw [ht]; decide +kernel)
      obtain ⟨i1, i2⟩ := tt_nf_gd P q1 kP (by omega)
      obtain ⟨j1, j2⟩ := tt_nf_gd Q q2 kQ (by omega)
      split
      · refine ⟨tt_nil_gd, ?_⟩; rw [dnil]; exact Nat.zero_le _
      · rename_i a
        refine ⟨⟨⟨rfl, hv, hil, fun q => absurd q hp0, fun q => absurd q (by rw [ht]; decide +kernel), fun _ => ⟨i1.1, j1.1⟩⟩, ⟨?_, i1.2.1, j1.2.1⟩, hc, i1.2.2, j1.2.2⟩, ?_⟩
        · simp only [tt_ap]
          rw [if_neg g1, if_neg g2, if_neg g3, if_neg g4, if_neg g5, if_pos ht, if_neg a]
        · simp only [tt_dw]; omega
    rename_i g6
    have hQ : (sc_p c.1 = 1 → tt_gd1 (tt_nf P) ∧ tt_dw (tt_nf P) ≤ tt_dw P ∧ tt_nf Q = .leaf) ∧ (sc_p c.1 = 2 → tt_gd1 (tt_nf P) ∧ tt_dw (tt_nf P) ≤ tt_dw P ∧ tt_gd1 (tt_nf Q) ∧ tt_dw (tt_nf Q) ≤ tt_dw Q) := by
      refine ⟨fun q => ?_, fun q => ?_⟩
      · obtain ⟨q1, q2⟩ := w1 q
        obtain ⟨i1, i2⟩ := tt_nf_gd P q1 kP (by omega)
        exact ⟨i1, i2, by rw [q2]; rfl⟩
      · obtain ⟨q1, q2⟩ := w2 q
        obtain ⟨i1, i2⟩ := tt_nf_gd P q1 kP (by omega)
        obtain ⟨j1, j2⟩ := tt_nf_gd Q q2 kQ (by omega)
        exact ⟨i1, i2, j1, j2⟩
    split
    · refine ⟨tt_nil_gd, ?_⟩; rw [dnil]; exact Nat.zero_le _
    · rename_i a
      have hap : tt_ap (tt_nd c (tt_nf P) (tt_nf Q)) = none := by
        simp only [tt_ap]
        rw [if_neg g1, if_neg g2, if_neg g3, if_neg g4, if_neg g5, if_neg g6, if_neg a]
      rcases sc_p3 c.1 with q | q | q
      · exact absurd q hp0
      · obtain ⟨i1, i2, j⟩ := hQ.1 q
        rw [j] at hap ⊢
        refine ⟨⟨⟨rfl, hv, hil, fun q => absurd q hp0, fun _ => ⟨i1.1, rfl⟩, fun q2 => by have q2 : sc_p c.1 = 2 := q2; omega⟩, ⟨hap, i1.2.1, trivial⟩, hc, i1.2.2, trivial⟩, ?_⟩
        simp only [tt_dw]; omega
      · obtain ⟨i1, i2, j1, j2⟩ := hQ.2 q
        refine ⟨⟨⟨rfl, hv, hil, fun q => absurd q hp0, fun q2 => by have q2 : sc_p c.1 = 1 := q2; omega, fun _ => ⟨i1.1, j1.1⟩⟩, ⟨hap, i1.2.1, j1.2.1⟩, hc, i1.2.2, j1.2.2⟩, ?_⟩
        simp only [tt_dw]; omega
