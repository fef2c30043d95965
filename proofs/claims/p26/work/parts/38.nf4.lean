/-! rules end in the normal form -/
theorem tt_nf_id : ∀ T : tt_T, tt_gd1 T → tt_nf T = T
  | .leaf, h => absurd h.1 id
  | .inner s c u P Q, h => by
    obtain ⟨⟨hs, hv, hil, w0, w1, w2⟩, ⟨hap, nP, nQ⟩, ⟨hc, kP, kQ⟩⟩ := id h
    simp only [tt_nf]
    split
    · rename_i hr
      exact tt_mkR_id hr h
    rename_i g1
    split
    · rename_i ht
      obtain ⟨q1, q2⟩ := w1 (by rw [ht]; decide +kernel)
      rw [tt_nf_id P ⟨q1, nP, kP⟩, tt_st_id ht h]
    rename_i g2
    split
    · rename_i ht
      obtain ⟨q1, q2⟩ := w1 (by rw [ht]; decide +kernel)
      rw [tt_nf_id P ⟨q1, nP, kP⟩, tt_sd_id ht h]
    rename_i g3
    simp only [tt_ap, if_neg g1, if_neg g2, if_neg g3] at hap
    split
    · rename_i ht
      obtain ⟨q1, q2⟩ := w2 (by rw [ht]; decide +kernel)
      rw [if_pos ht] at hap
      rw [tt_nf_id P ⟨q1, nP, kP⟩, tt_nf_id Q ⟨q2, nQ, kQ⟩]
      split at hap
      · cases hap
      split at hap
      · cases hap
      rename_i a b
      rw [if_neg a, if_neg b, tt_nd_eq hs]
    rename_i g4
    rw [if_neg g4] at hap
    split
    · rename_i ht
      have hp0 : sc_p c.1 = 0 := by rcases ht with q | q | q | q <;> rw [q] <;> decide +kernel
      obtain ⟨q1, q2⟩ := w0 hp0
      subst q1; subst q2
      rw [tt_nd_eq hs]
    rename_i g5
    rw [if_neg g5] at hap
    have hp0 : ¬ sc_p c.1 = 0 := fun q => by
      simp only [sc_il, decide_eq_true_eq] at hil
      simp only [not_or] at g5
      rcases hil with e1 | e1 | e1 | e1 | e1 | e1
      · exact g5.1 e1
      · exact g1 e1
      · exact g5.2.1 e1
      · exact g5.2.2.1 e1
      · exact g5.2.2.2 e1
      · exact e1 q
    have hQ : tt_nf P = P ∧ tt_nf Q = Q := by
      rcases sc_p3 c.1 with q | q | q
      · exact absurd q hp0
      · obtain ⟨q1, q2⟩ := w1 q
        exact ⟨tt_nf_id P ⟨q1, nP, kP⟩, by rw [q2]; rfl⟩
      · obtain ⟨q1, q2⟩ := w2 q
        exact ⟨tt_nf_id P ⟨q1, nP, kP⟩, tt_nf_id Q ⟨q2, nQ, kQ⟩⟩
    rw [hQ.1, hQ.2]
    split
    · rename_i g6
      rw [if_pos g6] at hap
      split at hap
      · cases hap
      rename_i a
      rw [if_neg a, tt_nd_eq hs]
    · rename_i g6
      rw [if_neg g6] at hap
      split at hap
      · cases hap
      rename_i a
      rw [if_neg a, tt_nd_eq hs]
theorem tt_nf_nil : tt_nf tt_nil = tt_nil := tt_nf_id _ tt_nil_gd
theorem tt_nf_pm {s : Nat} {c : tt_C} {u : Unit} {P : tt_T} (h : tt_pmd c.1 = true) : tt_nf (.inner s c u P .leaf) = tt_mkU c (tt_nf P) := by
  obtain ⟨-, -, h1, h2, h3, h4, h5, h6, h7, h8, h9⟩ := tt_pmd_il h
  simp only [tt_nf]
  rw [if_neg h1, if_neg h2, if_neg h3, if_neg h4, if_neg (by simp [h5, h6, h7, h8]), if_neg h9]
  rfl
theorem tt_nf_t {s : Nat} {c : tt_C} {u : Unit} {P Q : tt_T} (h : c.1 = 116) : tt_nf (.inner s c u P Q) = tt_st c.2.2.1 (tt_nf P) := by
  simp only [tt_nf]; rw [h]; rfl
theorem tt_nf_d {s : Nat} {c : tt_C} {u : Unit} {P Q : tt_T} (h : c.1 = 100) : tt_nf (.inner s c u P Q) = tt_sd c.2.2.1 (tt_nf P) := by
  simp only [tt_nf]; rw [h]; rfl
theorem tt_nf_r {s : Nat} {c : tt_C} {u : Unit} {P Q : tt_T} (h : c.1 = 114) : tt_nf (.inner s c u P Q) = tt_mkR c := by
  simp only [tt_nf]; rw [if_pos h]
theorem tt_nf_i {s : Nat} {c : tt_C} {u : Unit} {P Q : tt_T} (h : c.1 = 105) : tt_nf (.inner s c u P Q) = tt_nd c .leaf .leaf := by
  simp only [tt_nf]; rw [if_neg (by rw [h]; decide), if_neg (by rw [h]; decide), if_neg (by rw [h]; decide), if_neg (by rw [h]; decide), if_pos (Or.inl h)]
theorem tt_nf_isnil {T : tt_T} (hw : tt_wf T) (h : tt_isnil T = true) : tt_nf T = tt_nil := by rw [tt_isnil_eq hw h, tt_nf_nil]
theorem tt_apt_nf {c : tt_C} {P T' : tt_T} {r : Nat} (hc : c.1 = 116) (hn : tt_nwc c) (hP : tt_wf P) (kP : tt_nw P) (hd : tt_dw P ≤ 100000) (h : tt_apt c P = some (r, T')) : tt_nf T' = tt_st c.2.2.1 (tt_nf P) := by
  obtain ⟨n1, n2⟩ := hn.1 hc
  have gP := (tt_nf_gd P hP kP hd).1
  cases P with
  | leaf => exact absurd hP id
  | inner s e u X Y =>
    obtain ⟨L, M, A, B⟩ := e
    obtain ⟨hs, hv, hil, w0, w1, w2⟩ := hP
    obtain ⟨hc2, kX, kY⟩ := kP
    simp only [tt_dw] at hd
    simp only [tt_apt] at h
    split at h
    · rename_i hp
      cases h
      obtain ⟨q1, q2⟩ := w1 (tt_pmd_il (L := L) hp).1
      subst q2
      rw [tt_nf_pm (c := (L, M, A, B)) hp, tt_nf_pm (c := (L, M, A, B)) hp, tt_nf_t hc, tt_E4 n1 hp (tt_nf_gd X q1 kX (by omega)).1.1]
    split at h
    · rename_i hr
      cases h
      obtain ⟨a1, a2, a3, a4⟩ := hc2.2.2 hr
      rw [tt_nf_r (c := (L, M, _, _)) hr, tt_nf_r (c := (L, M, _, _)) hr, tt_E6 hr n1 n2 ⟨a1, a2, a3, a4⟩]
      rfl
    split at h
    · rename_i ht
      cases h
      obtain ⟨b1, b2⟩ := hc2.1 ht
      obtain ⟨q1, q2⟩ := w1 (by show sc_p L = 1; rw [ht]; decide +kernel)
      rw [tt_nf_t (c := (L, M, _, _)) ht, tt_nf_t (c := (L, M, _, _)) ht, tt_E1 n1 n2 b1 b2 _ (tt_nf_gd X q1 kX (by omega)).1]
      rfl
    split at h
    · rename_i h0
      cases h
      rw [h0, tt_nf_nil, tt_E9 _ gP]
    · cases h
theorem tt_apd_nf {c : tt_C} {P T' : tt_T} {r : Nat} (hc : c.1 = 100) (hn : tt_nwc c) (hP : tt_wf P) (kP : tt_nw P) (hd : c.2.2.1.toInt.toNat + tt_dw P ≤ 100000) (h : tt_apd c P = some (r, T')) : tt_nf T' = tt_sd c.2.2.1 (tt_nf P) := by
  have n1 := hn.2.1 hc
  obtain ⟨gP, dP⟩ := tt_nf_gd P hP kP (by omega)
  cases P with
  | leaf => exact absurd hP id
  | inner s e u X Y =>
    obtain ⟨L, M, A, B⟩ := e
    obtain ⟨hs, hv, hil, w0, w1, w2⟩ := hP
    obtain ⟨hc2, kX, kY⟩ := kP
    simp only [tt_dw] at hd
    simp only [tt_apd] at h
    split at h
    · rename_i hp
      cases h
      obtain ⟨q1, q2⟩ := w1 (tt_pmd_il (L := L) hp).1
      subst q2
      rw [tt_nf_pm (c := (L, M, A, B)) hp, tt_nf_pm (c := (L, M, A, B)) hp, tt_nf_d hc, tt_E5 n1 hp (tt_nf_gd X q1 kX (by omega)).1.1]
    split at h
    · rename_i hr
      cases h
      have b1 := hc2.2.1 hr
      have b1 : 0 ≤ A.toInt := b1
      rw [if_pos hr] at hd
      have hd : c.2.2.1.toInt.toNat + (A.toInt.toNat + tt_dw X + tt_dw Y) ≤ 100000 := hd
      obtain ⟨q1, q2⟩ := w1 (by show sc_p L = 1; rw [hr]; decide +kernel)
      obtain ⟨g1, g2⟩ := tt_nf_gd X q1 kX (by omega)
      rw [tt_nf_d (c := (L, M, _, _)) hr, tt_nf_d (c := (L, M, _, _)) hr, tt_E2 n1 b1 _ (by omega) g1]
    split at h
    · rename_i hi
      cases h
      rw [tt_nf_i (c := (L, M, _, _)) hi, tt_nf_i (c := (L, M, _, _)) hi]
      have hi2 : L = 105 := hi
      subst hi2
      rfl
    split at h
    · rename_i hr
      cases h
      obtain ⟨a1, a2, a3, a4⟩ := hc2.2.2 hr
      rw [tt_nf_r (c := (L, M, _, _)) hr, tt_nf_r (c := (L, M, _, _)) hr, tt_E7 hr n1 (by omega) ⟨a1, a2, a3, a4⟩]
      rfl
    split at h
    · rename_i ht
      cases h
      obtain ⟨b1, b2⟩ := hc2.1 ht.1
      obtain ⟨q1, q2⟩ := w1 (by show sc_p L = 1; rw [ht.1]; decide +kernel)
      obtain ⟨g1, g2⟩ := tt_nf_gd X q1 kX (by omega)
      rw [tt_nf_t (c := (L, M, _, _)) ht.1, tt_nf_t (c := (L, M, _, _)) ht.1, tt_nf_d hc, tt_E3 n1 b1 b2 _ (by omega) (tt_nf_pu X ht.2) g1]
      rfl
    split at h
    · rename_i h0
      cases h
      rw [h0, tt_E10 _ gP (by simp only [tt_dw] at dP; omega)]
    · cases h
theorem tt_ap_nf {T T' : tt_T} {r : Nat} (hw : tt_wf T) (hn : tt_nw T) (hd : tt_dw T ≤ 100000) (h : tt_ap T = some (r, T')) : tt_nf T' = tt_nf T := by
  cases T with
  | leaf => cases h
  | inner s c u P Q =>
    obtain ⟨hs, hv, hil, w0, w1, w2⟩ := hw
    obtain ⟨n1, n2, n3⟩ := hn
    simp only [tt_dw] at hd
    simp only [tt_ap] at h
    split at h
    · rename_i hr
      split at h
      · rename_i q
        cases h
        rw [tt_nf_nil, tt_nf_r hr]
        unfold tt_mkR
        rw [if_pos q.1]
      · cases h
    split at h
    · rename_i hc
      obtain ⟨q1, q2⟩ := w1 (by rw [hc]; decide +kernel)
      rw [tt_apt_nf hc n1 q1 n2 (by omega) h, tt_nf_t hc]
    split at h
    · rename_i hc
      obtain ⟨q1, q2⟩ := w1 (by rw [hc]; decide +kernel)
      rw [if_pos hc] at hd
      rw [tt_apd_nf hc n1 q1 n2 (by omega) h, tt_nf_d hc]
    rename_i g1 g2 g3
    split at h
    · rename_i hc
      obtain ⟨q1, q2⟩ := w2 (by rw [hc]; decide +kernel)
      have gQ := (tt_nf_gd Q q2 n3 (by omega)).1
      conv => rhs; simp only [tt_nf]; rw [if_neg g1, if_neg g2, if_neg g3, if_pos hc]
      split at h
      · rename_i q
        cases h
        rw [tt_nf_isnil q1 q]; rfl
      split at h
      · rename_i q
        cases h
        rw [tt_nf_isnil q2 q]
        split
        · rename_i q3
          rw [tt_isnil_eq (tt_nf_gd _ q1 n2 (by omega)).1.1 q3]
        · rfl
      · cases h
    rename_i g4
    split at h
    · cases h
    rename_i g5
    conv => rhs; simp only [tt_nf]; rw [if_neg g1, if_neg g2, if_neg g3, if_neg g4, if_neg g5]
    split at h
    · rename_i hc
      obtain ⟨q1, q2⟩ := w2 (by rw [hc]; decide +kernel)
      rw [if_pos hc]
      split at h
      · rename_i q
        cases h
        rw [tt_nf_nil, tt_nf_isnil q2 q]; rfl
      · cases h
    rename_i g6
    rw [if_neg g6]
    split at h
    · rename_i q
      cases h
      have hp0 : ¬ sc_p c.1 = 0 := fun q => by
        simp only [sc_il, decide_eq_true_eq] at hil
        simp only [not_or] at g5
        rcases hil with e1 | e1 | e1 | e1 | e1 | e1
        · exact g5.1 e1
        · exact g1 e1
        · exact g5.2.1 e1
        · exact g5.2.2.1 e1
        · exact g5.2.2.2 e1
        · exact e1 q
      have wP : tt_wf P := by
        rcases sc_p3 c.1 with k | k | k
        · exact absurd k hp0
        · exact (w1 k).1
        · exact (w2 k).1
      rw [tt_nf_nil, tt_nf_isnil wP q]; rfl
    · cases h
