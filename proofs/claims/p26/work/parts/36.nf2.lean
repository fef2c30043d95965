/-! the normal form: equations -/
theorem tt_sd_gd : ∀ (T : tt_T) (n : Int32), 0 ≤ n.toInt → n.toInt.toNat + tt_dw T ≤ 100000 → tt_gd1 T → tt_gd1 (tt_sd n T) ∧ tt_dw (tt_sd n T) ≤ n.toInt.toNat + tt_dw T
  | .leaf, _, _, _, h => absurd h.1 id
  | .inner s c u P Q, n, h0, hd, h => by
    obtain ⟨⟨hs, hm, hil, w0, w1, w2⟩, ⟨hap, nP, nQ⟩, ⟨hc, kP, kQ⟩⟩ := id h
    simp only [tt_dw] at hd
    simp only [tt_sd]
    split
    · rename_i hp
      obtain ⟨q1, q2⟩ := w1 (tt_pmd_il hp).1
      obtain ⟨g1, g2⟩ := tt_sd_gd P n h0 (by omega) ⟨q1, nP, kP⟩
      refine ⟨tt_mkU_gd hp hm hc g1, ?_⟩
      unfold tt_mkU
      split
      · exact Nat.zero_le _
      · simp only [tt_dw]
        rw [if_neg (tt_pmd_il hp).2.2.2.2.1]
        omega
    split
    · rename_i hr
      obtain ⟨q1, q2⟩ := w1 (by rw [hr]; decide +kernel)
      have b1 := hc.2.1 hr
      rw [if_pos hr] at hd
      rw [tt_ap_d hr] at hap
      obtain ⟨z, s2, e2, u2, X2, Y2, r1, r2⟩ := (tt_apd_none q1).mp hap
      have hadd : (n + c.2.2.1).toInt = n.toInt + c.2.2.1.toInt := tt_add (by omega) (by omega)
      refine ⟨tt_mkD_gd (by omega) ⟨q1, nP, kP⟩ (fun k => (tt_apd_none q1).mpr ⟨k, s2, e2, u2, X2, Y2, r1, r2⟩), ?_⟩
      unfold tt_mkD
      split
      · simp only [tt_dw]; omega
      · simp only [tt_dw, tt_cd, if_true, if_pos hr, hadd]
        omega
    split
    · rename_i hi
      refine ⟨⟨⟨rfl, ⟨fun q => absurd (hi.symm.trans q) (by decide), fun q => q.elim (fun q => absurd (hi.symm.trans q) (by decide)) (fun q => absurd (hi.symm.trans q) (by decide))⟩, hil, fun _ => ⟨rfl, rfl⟩, fun q => ?_, fun q => ?_⟩, ⟨?_, trivial, trivial⟩, ⟨fun q => absurd (hi.symm.trans q) (by decide), fun q => absurd (hi.symm.trans q) (by decide), fun q => absurd (hi.symm.trans q) (by decide)⟩, trivial, trivial⟩, ?_⟩
      · have q : sc_p c.1 = 1 := q
        rw [hi] at q; exact absurd q (by decide +kernel)
      · have q : sc_p c.1 = 2 := q
        rw [hi] at q; exact absurd q (by decide +kernel)
      · simp only [tt_ap]; rw [hi]; rfl
      · simp only [tt_dw]; rw [hi]; exact Nat.zero_le _
    split
    · rename_i hr
      obtain ⟨a1, a2, a3, a4⟩ := hc.2.2 hr
      refine ⟨tt_mkR_gd hr ⟨fun _ => hm.1 hr, fun q => q.elim (fun q => absurd (hr.symm.trans q) (by decide)) (fun q => absurd (hr.symm.trans q) (by decide))⟩ ⟨fun q => absurd (hr.symm.trans q) (by decide), fun q => absurd (hr.symm.trans q) (by decide), fun _ => ⟨?_, ?_, a3, a4⟩⟩, ?_⟩
      · rw [tt_mn_i, tt_add (by omega) (by omega)]; omega
      · rw [tt_mn_i, tt_add (by omega) (by omega)]; omega
      · unfold tt_mkR
        split
        · exact Nat.zero_le _
        · simp only [tt_dw]; rw [hr]; exact Nat.zero_le _
    split
    · rename_i ht
      obtain ⟨q1, q2⟩ := w1 (by rw [ht.1]; decide +kernel)
      obtain ⟨b1, b2⟩ := hc.1 ht.1
      obtain ⟨g1, g2⟩ := tt_sd_gd P n h0 (by omega) ⟨q1, nP, kP⟩
      have hs1 := tt_sub (a := c.2.2.1) (b := n) (by omega) (by omega)
      refine ⟨tt_st_gd (by rw [tt_mz_i]; omega) (by rw [tt_mz_i]; omega) _ g1, ?_⟩
      have := tt_st_dw (n := tt_mz (c.2.2.1 - n)) (tt_sd n P)
      simp only [tt_dw]; omega
    · rename_i a b d f g
      rw [tt_nd_eq hs] at h
      refine ⟨tt_mkD_gd h0 h (fun k => (tt_apd_none h.1).mpr ⟨k, 0, c, (), P, Q, rfl, a, b, d, f, g⟩), ?_⟩
      unfold tt_mkD
      split
      · simp only [tt_dw]; omega
      · simp only [tt_dw, tt_cd, if_true]; omega
theorem tt_st_nil {n : Int32} (h : 0 ≤ n.toInt) : tt_st n tt_nil = tt_nil := by
  have z := tt_z
  show tt_mkR (114, -1, 0, tt_mn (0 + n) 0) = tt_nil
  have : tt_mn (0 + n) 0 = 0 := Int32.toInt_inj.mp (by rw [tt_mn_i, Int32.zero_add, z]; omega)
  rw [this]; rfl
theorem tt_sd_nil {n : Int32} (h : 0 ≤ n.toInt) : tt_sd n tt_nil = tt_nil := by
  have z := tt_z
  show tt_mkR (114, -1, tt_mn (0 + n) 0, 0) = tt_nil
  have : tt_mn (0 + n) 0 = 0 := Int32.toInt_inj.mp (by rw [tt_mn_i, Int32.zero_add, z]; omega)
  rw [this]; rfl
theorem tt_E4 {n : Int32} {c : tt_C} {P : tt_T} (h : 0 ≤ n.toInt) (hp : tt_pmd c.1 = true) (hP : tt_wf P) : tt_st n (tt_mkU c P) = tt_mkU c (tt_st n P) := by
  unfold tt_mkU
  by_cases hi : tt_isnil P = true
  · rw [if_pos hi, tt_isnil_eq hP hi, tt_st_nil h]; rfl
  · rw [if_neg hi]
    simp only [tt_st, if_pos hp]; rfl
theorem tt_E5 {n : Int32} {c : tt_C} {P : tt_T} (h : 0 ≤ n.toInt) (hp : tt_pmd c.1 = true) (hP : tt_wf P) : tt_sd n (tt_mkU c P) = tt_mkU c (tt_sd n P) := by
  unfold tt_mkU
  by_cases hi : tt_isnil P = true
  · rw [if_pos hi, tt_isnil_eq hP hi, tt_sd_nil h]; rfl
  · rw [if_neg hi]
    simp only [tt_sd, if_pos hp]; rfl
theorem tt_E6 {n L M A B : Int32} (hr : L = 114) (h : 0 ≤ n.toInt) (hn : n.toInt ≤ 100000) (hc : -100000 ≤ A.toInt ∧ A.toInt ≤ 100000 ∧ -100000 ≤ B.toInt ∧ B.toInt ≤ 100000) : tt_st n (tt_mkR (L, M, A, B)) = tt_mkR (L, M, A, tt_mn (A + n) B) := by
  subst hr
  have hadd : (A + n).toInt = A.toInt + n.toInt := tt_add (by omega) (by omega)
  unfold tt_mkR
  by_cases hi : B ≤ A
  · rw [if_pos hi, if_pos (Int32.le_iff_toInt_le.mpr (by rw [Int32.le_iff_toInt_le] at hi; show (tt_mn (A + n) B).toInt ≤ A.toInt; rw [tt_mn_i]; omega)), tt_st_nil h]
  · rw [if_neg hi]; rfl
theorem tt_E7 {n L M A B : Int32} (hr : L = 114) (h : 0 ≤ n.toInt) (hn : n.toInt ≤ 100000) (hc : -100000 ≤ A.toInt ∧ A.toInt ≤ 100000 ∧ -100000 ≤ B.toInt ∧ B.toInt ≤ 100000) : tt_sd n (tt_mkR (L, M, A, B)) = tt_mkR (L, M, tt_mn (A + n) B, B) := by
  subst hr
  have hadd : (A + n).toInt = A.toInt + n.toInt := tt_add (by omega) (by omega)
  unfold tt_mkR
  by_cases hi : B ≤ A
  · rw [if_pos hi, if_pos (Int32.le_iff_toInt_le.mpr (by rw [Int32.le_iff_toInt_le] at hi; show B.toInt ≤ (tt_mn (A + n) B).toInt; rw [tt_mn_i]; omega)), tt_sd_nil h]
  · rw [if_neg hi]; rfl
theorem tt_E9 : ∀ X : tt_T, tt_gd1 X → tt_st 0 X = tt_nil
  | .leaf, h => absurd h.1 id
  | .inner s c u P Q, ⟨⟨hs, hm, hil, w0, w1, w2⟩, ⟨hap, nP, nQ⟩, ⟨hc, kP, kQ⟩⟩ => by
    have z := tt_z
    simp only [tt_st]
    split
    · rename_i hp
      obtain ⟨q1, q2⟩ := w1 (tt_pmd_il hp).1
      rw [tt_E9 P ⟨q1, nP, kP⟩]; rfl
    split
    · unfold tt_mkR
      exact if_pos (Int32.le_iff_toInt_le.mpr (by show (tt_mn (c.2.2.1 + 0) c.2.2.2).toInt ≤ c.2.2.1.toInt; rw [tt_mn_i, Int32.add_zero]; omega))
    split
    · rename_i ht
      obtain ⟨b1, b2⟩ := hc.1 ht
      have : tt_mn c.2.2.1 0 = 0 := Int32.toInt_inj.mp (by rw [tt_mn_i, z]; omega)
      rw [this]; rfl
    · rfl
theorem tt_mkT_st {n m : Int32} {P : tt_T} (hn : 0 ≤ n.toInt) (hm : 0 ≤ m.toInt) : tt_st n (tt_mkT m P) = tt_mkT (tt_mn m n) P := by
  have z := tt_z
  unfold tt_mkT
  by_cases h : m = 0
  · subst h
    rw [if_pos rfl, tt_st_nil hn, if_pos (Int32.toInt_inj.mp (by rw [tt_mn_i, z]; omega))]
  · rw [if_neg h]; rfl
theorem tt_E1 {n m : Int32} (hn : 0 ≤ n.toInt) (hn1 : n.toInt ≤ 100000) (hm : 0 ≤ m.toInt) (hm1 : m.toInt ≤ 100000) : ∀ X : tt_T, tt_gd1 X → tt_st n (tt_st m X) = tt_st (tt_mn m n) X
  | .leaf, h => absurd h.1 id
  | .inner s c u P Q, h => by
    obtain ⟨⟨hs, hv, hil, w0, w1, w2⟩, ⟨hap, nP, nQ⟩, ⟨hc, kP, kQ⟩⟩ := id h
    simp only [tt_st]
    split
    · rename_i hp
      obtain ⟨q1, q2⟩ := w1 (tt_pmd_il hp).1
      have g := tt_st_gd hm hm1 P ⟨q1, nP, kP⟩
      rw [tt_E4 hn hp g.1, tt_E1 hn hn1 hm hm1 P ⟨q1, nP, kP⟩]
    split
    · rename_i hr
      obtain ⟨a1, a2, a3, a4⟩ := hc.2.2 hr
      have e1 : (c.2.2.1 + m).toInt = c.2.2.1.toInt + m.toInt := tt_add (by omega) (by omega)
      have e2 : (c.2.2.1 + n).toInt = c.2.2.1.toInt + n.toInt := tt_add (by omega) (by omega)
      have e3 : (c.2.2.1 + tt_mn m n).toInt = c.2.2.1.toInt + min m.toInt n.toInt := by rw [tt_add (by rw [tt_mn_i]; omega) (by rw [tt_mn_i]; omega), tt_mn_i]
      rw [tt_E6 hr hn hn1 ⟨a1, a2, by rw [tt_mn_i]; omega, by rw [tt_mn_i]; omega⟩]
      have : tt_mn (c.2.2.1 + n) (tt_mn (c.2.2.1 + m) c.2.2.2) = tt_mn (c.2.2.1 + tt_mn m n) c.2.2.2 := Int32.toInt_inj.mp (by rw [tt_mn_i, tt_mn_i, tt_mn_i, e1, e2, e3]; omega)
      rw [this]
    split
    · rename_i ht
      obtain ⟨b1, b2⟩ := hc.1 ht
      rw [tt_mkT_st hn (by rw [tt_mn_i]; omega)]
      have : tt_mn (tt_mn c.2.2.1 m) n = tt_mn c.2.2.1 (tt_mn m n) := Int32.toInt_inj.mp (by rw [tt_mn_i, tt_mn_i, tt_mn_i, tt_mn_i]; omega)
      rw [this]
    · exact tt_mkT_st hn hm
theorem tt_E3 {n m : Int32} (hn : 0 ≤ n.toInt) (hm : 0 ≤ m.toInt) (hm1 : m.toInt ≤ 100000) : ∀ X : tt_T, n.toInt.toNat + tt_dw X ≤ 100000 → tt_pu X = true → tt_gd1 X → tt_sd n (tt_st m X) = tt_st (tt_mz (m - n)) (tt_sd n X)
  | .leaf, _, _, h => absurd h.1 id
  | .inner s c u P Q, hd, hpu, h => by
    have z := tt_z
    obtain ⟨⟨hs, hv, hil, w0, w1, w2⟩, ⟨hap, nP, nQ⟩, ⟨hc, kP, kQ⟩⟩ := id h
    have hpu2 := hpu
    simp only [tt_pu, Bool.and_eq_true, Bool.not_eq_true'] at hpu2
    obtain ⟨⟨p1, p2⟩, p3⟩ := hpu2
    have hd2 := hd
    simp only [tt_dw] at hd2
    have hs1 : (m - n).toInt = m.toInt - n.toInt := tt_sub (by omega) (by omega)
    have hk0 : 0 ≤ (tt_mz (m - n)).toInt := by rw [tt_mz_i]; omega
    have hk1 : (tt_mz (m - n)).toInt ≤ 100000 := by rw [tt_mz_i]; omega
    -- a t over what no t goes into
    have other : ∀ Y : tt_T, tt_pu Y = true → tt_gd1 Y → n.toInt.toNat + tt_dw Y ≤ 100000 → tt_sd n (tt_mkT m Y) = tt_st (tt_mz (m - n)) (tt_sd n Y) := by
      intro Y hY gY dY
      unfold tt_mkT
      by_cases h0 : m = 0
      · subst h0
        rw [if_pos rfl, tt_sd_nil hn]
        have : tt_mz (0 - n) = 0 := Int32.toInt_inj.mp (by rw [tt_mz_i, hs1, z]; omega)
        rw [this, tt_E9 _ (tt_sd_gd Y n hn dY gY).1]
      · rw [if_neg h0]
        simp only [tt_sd, tt_ct]
        rw [if_neg (by decide), if_neg (by decide), if_neg (by decide), if_neg (by decide), if_pos ⟨trivial, hY⟩]
    simp only [tt_st]
    split
    · rename_i hp
      obtain ⟨q1, q2⟩ := w1 (tt_pmd_il hp).1
      have g := tt_st_gd hm hm1 P ⟨q1, nP, kP⟩
      have g2 := (tt_sd_gd P n hn (by omega) ⟨q1, nP, kP⟩).1
      rw [tt_E5 hn hp g.1, tt_E3 hn hm hm1 P (by omega) p2 ⟨q1, nP, kP⟩]
      conv => rhs; simp only [tt_sd]; rw [if_pos hp]
      rw [tt_E4 hk0 hp g2.1]
    rename_i hp
    split
    · rename_i hr
      obtain ⟨a1, a2, a3, a4⟩ := hc.2.2 hr
      have e1 : (c.2.2.1 + m).toInt = c.2.2.1.toInt + m.toInt := tt_add (by omega) (by omega)
      have e2 : (c.2.2.1 + n).toInt = c.2.2.1.toInt + n.toInt := tt_add (by omega) (by omega)
      rw [tt_E7 hr hn (by omega) ⟨a1, a2, by rw [tt_mn_i]; omega, by rw [tt_mn_i]; omega⟩]
      conv => rhs; simp only [tt_sd]; rw [if_neg hp, if_neg (by rw [hr]; decide), if_neg (by rw [hr]; decide), if_pos hr]
      rw [tt_E6 hr hk0 hk1 ⟨by rw [tt_mn_i]; omega, by rw [tt_mn_i]; omega, a3, a4⟩]
      have e4 : (tt_mn (c.2.2.1 + n) c.2.2.2 + tt_mz (m - n)).toInt = (tt_mn (c.2.2.1 + n) c.2.2.2).toInt + (tt_mz (m - n)).toInt := tt_add (by rw [tt_mn_i, tt_mz_i]; omega) (by rw [tt_mn_i, tt_mz_i]; omega)
      by_cases hmn : n.toInt ≤ m.toInt
      · have x1 : tt_mn (c.2.2.1 + n) (tt_mn (c.2.2.1 + m) c.2.2.2) = tt_mn (c.2.2.1 + n) c.2.2.2 := Int32.toInt_inj.mp (by rw [tt_mn_i, tt_mn_i, tt_mn_i]; omega)
        have x2 : tt_mn (c.2.2.1 + m) c.2.2.2 = tt_mn (tt_mn (c.2.2.1 + n) c.2.2.2 + tt_mz (m - n)) c.2.2.2 := Int32.toInt_inj.mp (by rw [tt_mn_i, tt_mn_i, e4, tt_mn_i, tt_mz_i]; omega)
        rw [x1, x2]
      · unfold tt_mkR
        rw [if_pos (Int32.le_iff_toInt_le.mpr (by show (tt_mn (c.2.2.1 + m) c.2.2.2).toInt ≤ (tt_mn (c.2.2.1 + n) (tt_mn (c.2.2.1 + m) c.2.2.2)).toInt; simp only [tt_mn_i]; omega)), if_pos (Int32.le_iff_toInt_le.mpr (by show (tt_mn (tt_mn (c.2.2.1 + n) c.2.2.2 + tt_mz (m - n)) c.2.2.2).toInt ≤ (tt_mn (c.2.2.1 + n) c.2.2.2).toInt; rw [tt_mn_i, e4, tt_mn_i, tt_mz_i]; omega))]
    rename_i hr
    split
    · rename_i ht
      obtain ⟨q1, q2⟩ := w1 (by rw [ht]; decide +kernel)
      obtain ⟨b1, b2⟩ := hc.1 ht
      have g2 := (tt_sd_gd P n hn (by omega) ⟨q1, nP, kP⟩).1
      have hs2 : (c.2.2.1 - n).toInt = c.2.2.1.toInt - n.toInt := tt_sub (by omega) (by omega)
      conv => rhs; simp only [tt_sd]; rw [if_neg hp, if_neg (by rw [ht]; decide), if_neg (by rw [ht]; decide), if_neg hr, if_pos ⟨ht, p2⟩]
      rw [tt_E1 hk0 hk1 (by rw [tt_mz_i]; omega) (by rw [tt_mz_i]; omega) _ g2]
      unfold tt_mkT
      have e5 : (tt_mn c.2.2.1 m - n).toInt = min c.2.2.1.toInt m.toInt - n.toInt := by rw [tt_sub (by rw [tt_mn_i]; omega) (by rw [tt_mn_i]; omega), tt_mn_i]
      have x1 : tt_mz (tt_mn c.2.2.1 m - n) = tt_mn (tt_mz (c.2.2.1 - n)) (tt_mz (m - n)) := Int32.toInt_inj.mp (by rw [tt_mz_i, e5, tt_mn_i, tt_mz_i, tt_mz_i]; omega)
      by_cases h0 : tt_mn c.2.2.1 m = 0
      · rw [if_pos h0, tt_sd_nil hn]
        rw [h0] at x1 e5
        have : tt_mn (tt_mz (c.2.2.1 - n)) (tt_mz (m - n)) = 0 := by
          rw [← x1]
          exact Int32.toInt_inj.mp (by
            have : (tt_mn c.2.2.1 m).toInt = 0 := by rw [h0, z]
            rw [tt_mn_i] at this
            rw [tt_mz_i, e5, z]; omega)
        rw [this, tt_E9 _ g2]
      · rw [if_neg h0, ← x1]
        simp only [tt_sd, tt_ct]
        rw [if_neg (by decide), if_neg (by decide), if_neg (by decide), if_neg (by decide), if_pos ⟨trivial, p2⟩]
    · subst hs
      exact other _ hpu h hd
