/-! THE NORMAL FORM of a pipe -/
def tt_ct (n : Int32) : tt_C := (116, -1, n, 0)
def tt_cd (n : Int32) : tt_C := (100, -1, n, 0)
def tt_mkT (n : Int32) (P : tt_T) : tt_T := if n = 0 then tt_nil else tt_nd (tt_ct n) P .leaf
def tt_mkD (n : Int32) (P : tt_T) : tt_T := if n = 0 then P else tt_nd (tt_cd n) P .leaf
def tt_mkU (c : tt_C) (P : tt_T) : tt_T := if tt_isnil P = true then tt_nil else tt_nd c P .leaf
def tt_mkR (c : tt_C) : tt_T := if c.2.2.2 ≤ c.2.2.1 then tt_nil else tt_nd c .leaf .leaf
def tt_mn (x y : Int32) : Int32 := if x < y then x else y
def tt_mz (x : Int32) : Int32 := if 0 < x then x else 0
theorem tt_z : (0 : Int32).toInt = 0 := by decide +kernel
theorem tt_mn_i (x y : Int32) : (tt_mn x y).toInt = min x.toInt y.toInt := by
  unfold tt_mn
  split
  · rename_i h; rw [Int32.lt_iff_toInt_lt] at h; omega
  · rename_i h; rw [Int32.lt_iff_toInt_lt] at h; omega
theorem tt_mz_i (x : Int32) : (tt_mz x).toInt = max 0 x.toInt := by
  have z := tt_z
  unfold tt_mz
  split
  · rename_i h; rw [Int32.lt_iff_toInt_lt, z] at h; omega
  · rename_i h; rw [Int32.lt_iff_toInt_lt, z] at h; rw [z]; omega
def tt_st (n : Int32) : tt_T → tt_T
  | .leaf => .leaf
  | .inner _ c _ P Q =>
    if tt_pmd c.1 = true then tt_mkU c (tt_st n P)
    else if c.1 = 114 then tt_mkR (c.1, c.2.1, c.2.2.1, tt_mn (c.2.2.1 + n) c.2.2.2)
    else if c.1 = 116 then tt_mkT (tt_mn c.2.2.1 n) P
    else tt_mkT n (tt_nd c P Q)
def tt_sd (n : Int32) : tt_T → tt_T
  | .leaf => .leaf
  | .inner _ c _ P Q =>
    if tt_pmd c.1 = true then tt_mkU c (tt_sd n P)
    else if c.1 = 100 then tt_mkD (n + c.2.2.1) P
    else if c.1 = 105 then tt_nd (c.1, c.2.1, c.2.2.1 + n * c.2.2.2, c.2.2.2) .leaf .leaf
    else if c.1 = 114 then tt_mkR (c.1, c.2.1, tt_mn (c.2.2.1 + n) c.2.2.2, c.2.2.2)
    else if c.1 = 116 ∧ tt_pu P = true then tt_st (tt_mz (c.2.2.1 - n)) (tt_sd n P)
    else tt_mkD n (tt_nd c P Q)
def tt_nf : tt_T → tt_T
  | .leaf => .leaf
  | .inner _ c _ P Q =>
    if c.1 = 114 then tt_mkR c
    else if c.1 = 116 then tt_st c.2.2.1 (tt_nf P)
    else if c.1 = 100 then tt_sd c.2.2.1 (tt_nf P)
    else if c.1 = 99 then (if tt_isnil (tt_nf P) = true then tt_nf Q else if tt_isnil (tt_nf Q) = true then tt_nf P else tt_nd c (tt_nf P) (tt_nf Q))
    else if c.1 = 105 ∨ c.1 = 115 ∨ c.1 = 117 ∨ c.1 = 118 then tt_nd c .leaf .leaf
    else if c.1 = 120 then (if tt_isnil (tt_nf Q) = true then tt_nil else tt_nd c (tt_nf P) (tt_nf Q))
    else (if tt_isnil (tt_nf P) = true then tt_nil else tt_nd c (tt_nf P) (tt_nf Q))
/-- no rule can be used -/
def tt_nm : tt_T → Prop
  | .leaf => True
  | .inner s c u P Q => tt_ap (.inner s c u P Q) = none ∧ tt_nm P ∧ tt_nm Q
def tt_gd1 (T : tt_T) : Prop := tt_wf T ∧ tt_nm T ∧ tt_nw T
theorem tt_nil_gd : tt_gd1 tt_nil := by
  refine ⟨⟨rfl, ⟨fun _ => rfl, fun h => ?_⟩, by decide +kernel, fun _ => ⟨rfl, rfl⟩, fun h => ?_, fun h => ?_⟩, ⟨by decide +kernel, trivial, trivial⟩, ⟨⟨fun h => ?_, fun h => ?_, fun _ => ?_⟩, trivial, trivial⟩⟩
  · exact absurd h (by decide +kernel)
  · exact absurd h (by decide +kernel)
  · exact absurd h (by decide +kernel)
  · exact absurd h (by decide +kernel)
  · exact absurd h (by decide +kernel)
  · decide +kernel
theorem tt_isnil_eq {T : tt_T} (hw : tt_wf T) (h : tt_isnil T = true) : T = tt_nil := by
  cases T with
  | leaf => cases h
  | inner s c u P Q =>
    obtain ⟨hs, hm, hil, w0, w1, w2⟩ := hw
    obtain ⟨L, M, A, B⟩ := c
    simp only [tt_isnil, decide_eq_true_eq] at h
    obtain ⟨h1, h2, h3⟩ := h
    subst h1; subst h2; subst h3; subst hs
    have hM := hm.1 rfl
    obtain ⟨e1, e2⟩ := w0 (by decide +kernel : sc_p 114 = 0)
    have hM : M = -1 := hM
    subst hM; subst e1; subst e2
    rfl
theorem tt_pmd_il {L : Int32} (h : tt_pmd L = true) : sc_p L = 1 ∧ sc_il L = true ∧ ¬ L = 114 ∧ ¬ L = 116 ∧ ¬ L = 100 ∧ ¬ L = 99 ∧ ¬ L = 105 ∧ ¬ L = 115 ∧ ¬ L = 117 ∧ ¬ L = 118 ∧ ¬ L = 120 := by
  simp only [tt_pmd, decide_eq_true_eq] at h
  rcases h with h | h | h <;> rw [h] <;> decide +kernel
theorem tt_ap_pm {s : Nat} {c : tt_C} {u : Unit} {P Q : tt_T} (h : tt_pmd c.1 = true) : tt_ap (.inner s c u P Q) = if tt_isnil P = true then some (11, tt_nil) else none := by
  obtain ⟨-, -, h1, h2, h3, h4, h5, h6, h7, h8, h9⟩ := tt_pmd_il h
  simp only [tt_ap]
  rw [if_neg h1, if_neg h2, if_neg h3, if_neg h4, if_neg (by simp [h5, h6, h7, h8]), if_neg h9]
theorem tt_mkU_gd {c : tt_C} {P : tt_T} (hp : tt_pmd c.1 = true) (hv : tt_vm c) (hn : tt_nwc c) (h : tt_gd1 P) : tt_gd1 (tt_mkU c P) := by
  unfold tt_mkU
  split
  · exact tt_nil_gd
  · rename_i hi
    obtain ⟨h1, h2, -⟩ := tt_pmd_il hp
    exact ⟨⟨rfl, hv, h2, fun q => by omega, fun _ => ⟨h.1, rfl⟩, fun q => by omega⟩, ⟨by rw [tt_ap_pm hp, if_neg hi], h.2.1, trivial⟩, hn, h.2.2, trivial⟩
theorem tt_mkR_gd {c : tt_C} (hr : c.1 = 114) (hv : tt_vm c) (hn : tt_nwc c) : tt_gd1 (tt_mkR c) := by
  unfold tt_mkR
  split
  · exact tt_nil_gd
  · rename_i hi
    refine ⟨⟨rfl, hv, by rw [hr]; decide +kernel, fun _ => ⟨rfl, rfl⟩, fun q => absurd q (by rw [hr]; decide +kernel), fun q => absurd q (by rw [hr]; decide +kernel)⟩, ⟨?_, trivial, trivial⟩, hn, trivial, trivial⟩
    simp only [tt_ap]
    rw [if_pos hr, if_neg (fun q => hi q.1)]
/-- where no rule is at a t, d, whatever its number but 0 -/
theorem tt_apt_none {c : tt_C} {P : tt_T} (hP : tt_wf P) : tt_apt c P = none ↔ (¬ c.2.2.1 = 0 ∧ ∃ s e u X Y, P = .inner s e u X Y ∧ ¬ tt_pmd e.1 = true ∧ ¬ e.1 = 114 ∧ ¬ e.1 = 116) := by
  cases P with
  | leaf => exact absurd hP id
  | inner s e u X Y =>
    simp only [tt_apt]
    constructor
    · intro h
      split at h
      · cases h
      split at h
      · cases h
      split at h
      · cases h
      split at h
      · cases h
      rename_i a b d f
      exact ⟨f, s, e, u, X, Y, rfl, a, b, d⟩
    · rintro ⟨h0, s2, e2, u2, X2, Y2, he, a, b, d⟩
      cases he
      rw [if_neg a, if_neg b, if_neg d, if_neg h0]
theorem tt_apd_none {c : tt_C} {P : tt_T} (hP : tt_wf P) : tt_apd c P = none ↔ (¬ c.2.2.1 = 0 ∧ ∃ s e u X Y, P = .inner s e u X Y ∧ ¬ tt_pmd e.1 = true ∧ ¬ e.1 = 100 ∧ ¬ e.1 = 105 ∧ ¬ e.1 = 114 ∧ ¬ (e.1 = 116 ∧ tt_pu X = true)) := by
  cases P with
  | leaf => exact absurd hP id
  | inner s e u X Y =>
    simp only [tt_apd]
    constructor
    · intro h
      split at h
      · cases h
      split at h
      · cases h
      split at h
      · cases h
      split at h
      · cases h
      split at h
      · cases h
      split at h
      · cases h
      rename_i a b d f g k
      exact ⟨k, s, e, u, X, Y, rfl, a, b, d, f, g⟩
    · rintro ⟨h0, s2, e2, u2, X2, Y2, he, a, b, d, f, g⟩
      cases he
      rw [if_neg a, if_neg b, if_neg d, if_neg f, if_neg g, if_neg h0]
theorem tt_ap_t {s : Nat} {c : tt_C} {u : Unit} {P Q : tt_T} (h : c.1 = 116) : tt_ap (.inner s c u P Q) = tt_apt c P := by
  simp only [tt_ap]; rw [h]; rfl
theorem tt_ap_d {s : Nat} {c : tt_C} {u : Unit} {P Q : tt_T} (h : c.1 = 100) : tt_ap (.inner s c u P Q) = tt_apd c P := by
  simp only [tt_ap]; rw [h]; rfl
theorem tt_mkT_gd {n : Int32} {P : tt_T} (h0 : 0 ≤ n.toInt) (h1 : n.toInt ≤ 100000) (h : tt_gd1 P) (hap : ¬ n = 0 → tt_apt (tt_ct n) P = none) : tt_gd1 (tt_mkT n P) := by
  unfold tt_mkT
  split
  · exact tt_nil_gd
  · rename_i hi
    refine ⟨⟨rfl, ⟨fun q => absurd q (by decide : ¬ (116 : Int32) = 114), fun _ => ⟨rfl, rfl⟩⟩, (by decide +kernel : sc_il 116 = true), fun q => absurd q (by decide +kernel : ¬ sc_p 116 = 0), fun _ => ⟨h.1, rfl⟩, fun q => absurd q (by decide +kernel : ¬ sc_p 116 = 2)⟩, ⟨?_, h.2.1, trivial⟩, ⟨fun _ => ⟨h0, h1⟩, fun q => absurd q (by decide : ¬ (116 : Int32) = 100), fun q => absurd q (by decide : ¬ (116 : Int32) = 114)⟩, h.2.2, trivial⟩
    rw [tt_ap_t rfl]; exact hap hi
theorem tt_mkD_gd {n : Int32} {P : tt_T} (h0 : 0 ≤ n.toInt) (h : tt_gd1 P) (hap : ¬ n = 0 → tt_apd (tt_cd n) P = none) : tt_gd1 (tt_mkD n P) := by
  unfold tt_mkD
  split
  · exact h
  · rename_i hi
    refine ⟨⟨rfl, ⟨fun q => absurd q (by decide : ¬ (100 : Int32) = 114), fun _ => ⟨rfl, rfl⟩⟩, (by decide +kernel : sc_il 100 = true), fun q => absurd q (by decide +kernel : ¬ sc_p 100 = 0), fun _ => ⟨h.1, rfl⟩, fun q => absurd q (by decide +kernel : ¬ sc_p 100 = 2)⟩, ⟨?_, h.2.1, trivial⟩, ⟨fun q => absurd q (by decide : ¬ (100 : Int32) = 116), fun _ => h0, fun q => absurd q (by decide : ¬ (100 : Int32) = 114)⟩, h.2.2, trivial⟩
    rw [tt_ap_d rfl]; exact hap hi
theorem tt_nd_eq {s : Nat} {c : tt_C} {u : Unit} {P Q : tt_T} (h : s = 0) : (.inner s c u P Q : tt_T) = tt_nd c P Q := by subst h; rfl
theorem tt_st_gd {n : Int32} (h0 : 0 ≤ n.toInt) (h1 : n.toInt ≤ 100000) : ∀ T : tt_T, tt_gd1 T → tt_gd1 (tt_st n T)
  | .leaf, h => absurd h.1 id
  | .inner s c u P Q, h => by
    obtain ⟨⟨hs, hm, hil, w0, w1, w2⟩, ⟨hap, nP, nQ⟩, ⟨hc, kP, kQ⟩⟩ := id h
    simp only [tt_st]
    split
    · rename_i hp
      obtain ⟨q1, q2⟩ := w1 (tt_pmd_il hp).1
      exact tt_mkU_gd hp hm hc (tt_st_gd h0 h1 P ⟨q1, nP, kP⟩)
    split
    · rename_i hr
      obtain ⟨a1, a2, a3, a4⟩ := hc.2.2 hr
      refine tt_mkR_gd hr ⟨fun _ => hm.1 hr, fun q => ?_⟩ ⟨fun q => ?_, fun q => ?_, fun _ => ⟨a1, a2, ?_, ?_⟩⟩
      · rw [hr] at q; exact absurd q (by decide)
      · rw [hr] at q; exact absurd q (by decide)
      · rw [hr] at q; exact absurd q (by decide)
      · rw [tt_mn_i, tt_add (by omega) (by omega)]; omega
      · rw [tt_mn_i]; omega
    split
    · rename_i ht
      obtain ⟨q1, q2⟩ := w1 (by rw [ht]; decide +kernel)
      obtain ⟨b1, b2⟩ := hc.1 ht
      rw [tt_ap_t ht] at hap
      obtain ⟨z, s2, e2, u2, X2, Y2, r1, r2⟩ := (tt_apt_none q1).mp hap
      exact tt_mkT_gd (by rw [tt_mn_i]; omega) (by rw [tt_mn_i]; omega) ⟨q1, nP, kP⟩ (fun k => (tt_apt_none q1).mpr ⟨k, s2, e2, u2, X2, Y2, r1, r2⟩)
    · rename_i a b d
      rw [tt_nd_eq hs] at h
      exact tt_mkT_gd h0 h1 h (fun k => (tt_apt_none h.1).mpr ⟨k, 0, c, (), P, Q, rfl, a, b, d⟩)
theorem tt_mkU_pu {c : tt_C} {P : tt_T} (hc : sc_im c.1 = false) (h : tt_pu P = true) : tt_pu (tt_mkU c P) = true := by
  unfold tt_mkU
  split
  · decide +kernel
  · simp [tt_pu, hc, h]
theorem tt_mkR_pu {c : tt_C} (hc : sc_im c.1 = false) : tt_pu (tt_mkR c) = true := by
  unfold tt_mkR
  split
  · decide +kernel
  · simp [tt_pu, hc]
theorem tt_mkT_pu {n : Int32} {P : tt_T} (h : tt_pu P = true) : tt_pu (tt_mkT n P) = true := by
  unfold tt_mkT
  split
  · decide +kernel
  · simp [tt_pu, tt_ct, h, (by decide +kernel : sc_im 116 = false)]
theorem tt_mkD_pu {n : Int32} {P : tt_T} (h : tt_pu P = true) : tt_pu (tt_mkD n P) = true := by
  unfold tt_mkD
  split
  · exact h
  · simp [tt_pu, tt_cd, h, (by decide +kernel : sc_im 100 = false)]
theorem tt_st_pu {n : Int32} : ∀ T : tt_T, tt_pu T = true → tt_pu (tt_st n T) = true
  | .leaf, _ => rfl
  | .inner s c u P Q, h => by
    simp only [tt_pu, Bool.and_eq_true, Bool.not_eq_true'] at h
    obtain ⟨⟨h1, h2⟩, h3⟩ := h
    simp only [tt_st]
    split
    · exact tt_mkU_pu h1 (tt_st_pu P h2)
    split
    · exact tt_mkR_pu h1
    split
    · exact tt_mkT_pu h2
    · exact tt_mkT_pu (by simp [tt_pu, h1, h2, h3])
theorem tt_sd_pu {n : Int32} : ∀ T : tt_T, tt_pu T = true → tt_pu (tt_sd n T) = true
  | .leaf, _ => rfl
  | .inner s c u P Q, h => by
    simp only [tt_pu, Bool.and_eq_true, Bool.not_eq_true'] at h
    obtain ⟨⟨h1, h2⟩, h3⟩ := h
    simp only [tt_sd]
    split
    · exact tt_mkU_pu h1 (tt_sd_pu P h2)
    split
    · exact tt_mkD_pu h2
    split
    · simp [tt_pu, h1]
    split
    · exact tt_mkR_pu h1
    split
    · exact tt_st_pu _ (tt_sd_pu P h2)
    · exact tt_mkD_pu (by simp [tt_pu, h1, h2, h3])
/-- the numbers of d -/
theorem tt_st_dw {n : Int32} : ∀ T : tt_T, tt_dw (tt_st n T) ≤ tt_dw T
  | .leaf => Nat.le_refl _
  | .inner s c u P Q => by
    have ih := tt_st_dw (n := n) P
    simp only [tt_st, tt_mkU, tt_mkR, tt_mkT, tt_mn, tt_nil]
    repeat' split
    all_goals simp_all [tt_dw, tt_ct]
    all_goals omega
