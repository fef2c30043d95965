/-! reading: numbers with their signs, marks -/
theorem sc_70D {σ : sf_S} {t i : Nat} (ht : t ≤ 40) (h2 : σ 46 2 = nI t) (h5 : σ 46 5 = nI i) (hi : i ≤ t) (h6 : σ 46 6 ≠ -1) (x2 x3 x4 : Int32) : ∃ v, dX4_readNumber_70 x2 x3 x4 σ = some (v, σ) := by
  have hF := sf_F_le
  obtain ⟨m, hm⟩ : ∃ m, sf_F = m + 1 := ⟨sf_F - 1, by omega⟩
  obtain ⟨p, hp⟩ := sc_peekD ht h2 h5 hi
  have h109 : ∀ a b c d, ∃ v, dX4_readNumber_109 a b c d σ = some (v, σ) := fun a b c d => by
    unfold dX4_readNumber_109
    rw [sc_accD h6, hm]
    simp only [Option.bind_some]
    split
    · exact sc_129D ht h2 h5 hi h6 m _ _ _ _
    · exact sc_129D ht h2 h5 hi h6 m _ _ _ _
  unfold dX4_readNumber_70
  rw [hp]
  simp only [Option.bind_some]
  rw [hp]
  simp only [Option.bind_some, sc_digC]
  repeat' split
  all_goals exact h109 _ _ _ _
theorem sc_35D {σ : sf_S} {t i : Nat} (ht : t ≤ 40) (h2 : σ 46 2 = nI t) (h5 : σ 46 5 = nI i) (hi : i ≤ t) (h6 : σ 46 6 ≠ -1) (x2 x3 : Int32) : ∃ v, dX4_readNumber_35 x2 x3 σ = some (v, σ) := by
  obtain ⟨p, hp⟩ := sc_peekD ht h2 h5 hi
  have h70 := sc_70D ht h2 h5 hi h6
  unfold dX4_readNumber_35
  rw [hp]
  simp only [Option.bind_some, sc_accD h6]
  repeat' split
  all_goals exact h70 _ _ _
def sc_sm (c : Int32) : Bool := decide (c = 116 ∨ c = 100)
def sc_wh (c : Int32) : Bool := decide (c = 37 ∨ c = 107)
theorem sc_rn (c : Int32) (σ : sf_S) : dX4_readNumber c σ = dX4_readNumber_35 (sc_b (sc_sm c)) (sc_b (sc_wh c)) σ := by
  unfold dX4_readNumber dX4_readNumber_17 sc_sm sc_wh
  by_cases h1 : c = 116
  · subst h1; rfl
  by_cases h2 : c = 100
  · subst h2; rfl
  by_cases h3 : c = 37
  · subst h3; rfl
  by_cases h4 : c = 107
  · subst h4; rfl
  · simp only [h1, h2, h3, h4, if_false, not_false_eq_true, if_true, or_self, decide_false]
    rfl
theorem sc_numD {σ : sf_S} {t i : Nat} (ht : t ≤ 40) (h2 : σ 46 2 = nI t) (h5 : σ 46 5 = nI i) (hi : i ≤ t) (h6 : σ 46 6 ≠ -1) (c : Int32) : ∃ v, dX4_readNumber c σ = some (v, σ) := by
  rw [sc_rn]
  exact sc_35D ht h2 h5 hi h6 _ _
theorem sc_number {t m w k i : Nat} {B : Nat → Nat} {c : Int32} {σ τ : sf_S} (hm : m < 40) (hw : w < 160) (hk2 : 2 ≤ k) (hk5 : k ≤ 5) (hsm : sc_sm c = true ↔ k = 5) (hwh : sc_wh c = true ↔ k = 4) (hBy : sc_By σ τ t B) (hi : i ≤ t) (h5 : σ 46 5 = nI i) (h6 : σ 46 6 = -1) (g8 : τ 0 8 = nI (w + 1)) (gk : τ 6 w = nI k) (g9 : τ 0 9 = 0) (g10 : τ 0 10 = 0) (g11 : τ 0 11 = 0) (g16 : τ 0 16 = nI (m + 1)) :
    sc_nok k i w m t σ τ (sc_rng k) (dX4_readNumber c σ) (sc_fl i τ) ∨ sc_nbad t σ τ (dX4_readNumber c σ) (sc_fl i τ) := by
  have hBy' := hBy
  obtain ⟨ht, b2, b6, bB⟩ := hBy
  have hBc : ∀ j, j < t → σ 47 j = nI (B j) := fun j hj => (bB j hj).1
  have hB2 : i < t → B i < 256 := fun h => (bB i h).2.2
  rw [sc_rn]
  by_cases hk4 : 4 ≤ k
  · have hc : dX4_readNumber_35 (sc_b (sc_sm c)) (sc_b (sc_wh c)) σ = dX4_readNumber_70 (sc_b (sc_sm c)) (sc_b (sc_wh c)) (sc_b false) σ := by
      unfold dX4_readNumber_35
      rcases (by omega : k = 5 ∨ k = 4) with q | q
      · rw [hsm.mpr q]; rfl
      · rw [hwh.mpr q, show sc_sm c = false from by
          cases e : sc_sm c
          · rfl
          · have := hsm.mp e; omega]
        rfl
    rw [hc]
    exact sc_first hm hw hk2 hk5 hsm hwh (fun q => by cases q) hBy' hi (fun q => by omega) h5 h6 g8 gk g9 g10 g11 g16
  have e1 : sc_sm c = false := by
    cases e : sc_sm c
    · rfl
    · have := hsm.mp e; omega
  have e2 : sc_wh c = false := by
    cases e : sc_wh c
    · rfl
    · have := hwh.mp e; omega
  rw [e1] at hsm
  rw [e2] at hwh
  rw [e1, e2]
  have hc : dX4_readNumber_35 (sc_b false) (sc_b false) σ = if i < t ∧ B i = 45 then (dX4_accept 1 σ).bind fun u => dX4_readNumber_70 (sc_b false) (sc_b false) (sc_b true) u else dX4_readNumber_70 (sc_b false) (sc_b false) (sc_b false) σ := by
    unfold dX4_readNumber_35
    rw [if_neg (show ¬ ¬ sc_b false = 0 by simp [sc_b]), if_neg (show ¬ ¬ sc_b false = 0 by simp [sc_b]), sc_peek ht b2 hBc h5 hi]
    simp only [Option.bind_some, show (45 : Int32) = nI 45 from by decide +kernel, sc_pkE hB2 (show 45 < 256 by omega)]
    by_cases h : i < t ∧ B i = 45
    · rw [if_neg (by simpa using h), if_pos h]; rfl
    · rw [if_pos h, if_neg h]; rfl
  rw [hc]
  by_cases h : i < t ∧ B i = 45
  rotate_left
  · rw [if_neg h]
    exact sc_first hm hw hk2 hk5 hsm hwh (fun q => by cases q) hBy' hi (fun q => h ⟨q.2.2.1, q.2.2.2⟩) h5 h6 g8 gk g9 g10 g11 g16
  rw [if_pos h, sc_acc1 ht b2 h5 h6 h.1 (by decide)]
  simp only [Option.bind_some]
  have hgo := sc_fl_go ht b6 h.1 hw g8 gk (by omega)
  have htn : dX12_takesNumber (τ 5 i) (nI k) τ = some (1, sf_up τ 0 11 1) := by
    unfold dX12_takesNumber
    rw [(bB i h.1).2.1, h.2, sc_digM]
    simp only [Option.bind_some, g9, g11]
    rw [if_neg (by simp), if_neg (by decide +kernel), if_neg (by rw [sc_c4]; exact nI_ge (by omega) (by omega)), if_neg (by simp)]
  rw [if_neg (by omega), if_pos hk2, htn] at hgo
  simp only [Option.bind_some] at hgo
  rw [if_pos (by decide)] at hgo
  have hk : sc_kM m τ (sf_up τ 0 11 1) := fun a b hab => by
    by_cases ha : a = 0
    · subst ha; rw [sc_upJ (by omega)]
    · rw [sc_upK ha]
  have hrun := sc_first (neg := true) (sm := false) (wh := false) (i := i + 1) (σ := sf_up σ 46 5 (nI (i + 1))) (τ := sf_up τ 0 11 1) hm hw hk2 hk5 hsm hwh (fun _ => by omega) (hBy'.kept (fun a b hab => by rcases hab with ⟨h, h'⟩ | h; exact sc_upJ (by omega); exact sc_upK (by omega)) (fun a b hab => hk a b (by omega))) (by omega) (fun q => by cases q.1) sc_upS (by rw [sc_upJ (by omega)]; exact h6)
    (by rw [sc_upJ (by omega)]; exact g8) ((hk 6 w (by omega)).trans gk) (by rw [sc_upJ (by omega)]; exact g9) (by rw [sc_upJ (by omega)]; exact g10) sc_upS ((hk 0 16 (by omega)).trans g16)
  rcases hrun with ⟨i', v', σ', τ', f1, f2, f3, f4, f5, f6, f7, f8, f9, e1, e2, e3, e4, e5, e6, e7⟩ | ⟨f, i', v', σ', τ', f1, f2, f3, f4, f5, f6, f7, f8⟩
  · rw [sc_upK (by omega)] at e5 e6 e7
    exact Or.inl ⟨i', v', σ', τ', by omega, f2, f3, f4, sc_kC_tr (sc_kC5 _ _) f5, f6, f7, hgo.trans f8, sc_kM_tr hk f9, e1, e2, e3, e4, e5, e6, e7⟩
  · exact Or.inr ⟨f, i', v', σ', τ', f1, f2, f3, sc_kC_tr (sc_kC5 _ _) f4, f5, f6, hgo.trans f7, sc_kF_tr (sc_kM_F hk) f8⟩
/-! marks -/
/-- which mark a letter has: 6 <>=, 7 +*<, 8 a figure to 3, 9 to 9; 0 none -/
def sc_mk (c : Int32) : Nat := if c = 63 then 6 else if c = 119 then 6 else if c = 122 then 7 else if c = 115 then 8 else if c = 108 then 9 else 0
def sc_fm (k : Nat) (b : Int32) : Bool := if k = 6 then decide (b = 60 ∨ b = 62 ∨ b = 61) else if k = 7 then decide (b = 43 ∨ b = 42 ∨ b = 60) else if k = 8 then decide (48 ≤ b.toInt ∧ b.toInt ≤ 51) else decide (48 ≤ b.toInt ∧ b.toInt ≤ 57)
theorem sc_hdC (c : Int32) (σ : sf_S) : dX4_hasDigit c σ = some (sc_b (decide (c = 115 ∨ c = 108)), σ) := by
  unfold dX4_hasDigit
  by_cases h1 : c = 115
  · subst h1; rfl
  by_cases h2 : c = 108
  · subst h2; rfl
  · simp only [h1, h2, if_false, not_false_eq_true, if_true, or_self, decide_false]; rfl
theorem sc_hmC (c : Int32) (σ : sf_S) : dX4_hasMark c σ = some (sc_b (decide (sc_mk c ≠ 0)), σ) := by
  unfold dX4_hasMark
  simp only [sc_hdC, Option.bind_some]
  by_cases h1 : c = 63
  · subst h1; rfl
  by_cases h2 : c = 119
  · subst h2; rfl
  by_cases h3 : c = 122
  · subst h3; rfl
  by_cases h4 : c = 115
  · subst h4; rfl
  by_cases h5 : c = 108
  · subst h5; rfl
  · simp only [sc_mk, h1, h2, h3, h4, h5, if_false, or_self, decide_false]; rfl
theorem sc_fmC {c : Int32} (hc : sc_mk c ≠ 0) (b : Int32) (σ : sf_S) : dX4_fitsMark c b σ = some (sc_b (sc_fm (sc_mk c) b), σ) := by
  have h67 : ∀ k, k = 6 ∨ k = 7 ∨ k = 8 ∨ k = 9 → True := fun _ _ => trivial
  unfold dX4_fitsMark
  simp only [sc_digC, Option.bind_some, sc_b01, if_true]
  by_cases h1 : c = 108
  · subst h1; rfl
  by_cases h2 : c = 115
  · subst h2
    rw [if_neg (by decide), if_pos rfl, show sc_mk 115 = 8 from by decide +kernel]
    simp only [sc_fm, Int32.lt_iff_toInt_lt, show (48 : Int32).toInt = 48 from by decide, show (51 : Int32).toInt = 51 from by decide, show ¬ (8 : Nat) = 6 by decide, show ¬ (8 : Nat) = 7 by decide, if_false, if_true]
    repeat' split
    all_goals first | (rw [decide_eq_false (by omega)]; rfl) | (rw [decide_eq_true (by omega)]; rfl)
  by_cases h3 : c = 122
  · subst h3
    rw [if_neg (by decide), if_neg (by decide), if_pos rfl, show sc_mk 122 = 7 from by decide +kernel]
    simp only [sc_fm, show ¬ (7 : Nat) = 6 by decide, if_false, if_true]
    by_cases g1 : b = 43
    · simp only [g1, if_true, true_or, decide_true]; rfl
    by_cases g2 : b = 42
    · simp only [g1, g2, if_false, if_true, true_or, or_true, decide_true]
      rw [if_neg (by decide)]; rfl
    by_cases g3 : b = 60
    · simp only [g1, g2, g3, if_false, if_true, or_true, decide_true, not_true_eq_false]
      rw [if_neg (by decide), if_neg (by decide)]; rfl
    · simp only [g1, g2, g3, if_false, if_true, or_self, decide_false, not_false_eq_true]; rfl
  have h6 : sc_mk c = 6 := by
    unfold sc_mk at hc ⊢
    simp only [h1, h2, h3, if_false] at hc ⊢
    by_cases g : c = 63
    · rw [if_pos g]
    · rw [if_neg g] at hc ⊢
      by_cases g2 : c = 119
      · rw [if_pos g2]
      · rw [if_neg g2] at hc; exact absurd rfl hc
  rw [if_neg h1, if_neg h2, if_neg h3, h6]
  simp only [sc_fm, if_true]
  by_cases g1 : b = 60
  · simp only [g1, if_true, true_or, decide_true]; rfl
  by_cases g2 : b = 62
  · simp only [g1, g2, if_false, if_true, true_or, or_true, decide_true]
    rw [if_neg (by decide)]; rfl
  by_cases g3 : b = 61
  · simp only [g1, g2, g3, if_false, if_true, or_true, decide_true, not_true_eq_false]
    rw [if_neg (by decide), if_neg (by decide)]; rfl
  · simp only [g1, g2, g3, if_false, if_true, or_self, decide_false, not_false_eq_true]; rfl
