/-! reading: a mark, both sides -/
def sc_mv (k : Nat) (v : Int32) : Prop := if k = 6 then v = 60 ∨ v = 62 ∨ v = 61 else if k = 7 then v = 43 ∨ v = 42 ∨ v = 60 else if k = 8 then ∃ d, d < 4 ∧ v = nI d else ∃ d, d < 10 ∧ v = nI d
theorem sc_s87 {τ : sf_S} {m w k : Nat} {b : Int32} (hm : m < 40) (hk : k < 10) (g8 : τ 0 8 = nI (w + 1)) (g16 : τ 0 16 = nI (m + 1)) (y : Bool) : dX12_takesSign_87 b (nI k) (sc_b y) τ = if y = true then some (1, sf_up (sf_up τ 8 m (if k < 8 then b else b - 48)) 0 8 (nI w)) else some (0, τ) := by
  unfold dX12_takesSign_87
  cases y
  · rw [if_pos (show sc_b false = 0 from rfl), if_pos (show sf_01 (sc_b false) = true from rfl), if_neg Bool.false_ne_true]; rfl
  · rw [if_neg (show ¬ sc_b true = 0 by decide), if_pos rfl, g16]
    simp only [nI_pred, sc_inI hm (by omega : 40 ≤ 10000), if_true, sc_cl (show m < 2 ^ 31 by omega)]
    rw [sc_upK (by omega), sc_upK (by omega), g8, nI_pred, if_pos (show sf_01 (sc_b true) = true from rfl), if_pos (show sf_01 (sc_b true) = true from rfl), show (8 : Int32) = nI 8 from by decide +kernel]
    by_cases h : k < 8
    · rw [if_neg (nI_ge h (by omega)), if_pos h]; rfl
    · rw [if_pos (nI_le (by omega) (by omega)), if_neg h]; rfl
theorem sc_tS {τ : sf_S} {m w k : Nat} {b : Int32} (hm : m < 40) (hk6 : 6 ≤ k) (hk : k < 10) (g8 : τ 0 8 = nI (w + 1)) (g16 : τ 0 16 = nI (m + 1)) : dX12_takesSign b (nI k) τ = if sc_fm k b = true then some (1, sf_up (sf_up τ 8 m (if k < 8 then b else b - 48)) 0 8 (nI w)) else some (0, τ) := by
  have h87 := fun y => sc_s87 (b := b) hm hk g8 g16 y
  have ek : ∀ c : Nat, c < 10 → ((nI k : Int32) = nI c ↔ k = c) := fun c hc => nI_eq (by omega) (by omega)
  unfold dX12_takesSign
  rw [sc_digM, sc_in12, Int32.toInt_toInt64, show (48 : Int64).toInt = 48 from by decide, show (51 : Int64).toInt = 51 from by decide, show (6 : Int32) = nI 6 from by decide +kernel, show (7 : Int32) = nI 7 from by decide +kernel, show (8 : Int32) = nI 8 from by decide +kernel]
  simp only [Option.bind_some, ek 6 (by omega), ek 7 (by omega), ek 8 (by omega), h87]
  have e1 := h87 true
  have e0 := h87 false
  rw [show sc_b true = 1 from rfl] at e1
  rw [show sc_b false = 0 from rfl] at e0
  rw [e1, e0]
  rcases (by omega : k = 6 ∨ k = 7 ∨ k = 8 ∨ k = 9) with q | q | q | q
  · simp only [q, sc_fm, not_true_eq_false, if_false, if_true, decide_eq_true_eq, Bool.false_eq_true]
    by_cases g1 : b = 60
    · rw [if_pos g1, if_pos (Or.inl g1)]
    by_cases g2 : b = 62
    · rw [if_neg g1, if_pos g2, if_pos (Or.inr (Or.inl g2))]
    by_cases g3 : b = 61
    · rw [if_neg g1, if_neg g2, if_neg (by simp [g3]), if_pos (Or.inr (Or.inr g3))]
    · rw [if_neg g1, if_neg g2, if_pos g3, if_neg (by simp [g1, g2, g3])]
  · simp only [q, sc_fm, not_true_eq_false, if_false, if_true, decide_eq_true_eq, Bool.false_eq_true, show ¬ (7 : Nat) = 6 by decide, not_false_eq_true]
    by_cases g1 : b = 43
    · rw [if_pos g1, if_pos (Or.inl g1)]
    by_cases g2 : b = 42
    · rw [if_neg g1, if_pos g2, if_pos (Or.inr (Or.inl g2))]
    by_cases g3 : b = 60
    · rw [if_neg g1, if_neg g2, if_neg (by simp [g3]), if_pos (Or.inr (Or.inr g3))]
    · rw [if_neg g1, if_neg g2, if_pos g3, if_neg (by simp [g1, g2, g3])]
  · simp only [q, sc_fm, not_true_eq_false, if_false, if_true, show ¬ (8 : Nat) = 6 by decide, show ¬ (8 : Nat) = 7 by decide, not_false_eq_true]
  · simp only [q, sc_fm, if_false, if_true, show ¬ (9 : Nat) = 6 by decide, show ¬ (9 : Nat) = 7 by decide, show ¬ (9 : Nat) = 8 by decide, not_false_eq_true]
theorem sc_mk_v {c : Int32} (h : sc_mk c ≠ 0) : 6 ≤ sc_mk c ∧ sc_mk c < 10 ∧ (decide (c = 115 ∨ c = 108) = decide (8 ≤ sc_mk c)) := by
  unfold sc_mk at h ⊢
  by_cases h1 : c = 63
  · subst h1; decide +kernel
  by_cases h2 : c = 119
  · subst h2; decide +kernel
  by_cases h3 : c = 122
  · subst h3; decide +kernel
  by_cases h4 : c = 115
  · subst h4; decide +kernel
  by_cases h5 : c = 108
  · subst h5; decide +kernel
  · simp only [h1, h2, h3, h4, h5, if_false] at h
    exact absurd rfl h
theorem sc_fm_neg {k : Nat} (h : 6 ≤ k ∧ k < 10) : sc_fm k (-1) = false := by
  rcases (by omega : k = 6 ∨ k = 7 ∨ k = 8 ∨ k = 9) with q | q | q | q <;> subst q <;> decide +kernel
theorem sc_fm_v {k b : Nat} (hk : 6 ≤ k ∧ k < 10) (hb : b < 256) (h : sc_fm k (nI b) = true) : sc_mv k (if k < 8 then nI b else nI b - 48) := by
  unfold sc_fm at h
  unfold sc_mv
  rcases (by omega : k = 6 ∨ k = 7 ∨ k = 8 ∨ k = 9) with q | q | q | q <;> subst q
  · simp only [if_true, decide_eq_true_eq] at h
    simpa using h
  · simp only [show ¬ (7 : Nat) = 6 by decide, if_false, if_true, decide_eq_true_eq] at h
    simpa using h
  · simp only [show ¬ (8 : Nat) = 6 by decide, show ¬ (8 : Nat) = 7 by decide, if_false, if_true, decide_eq_true_eq] at h
    rw [nI_toInt (by omega)] at h
    simp only [show ¬ (8 : Nat) = 6 by decide, show ¬ (8 : Nat) = 7 by decide, show ¬ (8 : Nat) < 8 by decide, if_false, if_true]
    exact ⟨b - 48, by omega, by rw [sc_c48, pk_sub (by omega)]⟩
  · simp only [show ¬ (9 : Nat) = 6 by decide, show ¬ (9 : Nat) = 7 by decide, show ¬ (9 : Nat) = 8 by decide, if_false, decide_eq_true_eq] at h
    rw [nI_toInt (by omega)] at h
    simp only [show ¬ (9 : Nat) = 6 by decide, show ¬ (9 : Nat) = 7 by decide, show ¬ (9 : Nat) = 8 by decide, show ¬ (9 : Nat) < 8 by decide, if_false]
    exact ⟨b - 48, by omega, by rw [sc_c48, pk_sub (by omega)]⟩
theorem sc_mark {t m w i : Nat} {B : Nat → Nat} {c : Int32} {σ τ : sf_S} (hm : m < 40) (hw : w < 160) (hmk : sc_mk c ≠ 0) (hBy : sc_By σ τ t B) (hi : i ≤ t) (h5 : σ 46 5 = nI i) (h6 : σ 46 6 = -1) (g8 : τ 0 8 = nI (w + 1)) (gk : τ 6 w = nI (sc_mk c)) (g9 : τ 0 9 = 0) (g10 : τ 0 10 = 0) (g11 : τ 0 11 = 0) (g16 : τ 0 16 = nI (m + 1)) :
    sc_nok (sc_mk c) i w m t σ τ (sc_mv (sc_mk c)) (dX4_readMark c σ) (sc_fl i τ) ∨ sc_nbad t σ τ (dX4_readMark c σ) (sc_fl i τ) := by
  obtain ⟨ht, b2, b6, bB⟩ := hBy
  have hBc : ∀ j, j < t → σ 47 j = nI (B j) := fun j hj => (bB j hj).1
  have hB2 : i < t → B i < 256 := fun h => (bB i h).2.2
  obtain ⟨k6, k10, kd⟩ := sc_mk_v hmk
  have hc : dX4_readMark c σ = (dX4_accept (sc_b (sc_fm (sc_mk c) (sc_pk t B i))) σ).bind fun u => some (if sc_mk c < 8 then sc_pk t B i else sc_pk t B i - 48, u) := by
    unfold dX4_readMark
    rw [sc_peek ht b2 hBc h5 hi]
    simp only [Option.bind_some, sc_fmC hmk]
    congr 1
    funext u
    simp only [sc_hdC, Option.bind_some, sc_b0, kd, decide_eq_false_iff_not]
    by_cases h : sc_mk c < 8
    · rw [if_pos (by omega), if_pos h]
    · rw [if_neg (by omega), if_neg h]
  have hbad : sc_fm (sc_mk c) (sc_pk t B i) = false → sc_fl i τ = some (nI i, τ) → sc_nbad t σ τ (dX4_readMark c σ) (sc_fl i τ) := fun q1 q2 => by
    rw [q1, show sc_b false = 0 from rfl, sc_acc0 h5 h6] at hc
    exact ⟨i, i, _, _, τ, hi, hi, hc, sc_kC6 _ _, sc_upS, by rw [sc_upJ (by omega)]; exact h5, q2, fun _ _ _ => rfl⟩
  by_cases hit : i < t
  rotate_left
  · have hgo := sc_fl_end ht b6 (by omega : i ≤ 40) (by omega)
    rw [g8, if_pos (nI_ne0 (by omega) (by omega)), show t = i by omega] at hgo
    exact Or.inr (hbad (by rw [sc_pk, if_neg hit]; exact sc_fm_neg ⟨k6, k10⟩) hgo)
  have hgo := sc_fl_go ht b6 hit hw g8 gk (by omega)
  rw [if_pos k6, (bB i hit).2.1, sc_tS hm k6 k10 g8 g16] at hgo
  have hpk : sc_pk t B i = nI (B i) := if_pos hit
  by_cases hok : sc_fm (sc_mk c) (nI (B i)) = true
  rotate_left
  · rw [if_neg hok] at hgo
    exact Or.inr (hbad (by rw [hpk]; simpa using hok) (by simpa using hgo))
  rw [if_pos hok] at hgo
  simp only [Option.bind_some] at hgo
  rw [if_pos (by decide)] at hgo
  rw [hpk, hok, sc_acc1 ht b2 h5 h6 hit (by decide)] at hc
  have ek : (if sc_mk c < 6 then 2 else 1) = 1 := if_neg (by omega)
  refine Or.inl ⟨i + 1, _, _, _, by omega, by omega, ?_, hc, sc_kC5 _ _, sc_upS, by rw [sc_upJ (by omega)]; exact h6, hgo, fun a b hab => ?_, sc_upS, ?_, ?_, ?_, ?_, ?_, ?_⟩
  · exact sc_fm_v ⟨k6, k10⟩ (hB2 hit) hok
  · by_cases ha : a = 0
    · subst ha; rw [sc_upJ (by omega), sc_upK (by omega)]
    · rw [sc_upK ha]
      by_cases ha8 : a = 8
      · subst ha8; rw [sc_upJ (by omega)]
      · rw [sc_upK ha8]
  · simp (disch := omega) only [sc_upJ, sc_upK]; exact g9
  · simp (disch := omega) only [sc_upJ, sc_upK]; exact g10
  · simp (disch := omega) only [sc_upJ, sc_upK]; exact g11
  · rw [sc_upK (by omega), sc_upS, if_neg (by omega : ¬ sc_mk c < 6)]
  · rw [sc_upK (by omega), sc_upK (by omega), if_pos (Or.inr k6)]
  · rw [sc_upK (by omega), sc_upK (by omega), if_neg (by omega)]
theorem sc_markD {σ : sf_S} {t i : Nat} (ht : t ≤ 40) (h2 : σ 46 2 = nI t) (h5 : σ 46 5 = nI i) (hi : i ≤ t) (h6 : σ 46 6 ≠ -1) {c : Int32} (hmk : sc_mk c ≠ 0) : ∃ v, dX4_readMark c σ = some (v, σ) := by
  obtain ⟨p, hp⟩ := sc_peekD ht h2 h5 hi
  unfold dX4_readMark
  rw [hp]
  simp only [Option.bind_some, sc_fmC hmk, sc_accD h6, sc_hdC]
  split
  · exact ⟨_, rfl⟩
  · exact ⟨_, rfl⟩
