/-! reading: a whole number -/
theorem sc_109D {σ : sf_S} {t i : Nat} (ht : t ≤ 40) (h2 : σ 46 2 = nI t) (h5 : σ 46 5 = nI i) (hi : i ≤ t) (h6 : σ 46 6 = -1) (sm : Bool) (x4 x5 : Int32) : ∃ v, dX4_readNumber_109 (sc_b sm) x4 x5 0 σ = some (v, sf_up σ 46 6 (nI i)) := by
  have hF := sf_F_le
  unfold dX4_readNumber_109
  rw [sc_acc0 h5 h6]
  simp only [Option.bind_some]
  obtain ⟨m, hm⟩ : ∃ m, sf_F = m + 1 := ⟨sf_F - 1, by omega⟩
  rw [hm]
  have h := fun x6 => sc_129D (σ := sf_up σ 46 6 (nI i)) ht (by rw [sc_upJ (by omega)]; exact h2) (by rw [sc_upJ (by omega)]; exact h5) hi (by rw [sc_upS]; exact sc_nm1 (by omega)) m x4 x5 x6 0
  split
  · exact h _
  · exact h _
def sc_rng (k : Nat) (v : Int32) : Prop := (k = 5 → 0 ≤ v.toInt ∧ v.toInt < 10000) ∧ (k = 4 → 1 ≤ v.toInt)
theorem sc_first {t m w k i : Nat} {B : Nat → Nat} {neg sm wh : Bool} {σ τ : sf_S} (hm : m < 40) (hw : w < 160) (hk2 : 2 ≤ k) (hk5 : k ≤ 5) (hsm : sm = true ↔ k = 5) (hwh : wh = true ↔ k = 4) (hneg : neg = true → k < 4) (hBy : sc_By σ τ t B) (hi : i ≤ t) (hno : ¬ (neg = false ∧ k < 4 ∧ i < t ∧ B i = 45)) (h5 : σ 46 5 = nI i) (h6 : σ 46 6 = -1) (g8 : τ 0 8 = nI (w + 1)) (gk : τ 6 w = nI k) (g9 : τ 0 9 = 0) (g10 : τ 0 10 = 0) (g11 : τ 0 11 = sc_b neg) (g16 : τ 0 16 = nI (m + 1)) :
    sc_nok k i w m t σ τ (sc_rng k) (dX4_readNumber_70 (sc_b sm) (sc_b wh) (sc_b neg) σ) (sc_fl i τ) ∨ sc_nbad t σ τ (dX4_readNumber_70 (sc_b sm) (sc_b wh) (sc_b neg) σ) (sc_fl i τ) := by
  have hBy' := hBy
  obtain ⟨ht, b2, b6, bB⟩ := hBy
  have hBc : ∀ j, j < t → σ 47 j = nI (B j) := fun j hj => (bB j hj).1
  have hBm : ∀ j, j < t → τ 5 j = nI (B j) := fun j hj => (bB j hj).2.1
  have hB2 : i < t → B i < 256 := fun h => (bB i h).2.2
  have hF := sf_F_le
  have hbad : ∀ {rc : Option (Int32 × sf_S)} {z : Int32}, rc = some (z, sf_up σ 46 6 (nI i)) → sc_fl i τ = some (nI i, τ) → sc_nbad t σ τ rc (sc_fl i τ) := fun q1 q2 =>
    ⟨i, i, _, _, τ, hi, hi, q1, sc_kC6 _ _, sc_upS, by rw [sc_upJ (by omega)]; exact h5, q2, fun _ _ _ => rfl⟩
  have hc : dX4_readNumber_70 (sc_b sm) (sc_b wh) (sc_b neg) σ = (if 48 ≤ (sc_pk t B i).toInt ∧ (sc_pk t B i).toInt ≤ 57 then (if 0 < sc_pk t B i - 48 ∨ (neg = false ∧ wh = false) then dX4_readNumber_109 (sc_b sm) (sc_b neg) (sc_pk t B i - 48) 1 σ else dX4_readNumber_109 (sc_b sm) (sc_b neg) (sc_pk t B i - 48) 0 σ) else dX4_readNumber_109 (sc_b sm) (sc_b neg) (sc_pk t B i - 48) 0 σ) := by
    unfold dX4_readNumber_70
    rw [sc_peek ht b2 hBc h5 hi]
    simp only [Option.bind_some]
    rw [sc_peek ht b2 hBc h5 hi]
    simp only [Option.bind_some, sc_digC, sc_b0, decide_eq_false_iff_not]
    by_cases h : 48 ≤ (sc_pk t B i).toInt ∧ (sc_pk t B i).toInt ≤ 57
    · rw [if_neg (by simpa using h), if_pos h]
      by_cases h2 : 0 < sc_pk t B i - 48
      · rw [if_pos h2, if_pos (Or.inl h2)]
      · rw [if_neg h2]
        cases neg <;> cases wh <;> simp [h2]
    · rw [if_pos h, if_neg h]
  rw [sc_pkI hB2] at hc
  by_cases hit : i < t
  rotate_left
  · have hgo := sc_fl_end ht b6 (by omega : i ≤ 40) (by omega)
    rw [g8, if_pos (nI_ne0 (by omega) (by omega)), show t = i by omega] at hgo
    rw [if_neg (by rw [if_neg hit]; omega)] at hc
    obtain ⟨z, hz⟩ := sc_109D ht b2 h5 hi h6 sm (sc_b neg) (sc_pk t B i - 48)
    exact Or.inr (hbad (hc.trans hz) hgo)
  have hgo := sc_fl_go ht b6 hit hw g8 gk (by omega)
  rw [if_neg (by omega), if_pos hk2, hBm i hit] at hgo
  have hb := hB2 hit
  have e45 : ((nI (B i) : Int32) = 45 ↔ B i = 45) := by rw [show (45 : Int32) = nI 45 from by decide +kernel, nI_eq (by omega) (by omega)]
  have e48 : ((nI (B i) : Int32) = 48 ↔ B i = 48) := by rw [sc_c48, nI_eq (by omega) (by omega)]
  have e4k : ((nI k : Int32) = 4 ↔ k = 4) := by rw [sc_c4, nI_eq (by omega) (by omega)]
  have l4k : ((4 : Int32) ≤ nI k ↔ 4 ≤ k) := by rw [sc_c4, nI_leI (by omega) (by omega)]
  have eneg : (sc_b neg = 0 ↔ neg = false) := sc_b0
  -- the reference's byte
  have htn : dX12_takesNumber (nI (B i)) (nI k) τ = if (48 ≤ B i ∧ B i ≤ 57) ∧ (B i ≠ 48 ∨ (neg = false ∧ k ≠ 4)) then some (1, sf_up (sf_up τ 0 10 (nI (B i - 48))) 0 9 (nI 1)) else some (0, τ) := by
    have h44 : dX12_takesNumber_44 (nI (B i)) (nI k) (sc_b (decide (48 ≤ (nI (B i)).toInt ∧ (nI (B i)).toInt ≤ 57))) τ = if (48 ≤ B i ∧ B i ≤ 57) ∧ (B i ≠ 48 ∨ (neg = false ∧ k ≠ 4)) then some (1, sf_up (sf_up τ 0 10 (nI (B i - 48))) 0 9 (nI 1)) else some (0, τ) := by
      unfold dX12_takesNumber_44 dX12_takesNumber_217
      simp only [sc_b0, decide_eq_false_iff_not, e48, g11, e4k, g10, nI_toInt (show B i < 2 ^ 31 by omega)]
      by_cases hd : 48 ≤ B i ∧ B i ≤ 57
      · rw [if_neg (by omega)]
        have ev : 10 * (0 : Int32) + nI (B i) - 48 = nI (B i - 48) := by
          rw [sc_0, sc_v5 hd.1, Nat.mul_zero, Nat.zero_add]
        rw [ev, sc_upJ (by omega), g9, show (0 : Int32) + 1 = nI 1 from by decide +kernel]
        by_cases h48 : B i = 48
        · rw [if_neg (by simp [h48])]
          cases neg
          · by_cases h4 : k = 4
            · simp [h4, h48]
            · simp [h4, h48]
          · simp [h48]
        · rw [if_pos h48, if_pos ⟨hd, Or.inl h48⟩]
      · rw [if_pos (by omega), if_neg (fun q => hd q.1)]
    unfold dX12_takesNumber
    rw [sc_digM]
    simp only [Option.bind_some, g9, e45, l4k, g11, eneg]
    rw [if_neg (by simp)]
    by_cases h45 : B i = 45
    · rw [if_neg (by simp [h45])]
      by_cases hk4 : 4 ≤ k
      · rw [if_pos hk4]; exact h44
      · rw [if_neg hk4]
        cases neg
        · exact absurd ⟨rfl, by omega, hit, h45⟩ hno
        · rw [if_pos (by simp)]; exact h44
    · rw [if_pos h45]; exact h44
  rw [htn] at hgo
  by_cases hd : 48 ≤ B i ∧ B i ≤ 57
  rotate_left
  · rw [if_neg (by rw [if_pos hit]; omega)] at hc
    rw [if_neg (fun q => hd q.1)] at hgo
    obtain ⟨z, hz⟩ := sc_109D ht b2 h5 hi h6 sm (sc_b neg) (sc_pk t B i - 48)
    exact Or.inr (hbad (hc.trans hz) (by simpa using hgo))
  have hpv : sc_pk t B i - 48 = nI (B i - 48) := by rw [sc_pk, if_pos hit, sc_c48, pk_sub hd.1]
  rw [if_pos (by rw [if_pos hit]; omega), hpv] at hc
  have hlt0 : (0 : Int32) < nI (B i - 48) ↔ B i ≠ 48 := by
    rw [sc_0, nI_ltI (by omega) (by omega)]; omega
  have hwk : wh = false ↔ k ≠ 4 := by cases wh <;> simp at hwh ⊢ <;> exact hwh
  by_cases hok : B i ≠ 48 ∨ (neg = false ∧ k ≠ 4)
  rotate_left
  · rw [if_neg (by rw [hlt0, hwk]; exact hok)] at hc
    rw [if_neg (fun q => hok q.2)] at hgo
    obtain ⟨z, hz⟩ := sc_109D ht b2 h5 hi h6 sm (sc_b neg) (nI (B i - 48))
    exact Or.inr (hbad (hc.trans hz) (by simpa using hgo))
  rw [if_pos (by rw [hlt0, hwk]; exact hok)] at hc
  rw [if_pos ⟨hd, hok⟩] at hgo
  simp only [Option.bind_some] at hgo
  rw [if_pos (by decide)] at hgo
  -- on to the further figures
  have hdig : sc_dig sm 1 (B i - 48) := by
    refine ⟨Nat.le_refl _, by cases sm <;> simp, ?_⟩
    by_cases h0 : B i - 48 = 0
    · exact Or.inl ⟨h0, rfl⟩
    · exact Or.inr ⟨by simp; omega, by simp; omega⟩
  have hk : sc_kM m τ (sf_up (sf_up τ 0 10 (nI (B i - 48))) 0 9 (nI 1)) := fun a b hab => by
    by_cases ha : a = 0
    · subst ha; rw [sc_upJ (by omega), sc_upJ (by omega)]
    · rw [sc_upK ha, sc_upK ha]
  obtain ⟨m1, hm1⟩ : ∃ m1, sf_F = m1 + 1 := ⟨sf_F - 1, by omega⟩
  have hcl : dX4_readNumber_109 (sc_b sm) (sc_b neg) (nI (B i - 48)) 1 σ = dX4_readNumber_129 (m1 + 1) (sc_b neg) (nI (B i - 48)) (if sm = true then 99 else 9999) (nI (1 - 1)) (sf_up σ 46 5 (nI (i + 1))) := by
    unfold dX4_readNumber_109
    rw [sc_acc1 ht b2 h5 h6 hit (by decide), hm1]
    simp only [Option.bind_some]
    rw [show nI (1 - 1) = (0 : Int32) from by decide +kernel]
    cases sm
    · rw [if_pos (show sc_b false = 0 from rfl), if_neg Bool.false_ne_true]
    · rw [if_neg (show ¬ sc_b true = 0 from by decide), if_pos rfl]
  have hlim1 : 1 ≤ (if sm = true then 2 else 4) ∧ (if sm = true then 2 else 4) ≤ 4 := by cases sm <;> simp
  have hrun := sc_digits (t := t) (B := B) (neg := neg) (sm := sm) (sc_most sm) hm hw hk2 hk5 hsm ((if sm = true then 2 else 4) - 1) 1 (B i - 48) (i + 1) m1 (sf_up σ 46 5 (nI (i + 1))) (sf_up (sf_up τ 0 10 (nI (B i - 48))) 0 9 (nI 1)) (by omega) (by omega) hdig (hBy'.kept (fun a b hab => by rcases hab with ⟨h, h'⟩ | h; exact sc_upJ (by omega); exact sc_upK (by omega)) (fun a b hab => hk a b (by omega))) (by omega) sc_upS (by rw [sc_upJ (by omega)]; exact h6)
    (by rw [sc_upJ (by omega), sc_upJ (by omega)]; exact g8) ((hk 6 w (by omega)).trans gk) sc_upS (by rw [sc_upJ (by omega), sc_upS]) (by rw [sc_upJ (by omega), sc_upJ (by omega)]; exact g11) ((hk 0 16 (by omega)).trans g16)
  rw [← hcl, ← hc] at hrun
  rcases hrun with ⟨v', p1, p2, i', σ', τ', f1, f2, f3, f4, f5, f6, f7, f8, f9, e1, e2, e3, e4, e5, e6⟩ | ⟨f, i', v', σ', τ', f1, f2, f3, f4, f5, f6, f7, f8⟩
  · have k8 : sf_up (sf_up τ 0 10 (nI (B i - 48))) 0 9 (nI 1) 8 m = τ 8 m := by rw [sc_upK (by omega), sc_upK (by omega)]
    have k9 : sf_up (sf_up τ 0 10 (nI (B i - 48))) 0 9 (nI 1) 9 m = τ 9 m := by rw [sc_upK (by omega), sc_upK (by omega)]
    have k10 : sf_up (sf_up τ 0 10 (nI (B i - 48))) 0 9 (nI 1) 10 m = τ 10 m := by rw [sc_upK (by omega), sc_upK (by omega)]
    rw [k8] at e4; rw [k9] at e5; rw [k10] at e6
    have ek : (if k < 6 then 2 else 1) = 2 := if_pos (by omega)
    refine Or.inl ⟨i', sc_sgn neg v', σ', τ', by omega, f2, ⟨fun h => ?_, fun h => ?_⟩, f3, sc_kC_tr (sc_kC5 _ _) f4, f5, f6, hgo.trans f7, sc_kM_tr hk f8, f9, e1, e2, e3, ?_, ?_, e6⟩
    · have : neg = false := by cases neg; rfl; exact absurd (hneg rfl) (by omega)
      subst this
      show 0 ≤ (nI v').toInt ∧ (nI v').toInt < 10000
      rw [nI_toInt (by omega)]; omega
    · have : neg = false := by cases neg; rfl; exact absurd (hneg rfl) (by omega)
      subst this
      show 1 ≤ (nI v').toInt
      rw [nI_toInt (by omega)]
      have : B i ≠ 48 := by
        rcases hok with q | ⟨-, q⟩
        · exact q
        · exact absurd h q
      omega
    · rw [e4, if_pos (by omega)]
    · rw [e5]
      by_cases h3 : k = 3
      · rw [if_pos h3, if_pos (Or.inl h3)]
      · rw [if_neg h3, if_neg (by omega)]
  · exact Or.inr ⟨f, i', v', σ', τ', f1, f2, f3, sc_kC_tr (sc_kC5 _ _) f4, f5, f6, hgo.trans f7, sc_kF_tr (sc_kM_F hk) f8⟩
