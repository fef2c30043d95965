/-! the sheets of the law -/
theorem sc_c4 : (4 : Int32) = nI 4 := by decide +kernel
theorem sc_renewL {s n : Nat} (hs : s < 4) (hn : n ≤ 60) : ∀ (r i fuel : Nat) (σ : sf_S), i + r = n → r < fuel → dX7_renew_37 fuel (nI s) (nI n) (nI i) σ = some (sc_fill σ 18 (60 * s + i) (60 * s + n) 0) := by
  intro r
  induction r with
  | zero =>
    intro i fuel σ hi hf
    obtain ⟨m, rfl⟩ : ∃ m, fuel = m + 1 := ⟨fuel - 1, by omega⟩
    simp only [dX7_renew_37]
    rw [if_pos (nI_le (by omega) (by omega)), sc_fill_nil (by omega)]
  | succ r ih =>
    intro i fuel σ hi hf
    obtain ⟨m, rfl⟩ : ∃ m, fuel = m + 1 := ⟨fuel - 1, by omega⟩
    simp only [dX7_renew_37]
    rw [if_neg (nI_ge (by omega) (by omega))]
    simp only [sc_idx1]
    rw [if_pos (sc_inI (by omega) (by omega)), sc_cl (by omega), nI_1, ih (i + 1) m _ (by omega) (by omega)]
    congr 1
    exact sc_fill_step (by omega)
theorem sc_renew {s n : Nat} (hs : s < 4) (hn : n ≤ 60) (x2 : Int32) (σ : sf_S) : dX7_renew (nI s) x2 (nI n) σ = some (sc_fill (sf_up (sf_up σ 16 s x2) 17 s (nI n)) 18 (60 * s) (60 * s + n) 0) := by
  unfold dX7_renew
  rw [if_neg (nI_pos (by omega)), sc_c4, if_neg (nI_ge (by omega) (by omega)), if_neg (nI_pos (by omega)), sc_c60, if_pos (nI_le (by omega) (by omega)), if_pos (sc_inI (by omega) (by omega)), sc_cl (by omega)]
  simp only []
  rw [if_pos (sc_inI (by omega) (by omega)), sc_0, sc_renewL hs hn n 0 sf_F _ (by omega) (by have := sf_F_le; omega), ← sc_0]
  rfl
theorem sc_lostC {s : Nat} (hs : s < 4) (σ : sf_S) : dX7_isLost (nI s) σ = some (sc_b (decide (σ 17 s = -1)), σ) := by
  unfold dX7_isLost
  rw [if_neg (nI_pos (by omega)), sc_c4, if_neg (nI_ge (by omega) (by omega)), if_pos (sc_inI (by omega) (by omega)), sc_cl (by omega)]
  by_cases h : σ 17 s = -1
  · rw [if_neg (by simp [h]), decide_eq_true h]; rfl
  · rw [if_pos h, decide_eq_false h]; rfl
theorem sc_elem {s i n : Nat} (hs : s < 4) (hi : i < n) (hn : n ≤ 60) {σ : sf_S} (e1 : σ 17 s = nI n) : dX7_hasElement (nI s) (nI i) σ = some (1, σ) := by
  unfold dX7_hasElement
  rw [if_neg (nI_pos (by omega)), sc_c4, if_neg (nI_ge (by omega) (by omega)), if_neg (nI_pos (by omega)), if_pos (sc_inI (by omega) (by omega)), sc_cl (by omega), e1, if_neg (nI_ge hi (by omega))]
def tg_cast (f v : Int32) : Int32 := if ¬ f = 0 then (if ¬ f = (1 : Int32) then v else v.toInt16.toInt32) else v.toInt8.toInt32
theorem tg_castC (f v : Int32) (σ : sf_S) : dX7_cast f v σ = some (tg_cast f v, σ) := by
  unfold dX7_cast tg_cast
  by_cases h1 : f = 0
  · rw [if_neg (by simp only [Classical.not_not]; exact h1), if_neg (by simp only [Classical.not_not]; exact h1)]
  · by_cases h2 : f = 1
    · rw [if_pos h1, if_pos h1, if_neg (by simp only [Classical.not_not]; exact h2), if_neg (by simp only [Classical.not_not]; exact h2)]
    · rw [if_pos h1, if_pos h1, if_pos h2, if_pos h2]
theorem tg_sheet1 {k n : Nat} (hk : k < 3) (hn : n ≤ 60) (τ : sf_S) : dX11_sheet (nI k) (nI k) (nI n) τ = some (nI n, sc_fill (sf_up (sf_up τ 16 k (nI k)) 17 k (nI n)) 18 (60 * k) (60 * k + n) 0) := by
  have e : (nI k).toInt = (k : Int) := nI_toInt (by omega)
  unfold dX11_sheet
  rw [sc_sheetC, decide_eq_true (by rw [e]; omega)]
  simp only [Option.bind_some]
  rw [if_neg (by decide), sc_formC, decide_eq_true (by rw [e]; omega)]
  simp only [Option.bind_some]
  rw [if_neg (by decide), sc_c60, if_pos (nI_le hn (by omega)), if_pos (nI_pos' (by omega)), sc_renew (by omega) hn]
  rfl
theorem tg_lay1 {k i n : Nat} (hk : k < 3) (hn : n ≤ 60) (hi : i < n) {τ : sf_S} (h16 : τ 16 k = nI k) (h17 : τ 17 k = nI n) (v : Int32) : dX11_lay (nI k) (nI k) (nI i) v τ = some (1, sf_up τ 18 (60 * k + i) (tg_cast (nI k) v)) := by
  have e : (nI k).toInt = (k : Int) := nI_toInt (by omega)
  have hik : sf_in (nI k) 4 = true := sc_inI (by omega) (by omega)
  have hck := sc_cl (show k < 2 ^ 31 by omega)
  have hee : dX11_elementError (nI k) (nI k) (nI i) τ = some (0, τ) := by
    unfold dX11_elementError
    rw [sc_sheetC, decide_eq_true (by rw [e]; omega)]
    simp only [Option.bind_some]
    rw [if_neg (by decide), sc_formC, decide_eq_true (by rw [e]; omega)]
    simp only [Option.bind_some]
    rw [if_pos (by decide), sc_lostC (by omega), h17, decide_eq_false (sc_nm1 (by omega))]
    simp only [Option.bind_some]
    rw [if_pos (by decide), if_pos hik, hck, if_pos h16, sc_elem (by omega) hi hn h17]
    simp only [Option.bind_some]
    rw [if_neg (by decide)]
  have hst : dX7_store (nI k) (nI i) v τ = some (sf_up τ 18 (60 * k + i) (tg_cast (nI k) v)) := by
    unfold dX7_store
    rw [sc_elem (by omega) hi hn h17]
    simp only [Option.bind_some]
    rw [if_pos (by decide), if_pos hik, hck, h16, tg_castC]
    simp only [Option.bind_some, sc_idx1]
    rw [if_pos (sc_inI (by omega) (by omega)), sc_cl (by omega)]
  unfold dX11_lay
  rw [hee]
  simp only [Option.bind_some]
  rw [if_pos (by decide), if_pos (by decide), hst]
  rfl
/-- how long, and what values -/
def tg_sn (x : Int32) (k : Nat) : Nat := tg_u (x >>> (((3 : Int32) * nI k) &&& 31)) 5
def tg_sw (x : Int32) (k i : Nat) : Int32 := tg_cast (nI k) (nI (tg_u (x >>> (((5 : Int32) + nI i) &&& 31)) 9) - 2)
theorem tg_46 {ns : Nat} {x : Int32} {k n : Nat} (hk : k < 3) (hn : n ≤ 60) : ∀ (m i : Nat) (r fuel : Nat) (K : Int32 → Int32 → Int32 → sf_S → Option (Int32 × sf_S)) (σ : sf_S), i + m = n → m < fuel → r + 59 ≤ 118 → sf_sl r σ 16 k = nI k → sf_sl r σ 17 k = nI n → ∃ σ', dL_sheets_46 ns r K fuel x 1 (nI k) (nI n) (nI i) σ = K x 1 (nI (k + 1)) σ' ∧ (∀ j, i ≤ j → j < n → sf_sl r σ' 18 (60 * k + j) = tg_sw x k j) ∧ (∀ a b, a < 59 → ¬ (a = 18 ∧ 60 * k + i ≤ b ∧ b < 60 * k + n) → sf_sl r σ' a b = sf_sl r σ a b) ∧ ∀ a b, ¬ (r ≤ a ∧ a < r + 59) → σ' a b = σ a b := by
  intro m
  induction m with
  | zero =>
    intro i r fuel K σ hi hf hr h16 h17
    obtain ⟨f, rfl⟩ : ∃ f, fuel = f + 1 := ⟨fuel - 1, by omega⟩
    refine ⟨σ, ?_, fun j h1 h2 => by omega, fun _ _ _ _ => rfl, fun _ _ _ => rfl⟩
    simp only [dL_sheets_46]
    rw [if_pos (nI_le (by omega) (by omega)), nI_1]
  | succ m ih =>
    intro i r fuel K σ hi hf hr h16 h17
    obtain ⟨f, rfl⟩ : ∃ f, fuel = f + 1 := ⟨fuel - 1, by omega⟩
    have hlay : dW_lay r (nI k) (nI k) (nI i) (nI (tg_u (x >>> (((5 : Int32) + nI i) &&& 31)) 9) - 2) σ = some (1, sf_pt r σ (sf_up (sf_sl r σ) 18 (60 * k + i) (tg_sw x k i))) := tq_on (tg_lay1 hk hn (by omega) h16 h17 _)
    rw [sf_pt_up (by omega), sf_pt_id] at hlay
    have hsl : ∀ a b, ¬ (a = 18 ∧ b = 60 * k + i) → sf_sl r (sf_up σ (r + 18) (60 * k + i) (tg_sw x k i)) a b = sf_sl r σ a b := fun a b h => by
      unfold sf_sl
      have g : ¬ (a + r = r + 18 ∧ b = 60 * k + i) := by omega
      exact if_neg g
    obtain ⟨σ', s1, s2, s3, s4⟩ := ih (i + 1) r f K (sf_up σ (r + 18) (60 * k + i) (tg_sw x k i)) (by omega) (by omega) hr (by rw [hsl _ _ (by omega)]; exact h16) (by rw [hsl _ _ (by omega)]; exact h17)
    refine ⟨σ', ?_, fun j h1 h2 => ?_, fun a b h1 h2 => by rw [s3 a b h1 (by omega), hsl a b (by omega)], fun a b h => by rw [s4 a b h]; exact sc_upK (by omega)⟩
    · simp only [dL_sheets_46]
      rw [if_neg (nI_ge (by omega) (by omega)), if_neg (by decide), tg_up (k := 9) (by decide +kernel) (by omega) (by omega)]
      simp only [Option.bind_some]
      rw [hlay]
      simp only [Option.bind_some]
      rw [if_neg (by simp), nI_1]
      exact s1
    · by_cases hj : j = i
      · subst hj
        rw [s3 _ _ (by omega) (by omega)]
        unfold sf_sl
        rw [Nat.add_comm 18 r]
        exact sc_upS
      · exact s2 j (by omega) h2
theorem tg_shL {ns : Nat} {x : Int32} : ∀ (m k : Nat) (r fuel : Nat) (σ : sf_S), k + m = 3 → m < fuel → r + 59 ≤ 118 → ∃ σ', dL_sheets_4 ns r fuel x 1 (nI k) σ = some (1, σ') ∧ (∀ b, sf_sl r σ' 17 b = if k ≤ b ∧ b < 3 then nI (tg_sn x b) else sf_sl r σ 17 b) ∧ (∀ b, sf_sl r σ' 18 b = if k ≤ b / 60 ∧ b / 60 < 3 ∧ b % 60 < tg_sn x (b / 60) then tg_sw x (b / 60) (b % 60) else sf_sl r σ 18 b) ∧ (∀ a b, a < 59 → ¬ (a = 16 ∨ a = 17 ∨ a = 18) → sf_sl r σ' a b = sf_sl r σ a b) ∧ ∀ a b, ¬ (r ≤ a ∧ a < r + 59) → σ' a b = σ a b := by
  intro m
  induction m with
  | zero =>
    intro k r fuel σ hk hf hr
    obtain ⟨f, rfl⟩ : ∃ f, fuel = f + 1 := ⟨fuel - 1, by omega⟩
    refine ⟨σ, ?_, fun b => by rw [if_neg (by omega)], fun b => by rw [if_neg (by omega)], fun _ _ _ _ => rfl, fun _ _ _ => rfl⟩
    simp only [dL_sheets_4]
    rw [if_pos (by rw [show (3 : Int32) = nI 3 from by decide +kernel]; exact nI_le (by omega) (by omega)), if_pos (by decide)]
  | succ m ih =>
    intro k r fuel σ hk hf hr
    obtain ⟨f, rfl⟩ : ∃ f, fuel = f + 1 := ⟨fuel - 1, by omega⟩
    have hF := sf_F_le
    have hn : tg_sn x k < 5 := tg_u_lt (by omega)
    have hsh : dW_sheet r (nI k) (nI k) (nI (tg_sn x k)) σ = some (nI (tg_sn x k), sf_pt r σ (sc_fill (sf_up (sf_up (sf_sl r σ) 16 k (nI k)) 17 k (nI (tg_sn x k))) 18 (60 * k) (60 * k + tg_sn x k) 0)) := tq_on (tg_sheet1 (by omega) (by omega) _)
    generalize hs1 : sf_pt r σ (sc_fill (sf_up (sf_up (sf_sl r σ) 16 k (nI k)) 17 k (nI (tg_sn x k))) 18 (60 * k) (60 * k + tg_sn x k) 0) = s1 at hsh
    have hsl : ∀ a b, a < 59 → sf_sl r s1 a b = sc_fill (sf_up (sf_up (sf_sl r σ) 16 k (nI k)) 17 k (nI (tg_sn x k))) 18 (60 * k) (60 * k + tg_sn x k) 0 a b := fun a b h => by rw [← hs1]; exact tq_in h
    have hfl : ∀ a b, ¬ (a = 18 ∧ 60 * k ≤ b ∧ b < 60 * k + tg_sn x k) → a < 59 → sf_sl r s1 a b = sf_up (sf_up (sf_sl r σ) 16 k (nI k)) 17 k (nI (tg_sn x k)) a b := fun a b h h2 => by
      rw [hsl a b h2]; unfold sc_fill; exact if_neg h
    have h16 : sf_sl r s1 16 k = nI k := by rw [hfl _ _ (by omega) (by omega), sc_upK (by omega), sc_upS]
    have h17 : sf_sl r s1 17 k = nI (tg_sn x k) := by rw [hfl _ _ (by omega) (by omega), sc_upS]
    obtain ⟨s2, a1, a2, a3, a4⟩ := tg_46 (ns := ns) (x := x) (k := k) (n := tg_sn x k) (by omega) (by omega) (tg_sn x k) 0 r sf_F (dL_sheets_4 ns r f) s1 (by omega) (by omega) hr h16 h17
    obtain ⟨s3, b1, b2, b3, b4, b5⟩ := ih (k + 1) r f s2 (by omega) (by omega) hr
    refine ⟨s3, ?_, fun b => ?_, fun b => ?_, fun a b h1 h2 => ?_, fun a b h => ?_⟩
    · simp only [dL_sheets_4]
      rw [if_neg (by rw [show (3 : Int32) = nI 3 from by decide +kernel]; exact nI_ge (by omega) (by omega)), if_neg (by decide), tg_up (k := 5) (by decide +kernel) (by omega) (by omega)]
      simp only [Option.bind_some]
      rw [show nI (tg_u (x >>> (((3 : Int32) * nI k) &&& 31)) 5) = nI (tg_sn x k) from rfl, hsh]
      simp only [Option.bind_some]
      rw [if_neg (by simp), sc_0, a1]
      exact b1
    · rw [b2 b, a3 17 b (by omega) (by omega), hfl 17 b (by omega) (by omega)]
      by_cases hb : k + 1 ≤ b ∧ b < 3
      · rw [if_pos hb, if_pos (by omega)]
      · rw [if_neg hb]
        by_cases hbk : b = k
        · subst hbk
          rw [if_pos (by omega), sc_upS]
        · rw [if_neg (by omega), sc_upJ hbk, sc_upK (by omega)]
    · rw [b3 b]
      by_cases hb : k + 1 ≤ b / 60 ∧ b / 60 < 3 ∧ b % 60 < tg_sn x (b / 60)
      · rw [if_pos hb, if_pos ⟨by omega, hb.2⟩]
      · rw [if_neg hb]
        by_cases hbk : b / 60 = k
        · subst hbk
          by_cases hb2 : b % 60 < tg_sn x (b / 60)
          · rw [if_pos ⟨Nat.le_refl _, by omega, hb2⟩]
            have := a2 (b % 60) (Nat.zero_le _) hb2
            rw [Nat.div_add_mod] at this
            exact this
          · rw [if_neg (fun e => hb2 e.2.2), a3 18 b (by omega) (by omega), hfl 18 b (by omega) (by omega), sc_upK (by omega), sc_upK (by omega)]
        · rw [if_neg (fun e => hb ⟨by omega, e.2⟩), a3 18 b (by omega) (by omega), hfl 18 b (by omega) (by omega), sc_upK (by omega), sc_upK (by omega)]
    · rw [b4 a b h1 h2, a3 a b h1 (by omega), hfl a b (by omega) h1, sc_upK (by omega), sc_upK (by omega)]
    · rw [b5 a b h, a4 a b h, ← hs1]
      exact if_neg h
theorem tg_sheets (ns r : Nat) (x : Int32) (σ : sf_S) (hr : r + 59 ≤ 118) : ∃ σ', dL_sheets ns r x σ = some (1, σ') ∧ (∀ b, sf_sl r σ' 17 b = if b < 3 then nI (tg_sn x b) else sf_sl r σ 17 b) ∧ (∀ b, sf_sl r σ' 18 b = if b / 60 < 3 ∧ b % 60 < tg_sn x (b / 60) then tg_sw x (b / 60) (b % 60) else sf_sl r σ 18 b) ∧ (∀ a b, a < 59 → ¬ (a = 16 ∨ a = 17 ∨ a = 18) → sf_sl r σ' a b = sf_sl r σ a b) ∧ ∀ a b, ¬ (r ≤ a ∧ a < r + 59) → σ' a b = σ a b := by
  have hF := sf_F_le
  obtain ⟨σ', a1, a2, a3, a4, a5⟩ := tg_shL (ns := ns) (x := x) 3 0 r sf_F σ rfl (by omega) hr
  refine ⟨σ', ?_, fun b => ?_, fun b => ?_, a4, a5⟩
  · unfold dL_sheets
    rw [sc_0]; exact a1
  · rw [a2 b]
    by_cases h : b < 3
    · rw [if_pos h, if_pos ⟨Nat.zero_le _, h⟩]
    · rw [if_neg h, if_neg (fun e => h e.2)]
  · rw [a3 b]
    by_cases h : b / 60 < 3 ∧ b % 60 < tg_sn x (b / 60)
    · rw [if_pos h, if_pos ⟨Nat.zero_le _, h⟩]
    · rw [if_neg h, if_neg (fun e => h e.2)]
