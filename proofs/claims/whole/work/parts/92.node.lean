/-! the calls node, text, rules, count -/
def sc_Rw (σ τ : sf_S) : Prop := (∀ k, k < 13 → σ 14 k = τ 23 k) ∧ σ 13 2 = τ 0 32
theorem sc_Rw.kept {σ τ σ' τ' : sf_S} (h : sc_Rw σ τ) (h1 : ∀ a b, (a = 14 ∨ (a = 13 ∧ b = 2)) → σ' a b = σ a b) (h2 : ∀ a b, (a = 23 ∨ (a = 0 ∧ b = 32)) → τ' a b = τ a b) : sc_Rw σ' τ' :=
  ⟨fun k hk => by rw [h1 _ _ (by simp), h2 _ _ (by simp)]; exact h.1 k hk, by rw [h1 _ _ (by simp), h2 _ _ (by simp)]; exact h.2⟩
theorem sc_rules {σ τ : sf_S} (h : sc_Rw σ τ) (x1 : Int32) : sc_pr sc_no sc_no (fun _ _ => True) σ τ (dX11_rules x1 σ) (dX12_rules x1 τ) := by
  unfold dX11_rules dX12_rules
  simp only [sc_in12, Option.bind_some, sc_b0, decide_eq_false_iff_not, Int32.toInt_toInt64, sc_l0, show (12 : Int64).toInt = 12 from by decide]
  by_cases h1 : x1 < 0
  · have := sc_lt0.mp h1
    rw [if_pos h1, if_pos (by omega)]
    exact sc_same trivial
  rw [if_neg h1]
  obtain ⟨i, hi, rfl⟩ := sc_ofp (x := x1) (by have := mt sc_lt0.mpr h1; omega)
  rw [nI_toInt hi, show (13 : Int32) = nI 13 from by decide +kernel]
  by_cases h2 : i < 13
  · rw [if_neg (nI_ge h2 (by omega)), if_pos (sc_inI h2 (by omega)), if_neg (by omega : ¬ ¬ ((0 : Int) ≤ (i : Int) ∧ (i : Int) ≤ 12)), if_pos (sc_inI h2 (by omega)), sc_cl hi, h.1 i h2]
    exact sc_same trivial
  · rw [if_pos (nI_le (by omega) hi), if_pos (by omega)]
    exact sc_same trivial
theorem sc_Pm_n {σ τ : sf_S} (h : sc_Pm σ τ) : ∃ n, n ≤ 40 ∧ σ 1 4 = nI n ∧ τ 0 21 = nI n ∧ (0 < n → ∃ E, sc_Pq 1 n E σ τ ∧ σ 11 2 = nI (sc_tx n τ).length ∧ ∀ i x, (sc_tx n τ)[i]? = some x → σ 12 i = x) ∧ (n = 0 → σ 1 10 = -1) := by
  rcases h with ⟨a1, a2, a3⟩ | ⟨n, E, a1, a2, a3⟩
  · exact ⟨0, by omega, by rw [a1, sc_0], by rw [a2, sc_0], fun q => by omega, fun _ => a3⟩
  · exact ⟨n, a1.2.1, a1.2.2.1, a1.2.2.2.1, fun _ => ⟨E, a1, a2, a3⟩, fun q => by have := a1.1; omega⟩
/-- the reference's isPure -/
theorem sc_isPL {n k : Nat} {L : Nat → Int32} {E : Nat → Nat} {τ : sf_S} (hn : n ≤ 40) (hT : sc_T n L E) (hk : k < n) (h15 : τ 15 k = nI (E k - k)) (h11 : ∀ j, j < n → τ 11 j = L j) : ∀ (r j fuel : Nat), j + r = E k → k ≤ j → r < fuel → dX12_isPure_2 fuel (nI k) (nI j) τ = some (sc_b (decide (sc_ni L (E k) = sc_ni L j)), τ) := by
  have hlt := hT.lt hk
  intro r
  induction r with
  | zero =>
    intro j fuel hj hkj hf
    obtain ⟨m, rfl⟩ : ∃ m, fuel = m + 1 := ⟨fuel - 1, by omega⟩
    simp only [dX12_isPure_2]
    rw [if_pos (sc_inI (by omega) (by omega)), sc_cl (by omega), h15, nI_add, show k + (E k - k) = E k by omega, if_pos (nI_le (by omega) (by omega)), show j = E k by omega, decide_eq_true rfl]
    rfl
  | succ r ih =>
    intro j fuel hj hkj hf
    obtain ⟨m, rfl⟩ : ∃ m, fuel = m + 1 := ⟨fuel - 1, by omega⟩
    simp only [dX12_isPure_2]
    rw [if_pos (sc_inI (by omega) (by omega)), sc_cl (show k < 2 ^ 31 by omega), h15, nI_add, show k + (E k - k) = E k by omega, if_neg (nI_ge (by omega) (by omega))]
    simp only [sc_inI (show j < 40 by omega) (by omega : 40 ≤ 10000), if_true, sc_cl (show j < 2 ^ 31 by omega), h11 j (by omega), nI_1]
    have hm := sc_ni_mono (L := L) (show j + 1 ≤ E k by omega)
    have e : sc_ni L (j + 1) = sc_ni L j + (if sc_im (L j) = true then 1 else 0) := rfl
    have himp : sc_im (L j) = true → (some (0, τ) : Option (Int32 × sf_S)) = some (sc_b (decide (sc_ni L (E k) = sc_ni L j)), τ) := fun q => by
      rw [if_pos q] at e
      rw [decide_eq_false (by omega)]; rfl
    by_cases g1 : L j = 47
    · rw [if_pos g1]; exact himp (by rw [g1]; decide +kernel)
    by_cases g2 : L j = 108
    · rw [if_neg g1, if_pos g2]; exact himp (by rw [g2]; decide +kernel)
    by_cases g3 : L j = 115
    · rw [if_neg g1, if_neg g2, if_neg (by simp [g3])]; exact himp (by rw [g3]; decide +kernel)
    · rw [if_neg g1, if_neg g2, if_pos g3, ih (j + 1) m (by omega) (by omega) (by omega)]
      rw [if_neg (by simp [sc_im, g1, g2, g3])] at e
      rw [e, Nat.add_zero]
theorem sc_isPM {n k : Nat} {L : Nat → Int32} {E : Nat → Nat} {τ : sf_S} (hn : n ≤ 40) (hT : sc_T n L E) (hk : k < n) (h15 : τ 15 k = nI (E k - k)) (h11 : ∀ j, j < n → τ 11 j = L j) : dX12_isPure (nI k) τ = some (sc_b (sc_pu L E k), τ) := by
  have hF := sf_F_le
  have hlt := hT.lt hk
  unfold dX12_isPure
  rw [sc_isPL hn hT hk h15 h11 (E k - k) k sf_F (by omega) (by omega) (by omega)]
  rfl
theorem sc_c5 : (5 : Int32) = nI 5 := by decide +kernel
/-- a node's six numbers, both sides -/
theorem sc_nodeBy {n k w : Nat} {E : Nat → Nat} {σ τ : sf_S} (h : sc_Pq 1 n E σ τ) (hk : k < n) (hw : w < 6) : ∃ v, dX11_node (nI k) (nI w) σ = some (v, σ) ∧ dX12_nodeBy (nI k) (nI w) τ = some (v, τ) := by
  obtain ⟨p1, p2, p3, p4, p5, p6, p7, p8, p9, p10⟩ := h
  obtain ⟨q1, q2, q3, q4, -⟩ := p7 k hk
  have hin : sf_in (nI k) 40 = true := sc_inI (by omega) (by omega)
  have e : ∀ c : Nat, c < 10 → ((nI w : Int32) = nI c ↔ w = c) := fun c hc => nI_eq (by omega) (by omega)
  have hD := sc_D_uniq p5 p6 p9.2 p8.2.1 k hk
  have hhas : dX2_has 1 (nI k) σ = some (1, σ) := by
    unfold dX2_has
    rw [if_neg (nI_pos (by omega)), p3, if_neg (nI_ge hk (by omega))]
  unfold dX11_node dX12_nodeBy
  rw [hhas, sc_isPM p2 p6 hk (p9.1 k hk).1 (fun j _ => rfl)]
  simp only [Option.bind_some, hin, if_true, sc_cl (show k < 2 ^ 31 by omega), sc_0, sc_1, sc_k2, show (3 : Int32) = nI 3 from by decide +kernel, sc_c4, sc_c5, e 0 (by omega), e 1 (by omega), e 2 (by omega), e 3 (by omega), e 4 (by omega), e 5 (by omega)]
  rw [if_pos (by decide +kernel)]
  match w, hw with
  | 0, _ => exact ⟨τ 11 k, by rw [if_pos rfl]; rw [show σ 2 k = τ 11 k from q1], by rw [if_pos rfl]⟩
  | 1, _ => exact ⟨τ 12 k, by rw [if_neg (by omega), if_pos rfl]; rw [show σ 3 k = τ 12 k from q2], by rw [if_neg (by omega), if_pos rfl]⟩
  | 2, _ => exact ⟨τ 13 k, by rw [if_neg (by omega), if_neg (by omega), if_pos rfl]; rw [show σ 4 k = τ 13 k from q3], by rw [if_neg (by omega), if_neg (by omega), if_pos rfl]⟩
  | 3, _ => exact ⟨τ 14 k, by rw [if_neg (by omega), if_neg (by omega), if_neg (by omega), if_pos rfl]; rw [show σ 5 k = τ 14 k from q4], by rw [if_neg (by omega), if_neg (by omega), if_neg (by omega), if_pos rfl]⟩
  | 4, _ => exact ⟨τ 18 k, by rw [if_neg (by omega), if_neg (by omega), if_neg (by omega), if_neg (by omega), if_pos rfl]; rw [show σ 7 k = τ 18 k from hD.1], by rw [if_neg (by omega), if_neg (by omega), if_neg (by omega), if_neg (by omega), if_pos rfl]⟩
  | 5, _ =>
    have e10 : σ 10 k = sc_b (sc_pu (τ 11) E k) := (p8.1 k hk).2
    rw [e10]
    have n10 : ¬ nI 1 = nI 0 := by decide +kernel
    cases sc_pu (τ 11) E k
    · exact ⟨nI 0, by simp [sc_b, sc_0], by simp [sc_b, sc_0]⟩
    · exact ⟨nI 1, by simp [sc_b, sc_0, sc_1, n10], by simp [sc_b, sc_0, sc_1, n10]⟩
  | w + 6, h => omega
theorem sc_nodeCall {σ τ : sf_S} (h : sc_Pm σ τ) (x1 x2 : Int32) : sc_pr sc_no sc_no (fun _ _ => True) σ τ (dX11_node x1 x2 σ) (dX12_node x1 x2 τ) := by
  obtain ⟨n, hn, e1, e2, hP, -⟩ := sc_Pm_n h
  unfold dX12_node
  simp only [sc_in12, Option.bind_some, sc_b0, decide_eq_false_iff_not, Int32.toInt_toInt64, sc_l0, e2, sc_sub1 (show n < 2 ^ 30 by omega), show (5 : Int64).toInt = 5 from by decide]
  by_cases hk : 0 ≤ x1.toInt ∧ x1.toInt < n
  rotate_left
  · rw [if_pos (by omega)]
    have hhas : dX2_has 1 x1 σ = some (0, σ) := by
      unfold dX2_has
      rw [e1]
      by_cases h1 : x1 < 0
      · rw [if_pos h1]
      · rw [if_neg h1]
        have := mt sc_lt0.mpr h1
        rw [if_pos (by rw [Int32.le_iff_toInt_le, nI_toInt (by omega)]; omega)]
    unfold dX11_node
    rw [hhas]
    simp only [Option.bind_some]
    rw [if_neg (by simp)]
    exact sc_same trivial
  obtain ⟨k, hkn, rfl⟩ := sc_of hk
  rw [nI_toInt (by omega), if_neg (by omega)]
  obtain ⟨E, hPq, -⟩ := hP (by omega)
  by_cases hw : 0 ≤ x2.toInt ∧ x2.toInt < 6
  · obtain ⟨w, hwn, rfl⟩ := sc_of (m := 6) hw
    obtain ⟨v, v1, v2⟩ := sc_nodeBy hPq hkn hwn
    rw [nI_toInt (by omega), if_neg (by omega), v1, v2]
    exact sc_same trivial
  · rw [if_pos (by omega)]
    have hhas : dX2_has 1 (nI k) σ = some (1, σ) := by
      unfold dX2_has
      rw [if_neg (nI_pos (by omega)), e1, if_neg (nI_ge hkn (by omega))]
    have hne : ∀ c : Nat, c < 6 → x2 ≠ nI c := fun c hc q => hw (by rw [q, nI_toInt (by omega)]; omega)
    unfold dX11_node
    rw [hhas]
    simp only [Option.bind_some, sc_0, sc_1, sc_k2, show (3 : Int32) = nI 3 from by decide +kernel, sc_c4, sc_c5]
    rw [if_pos (by decide +kernel), if_neg (hne 0 (by omega)), if_neg (hne 1 (by omega)), if_neg (hne 2 (by omega)), if_neg (hne 3 (by omega)), if_neg (hne 4 (by omega)), if_neg (hne 5 (by omega))]
    exact sc_same trivial
/-- the reference writes its plan -/
theorem sc_writes {n : Nat} {τ : sf_S} (hn : n ≤ 40) (hv : ∀ j, j < n → sc_vn (τ 11 j) (τ 12 j) (τ 13 j) (τ 14 j)) (h4 : τ 0 21 = nI n) (hw : sc_ws (τ 11) n ≤ 400) :
    ∃ s, dX12_writesPlan τ = some s ∧ (∀ a b, ¬ (a = 21 ∨ (a = 0 ∧ b = 29)) → s a b = τ a b) ∧ s 0 29 = nI (sc_tx n τ).length ∧ ∀ i x, (sc_tx n τ)[i]? = some x → s 21 i = x := by
  have hF := sf_F_le
  have h := sc_writesL hn hv n 0 0 sf_F (sf_up τ 0 29 0) (by omega) (by omega) (by rw [sc_upJ (by omega)]; exact h4) (fun j hj => by
    rw [sc_upK (by omega), sc_upK (by omega), sc_upK (by omega), sc_upK (by omega)]; exact ⟨rfl, rfl, rfl, rfl⟩) (by rw [sc_upS, sc_0]) (by omega)
  refine ⟨sc_em 21 0 29 (sc_tx n τ) 0 (sf_up τ 0 29 0), ?_, fun a b hab => ?_, ?_, fun i x hi => ?_⟩
  · unfold dX12_writesPlan
    simp only []
    rw [sc_0] at h ⊢
    exact h
  · rw [sc_em_ne _ _ _ _ _ (by omega) (by omega)]
    by_cases ha : a = 0
    · subst ha; exact sc_upJ (by omega)
    · exact sc_upK ha
  · rw [sc_em_cnt _ _ _ (by rw [sc_upS, sc_0]), Nat.zero_add]
  · have := sc_em_at (c := 21) (q := 0) (j := 29) (by omega) _ 0 (sf_up τ 0 29 (0 : Int32)) i x hi
    rwa [Nat.zero_add] at this
theorem sc_tx_len {q n : Nat} {E : Nat → Nat} {σ τ : sf_S} (h : sc_Pq q n E σ τ) : (sc_tx n τ).length ≤ 400 := by
  have := sc_tr_len (L := τ 11) (M := τ 12) (F := τ 13) (S := τ 14) (r := n) (k := 0) (fun j _ hj => ((h.2.2.2.2.2.2.1 j (by omega)).2.2.2.2).1)
  have hw := h.2.2.2.2.2.2.2.2.2
  rw [Nat.zero_add] at this
  unfold sc_tx
  omega
def sc_WM : Nat → Nat → Bool := fun a b => a == 21 || (a == 0 && b == 29)
/-- what text says of a plan that is written -/
theorem sc_textBy {n : Nat} {E : Nat → Nat} {σ τ s : sf_S} (hP : sc_Pq 1 n E σ τ) (h2 : σ 11 2 = nI (sc_tx n τ).length) (h3 : ∀ i x, (sc_tx n τ)[i]? = some x → σ 12 i = x) (h4 : s 0 21 = nI n) (s2 : s 0 29 = nI (sc_tx n τ).length) (s3 : ∀ i x, (sc_tx n τ)[i]? = some x → s 21 i = x) (x1 : Int32) : ∃ v, dX11_text x1 σ = some (v, σ) ∧ dX12_textBy x1 s = some (v, s) := by
  have hl := sc_tx_len hP
  obtain ⟨p1, p2, p3, -⟩ := hP
  unfold dX11_text dX12_textBy
  simp only [p3, h4, h2, s2, sc_in12, Option.bind_some, sc_b0, decide_eq_false_iff_not, Int32.toInt_toInt64, sc_l0, sc_sub1 (show (sc_tx n τ).length < 2 ^ 30 by omega)]
  rw [if_pos (nI_ne0 p1 (by omega)), if_pos (nI_ne0 p1 (by omega))]
  by_cases hm : x1 = -1
  · rw [if_neg (by simp [hm]), if_neg (by simp [hm])]
    exact ⟨_, rfl, rfl⟩
  rw [if_pos hm, if_pos hm]
  by_cases h1 : x1 < 0
  · have := sc_lt0.mp h1
    rw [if_pos h1, if_pos (by omega)]
    exact ⟨_, rfl, rfl⟩
  rw [if_neg h1]
  obtain ⟨i, hi, rfl⟩ := sc_ofp (x := x1) (by have := mt sc_lt0.mpr h1; omega)
  rw [nI_toInt hi]
  by_cases hil : i < (sc_tx n τ).length
  · rw [if_neg (nI_ge hil (by omega)), if_pos (sc_inI (by omega) (by omega)), if_neg (by omega), if_pos (sc_inI (by omega) (by omega)), sc_cl hi]
    have hx := List.getElem?_eq_getElem hil
    rw [h3 i _ hx, s3 i _ hx]
    exact ⟨_, rfl, rfl⟩
  · rw [if_pos (nI_le (by omega) hi), if_pos (by omega)]
    exact ⟨_, rfl, rfl⟩
theorem sc_text {σ τ : sf_S} (h : sc_Pm σ τ) (x1 : Int32) : sc_pr sc_no sc_WM (fun _ _ => True) σ τ (dX11_text x1 σ) (dX12_text x1 τ) := by
  obtain ⟨n, hn, e1, e2, hP, -⟩ := sc_Pm_n h
  have frm : ∀ {s : sf_S}, (∀ a b, ¬ (a = 21 ∨ (a = 0 ∧ b = 29)) → s a b = τ a b) → sc_fr sc_WM τ s := fun q a b hab => q a b (by
    simp only [sc_WM, Bool.or_eq_false_iff, Bool.and_eq_false_iff, beq_eq_false_iff_ne, ne_eq] at hab
    omega)
  by_cases hn0 : 0 < n
  · obtain ⟨E, hPq, h2, h3⟩ := hP hn0
    obtain ⟨s, w1, w2, w3, w4⟩ := sc_writes hn (fun j hj => (hPq.2.2.2.2.2.2.1 j hj).2.2.2.2) e2 hPq.2.2.2.2.2.2.2.2.2
    obtain ⟨v, v1, v2⟩ := sc_textBy hPq h2 h3 (by rw [w2 _ _ (by omega)]; exact e2) w3 w4 x1
    refine ⟨v, σ, s, v1, ?_, sc_fr_rf, frm w2, trivial⟩
    unfold dX12_text
    rw [w1]
    simp only [Option.bind_some, v2]
  · have hn00 : n = 0 := by omega
    subst hn00
    obtain ⟨s, w1, w2, w3, w4⟩ := sc_writes (n := 0) (τ := τ) (by omega) (fun j hj => absurd hj (Nat.not_lt_zero j)) e2 (Nat.zero_le _)
    refine ⟨-2, σ, s, ?_, ?_, sc_fr_rf, frm w2, trivial⟩
    · unfold dX11_text
      rw [e1, ← sc_0, if_neg (by simp)]
    · unfold dX12_text dX12_textBy
      rw [w1]
      simp only [Option.bind_some]
      rw [w2 _ _ (by omega), e2, ← sc_0, if_neg (by simp)]
      rfl
/-- the reference's deepest -/
theorem sc_deepL {n : Nat} {τ : sf_S} (hn : n ≤ 40) (h4 : τ 0 21 = nI n) : ∀ (r k fuel : Nat), k + r = n → r < fuel → dX12_deepest_4 fuel (sc_mx (τ 18) k) (nI k) τ = some (sc_mx (τ 18) n, τ) := by
  intro r
  induction r with
  | zero =>
    intro k fuel hk hf
    obtain ⟨m, rfl⟩ : ∃ m, fuel = m + 1 := ⟨fuel - 1, by omega⟩
    simp only [dX12_deepest_4]
    rw [h4, if_pos (nI_le (by omega) (by omega)), show k = n by omega]
  | succ r ih =>
    intro k fuel hk hf
    obtain ⟨m, rfl⟩ : ∃ m, fuel = m + 1 := ⟨fuel - 1, by omega⟩
    simp only [dX12_deepest_4]
    rw [h4, if_neg (nI_ge (by omega) (by omega)), if_pos (sc_inI (by omega) (by omega)), sc_cl (by omega), sc_greater]
    simp only [Option.bind_some, nI_1]
    rw [← sc_max2, show (if sc_mx (τ 18) k < τ 18 k then τ 18 k else sc_mx (τ 18) k) = sc_mx (τ 18) (k + 1) from rfl]
    exact ih (k + 1) m (by omega) (by omega)
theorem sc_deepest {σ τ : sf_S} (h : sc_Pm σ τ) : dX12_deepest τ = some (σ 1 10, τ) := by
  have hF := sf_F_le
  obtain ⟨n, hn, e1, e2, hP, h0⟩ := sc_Pm_n h
  have hd := sc_deepL hn e2 n 0 sf_F (by omega) (by omega)
  have e : σ 1 10 = sc_mx (τ 18) n := by
    by_cases hn0 : 0 < n
    · obtain ⟨E, ⟨p1, p2, p3, p4, p5, p6, p7, p8, p9, p10⟩, -⟩ := hP hn0
      rw [p8.2.2.1]
      exact sc_mx_congr (fun j hj => (sc_D_uniq p5 p6 p9.2 p8.2.1 j hj).1)
    · rw [h0 (by omega), show n = 0 by omega]; rfl
  unfold dX12_deepest
  rw [e, sc_0]
  exact hd
/-- count, both sides -/
theorem sc_count {σ τ : sf_S} (hf : sc_Fi σ τ) (ht : sc_Tx σ τ) (hr : sc_Ru σ τ) (hp : sc_Pm σ τ) (hw : sc_Rw σ τ) (x1 : Int32) : ∃ v, dX11_count x1 σ = some (v, σ) ∧ dX12_count x1 τ = some (v, τ) := by
  obtain ⟨t, -, t2, t3, -⟩ := ht
  obtain ⟨g, p, a1, a2, a3, a4, a5, a6, a7, a8, a9, b1, b2, b3, b4⟩ := hr
  obtain ⟨n, -, e1, e2, -, -⟩ := sc_Pm_n hp
  have hd := sc_deepest hp
  unfold dX11_count dX12_count
  rw [hd]
  simp only [Option.bind_some, show sf_in (0 : Int32) 6 = true from by decide +kernel, show sf_in (5 : Int32) 6 = true from by decide +kernel, show sf_in (2 : Int32) 6 = true from by decide +kernel, if_true, show (0 : Int32).toNatClampNeg = 0 from by decide +kernel, show (5 : Int32).toNatClampNeg = 5 from by decide +kernel, show (2 : Int32).toNatClampNeg = 2 from by decide +kernel, e1, e2, t2, t3, a3, a4, a5, a6, a7, a9, hw.2]
  by_cases c0 : x1 = 0
  · rw [if_pos c0, if_pos c0]; exact ⟨_, rfl, rfl⟩
  rw [if_neg c0, if_neg c0]
  by_cases c1 : x1 = 1
  · rw [if_pos c1, if_pos c1]; exact ⟨_, rfl, rfl⟩
  rw [if_neg c1, if_neg c1]
  by_cases c2 : x1 = 2
  · rw [if_pos c2, if_pos c2]; exact ⟨_, rfl, rfl⟩
  rw [if_neg c2, if_neg c2]
  by_cases c3 : x1 = 3
  · rw [if_pos c3, if_pos c3]; exact ⟨_, rfl, rfl⟩
  rw [if_neg c3, if_neg c3]
  by_cases c4 : x1 = 4
  · rw [if_pos c4, if_pos c4]; exact ⟨_, rfl, rfl⟩
  rw [if_neg c4, if_neg c4]
  by_cases c5 : x1 = 5
  · rw [if_pos c5, if_pos c5]; exact ⟨_, rfl, rfl⟩
  rw [if_neg c5, if_neg c5]
  by_cases c6 : x1 = 6
  · rw [if_pos c6, if_pos c6]; exact ⟨_, rfl, rfl⟩
  rw [if_neg c6, if_neg c6]
  by_cases c7 : x1 = 7
  · rw [if_pos c7, if_pos c7]; exact ⟨_, rfl, rfl⟩
  rw [if_neg c7, if_neg c7]
  by_cases c8 : x1 = 8
  · rw [if_pos c8, if_pos c8, show σ 0 13 = τ 0 4 from hf]; exact ⟨_, rfl, rfl⟩
  rw [if_neg c8, if_neg c8]
  exact ⟨_, rfl, rfl⟩
