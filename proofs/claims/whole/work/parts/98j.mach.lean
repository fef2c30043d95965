/-- x opens its Q -/
theorem sc_open {X : sc_X} {D np g k : Nat} {σ τ : sf_S} (h : sc_W X D np g σ τ) (hop : sf_op X.q = X.q + 3) (hk : k < X.n) (hL : X.L k = 120) (v : Int32) : ∃ σ' τ', dX9_open X.q (nI k) v σ = some σ' ∧ dX12_opensFor (nI k) v τ = some τ' ∧ sc_W X D np g σ' τ' ∧
    (∀ a b, ¬ ((a = X.q + 1 ∨ a = X.q + 2 ∨ a = X.q + 3) ∧ k ≤ b ∧ b < X.E (k + 1)) → σ' a b = σ a b) ∧ (∀ a b, ¬ ((a = 24 ∨ a = 25) ∧ k ≤ b ∧ b < X.E (k + 1)) → τ' a b = τ a b) ∧ sc_Bg X (k + 1) (X.E (k + 1)) σ' τ' ∧
    σ' (X.q + 1) k = σ (X.q + 1) k ∧ σ' (X.q + 2) k = 1 ∧ τ' 24 k = 1 ∧ σ' (X.q + 3) k = v ∧ τ' 25 k = v ∧ σ' (X.q + 4) k = σ (X.q + 4) k := by
  obtain ⟨k1, k2, k3, k4, k5, k6⟩ := h.cy.ok
  have hn4 := h.cy.n40
  obtain ⟨q1, q2, q3, q4, q5⟩ := h.cy.T.p2 hk (sc_p120 hL)
  have hF := sf_F_le
  obtain ⟨r5, r6, r7, r8, r9⟩ := h.cy.r5 k hk
  have W1 : sc_W X D np g (sf_up (sf_up σ (X.q + 3) k v) (X.q + 2) k 1) (sf_up (sf_up τ 25 k v) 24 k 1) := h.light (sc_fr_tr (sc_fr_up (by simp [sc_LC])) (sc_fr_up (by simp [sc_LC]))) (sc_fr_tr (sc_fr_up (by simp [sc_LM])) (sc_fr_up (by simp [sc_LM])))
  obtain ⟨σ', a1, a2, a3⟩ := sc_rst (q := X.q) (hi := X.E (k + 1)) hn4 (by omega) (by omega) (X.E (k + 1) - (k + 1)) (k + 1) sf_F _ (by omega) (by omega) W1.cy.c4
  obtain ⟨τ', b1, b2, b3⟩ := sc_bgn (X := X) (lo := k + 1) (sz := X.E (k + 1) - (k + 1)) (by omega) (X.E (k + 1) - (k + 1)) (k + 1) sf_F (sf_up (sf_up τ 25 k v) 24 k 1) (by omega) (by omega) (fun j x y => by
    have := W1.cy.r1 j (by omega)
    exact ⟨this.1, this.2.2.1⟩)
  have eE : k + 1 + (X.E (k + 1) - (k + 1)) = X.E (k + 1) := by omega
  rw [eE] at b2 b3
  have hC : ∀ a b, ¬ ((a = X.q + 1 ∨ a = X.q + 2 ∨ a = X.q + 3) ∧ k ≤ b ∧ b < X.E (k + 1)) → σ' a b = σ a b := fun a b hab => by
    rw [a3 a b (by omega)]
    by_cases e1 : a = X.q + 2
    · rw [sc_upJ (by omega), sc_upK (by omega)]
    · by_cases e2 : a = X.q + 3
      · rw [sc_upK (by omega), sc_upJ (by omega)]
      · rw [sc_upK (by omega), sc_upK (by omega)]
  have hM : ∀ a b, ¬ ((a = 24 ∨ a = 25) ∧ k ≤ b ∧ b < X.E (k + 1)) → τ' a b = τ a b := fun a b hab => by
    rw [b3 a b (by omega)]
    by_cases e1 : a = 24
    · rw [sc_upJ (by omega), sc_upK (by omega)]
    · by_cases e2 : a = 25
      · rw [sc_upK (by omega), sc_upJ (by omega)]
      · rw [sc_upK (by omega), sc_upK (by omega)]
  refine ⟨σ', τ', ?_, ?_, h.light (fun a b hab => hC a b (by simp [sc_LC] at hab; omega)) (fun a b hab => hM a b (by simp [sc_LM] at hab; omega)), hC, hM, fun j x y => ⟨(a2 j x y).1, (a2 j x y).2, b2 j x y⟩, ?_, ?_, ?_, ?_, ?_, ?_⟩
  · unfold dX9_open
    rw [h.cy.has hk]
    simp only [Option.bind_some]
    rw [if_pos (show ¬ (1 : Int32) = 0 by decide), if_pos (h.cy.nin hk), h.cy.ncl hk, hop, sc_narI1]
    simp only [h.cy.nin hk, if_true]
    rw [W1.cy.snd q1]
    simp only [Option.bind_some]
    unfold dX9_restart
    rw [nI_1, if_neg (nI_pos (by omega))]
    simp only [a1, Option.bind_some]
  · unfold dX12_opensFor
    simp only [h.cy.nin hk, if_true, h.cy.ncl hk]
    have e17 : sf_up (sf_up τ 25 k v) 24 k 1 17 k = nI (k + 1) := by
      rw [sc_upK (by omega), sc_upK (by omega), r7, sc_qs, if_pos hL]
    rw [e17, if_pos (h.cy.nin q1), h.cy.ncl q1, show sf_up (sf_up τ 25 k v) 24 k 1 15 (k + 1) = nI (X.E (k + 1) - (k + 1)) from (W1.cy.r5 (k + 1) q1).1]
    unfold dX12_begins
    rw [b1]
    rfl
  · rw [a3 _ _ (by omega), sc_upK (by omega), sc_upK (by omega)]
  · rw [a3 _ _ (by omega), sc_upS]
  · rw [b3 _ _ (by omega), sc_upS]
  · rw [a3 _ _ (by omega), sc_upK (by omega), sc_upS]
  · rw [b3 _ _ (by omega), sc_upK (by omega), sc_upS]
  · rw [a3 _ _ (by omega), sc_upK (by omega), sc_upK (by omega)]
/-! the reference's machine of way 0 -/
theorem sc_c8 : (100000000 : Int32) = nI 100000000 := by decide +kernel
theorem sc_gx (N : Nat) (x y t : Int32) (τ : sf_S) : dX12_asks_11 N x 0 t τ = dX12_asks_11 N y 0 t τ := by
  cases N with
  | zero => rfl
  | succ N =>
    unfold dX12_asks_11
    rw [if_pos (show (0 : Int32) = 0 from rfl), if_pos (show (0 : Int32) = 0 from rfl)]
theorem sc_dn {N k a h t : Nat} {τ τ1 : sf_S} (ht : t < 100000000) (e : dX12_asksNext (nI k) τ = some (nI a, τ1)) (ha : a < 40) (h48 : τ1 0 48 = nI h) (hh : h < 41) (hfl : τ1 0 35 = 0) :
    dX12_asks_11 (N + 1) (nI k) 1 (nI t) τ = dX12_asks_11 N (nI a) 1 (nI (t + 1)) (sf_up (sf_up τ1 29 h (nI k)) 0 48 (nI (h + 1))) := by
  have hm : ¬ nI a = -1 := fun q => by
    have e := congrArg Int32.toInt q
    rw [nI_toInt (by omega), show (-1 : Int32).toInt = -1 from by decide] at e
    omega
  conv => lhs; unfold dX12_asks_11
  rw [sc_c8, if_neg (nI_ge ht (by omega)), if_neg (show ¬ (1 : Int32) = 0 by decide), e]
  simp only [Option.bind_some]
  rw [if_neg hm, h48, if_pos (sc_inI hh (by omega)), sc_cl (by omega), sc_upK (by omega), h48, nI_1]
  unfold dX12_asks_109 dX12_asks_129
  rw [if_pos (by rw [sc_upJ (by omega), sc_upK (by omega)]; exact hfl), if_neg hm, if_neg (show ¬ (1 : Int32) = 0 by decide), nI_1]
theorem sc_dnE {N k t : Nat} {τ τ1 : sf_S} (ht : t < 100000000) (e : dX12_asksNext (nI k) τ = some (-1, τ1)) :
    dX12_asks_11 (N + 1) (nI k) 1 (nI t) τ = if τ1 0 35 = 0 then dX12_asks_11 N (nI k) 0 (nI (t + 1)) τ1 else some (0, τ1) := by
  conv => lhs; unfold dX12_asks_11
  rw [sc_c8, if_neg (nI_ge ht (by omega)), if_neg (show ¬ (1 : Int32) = 0 by decide), e]
  simp only [Option.bind_some, if_true]
  unfold dX12_asks_109 dX12_asks_129
  rw [if_pos (show (-1 : Int32) = -1 from rfl), if_pos (show (0 : Int32) = 0 from rfl), nI_1]
theorem sc_same48 (τ : sf_S) (v : Int32) (h : τ 0 48 = v) : sf_up τ 0 48 v = τ := funext fun a => funext fun b => by
  simp only [sf_up]
  split
  · next q => rw [q.1, q.2]; exact h.symm
  · rfl
theorem sc_upA {N k a h t : Nat} {x : Int32} {τ τ1 : sf_S} (ht : t < 100000000) (h48 : τ 0 48 = nI (h + 1)) (hh : h < 41) (hp : τ 29 h = nI k) (e : dX12_hears (nI k) τ = some (nI a, τ1)) (ha : a < 40) (h48' : τ1 0 48 = nI (h + 1)) (hfl : τ1 0 35 = 0) :
    dX12_asks_11 (N + 1) x 0 (nI t) τ = dX12_asks_11 N (nI a) 1 (nI (t + 1)) τ1 := by
  have hm : ¬ nI a = -1 := fun q => by
    have e := congrArg Int32.toInt q
    rw [nI_toInt (by omega), show (-1 : Int32).toInt = -1 from by decide] at e
    omega
  conv => lhs; unfold dX12_asks_11
  rw [sc_c8, if_neg (nI_ge ht (by omega)), if_pos (show (0 : Int32) = 0 from rfl), h48, if_pos (nI_ne0 (by omega) (by omega)), nI_pred, if_pos (sc_inI hh (by omega)), sc_cl (by omega), hp]
  simp only [e, Option.bind_some, not_true_eq_false, if_false]
  rw [if_pos hm, h48', show nI (h + 1) - 0 = nI (h + 1) by simp, sc_same48 _ _ h48']
  unfold dX12_asks_109 dX12_asks_129
  rw [if_pos hfl, if_neg hm, if_neg (show ¬ (1 : Int32) = 0 by decide), nI_1]
theorem sc_upE {N k h t : Nat} {x : Int32} {τ τ1 : sf_S} (ht : t < 100000000) (h48 : τ 0 48 = nI (h + 1)) (hh : h < 41) (hp : τ 29 h = nI k) (e : dX12_hears (nI k) τ = some (-1, τ1)) (h48' : τ1 0 48 = nI (h + 1)) :
    dX12_asks_11 (N + 1) x 0 (nI t) τ = if τ1 0 35 = 0 then dX12_asks_11 N (nI k) 0 (nI (t + 1)) (sf_up τ1 0 48 (nI h)) else some (0, sf_up τ1 0 48 (nI h)) := by
  conv => lhs; unfold dX12_asks_11
  rw [sc_c8, if_neg (nI_ge ht (by omega)), if_pos (show (0 : Int32) = 0 from rfl), h48, if_pos (nI_ne0 (by omega) (by omega)), nI_pred, if_pos (sc_inI hh (by omega)), sc_cl (by omega), hp]
  simp only [e, Option.bind_some, not_true_eq_false, if_false]
  rw [h48', nI_pred]
  unfold dX12_asks_109 dX12_asks_129
  rw [if_pos (show (-1 : Int32) = -1 from rfl), if_pos (show (0 : Int32) = 0 from rfl), nI_1, sc_upJ (by omega)]
def sc_Go (k : Nat) (τ0 : sf_S) (c : Nat) (x d : Int32) (τ : sf_S) : Prop := ∀ N t, t + c ≤ 100000000 → dX12_asks_11 (N + c) (nI k) 1 (nI t) τ0 = dX12_asks_11 N x d (nI (t + c)) τ
def sc_GoF (k : Nat) (τ0 : sf_S) (c : Nat) (τ : sf_S) : Prop := ∀ N t, t + c ≤ 100000000 → dX12_asks_11 (N + c) (nI k) 1 (nI t) τ0 = some (0, τ)
theorem sc_Go.nil {k : Nat} {τ : sf_S} : sc_Go k τ 0 (nI k) 1 τ := fun N t _ => rfl
theorem sc_Go.step {k c : Nat} {x d x' d' : Int32} {τ0 τ τ' : sf_S} (h : sc_Go k τ0 c x d τ) (hs : ∀ N t, t < 100000000 → dX12_asks_11 (N + 1) x d (nI t) τ = dX12_asks_11 N x' d' (nI (t + 1)) τ') : sc_Go k τ0 (c + 1) x' d' τ' := fun N t ht => by
  rw [show N + (c + 1) = (N + 1) + c by omega, h (N + 1) t (by omega), hs N (t + c) (by omega)]; rfl
theorem sc_Go.stepF {k c : Nat} {x d : Int32} {τ0 τ τ' : sf_S} (h : sc_Go k τ0 c x d τ) (hs : ∀ N t, t < 100000000 → dX12_asks_11 (N + 1) x d (nI t) τ = some (0, τ')) : sc_GoF k τ0 (c + 1) τ' := fun N t ht => by
  rw [show N + (c + 1) = (N + 1) + c by omega, h (N + 1) t (by omega), hs N (t + c) (by omega)]
theorem sc_Go.run {k a c cc : Nat} {x d : Int32} {τ0 τ τ' : sf_S} (h : sc_Go k τ0 c (nI a) 1 τ) (h2 : sc_Go a τ cc x d τ') : sc_Go k τ0 (c + cc) x d τ' := fun N t ht => by
  rw [show N + (c + cc) = (N + cc) + c by omega, h (N + cc) t (by omega), h2 N (t + c) (by omega), Nat.add_assoc]
theorem sc_Go.runF {k a c cc : Nat} {τ0 τ τ' : sf_S} (h : sc_Go k τ0 c (nI a) 1 τ) (h2 : sc_GoF a τ cc τ') : sc_GoF k τ0 (c + cc) τ' := fun N t ht => by
  rw [show N + (c + cc) = (N + cc) + c by omega, h (N + cc) t (by omega), h2 N (t + c) (by omega)]
theorem sc_Go.any {k c : Nat} {x y : Int32} {τ0 τ : sf_S} (h : sc_Go k τ0 c x 0 τ) : sc_Go k τ0 c y 0 τ := fun N t ht => by
  rw [h N t ht, sc_gx N x y]
