/-! way 0: the run -/
theorem sc_W.give {X : sc_X} {D np g : Nat} {σ τ : sf_S} (h : sc_W X D np g σ τ) (hg : g < 40) {v : Int32} (hv : v = τ 0 46) : ∃ σ' τ', dX6_give (sf_rn X.q) v σ = some σ' ∧ τ' = sf_up (sf_up τ 26 g (τ 0 46)) 0 41 (nI (g + 1)) ∧ sc_W X D np (g + 1) σ' τ' ∧ sc_fr (sc_RC X.q) σ σ' ∧ sc_fr sc_RM τ τ' ∧ sc_Out X 0 0 σ τ σ' τ' ∧ σ' (sf_rn X.q) 5 = σ (sf_rn X.q) 5 ∧ σ' (sf_rn X.q) 3 = σ (sf_rn X.q) 3 := by
  obtain ⟨k1, k2, k3, k4, k5, k6⟩ := h.cy.ok
  refine ⟨sf_up (sf_up σ (sf_rn X.q + 1) g v) (sf_rn X.q) 1 (nI (g + 1)), _, ?_, rfl, ?_, ?_, ?_, ?_, ?_, ?_⟩
  · unfold dX6_give
    rw [h.cg, if_pos (show nI g < 40 from nI_lt (b := 40) hg (by decide))]
    simp only [sc_inI hg (by omega), if_true, sc_cl (show g < 2 ^ 31 by omega)]
    rw [sc_upK (by omega), h.cg, nI_1]
  · refine ⟨h.cy.kept (sc_fr_tr (sc_fr_up (by simp [sc_RC])) (sc_fr_up (by simp [sc_RC]))) (sc_fr_tr (sc_fr_up (by simp [sc_RM])) (sc_fr_up (by simp [sc_RM]))), h.D5, h.np4, by omega, ?_, ?_, ?_, ?_, ?_, ?_, ?_, ?_, fun j hj => ?_, ?_, ?_, fun j hj hp => ?_⟩
    · rw [sc_upJ (by omega), sc_upK (by omega)]; exact h.cD
    · rw [sc_upJ (by omega), sc_upK (by omega)]; exact h.rD
    · rw [sc_upJ (by omega), sc_upK (by omega), sc_upJ (by omega), sc_upK (by omega)]; exact h.wk
    · rw [sc_upJ (by omega), sc_upK (by omega), sc_upJ (by omega), sc_upK (by omega)]; exact h.el
    · rw [sc_upJ (by omega), sc_upK (by omega), sc_upJ (by omega), sc_upK (by omega)]; exact h.fl
    · rw [sc_upJ (by omega), sc_upK (by omega), sc_upJ (by omega), sc_upK (by omega)]; exact h.fd
    · rw [sc_upS]
    · rw [sc_upS]
    · rw [sc_upK (σ := sf_up σ (sf_rn X.q + 1) g v) (by omega), sc_upK (σ := sf_up τ 26 g (τ 0 46)) (by decide)]
      by_cases q : j = g
      · rw [q, sc_upS, sc_upS, hv]
      · rw [sc_upJ q, sc_upJ q]; exact h.re j (by omega)
    · rw [sc_upJ (by omega), sc_upK (by omega)]; exact h.cp
    · rw [sc_upJ (by omega), sc_upK (by omega)]; exact h.rp
    · rw [sc_upK (by omega), sc_upK (by omega), sc_upK (by omega), sc_upK (by omega), sc_upK (by omega), sc_upK (by omega), sc_upK (by omega), sc_upK (by omega)]; exact h.nt j hj hp
  · exact sc_fr_tr (sc_fr_up (by simp [sc_RC])) (sc_fr_up (by simp [sc_RC]))
  · exact sc_fr_tr (sc_fr_up (by simp [sc_RM])) (sc_fr_up (by simp [sc_RM]))
  · exact fun b _ => ⟨by rw [sc_upK (by omega), sc_upK (by omega)], by rw [sc_upK (by omega), sc_upK (by omega)], by rw [sc_upK (by omega), sc_upK (by omega)], by rw [sc_upK (by omega), sc_upK (by omega)], by rw [sc_upK (by omega), sc_upK (by omega)], by rw [sc_upK (by omega), sc_upK (by omega)]⟩
  · rw [sc_upJ (by omega), sc_upK (by omega)]
  · rw [sc_upJ (by omega), sc_upK (by omega)]
def sc_rs (τ : sf_S) : sf_S := sf_up (sf_up (sf_up (sf_up (sf_up (sf_up (sf_up τ 0 35 0) 0 36 0) 0 37 0) 0 38 0) 0 39 0) 0 41 0) 0 44 0
def sc_cs (b : Nat) (σ : sf_S) : sf_S := sf_up (sf_up (sf_up (sf_up (sf_up (sf_up (sf_up σ b 1 0) b 2 0) b 3 0) b 4 0) b 5 0) b 6 0) b 9 0
theorem sc_rs_0 (τ : sf_S) : sc_rs τ 0 35 = 0 ∧ sc_rs τ 0 36 = 0 ∧ sc_rs τ 0 37 = 0 ∧ sc_rs τ 0 38 = 0 ∧ sc_rs τ 0 39 = 0 ∧ sc_rs τ 0 41 = 0 ∧ sc_rs τ 0 44 = 0 := by
  simp [sc_rs, sf_up]
theorem sc_cs_0 (b : Nat) (σ : sf_S) : sc_cs b σ b 1 = 0 ∧ sc_cs b σ b 2 = 0 ∧ sc_cs b σ b 3 = 0 ∧ sc_cs b σ b 4 = 0 ∧ sc_cs b σ b 5 = 0 ∧ sc_cs b σ b 6 = 0 ∧ sc_cs b σ b 9 = 0 := by
  simp [sc_cs, sf_up]
theorem sc_rs_fr {τ : sf_S} : sc_fr (fun a b => decide (a = 0 ∧ 33 ≤ b ∧ b ≤ 50)) τ (sc_rs τ) := by
  unfold sc_rs
  exact sc_fr_tr (sc_fr_tr (sc_fr_tr (sc_fr_tr (sc_fr_tr (sc_fr_tr (sc_fr_up (by decide)) (sc_fr_up (by decide))) (sc_fr_up (by decide))) (sc_fr_up (by decide))) (sc_fr_up (by decide))) (sc_fr_up (by decide))) (sc_fr_up (by decide))
theorem sc_cs_fr {b : Nat} {σ : sf_S} : sc_fr (fun a _ => a == b) σ (sc_cs b σ) := by
  unfold sc_cs
  exact sc_fr_tr (sc_fr_tr (sc_fr_tr (sc_fr_tr (sc_fr_tr (sc_fr_tr (sc_fr_up (by simp)) (sc_fr_up (by simp))) (sc_fr_up (by simp))) (sc_fr_up (by simp))) (sc_fr_up (by simp))) (sc_fr_up (by simp))) (sc_fr_up (by simp))
theorem sc_W0 {X : sc_X} {σ τ : sf_S} (h : sc_Cy X σ τ) : sc_W X 0 0 0 (sc_cs (sf_rn X.q) σ) (sc_rs τ) := by
  obtain ⟨a1, a2, a3, a4, a5, a6, a7⟩ := sc_rs_0 τ
  obtain ⟨b1, b2, b3, b4, b5, b6, b7⟩ := sc_cs_0 (sf_rn X.q) σ
  have c1 : sc_cs (sf_rn X.q) σ (sf_rn X.q) 2 = nI 0 := by rw [b2]; rfl
  refine ⟨h.kept (sc_fr_wk sc_cs_fr (fun a b hab => by simp [sc_RC] at hab; simp; omega)) (sc_fr_wk sc_rs_fr (fun a b hab => by simp [sc_RM] at hab; simp; omega)), by omega, by omega, by omega, c1, ?_, ?_, ?_, ?_, ?_, ?_, ?_, fun j hj => by omega, ?_, ?_, fun j _ hj => by omega⟩
  · rw [a3]; rfl
  · rw [b3, a4]
  · rw [b4, a5]
  · rw [b5, a1]
  · rw [b6, a2]
  · rw [b1]; rfl
  · rw [a6]; rfl
  · rw [b7]; rfl
  · rw [a7]; rfl
/-- what the reference begins with -/
theorem sc_begR {X : sc_X} {τ σ : sf_S} (h : sc_Cy X σ τ) : ∃ τ', dX12_begins 0 (nI X.n) τ = some τ' ∧ (∀ j, j < X.n → τ' 24 j = sc_k0 (X.L j) (X.f j)) ∧ (∀ a b, ¬ (a = 24 ∧ b < X.n) → τ' a b = τ a b) := by
  have hn4 := h.n40
  have hF := sf_F_le
  obtain ⟨τ', b1, b2, b3⟩ := sc_bgn (X := X) (lo := 0) (sz := X.n) (by omega) X.n 0 sf_F τ (by omega) (by omega) (fun j x y => by
    have := h.r1 j (by omega)
    exact ⟨this.1, this.2.2.1⟩)
  exact ⟨τ', b1, fun j hj => b2 j (by omega) (by omega), fun a b hab => b3 a b (by omega)⟩
theorem sc_begC {X : sc_X} {σ : sf_S} (ok : sc_qok X.q) (hn : X.n ≤ 40) (h : σ (sf_pl X.q) 4 = nI X.n) : ∃ σ', dX9_restart X.q 0 (nI X.n) σ = some σ' ∧ (∀ j, j < X.n → σ' (X.q + 1) j = 0 ∧ σ' (X.q + 2) j = 0) ∧ (∀ a b, ¬ ((a = X.q + 1 ∨ a = X.q + 2) ∧ b < X.n) → σ' a b = σ a b) := by
  obtain ⟨k1, k2, k3, k4, k5, k6⟩ := ok
  have hF := sf_F_le
  obtain ⟨σ', a1, a2, a3⟩ := sc_rst (q := X.q) (hi := X.n) hn (Nat.le_refl _) (by omega) X.n 0 sf_F σ (by omega) (by omega) h
  refine ⟨σ', ?_, fun j hj => a2 j (by omega) hj, fun a b hab => a3 a b (by omega)⟩
  unfold dX9_restart
  rw [if_neg (show ¬ (0 : Int32) < 0 by decide)]
  exact a1
theorem sc_start {X : sc_X} {σ τ : sf_S} (h : sc_Cy X σ τ) : ∃ σ' τ', (dX6_begin (sf_rn X.q) σ).bind (fun u => dX9_restart X.q 0 (u (sf_pl X.q) 4) u) = some σ' ∧ dX12_begins 0 (sc_rs τ 0 21) (sc_rs τ) = some τ' ∧ sc_W X 0 0 0 σ' τ' ∧ sc_fr (sc_RC X.q) σ σ' ∧ sc_fr sc_RM τ τ' ∧ sc_Bg X 0 X.n σ' τ' ∧ σ' (sf_rn X.q) 5 = 0 := by
  obtain ⟨k1, k2, k3, k4, k5, k6⟩ := h.ok
  have W := sc_W0 h
  obtain ⟨σ', a1, a2, a3⟩ := sc_begC h.ok h.n40 W.cy.c4
  obtain ⟨τ', b1, b2, b3⟩ := sc_begR W.cy
  have F1 : sc_fr (sc_LC X.q) (sc_cs (sf_rn X.q) σ) σ' := fun a b hab => a3 a b (fun q => by simp [sc_LC] at hab; omega)
  have F2 : sc_fr sc_LM (sc_rs τ) τ' := fun a b hab => b3 a b (fun q => by simp [sc_LM] at hab; omega)
  refine ⟨σ', τ', ?_, ?_, W.light F1 F2, sc_fr_tr (sc_fr_wk sc_cs_fr (fun a b hab => by simp [sc_RC] at hab; simp; omega)) (sc_LC_RC F1), sc_fr_tr (sc_fr_wk sc_rs_fr (fun a b hab => by simp [sc_RM] at hab; simp; omega)) (sc_LM_RM F2), fun j _ hj => ⟨(a2 j hj).1, (a2 j hj).2, b2 j hj⟩, ?_⟩
  · unfold dX6_begin
    simp only [Option.bind_some]
    rw [show sf_up (sf_up (sf_up (sf_up (sf_up (sf_up (sf_up σ (sf_rn X.q) 1 0) (sf_rn X.q) 2 0) (sf_rn X.q) 3 0) (sf_rn X.q) 4 0) (sf_rn X.q) 5 0) (sf_rn X.q) 6 0) (sf_rn X.q) 9 0 = sc_cs (sf_rn X.q) σ from rfl, W.cy.c4]
    exact a1
  · rw [W.cy.c21]; exact b1
  · rw [a3 _ _ (by omega)]; exact (sc_cs_0 (sf_rn X.q) σ).2.2.2.2.1
theorem sc_asks0 {X : sc_X} {D np g : Nat} {σ τ : sf_S} (hop : sf_op X.q = X.q + 3) (w : sc_W X D np g σ τ) (hv : sc_Lv X sc_N0 D σ τ 0) (hfl : σ (sf_rn X.q) 5 = 0) : ∃ r σ' τ' e np', dX0_ask_R 42 X.q 0 0 σ = some (sc_b r, σ') ∧ dX12_asks τ = some (sc_b r, τ') ∧ sc_W X (D + e) np' g σ' τ' ∧ sc_fr (sc_RC X.q) σ σ' ∧ sc_fr sc_RM τ τ' ∧
    (r = true → σ' (sf_rn X.q) 5 = 0 ∧ sc_Lv X sc_N0 (D + e) σ' τ' 0 ∧ σ' X.q (sf_vl X.q) = τ' 0 46) := by
  have n0 := w.cy.n0
  have hn4 := w.cy.n40
  have hF := sf_F_le
  have w1 : sc_W X D np g σ (sf_up τ 0 48 0) := w.light sc_fr_rf (sc_fr_up (by simp [sc_LM]))
  have lv1 := hv.same (σ' := σ) (τ' := sf_up τ 0 48 0) w.cy n0 (fun b hb => ⟨rfl, rfl, sc_upK (by decide), rfl, sc_upK (by decide), rfl⟩)
  obtain ⟨r, σ', τ', e, np', c, q1, q2, q3, q4, q5, q6, q7, q8, q9⟩ := sc_ask0 hop X.n 0 (by omega) n0 42 0 0 D np g σ (sf_up τ 0 48 0) (by omega) (by omega) (by omega) w1 lv1 hfl sc_upS
  have hD5 := q2.D5
  have hE := (w.cy.T.lt n0).2
  have hm : (X.E 0 - 0) * e ≤ 40 * 500 := Nat.mul_le_mul (by omega) (by omega)
  refine ⟨r, σ', τ', e, np', q1, ?_, q2, q4, sc_fr_tr (sc_fr_up (by simp [sc_RM])) q5, fun q => ?_⟩
  · unfold dX12_asks
    rcases q9 with ⟨b1, b2, b3, b4, b5⟩ | ⟨rfl, b2, b3⟩
    · have e1 := b4 (sf_F - c) 0 (by omega)
      rw [show sf_F - c + c = sf_F by omega] at e1
      show dX12_asks_11 sf_F (nI 0) 1 (nI 0) (sf_up τ 0 48 0) = _
      rw [e1]
      obtain ⟨N, hN⟩ : ∃ N, sf_F - c = N + 1 := ⟨sf_F - c - 1, by omega⟩
      rw [hN]
      unfold dX12_asks_11
      rw [sc_c8, if_neg (nI_ge (by omega) (by omega)), if_pos (show (0 : Int32) = 0 from rfl), b3, if_neg (show ¬ ¬ nI 0 = 0 by decide)]
      simp only [b2]
      rw [if_pos (sc_b01 r)]
    · have e1 := b3 (sf_F - c) 0 (by omega)
      rw [show sf_F - c + c = sf_F by omega] at e1
      exact e1
  · rcases q9 with ⟨b1, b2, b3, b4, b5⟩ | ⟨b1, -, -⟩
    · exact ⟨b1, (b5 q).2.1, (b5 q).2.2⟩
    · rw [q] at b1; exact absurd b1 (by decide)
