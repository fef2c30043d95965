/-! the first turn, a turn back, a turn on -/
def sc_w1 (X : sc_X) (σ : sf_S) : sf_S := sf_up σ (sf_rn X.q) 3 (σ (sf_rn X.q) 3 + 1)
def sc_w2 (τ : sf_S) : sf_S := sf_up τ 0 38 (τ 0 38 + 1)
theorem sc_W.work {X : sc_X} {D np g : Nat} {σ τ : sf_S} (h : sc_W X D np g σ τ) : sc_W X D np g (sc_w1 X σ) (sc_w2 τ) := by
  obtain ⟨k1, k2, k3, k4, k5, k6⟩ := h.cy.ok
  unfold sc_w1 sc_w2
  refine ⟨h.cy.kept (sc_fr_up (by simp [sc_RC])) (sc_fr_up (by simp [sc_RM])), h.D5, h.np4, h.g40, ?_, ?_, ?_, ?_, ?_, ?_, ?_, ?_, fun j hj => ?_, ?_, ?_, fun j hj hp => ?_⟩
  · rw [sc_upJ (by omega)]; exact h.cD
  · rw [sc_upJ (by omega)]; exact h.rD
  · rw [sc_upS, sc_upS, h.wk]
  · rw [sc_upJ (by omega), sc_upJ (by omega)]; exact h.el
  · rw [sc_upJ (by omega), sc_upJ (by omega)]; exact h.fl
  · rw [sc_upJ (by omega), sc_upJ (by omega)]; exact h.fd
  · rw [sc_upJ (by omega)]; exact h.cg
  · rw [sc_upJ (by omega)]; exact h.rg
  · rw [sc_upK (by omega), sc_upK (by omega)]; exact h.re j hj
  · rw [sc_upJ (by omega)]; exact h.cp
  · rw [sc_upJ (by omega)]; exact h.rp
  · rw [sc_upK (by omega), sc_upK (by omega), sc_upK (by omega), sc_upK (by omega)]; exact h.nt j hj hp
theorem sc_w_Out {X : sc_X} {σ τ : sf_S} {lo hi : Nat} (ok : sc_qok X.q) : sc_Out X lo hi σ τ (sc_w1 X σ) (sc_w2 τ) := by
  obtain ⟨k1, k2, k3, k4, k5, k6⟩ := ok
  unfold sc_w1 sc_w2
  exact fun b _ => ⟨sc_upK (by omega), sc_upK (by omega), sc_upK (by omega), sc_upK (by omega), sc_upK (by omega), sc_upK (by omega)⟩
theorem sc_dwn {X : sc_X} {D np g k h a : Nat} {σ τ τ1 : sf_S} (w : sc_W X D np g σ τ) (hk : k < X.n) (hfl : σ (sf_rn X.q) 5 = 0) (h48 : τ 0 48 = nI h) (hh : h ≤ k) (ha : a < 40) (hf : sc_fr (sc_oM X k) (sc_w2 τ) τ1) (e : dX12_asksNext (nI k) τ = some (nI a, τ1)) :
    sc_Mid X k h D np g 0 σ τ (sc_w1 X σ) (sf_up (sf_up τ1 29 h (nI k)) 0 48 (nI (h + 1))) ∧ sc_Go k τ 1 (nI a) 1 (sf_up (sf_up τ1 29 h (nI k)) 0 48 (nI (h + 1))) := by
  obtain ⟨k1, k2, k3, k4, k5, k6⟩ := w.cy.ok
  have hn4 := w.cy.n40
  have w' := w.work.light (σ' := sc_w1 X σ) sc_fr_rf (sc_oM_L hf)
  have g48 : τ1 0 48 = nI h := by rw [hf _ _ (by simp [sc_oM]), sc_w2, sc_upJ (by omega)]; exact h48
  have g35 : τ1 0 35 = 0 := by rw [← w'.fl, sc_w1, sc_upJ (by omega)]; exact hfl
  refine ⟨⟨⟨np, w'.light sc_fr_rf (sc_fr_tr (sc_fr_up (by simp [sc_LM])) (sc_fr_up (by simp [sc_LM]))), by omega⟩, sc_fr_up (by simp [sc_RC]), ?_, ?_, fun j hj => ?_, ?_, ?_, ?_⟩, ?_⟩
  · exact sc_fr_tr (sc_fr_tr (sc_fr_up (by simp [sc_RM])) (sc_LM_RM (sc_oM_L hf))) (sc_fr_tr (sc_fr_up (by simp [sc_RM])) (sc_fr_up (by simp [sc_RM])))
  · refine (sc_w_Out w.cy.ok).tr (lo' := k) (hi' := X.E k) (fun b hb => ?_) (Nat.le_refl _) (Nat.le_refl _)
    have := sc_k_Out (X := X) (k := k) (σ := sc_w1 X σ) (σ' := sc_w1 X σ) sc_fr_rf hf b hb
    obtain ⟨a1, a2, a3, a4, a5, a6⟩ := this
    refine ⟨a1, a2, ?_, a4, ?_, a6⟩
    · rw [sc_upK (by omega), sc_upK (by omega)]; exact a3
    · rw [sc_upK (by omega), sc_upK (by omega)]; exact a5
  · rw [sc_upK (by omega), sc_upJ (by omega), hf _ _ (by simp [sc_oM]), sc_w2, sc_upK (by omega)]
  · rw [sc_w1, sc_upJ (by omega)]; exact hfl
  · rw [sc_upS]
  · rw [sc_upK (by omega), sc_upS]
  · exact fun N t ht => sc_dn (by omega) e ha g48 (by omega) g35
theorem sc_Lv.f0 {X : sc_X} {D D' a lo hi : Nat} {σ τ σ' τ' σc τc : sf_S} (h : sc_Lv X sc_N0 D σ τ a) (hC : sc_Cy X σc τc) (ha : a < X.n) (hD : D ≤ D') (ho : sc_Out X lo hi σ τ σ' τ') (hcl : ∀ x, lo ≤ x → x < hi → X.L x = 120 → X.E (x + 1) ≤ hi) (hd : X.E a ≤ lo ∨ hi ≤ a) : sc_Lv X sc_N0 D' σ' τ' a :=
  sc_Lv.far (N := sc_N0) (fun a b c => sc_N0_m a b c) hC ha h hD ho hcl hd
theorem sc_Lv.same {X : sc_X} {D a : Nat} {σ τ σ' τ' σc τc : sf_S} (h : sc_Lv X sc_N0 D σ τ a) (hC : sc_Cy X σc τc) (ha : a < X.n) (ho : sc_Out X 0 0 σ τ σ' τ') : sc_Lv X sc_N0 D σ' τ' a :=
  h.f0 hC ha (Nat.le_refl _) ho (fun x _ hx => absurd hx (Nat.not_lt_zero x)) (Or.inr (Nat.zero_le _))
theorem sc_ret {X : sc_X} {k h D np g e c : Nat} {σ0 τ0 σ τ σ1 τ1 : sf_S} {r : Bool} (hk : k < X.n) (hh : h ≤ k) (hM : sc_Mid X k h D np g e σ0 τ0 σ τ) (hgo : sc_Go k τ0 c (nI k) 0 τ) (hr : dX12_hears (nI k) τ = some (-1, τ1)) (f1 : sc_fr (sc_oC X k) σ σ1) (f2 : sc_fr (sc_oM X k) τ τ1) (h45 : τ1 0 45 = sc_b r)
    (hc : c + 1 + 1 ≤ 2 * (X.E k - k) + 80 * ((X.E k - k) * e)) (hL : r = true → 1 ≤ e ∧ sc_Lv X sc_N0 (D + e) σ1 τ1 k ∧ σ1 X.q (sf_vl X.q) = τ1 0 46) : sc_Po X k h D np g σ0 τ0 (some (sc_b r, σ1)) := by
  have hM1 := hM.light f1 f2
  obtain ⟨⟨np', w, hn⟩, m2, m3, m4, m5, m6, m7, m8⟩ := hM1
  obtain ⟨-, -, -, -, -, -, l7, l8⟩ := hM
  have hn4 := w.cy.n40
  have hle : (X.E k - (k + 1)) * e ≤ (X.E k - k) * e := Nat.mul_le_mul_right _ (by omega)
  refine ⟨r, σ1, sf_up τ1 0 48 (nI h), e, np', c + 1, rfl, w.light sc_fr_rf (sc_fr_up (by simp [sc_LM])), by omega, m2, sc_fr_tr m3 (sc_fr_up (by simp [sc_RM])), ?_, fun j hj => ?_, hc, Or.inl ⟨m6, ?_, ?_, ?_, fun q => ?_⟩⟩
  · refine m4.tr (lo' := k) (hi' := X.E k) (fun b hb => ⟨rfl, rfl, sc_upK (by omega), rfl, sc_upK (by omega), rfl⟩) (Nat.le_refl _) (Nat.le_refl _)
  · rw [sc_upK (by omega)]; exact m5 j hj
  · rw [sc_upJ (by omega)]; exact h45
  · rw [sc_upS]
  · refine hgo.step (fun N t ht => ?_)
    rw [sc_upE ht l7 (by omega) l8 hr m7, if_pos (by rw [← w.fl]; exact m6)]
  · obtain ⟨q1, q2, q3⟩ := hL q
    refine ⟨q1, q2.same w.cy hk (fun b hb => ⟨rfl, rfl, sc_upK (by decide), rfl, sc_upK (by decide), rfl⟩), ?_⟩
    rw [sc_upJ (by omega)]; exact q3
theorem sc_more {X : sc_X} {k h a D np g e c : Nat} {σ0 τ0 σ τ σ1 τ1 : sf_S} (hk : k < X.n) (hh : h ≤ k) (hM : sc_Mid X k h D np g e σ0 τ0 σ τ) (hgo : sc_Go k τ0 c (nI k) 0 τ) (ha : a < 40) (hr : dX12_hears (nI k) τ = some (nI a, τ1)) (f1 : sc_fr (sc_oC X k) σ σ1) (f2 : sc_fr (sc_oM X k) τ τ1) :
    sc_Mid X k h D np g e σ0 τ0 σ1 τ1 ∧ sc_Go k τ0 (c + 1) (nI a) 1 τ1 := by
  have hM1 := hM.light f1 f2
  refine ⟨hM1, ?_⟩
  obtain ⟨⟨np', w, hn⟩, m2, m3, m4, m5, m6, m7, m8⟩ := hM1
  obtain ⟨-, -, -, -, -, -, l7, l8⟩ := hM
  have hn4 := w.cy.n40
  refine hgo.step (fun N t ht => ?_)
  rw [sc_upA ht l7 (by omega) l8 hr ha m7 (by rw [← w.fl]; exact m6)]
/-- what the reference asks first -/
theorem sc_nx {X : sc_X} {k : Nat} {σ τ : sf_S} (h : sc_Cy X σ τ) (hk : k < X.n) (hp : 1 ≤ sc_p (X.L k)) (h1 : X.L k = 116 → ¬ τ 24 k = X.f k) (h2 : X.L k = 119 → ¬ τ 24 k = 1) (h3 : X.L k ≠ 122) (h4 : X.L k = 99 ∨ X.L k = 120 → ¬ τ 24 k = 1) :
    dX12_asksNext (nI k) τ = some (nI (sc_ps X.L X.E k), sc_w2 τ) := by
  obtain ⟨r1, r2, r3, r4⟩ := h.r1 k hk
  obtain ⟨r5, r6, r7, r8, r9⟩ := h.r5 k hk
  have hp4 := sc_p_le (X.L k)
  unfold dX12_asksNext sc_w2
  simp only [h.nin hk, if_true, h.ncl hk]
  have e1 : ∀ a b v, a ≠ 0 → sf_up τ 0 38 v a b = τ a b := fun a b v q => sc_upK q
  rw [e1 11 _ _ (by decide), r1, sc_partsM, if_pos (h.vn k hk).1]
  simp only [Option.bind_some]
  rw [if_pos (nI_ne0 (by omega) (by omega))]
  have e88 : dX12_asksNext_75 (nI k) (X.L k) (sf_up τ 0 38 (τ 0 38 + 1)) = some (nI (sc_ps X.L X.E k), sf_up τ 0 38 (τ 0 38 + 1)) := by
    unfold dX12_asksNext_75
    rw [if_pos h3]
    unfold dX12_asksNext_88 dX12_asksNext_100
    simp only [h.nin hk, if_true, h.ncl hk]
    rw [e1 24 _ _ (by decide), e1 16 _ _ (by decide), r6]
    by_cases q : X.L k = 99
    · rw [if_pos q, if_pos (h4 (Or.inl q))]
    · rw [if_neg q]
      by_cases q2 : X.L k = 120
      · rw [if_neg (fun z => z q2), if_pos (h4 (Or.inr q2))]
      · rw [if_pos q2]
  have e52 : dX12_asksNext_52 (nI k) (X.L k) (sf_up τ 0 38 (τ 0 38 + 1)) = some (nI (sc_ps X.L X.E k), sf_up τ 0 38 (τ 0 38 + 1)) := by
    unfold dX12_asksNext_52
    by_cases q : X.L k = 119
    · rw [if_neg (fun z => z q)]
      simp only [h.nin hk, if_true, h.ncl hk]
      rw [e1 24 _ _ (by decide), if_pos (h2 q)]
      exact e88
    · rw [if_pos q]; exact e88
  by_cases q : X.L k = 116
  · rw [if_neg (fun z => z q)]
    rw [e1 24 _ _ (by decide), e1 13 _ _ (by decide), r3, if_neg (h1 q)]
    exact e52
  · rw [if_pos q]; exact e52
