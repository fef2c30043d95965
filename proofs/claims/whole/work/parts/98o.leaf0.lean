/-! way 0: a producer; a changer -/
theorem sc_nx0 {X : sc_X} {k : Nat} {σ τ τ' : sf_S} (h : sc_Cy X σ τ) (hk : k < X.n) (hp : sc_p (X.L k) = 0) (e : dX12_gives (nI k) (sc_w2 τ) = some τ') : dX12_asksNext (nI k) τ = some (-1, τ') := by
  obtain ⟨r1, r2, r3, r4⟩ := h.r1 k hk
  unfold dX12_asksNext
  simp only [h.nin hk, if_true, h.ncl hk]
  rw [show sf_up τ 0 38 (τ 0 38 + 1) = sc_w2 τ from rfl, show sc_w2 τ 11 k = X.L k by rw [sc_w2, sc_upK (by decide)]; exact r1, sc_partsM, if_pos (h.vn k hk).1]
  simp only [Option.bind_some]
  rw [hp, if_neg (show ¬ ¬ nI 0 = 0 by decide), e]
  rfl
theorem sc_pC_RC {X : sc_X} {k : Nat} {σ σ' : sf_S} (ok : sc_qok X.q) (h : sc_fr (sc_pCx X k) σ σ') : sc_fr (sc_RC X.q) σ σ' := by
  obtain ⟨k1, k2, k3, k4, k5, k6⟩ := ok
  exact sc_fr_wk h (fun a b hab => by simp [sc_RC] at hab; simp [sc_pCx]; omega)
theorem sc_pM_RM {k : Nat} {τ τ' : sf_S} (h : sc_fr (sc_pMx k) τ τ') : sc_fr sc_RM τ τ' := sc_fr_wk h (fun a b hab => by
  simp [sc_RM] at hab; simp [sc_pMx]; omega)
theorem sc_pv0 {c : Int32} (hp : sc_p c = 0) (e : Int32) (h : sc_p e ≠ 0) : ¬ c = e := fun q => h (by rw [← q]; exact hp)
theorem sc_leaf {X : sc_X} {D np g h k m lev : Nat} {σ τ : sf_S} (w : sc_W X D np g σ τ) (hop : sf_op X.q = X.q + 3) (hk : k < X.n) (hp : sc_p (X.L k) = 0) (hlev : lev ≤ 40) (hfl : σ (sf_rn X.q) 5 = 0) (h48 : τ 0 48 = nI h) (hv : sc_Lv X sc_N0 D σ τ k) : sc_Po X k h D np g σ τ (dX0_ask_R (m + 1) X.q (nI k) (nI lev) σ) := by
  obtain ⟨k1, k2, k3, k4, k5, k6⟩ := w.cy.ok
  obtain ⟨⟨u, hu, hus, hnp, -⟩, -, -⟩ := hv.inv
  obtain ⟨o1, o2, o3, o4, o5, o6⟩ := sc_w_Out (X := X) (σ := σ) (τ := τ) (lo := 0) (hi := 0) w.cy.ok k (by omega)
  obtain ⟨p1, p2, p3, p4, p5, p6⟩ := sc_w_Out (X := X) (σ := σ) (τ := τ) (lo := 0) (hi := 0) w.cy.ok (X.o k).toNatClampNeg (by omega)
  have hE := w.cy.T.p0 hk hp
  have P := sc_prod w.work hop hk hp (u := u) (by rw [o1]; exact hus) hu (by rw [sc_w1, sc_upJ (by omega)]; exact hfl) (by rw [o3, p4, p5]; exact hnp)
  rw [sc_askP w.cy hk hlev m hp]
  obtain ⟨r, σ', τ', dl, x1, y1, w', f1, f2, c⟩ := P
  have F1 := sc_pC_RC w.cy.ok f1
  have hO : sc_Out X k (X.E k) σ τ σ' τ' := fun b hb => by
    obtain ⟨a1, a2, a3, a4, a5, a6⟩ := sc_w_Out (X := X) (σ := σ) (τ := τ) (lo := 0) (hi := 0) w.cy.ok b (by omega)
    refine ⟨(f1 _ _ ?_).trans a1, (f1 _ _ ?_).trans a2, (f2 _ _ ?_).trans a3, (f1 _ _ ?_).trans a4, (f2 _ _ ?_).trans a5, (f1 _ _ ?_).trans a6⟩
    all_goals first | (simp [sc_pCx]; omega) | (simp [sc_pMx]; omega) | simp [sc_pMx]
  have h48' : τ' 0 48 = nI h := by rw [f2 _ _ (by simp [sc_pMx]), sc_w2, sc_upJ (by omega)]; exact h48
  have hb : 1 + 1 ≤ 2 * (X.E k - k) + 80 * ((X.E k - k) * dl) := by omega
  refine ⟨r, σ', τ', dl, np, 1, by rw [x1, sc_chk_b], w', by omega, sc_fr_tr (sc_fr_up (by simp [sc_RC])) F1, sc_fr_tr (sc_fr_up (by simp [sc_RM])) (sc_pM_RM f2), hO, fun j hj => ?_, hb, ?_⟩
  · rw [f2 _ _ (by simp [sc_pMx]), sc_w2, sc_upK (by omega)]
  · have e := sc_nx0 w.cy hk hp y1
    have st : ∀ N t, t < 100000000 → dX12_asks_11 (N + 1) (nI k) 1 (nI t) τ = if τ' 0 35 = 0 then dX12_asks_11 N (nI k) 0 (nI (t + 1)) τ' else some (0, τ') := fun N t ht => sc_dnE ht e
    have good : σ' (sf_rn X.q) 5 = 0 → sc_Go k τ 1 (nI k) 0 τ' := fun q => sc_Go.nil.step (fun N t ht => by rw [st N t ht, if_pos (by rw [← w'.fl]; exact q)])
    rcases c with ⟨rfl, d1, b1, b2, b3, b4, b5⟩ | ⟨rfl, d1, b1, b2, b3⟩ | ⟨rfl, d1, b1⟩
    · refine Or.inl ⟨b3, b5, h48', good b3, fun _ => ⟨by omega, sc_Lv.mk ?_ (fun q => by have := sc_a1_p q; omega) (fun q => by omega), b4⟩⟩
      unfold sc_Nat
      have hnx := sc_pv0 hp
      rw [f1 (X.q + 3) _ (by simp [sc_pCx]; omega), f2 25 _ (by simp [sc_pMx])]
      exact ⟨u + 1, by omega, b1, b2, fun q => absurd q (hnx _ (by decide +kernel)), fun q => absurd q (hnx _ (by decide +kernel)), fun q => absurd q (hnx _ (by decide +kernel)), fun q => q.elim (fun q => absurd q (hnx _ (by decide +kernel))) (fun q => absurd q (hnx _ (by decide +kernel)))⟩
    · exact Or.inl ⟨b1, b2, h48', good b1, fun q => absurd q (by decide)⟩
    · exact Or.inr ⟨rfl, b1, sc_Go.nil.stepF (fun N t ht => by rw [st N t ht, if_neg (by rw [← w'.fl]; exact b1)])⟩
theorem sc_dwO {X : sc_X} {σ τ : sf_S} {h : Nat} {a b : Int32} (ok : sc_qok X.q) : sc_Out X 0 0 σ τ (sc_w1 X σ) (sf_up (sf_up (sc_w2 τ) 29 h a) 0 48 b) := (sc_w_Out (lo := 0) (hi := 0) ok).tr (lo' := 0) (hi' := 0) (fun b hb => ⟨rfl, rfl, by rw [sc_upK (by decide), sc_upK (by decide)], rfl, by rw [sc_upK (by decide), sc_upK (by decide)], rfl⟩) (Nat.le_refl _) (Nat.le_refl _)
theorem sc_Nat.tr {X : sc_X} {D D' k lo hi : Nat} {σ τ σ' τ' : sf_S} (h : sc_Nat X sc_N0 D σ τ k) (hD : D ≤ D') (ho : sc_Out X lo hi σ τ σ' τ') (hk : ¬ (lo ≤ k ∧ k < hi)) (hu : 1 ≤ sc_p (X.L k)) : sc_Nat X sc_N0 D' σ' τ' k := by
  unfold sc_Nat at h ⊢
  obtain ⟨a1, a2, a3, a4, a5, a6⟩ := ho k hk
  rw [a1, a2, a3, a5, a6]
  refine sc_N0_m hD (fun q => ?_) h
  rcases q with q | q
  · rw [q] at hu; exact absurd hu (by decide +kernel)
  · rw [q] at hu; exact absurd hu (by decide +kernel)
theorem sc_c_Out {X : sc_X} {σ τ σ' τ' : sf_S} (ok : sc_qok X.q) (h1 : sc_fr (sc_cC X) σ σ') (h2 : sc_fr sc_cM τ τ') : sc_Out X 0 0 σ τ σ' τ' := by
  obtain ⟨k1, k2, k3, k4, k5, k6⟩ := ok
  refine fun b _ => ⟨h1 _ _ ?_, h1 _ _ ?_, h2 _ _ ?_, h1 _ _ ?_, h2 _ _ ?_, h1 _ _ ?_⟩
  all_goals first | (simp [sc_cC]; omega) | simp [sc_cM]
theorem sc_cC_RC {X : sc_X} {σ σ' : sf_S} (ok : sc_qok X.q) (h : sc_fr (sc_cC X) σ σ') : sc_fr (sc_RC X.q) σ σ' := by
  obtain ⟨k1, k2, k3, k4, k5, k6⟩ := ok
  exact sc_fr_wk h (fun a b hab => by simp [sc_RC] at hab; simp [sc_cC]; omega)
theorem sc_cM_RM {τ τ' : sf_S} (h : sc_fr sc_cM τ τ') : sc_fr sc_RM τ τ' := sc_fr_wk h (fun a b hab => by
  simp [sc_RM] at hab; simp [sc_cM]; omega)
