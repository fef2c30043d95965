/-- while and take asked -/
theorem sc_sam {σ : sf_S} {a b : Nat} {v : Int32} (h : σ a b = v) : sf_up σ a b v = σ := funext fun x => funext fun y => by
  simp only [sf_up]
  split
  · next q => rw [q.1, q.2]; exact h.symm
  · rfl
theorem sc_while {X : sc_X} {D np g h k m lev : Nat} {σ τ : sf_S} (hI : sc_IH X (k + 1)) (w : sc_W X D np g σ τ) (hk : k < X.n) (hL : X.L k = 119) (hm : 41 ≤ m + 1 + k) (hlev : lev ≤ k) (hh : h ≤ k) (hfl : σ (sf_rn X.q) 5 = 0) (h48 : τ 0 48 = nI h) (hv : sc_Lv X sc_N0 D σ τ k) : sc_Po X k h D np g σ τ (dX0_ask_R (m + 1) X.q (nI k) (nI lev) σ) := by
  obtain ⟨k1, k2, k3, k4, k5, k6⟩ := w.cy.ok
  have hn4 := w.cy.n40
  have hp : sc_p (X.L k) = 1 := by rw [hL]; decide +kernel
  have hz : ∀ c, c ≠ 119 → X.L k ≠ c := fun c q e => q (by rw [← e]; exact hL)
  obtain ⟨q1, q2⟩ := w.cy.T.p1 hk hp
  have q3 := (w.cy.T.lt q1).1
  have q4 := (w.cy.T.lt q1).2
  obtain ⟨hN, l1, -⟩ := hv.inv
  obtain ⟨u, u1, u2, u3, u4, u5, u6, u7⟩ := id hN
  obtain ⟨t1, t2⟩ := u6 hL
  have hps : sc_ps X.L X.E k = k + 1 := by rw [sc_ps, if_neg (hz 120 (by decide))]
  have hnx := sc_nx w.cy hk (by omega) (fun q => absurd q (hz 116 (by decide))) (fun q => by rw [t2]; decide) (hz 122 (by decide)) (fun q => q.elim (fun q => absurd q (hz 99 (by decide))) (fun q => absurd q (hz 120 (by decide))))
  rw [hps] at hnx
  obtain ⟨hM, hg⟩ := sc_dwn w hk hfl h48 hh (a := k + 1) (by omega) sc_fr_rf hnx
  have hO := sc_dwO (σ := σ) (τ := τ) (h := h) (a := nI k) (b := nI (h + 1)) w.cy.ok
  rw [sc_askW w.cy hk (by omega) m hL]
  refine sc_Po.chk ?_
  obtain ⟨r, σ', τ', dl, cc, x1, hcc, ho, cs⟩ := sc_child (m := m) (lev := lev + 1) hI hM hg hk (by omega) (by omega) q3 (by omega) (by omega) (by omega) ((l1 (Or.inl hp)).same w.cy q1 hO)
  rw [← q2] at hcc
  have hS : X.E k - k = (X.E k - (k + 1)) + 1 := by omega
  have hbd : 1 + cc + 1 + 1 ≤ 2 * (X.E k - k) + 80 * ((X.E k - k) * (0 + dl)) := by
    rw [hS]
    exact sc_bd (by omega) (by omega)
  have hN2 := (hN.tr (Nat.le_refl _) hO (by omega) (by omega)).tr (D' := D + (0 + dl)) (by omega) ho (by omega) (by omega)
  have tu' : σ' (X.q + 2) k = 0 := by rw [(ho k (by omega)).2.1, (hO k (by omega)).2.1]; exact t1
  unfold dX0_askWhile
  rw [if_pos (w.cy.nin hk)]
  simp only [w.cy.ncl hk]
  rw [if_neg (show ¬ ¬ sc_w1 X σ (X.q + 2) k = 0 by rw [(hO k (by omega)).2.1, t1]; decide), nI_1, nI_1, x1]
  simp only [Option.bind_some]
  rcases cs with ⟨hM', h45, hg', hr⟩ | ⟨rfl, hf, hP⟩
  · obtain ⟨⟨np', w', -⟩, -⟩ := id hM'
    cases r with
    | false =>
      rw [if_neg (show ¬ ¬ sc_b false = 0 by decide)]
      exact sc_ret (r := false) hk hh hM' hg' (sc_hrW0 w'.cy hk hL h45) sc_fr_rf sc_fr_rf h45 hbd (fun q => absurd q (by decide))
    | true =>
      rw [if_pos (show ¬ sc_b true = 0 by decide)]
      obtain ⟨hdl, hlv, hval⟩ := hr rfl
      obtain ⟨r2, y1, y2⟩ := sc_pass w'.cy hk (Or.inr (Or.inr hL)) (σ' X.q (sf_vl X.q))
      rw [y1]
      simp only [Option.bind_some]
      rw [hval] at y2
      unfold dX0_askWhile_46
      simp only [w.cy.ncl hk, w.cy.nin hk, if_true]
      cases r2 with
      | true =>
        rw [if_pos (show ¬ sc_b true = 0 by decide), sc_narI0, sc_upS, if_neg (show ¬ ¬ (0 : Int32) = 0 by decide), sc_sam tu']
        exact sc_ret (r := true) hk hh hM' hg' (sc_hrW1 w'.cy hk hL h45 y2) sc_fr_rf sc_fr_rf h45 hbd (fun _ => ⟨by omega, sc_Lv.mk hN2 (fun _ => hlv) (fun q => by omega), hval⟩)
      | false =>
        rw [if_neg (show ¬ ¬ sc_b false = 0 by decide), sc_narI1, sc_upS, if_pos (show ¬ (1 : Int32) = 0 by decide)]
        have hkE := (w.cy.T.lt hk).1
        refine sc_ret (r := false) hk hh hM' hg' (sc_hrW2 w'.cy hk hL h45 y2) (sc_fr_up ?_) (sc_fr_tr (sc_fr_up (by simp [sc_oM])) (sc_fr_up ?_)) ?_ hbd (fun q => absurd q (by decide))
        · simp [sc_oC]; omega
        · simp [sc_oM]; omega
        · rw [sc_upK (by decide), sc_upS]; rfl
  · rw [if_neg (show ¬ ¬ sc_b false = 0 by decide)]
    exact hP (by omega) σ' sc_fr_rf
theorem sc_nxt {X : sc_X} {k : Nat} {σ τ : sf_S} (h : sc_Cy X σ τ) (hk : k < X.n) (hL : X.L k = 116) (e : τ 24 k = X.f k) : dX12_asksNext (nI k) τ = some (-1, sf_up (sc_w2 τ) 0 45 0) := by
  obtain ⟨r1, r2, r3, r4⟩ := h.r1 k hk
  unfold dX12_asksNext
  simp only [h.nin hk, if_true, h.ncl hk]
  rw [show sf_up τ 0 38 (τ 0 38 + 1) = sc_w2 τ from rfl, show sc_w2 τ 11 k = X.L k by rw [sc_w2, sc_upK (by decide)]; exact r1, sc_partsM, if_pos (h.vn k hk).1]
  simp only [Option.bind_some]
  rw [hL, if_pos (show ¬ nI (sc_p 116) = 0 by decide +kernel), if_neg (show ¬ ¬ (116 : Int32) = 116 by decide), if_pos (by rw [sc_w2, sc_upK (by decide), sc_upK (by decide), r3]; exact e)]
theorem sc_tak0 {X : sc_X} {D np g h k m lev : Nat} {σ τ : sf_S} (hI : sc_IH X (k + 1)) (w : sc_W X D np g σ τ) (hk : k < X.n) (hL : X.L k = 116) (hm : 41 ≤ m + 1 + k) (hlev : lev ≤ k) (hh : h ≤ k) (hfl : σ (sf_rn X.q) 5 = 0) (h48 : τ 0 48 = nI h) (hv : sc_Lv X sc_N0 D σ τ k) : sc_Po X k h D np g σ τ (dX0_ask_R (m + 1) X.q (nI k) (nI lev) σ) := by
  obtain ⟨k1, k2, k3, k4, k5, k6⟩ := w.cy.ok
  have hn4 := w.cy.n40
  have hD5 := w.D5
  have hp : sc_p (X.L k) = 1 := by rw [hL]; decide +kernel
  have hz : ∀ c, c ≠ 116 → X.L k ≠ c := fun c q e => q (by rw [← e]; exact hL)
  obtain ⟨q1, q2⟩ := w.cy.T.p1 hk hp
  have q3 := (w.cy.T.lt q1).1
  have q4 := (w.cy.T.lt q1).2
  have hkE := (w.cy.T.lt hk).1
  obtain ⟨hN, l1, -⟩ := hv.inv
  obtain ⟨u, u1, u2, u3, u4, u5, u6, u7⟩ := id hN
  obtain ⟨t1, t2⟩ := u4 hL
  obtain ⟨-, -, cf, -⟩ := w.cy.c1 k hk
  have hps : sc_ps X.L X.E k = k + 1 := by rw [sc_ps, if_neg (hz 120 (by decide))]
  have hO0 := sc_w_Out (X := X) (σ := σ) (τ := τ) (lo := 0) (hi := 0) w.cy.ok
  have cf' : sc_w1 X σ (sf_pl X.q + 3) k = X.f k := by rw [sc_w1, sc_upK (by omega)]; exact cf
  rw [sc_askT w.cy hk (by omega) m hL]
  refine sc_Po.chk ?_
  unfold dX0_askTake
  simp only [w.cy.ncl hk, w.cy.nin hk, if_true]
  rw [cf', (hO0 k (by omega)).1, u2]
  by_cases hc : X.f k ≤ nI u
  · rw [if_pos hc]
    have hfu : τ 24 k = X.f k := by
      rw [t1]
      refine Int32.le_antisymm ?_ hc
      rw [Int32.le_iff_toInt_le, nI_toInt (by omega)]; exact t2
    have e := sc_nxt w.cy hk hL hfu
    have w1 := w.work.light (σ' := sc_w1 X σ) (τ' := sf_up (sc_w2 τ) 0 45 0) sc_fr_rf (sc_fr_up (by simp [sc_LM]))
    refine ⟨false, sc_w1 X σ, sf_up (sc_w2 τ) 0 45 0, 0, np, 1, rfl, w1, by omega, sc_fr_up (by simp [sc_RC]), sc_fr_tr (sc_fr_up (by simp [sc_RM])) (sc_fr_up (by simp [sc_RM])), fun b _ => ?_, fun j hj => ?_, by omega, Or.inl ⟨?_, ?_, ?_, ?_, fun q => absurd q (by decide)⟩⟩
    · obtain ⟨a1, a2, a3, a4, a5, a6⟩ := hO0 b (by omega)
      exact ⟨a1, a2, by rw [sc_upK (by decide)]; exact a3, a4, by rw [sc_upK (by decide)]; exact a5, a6⟩
    · rw [sc_upK (by decide), sc_w2, sc_upK (by decide)]
    · rw [sc_w1, sc_upJ (by omega)]; exact hfl
    · rw [sc_upS]; rfl
    · rw [sc_upJ (by decide), sc_w2, sc_upJ (by decide)]; exact h48
    · refine sc_Go.nil.step (fun N t ht => ?_)
      rw [sc_dnE ht e, if_pos (by rw [sc_upJ (by decide), sc_w2, sc_upJ (by decide), ← w.fl]; exact hfl)]
  · rw [if_neg hc]
    have hlt : (u : Int) < (X.f k).toInt := by
      rw [Int32.le_iff_toInt_le, nI_toInt (by omega)] at hc; omega
    have hnx := sc_nx w.cy hk (by omega) (fun _ q => by
      rw [t1] at q
      rw [← q, nI_toInt (by omega)] at hlt
      omega) (fun q => absurd q (hz 119 (by decide))) (hz 122 (by decide)) (fun q => q.elim (fun q => absurd q (hz 99 (by decide))) (fun q => absurd q (hz 120 (by decide))))
    rw [hps] at hnx
    obtain ⟨hM, hg⟩ := sc_dwn w hk hfl h48 hh (a := k + 1) (by omega) sc_fr_rf hnx
    have hO := sc_dwO (σ := σ) (τ := τ) (h := h) (a := nI k) (b := nI (h + 1)) w.cy.ok
    obtain ⟨r, σ', τ', dl, cc, x1, hcc, ho, cs⟩ := sc_child (m := m) (lev := lev + 1) hI hM hg hk (by omega) (by omega) q3 (by omega) (by omega) (by omega) ((l1 (Or.inl hp)).same w.cy q1 hO)
    rw [← q2] at hcc
    have hS : X.E k - k = (X.E k - (k + 1)) + 1 := by omega
    have hbd : 1 + cc + 1 + 1 ≤ 2 * (X.E k - k) + 80 * ((X.E k - k) * (0 + dl)) := by
      rw [hS]
      exact sc_bd (by omega) (by omega)
    rw [nI_1, nI_1, x1]
    simp only [Option.bind_some]
    rcases cs with ⟨hM', h45, hg', hr⟩ | ⟨rfl, hf, hP⟩
    · obtain ⟨⟨np', w', -⟩, -⟩ := id hM'
      cases r with
      | false =>
        rw [if_neg (show ¬ ¬ sc_b false = 0 by decide)]
        refine sc_ret (r := false) hk hh hM' hg' (sc_hrT0 w'.cy hk hL h45) sc_fr_rf (sc_fr_up ?_) ?_ hbd (fun q => absurd q (by decide))
        · simp [sc_oM]; omega
        · rw [sc_upK (by decide)]; exact h45
      | true =>
        rw [if_pos (show ¬ sc_b true = 0 by decide)]
        obtain ⟨hdl, hlv, hval⟩ := hr rfl
        have e1 : σ' (X.q + 1) k = nI u := by rw [(ho k (by omega)).1, (hO k (by omega)).1]; exact u2
        have e2 : τ' 24 k = nI u := by rw [(ho k (by omega)).2.2.1, (hO k (by omega)).2.2.1]; exact t1
        rw [e1, nI_1]
        refine sc_ret (r := true) hk hh hM' hg' (sc_hrT1 w'.cy hk hL h45) (sc_fr_up ?_) (sc_fr_up ?_) ?_ hbd (fun _ => ⟨by omega, sc_Lv.mk ?_ (fun _ => ?_) (fun q => by omega), ?_⟩)
        · simp [sc_oC]; omega
        · simp [sc_oM]; omega
        · rw [sc_upK (by decide)]; exact h45
        · unfold sc_Nat
          rw [sc_upS, sc_upS, e2, nI_1]
          refine ⟨u + 1, by omega, rfl, ⟨fun q => absurd q (hz _ (by decide)), fun q => absurd q (hz _ (by decide)), fun q => ?_, fun q => ?_⟩, fun _ => ⟨rfl, by omega⟩, fun q => absurd q (hz _ (by decide)), fun q => absurd q (hz _ (by decide)), fun q => ?_⟩
          · rcases q with q | q | q <;> exact absurd q (hz _ (by decide))
          · rcases q with q | q <;> exact absurd q (hz _ (by decide))
          · rcases q with q | q <;> exact absurd q (hz _ (by decide))
        · refine hlv.f0 w.cy q1 (Nat.le_refl _) (lo := k) (hi := k + 1) (fun b hb => ⟨sc_upJ (by omega), sc_upK (by omega), sc_upJ (by omega), sc_upK (by omega), sc_upK (by decide), sc_upK (by omega)⟩) (fun x y1 y2 y3 => ?_) (by omega)
          have : x = k := by omega
          rw [this] at y3
          exact absurd y3 (hz _ (by decide))
        · rw [sc_upK (by omega), sc_upK (by decide)]; exact hval
    · rw [if_neg (show ¬ ¬ sc_b false = 0 by decide)]
      exact hP (by omega) σ' sc_fr_rf
