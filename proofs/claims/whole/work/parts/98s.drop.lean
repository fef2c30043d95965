/-- drop asked -/
theorem sc_dropK {f : Int32} {u : Nat} (hu : u ≤ 500) (h : u = 0 ∨ (u : Int) ≤ f.toInt) : ((if (1000000 : Int32) < f then (1000000 : Int32) else f) ≤ nI u ↔ f - nI u ≤ 0) ∧ (¬ f - nI u ≤ 0 → ((u + 1 : Nat) : Int) ≤ f.toInt) ∧ f - nI u - 1 = f - nI (u + 1) := by
  have hs : (f - nI u).toInt = f.toInt - u := by
    rw [Int32.toInt_sub, nI_toInt (by omega)]
    have h1 := f.toInt_lt
    have h2 := f.le_toInt
    exact Int.bmod_eq_of_le (by omega) (by omega)
  have h0 : f - nI u ≤ 0 ↔ f.toInt ≤ u := by
    rw [Int32.le_iff_toInt_le, hs, show (0 : Int32).toInt = 0 from rfl]; omega
  refine ⟨?_, fun q => by rw [h0] at q; omega, ?_⟩
  · rw [h0]
    have m6 : (1000000 : Int32).toInt = 1000000 := by decide
    by_cases c : (1000000 : Int32) < f
    · rw [if_pos c, Int32.le_iff_toInt_le, nI_toInt (by omega), m6]
      rw [Int32.lt_iff_toInt_lt, m6] at c
      omega
    · rw [if_neg c, Int32.le_iff_toInt_le, nI_toInt (by omega)]
  · rw [← nI_1, ← Int32.sub_sub]
theorem sc_dropL {X : sc_X} {D np g h k m lev : Nat} {σ0 τ0 : sf_S} (hI : sc_IH X (k + 1)) (hk : k < X.n) (hL : X.L k = 100) (hm : 41 ≤ m + 1 + k) (hlev : lev ≤ k) (hh : h ≤ k) : ∀ n e c u σ τ, 502 ≤ n + u → sc_Mid X k h D np g e σ0 τ0 σ τ → sc_Go k τ0 c (nI (k + 1)) 1 τ → c ≤ 1 + 82 * ((X.E k - (k + 1)) * e) → sc_Lv X sc_N0 (D + e) σ τ (k + 1) → u ≤ D + e → σ (X.q + 1) k = nI u → σ (X.q + 2) k = 0 → τ 24 k = X.f k - nI u → (u = 0 ∨ (u : Int) ≤ (X.f k).toInt) →
    sc_Po X k h D np g σ0 τ0 (dX0_askDrop_23 (dX0_ask_R m) X.q n (nI k) (nI lev) (if (1000000 : Int32) < X.f k then (1000000 : Int32) else X.f k) (nI u) σ) := by
  intro n
  induction n with
  | zero =>
    intro e c u σ τ h1 hM _ _ _ h3
    obtain ⟨⟨np', w, -⟩, -⟩ := hM
    have := w.D5
    omega
  | succ n ih =>
    intro e c u σ τ h1 hM hg hc lv hu g1 g2 g3 g4
    obtain ⟨⟨np0, w, -⟩, -⟩ := id hM
    obtain ⟨k1, k2, k3, k4, k5, k6⟩ := w.cy.ok
    have hn4 := w.cy.n40
    have hD5 := w.D5
    have hp : sc_p (X.L k) = 1 := by rw [hL]; decide +kernel
    have hz : ∀ c, c ≠ 100 → X.L k ≠ c := fun c q e => q (by rw [← e]; exact hL)
    obtain ⟨q1, q2⟩ := w.cy.T.p1 hk hp
    have q3 := (w.cy.T.lt q1).1
    have q4 := (w.cy.T.lt q1).2
    have hkE := (w.cy.T.lt hk).1
    have hps : sc_ps X.L X.E k = k + 1 := by rw [sc_ps, if_neg (hz 120 (by decide))]
    obtain ⟨i1, i2, i3⟩ := sc_dropK (by omega) g4
    have hS : X.E k - k = (X.E k - (k + 1)) + 1 := by omega
    have nd : ∀ {d u' op he hc hk} {us ke : Int32}, u' ≤ d → us = nI u' → ke = X.f k - nI u' → (u' = 0 ∨ (u' : Int) ≤ (X.f k).toInt) → sc_N0 (X.L k) (X.f k) (X.s k) d us 0 ke op he hc hk := fun {d u' op he hc hk us ke} a1 a2 a3 a4 => by
      refine ⟨u', a1, a2, ⟨fun q => absurd q (hz _ (by decide)), fun q => absurd q (hz _ (by decide)), fun q => ?_, fun q => ?_⟩, fun q => absurd q (hz _ (by decide)), fun _ => ⟨rfl, a3, a4⟩, fun q => absurd q (hz _ (by decide)), fun q => ?_⟩
      · rcases q with q | q | q <;> exact absurd q (hz _ (by decide))
      · rcases q with q | q <;> exact absurd q (hz _ (by decide))
      · rcases q with q | q <;> exact absurd q (hz _ (by decide))
    unfold dX0_askDrop_23
    by_cases hd : X.f k - nI u ≤ 0
    · rw [if_pos (i1.mpr hd)]
      unfold dX0_askDrop_78
      simp only [w.cy.ncl hk, w.cy.nin hk, if_true]
      rw [if_pos g2]
      obtain ⟨r, σ', τ', dl, cc, x1, hcc, ho, cs⟩ := sc_child (m := m) (lev := lev + 1) hI hM hg hk (by omega) (by omega) q3 (by omega) (by omega) (by omega) lv
      rw [← q2] at hcc
      have hbd : c + cc + 1 + 1 ≤ 2 * (X.E k - k) + 80 * ((X.E k - k) * (e + dl)) := by
        rw [hS]
        exact sc_bd (by omega) (by omega)
      have e1 : σ' (X.q + 1) k = nI u := by rw [(ho k (by omega)).1]; exact g1
      have e2 : σ' (X.q + 2) k = 0 := by rw [(ho k (by omega)).2.1]; exact g2
      have e3 : τ' 24 k = X.f k - nI u := by rw [(ho k (by omega)).2.2.1]; exact g3
      rw [nI_1, nI_1, x1]
      simp only [Option.bind_some]
      unfold dX0_askDrop_112
      simp only [w.cy.ncl hk, w.cy.nin hk, if_true, sc_upS]
      rcases cs with ⟨hM', h45, hg', hr⟩ | ⟨rfl, hf, hP⟩
      · obtain ⟨⟨np', w', -⟩, -⟩ := id hM'
        cases r with
        | false =>
          rw [if_neg (show ¬ ¬ sc_b false = 0 by decide), sc_narI1, if_pos (show ¬ (1 : Int32) = 0 by decide)]
          refine sc_ret (r := false) hk hh hM' hg' (sc_hrD0 w'.cy hk hL h45) (sc_fr_up ?_) sc_fr_rf h45 hbd (fun q => absurd q (by decide))
          simp [sc_oC]; omega
        | true =>
          rw [if_pos (show ¬ sc_b true = 0 by decide), sc_narI0, if_neg (show ¬ ¬ (0 : Int32) = 0 by decide), sc_sam e2]
          obtain ⟨hdl, hlv, hval⟩ := hr rfl
          refine sc_ret (r := true) hk hh hM' hg' (sc_hrD1 w'.cy hk hL h45 (by rw [e3]; exact hd)) sc_fr_rf sc_fr_rf h45 hbd (fun _ => ⟨by omega, sc_Lv.mk ?_ (fun _ => hlv) (fun q => by omega), hval⟩)
          unfold sc_Nat
          rw [e2]
          exact nd (by omega) e1 e3 g4
      · rw [if_neg (show ¬ ¬ sc_b false = 0 by decide), sc_narI1, if_pos (show ¬ (1 : Int32) = 0 by decide)]
        refine hP (by omega) _ (sc_fr_up ?_)
        simp [sc_oC]; omega
    · rw [if_neg (fun q => hd (i1.mp q))]
      simp only [w.cy.ncl hk, w.cy.nin hk, if_true]
      rw [if_neg (show ¬ ¬ σ (X.q + 2) k = 0 by rw [g2]; decide), g1, nI_1]
      have hf0 : sc_fr (sc_oC X k) σ (sf_up σ (X.q + 1) k (nI (u + 1))) := sc_fr_up (by simp [sc_oC]; omega)
      have hM1 := hM.light hf0 (sc_fr_rf (σ := τ))
      have hO1 : sc_Out X k (k + 1) σ τ (sf_up σ (X.q + 1) k (nI (u + 1))) τ := fun b hb => ⟨sc_upJ (by omega), sc_upK (by omega), rfl, sc_upK (by omega), rfl, sc_upK (by omega)⟩
      have hcl : ∀ x, k ≤ x → x < k + 1 → X.L x = 120 → X.E (x + 1) ≤ k + 1 := fun x y1 y2 y3 => by
        have : x = k := by omega
        rw [this] at y3
        exact absurd y3 (hz _ (by decide))
      have lv1 := lv.f0 w.cy q1 (Nat.le_refl _) hO1 hcl (Or.inr (by omega))
      obtain ⟨r, σ', τ', dl, cc, x1, hcc, ho, cs⟩ := sc_child (m := m) (lev := lev + 1) hI hM1 hg hk (by omega) (by omega) q3 (by omega) (by omega) (by omega) lv1
      rw [← q2] at hcc
      have hbd : c + cc + 1 + 1 ≤ 2 * (X.E k - k) + 80 * ((X.E k - k) * (e + dl)) := by
        rw [hS]
        exact sc_bd (by omega) (by omega)
      have e1 : σ' (X.q + 1) k = nI (u + 1) := by rw [(ho k (by omega)).1, sc_upS]
      have e2 : σ' (X.q + 2) k = 0 := by rw [(ho k (by omega)).2.1, sc_upK (by omega)]; exact g2
      have e3 : τ' 24 k = X.f k - nI u := by rw [(ho k (by omega)).2.2.1]; exact g3
      rw [nI_1, nI_1, x1]
      simp only [Option.bind_some]
      have stop : ∀ (s : sf_S), s (X.q + 2) k = 1 → dX0_askDrop_23 (dX0_ask_R m) X.q n (nI k) (nI lev) (if (1000000 : Int32) < X.f k then (1000000 : Int32) else X.f k) (nI (u + 1)) s = some (0, s) := fun s hs => by
        cases n with
        | zero => omega
        | succ n =>
          have e78 : dX0_askDrop_78 (dX0_ask_R m) X.q (nI k) (nI lev) s = some (0, s) := by
            unfold dX0_askDrop_78
            simp only [w.cy.ncl hk, w.cy.nin hk, if_true]
            rw [if_neg (by rw [hs]; decide)]
          unfold dX0_askDrop_23
          simp only [w.cy.ncl hk, w.cy.nin hk, if_true, hs]
          rw [e78]
          by_cases z : (if (1000000 : Int32) < X.f k then (1000000 : Int32) else X.f k) ≤ nI (u + 1)
          · rw [if_pos z]
          · rw [if_neg z, if_pos (show ¬ (1 : Int32) = 0 by decide)]
      rcases cs with ⟨hM', h45, hg', hr⟩ | ⟨rfl, hf, hP⟩
      · obtain ⟨⟨np', w', -⟩, -⟩ := id hM'
        cases r with
        | false =>
          rw [if_neg (show ¬ ¬ sc_b false = 0 by decide), sc_narI1, stop _ sc_upS]
          refine sc_ret (r := false) hk hh hM' hg' (sc_hrD0 w'.cy hk hL h45) (sc_fr_up ?_) sc_fr_rf h45 hbd (fun q => absurd q (by decide))
          simp [sc_oC]; omega
        | true =>
          rw [if_pos (show ¬ sc_b true = 0 by decide), sc_narI0, sc_sam e2]
          obtain ⟨hdl, hlv, hval⟩ := hr rfl
          have hear := sc_hrD2 w'.cy hk hL h45 (by rw [e3]; exact hd)
          rw [hps, e3, i3] at hear
          obtain ⟨hM2, hg2⟩ := sc_more hk hh hM' hg' (by omega) hear (sc_fr_rf (σ := σ')) (sc_fr_up (by simp [sc_oM]; omega))
          refine ih (e + dl) (c + cc + 1) (u + 1) _ _ (by omega) hM2 hg2 (sc_bd2 hc (Nat.le_refl _) hcc hdl) ?_ (by omega) e1 e2 sc_upS (Or.inr (i2 hd))
          exact hlv.f0 w.cy q1 (Nat.le_refl _) (lo := k) (hi := k + 1) (fun b hb => ⟨rfl, rfl, sc_upJ (by omega), rfl, sc_upK (by decide), rfl⟩) hcl (Or.inr (by omega))
      · rw [if_neg (show ¬ ¬ sc_b false = 0 by decide), sc_narI1, stop _ sc_upS]
        refine hP (by omega) _ (sc_fr_up ?_)
        simp [sc_oC]; omega
theorem sc_drop0 {X : sc_X} {D np g h k m lev : Nat} {σ τ : sf_S} (hI : sc_IH X (k + 1)) (w : sc_W X D np g σ τ) (hk : k < X.n) (hL : X.L k = 100) (hm : 41 ≤ m + 1 + k) (hlev : lev ≤ k) (hh : h ≤ k) (hfl : σ (sf_rn X.q) 5 = 0) (h48 : τ 0 48 = nI h) (hv : sc_Lv X sc_N0 D σ τ k) : sc_Po X k h D np g σ τ (dX0_ask_R (m + 1) X.q (nI k) (nI lev) σ) := by
  obtain ⟨k1, k2, k3, k4, k5, k6⟩ := w.cy.ok
  have hn4 := w.cy.n40
  have hp : sc_p (X.L k) = 1 := by rw [hL]; decide +kernel
  have hz : ∀ c, c ≠ 100 → X.L k ≠ c := fun c q e => q (by rw [← e]; exact hL)
  obtain ⟨q1, q2⟩ := w.cy.T.p1 hk hp
  obtain ⟨hN, l1, -⟩ := hv.inv
  obtain ⟨u, u1, u2, u3, u4, u5, u6, u7⟩ := id hN
  obtain ⟨t1, t2, t3⟩ := u5 hL
  have hps : sc_ps X.L X.E k = k + 1 := by rw [sc_ps, if_neg (hz 120 (by decide))]
  have hnx := sc_nx w.cy hk (by omega) (fun q => absurd q (hz 116 (by decide))) (fun q => absurd q (hz 119 (by decide))) (hz 122 (by decide)) (fun q => q.elim (fun q => absurd q (hz 99 (by decide))) (fun q => absurd q (hz 120 (by decide))))
  rw [hps] at hnx
  obtain ⟨hM, hg⟩ := sc_dwn w hk hfl h48 hh (a := k + 1) (by omega) sc_fr_rf hnx
  have hO := sc_dwO (σ := σ) (τ := τ) (h := h) (a := nI k) (b := nI (h + 1)) w.cy.ok
  obtain ⟨-, -, cf, -⟩ := w.cy.c1 k hk
  have cf' : sc_w1 X σ (sf_pl X.q + 3) k = X.f k := by rw [sc_w1, sc_upK (by omega)]; exact cf
  obtain ⟨o1, o2, o3, o4, o5, o6⟩ := hO k (by omega)
  have hF := sf_F_le
  rw [sc_askD w.cy hk (by omega) m hL]
  refine sc_Po.chk ?_
  unfold dX0_askDrop
  simp only [w.cy.ncl hk, w.cy.nin hk, if_true]
  rw [cf', o1, u2]
  exact sc_dropL hI hk hL hm hlev hh sf_F 0 1 u _ _ (by omega) hM hg (by omega) ((l1 (Or.inl hp)).same w.cy q1 hO) (by omega) (o1.trans u2) (o2.trans t1) (o3.trans t2) t3
