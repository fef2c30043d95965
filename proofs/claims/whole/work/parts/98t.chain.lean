/-! chains and zips asked -/
theorem sc_N0_gen {c f s : Int32} {D u : Nat} {us tu ke op he hc hk : Int32} (hp : 1 ≤ sc_p c) (h1 : c ≠ 116) (h2 : c ≠ 100) (h3 : c ≠ 119) (hu : u ≤ D) (hus : us = nI u) (hx : c = 99 ∨ c = 120 → ∃ t : Bool, tu = sc_b t ∧ ke = sc_b t) : sc_N0 c f s D us tu ke op he hc hk := by
  have z : ∀ x, sc_p x = 0 → ¬ c = x := fun x q e => by rw [e] at hp; omega
  refine ⟨u, hu, hus, ⟨fun q => absurd q (z _ (by decide +kernel)), fun q => absurd q (z _ (by decide +kernel)), fun q => ?_, fun q => ?_⟩, fun q => absurd q h1, fun q => absurd q h2, fun q => absurd q h3, hx⟩
  · rcases q with q | q | q <;> exact absurd q (z _ (by decide +kernel))
  · rcases q with q | q <;> exact absurd q (z _ (by decide +kernel))
theorem sc_cl1 {X : sc_X} {σ τ : sf_S} (h : sc_Cy X σ τ) {a : Nat} (ha : a < X.n) : ∀ x, a ≤ x → x < X.E a → X.L x = 120 → X.E (x + 1) ≤ X.E a := fun x h1 h2 h3 => by
  have h4 := h.T.nest a ha x h1 h2
  have h5 := (h.T.lt ha).2
  have := h.T.p2 (show x < X.n by omega) (sc_p120 h3)
  omega
theorem sc_cl0 {X : sc_X} {k : Nat} (h : X.L k ≠ 120) : ∀ x, k ≤ x → x < k + 1 → X.L x = 120 → X.E (x + 1) ≤ k + 1 := fun x h1 h2 h3 => by
  have : x = k := by omega
  rw [this] at h3
  exact absurd h3 h
theorem sc_bd3 {S s1 s2 e dl c cc : Nat} (hS : S ≤ 39) (h1 : s1 + s2 ≤ S) (hc : c ≤ 1 + (2 * s1 + 80 * (s1 * e))) (hcc : cc + 1 ≤ 2 * s2 + 80 * (s2 * dl)) : c + cc + 1 + 1 ≤ 2 * (S + 1) + 80 * ((S + 1) * (e + dl)) := by
  have h2 : s1 * e ≤ S * e := Nat.mul_le_mul_right _ (by omega)
  have h3 : s2 * dl ≤ S * dl := Nat.mul_le_mul_right _ (by omega)
  rw [Nat.add_mul, Nat.mul_add S]
  omega
theorem sc_nxq {X : sc_X} {k : Nat} {σ τ : sf_S} (h : sc_Cy X σ τ) (hk : k < X.n) (hL : X.L k = 99 ∨ X.L k = 120) (e : τ 24 k = 1) : dX12_asksNext (nI k) τ = some (nI (sc_qs X.L X.E k), sc_w2 τ) := by
  obtain ⟨r1, r2, r3, r4⟩ := h.r1 k hk
  obtain ⟨r5, r6, r7, r8, r9⟩ := h.r5 k hk
  unfold dX12_asksNext
  simp only [h.nin hk, if_true, h.ncl hk]
  rw [show sf_up τ 0 38 (τ 0 38 + 1) = sc_w2 τ from rfl, show sc_w2 τ 11 k = X.L k by rw [sc_w2, sc_upK (by decide)]; exact r1, sc_partsM, if_pos (h.vn k hk).1]
  simp only [Option.bind_some]
  have e100 : dX12_asksNext_100 (nI k) (sc_w2 τ) = some (nI (sc_qs X.L X.E k), sc_w2 τ) := by
    unfold dX12_asksNext_100
    simp only [h.nin hk, if_true, h.ncl hk]
    rw [show sc_w2 τ 24 k = 1 by rw [sc_w2, sc_upK (by decide)]; exact e, if_neg (show ¬ ¬ (1 : Int32) = 1 by decide), show sc_w2 τ 17 k = nI (sc_qs X.L X.E k) by rw [sc_w2, sc_upK (by decide)]; exact r7]
  unfold dX12_asksNext_52 dX12_asksNext_75 dX12_asksNext_88
  rw [e100]
  rcases hL with q | q
  · rw [q, if_pos (show ¬ nI (sc_p 99) = 0 by decide +kernel), if_pos (show ¬ (99 : Int32) = 116 by decide), if_pos (show ¬ (99 : Int32) = 119 by decide), if_pos (show ¬ (99 : Int32) = 122 by decide), if_pos (show (99 : Int32) = 99 from rfl)]
  · rw [q, if_pos (show ¬ nI (sc_p 120) = 0 by decide +kernel), if_pos (show ¬ (120 : Int32) = 116 by decide), if_pos (show ¬ (120 : Int32) = 119 by decide), if_pos (show ¬ (120 : Int32) = 122 by decide), if_neg (show ¬ (120 : Int32) = 99 by decide), if_neg (show ¬ ¬ (120 : Int32) = 120 by decide)]
theorem sc_nxz {X : sc_X} {k : Nat} {σ τ : sf_S} (h : sc_Cy X σ τ) (hk : k < X.n) (hL : X.L k = 122) : dX12_asksNext (nI k) τ = some (nI (k + 1), sf_up (sc_w2 τ) 24 k 0) := by
  obtain ⟨r1, r2, r3, r4⟩ := h.r1 k hk
  obtain ⟨r5, r6, r7, r8, r9⟩ := h.r5 k hk
  unfold dX12_asksNext
  simp only [h.nin hk, if_true, h.ncl hk]
  rw [show sf_up τ 0 38 (τ 0 38 + 1) = sc_w2 τ from rfl, show sc_w2 τ 11 k = X.L k by rw [sc_w2, sc_upK (by decide)]; exact r1, sc_partsM, if_pos (h.vn k hk).1]
  simp only [Option.bind_some]
  unfold dX12_asksNext_52 dX12_asksNext_75 dX12_asksNext_88
  simp only [h.nin hk, if_true, h.ncl hk]
  rw [hL, if_pos (show ¬ nI (sc_p 122) = 0 by decide +kernel), if_pos (show ¬ (122 : Int32) = 116 by decide), if_pos (show ¬ (122 : Int32) = 119 by decide), if_neg (show ¬ ¬ (122 : Int32) = 122 by decide), if_neg (show ¬ (122 : Int32) = 99 by decide), if_pos (show ¬ (122 : Int32) = 120 by decide)]
  rw [show sf_up (sc_w2 τ) 24 k 0 16 k = nI (sc_ps X.L X.E k) by rw [sc_upK (by decide), sc_w2, sc_upK (by decide)]; exact r6, sc_ps, if_neg (by rw [hL]; decide)]
theorem sc_failed {b : Nat} {σ : sf_S} (h : σ b 5 = 0) : dX6_failed b σ = some (0, σ) := by
  unfold dX6_failed
  simp only [h, not_true_eq_false, if_false, if_true]
theorem sc_failed1 {b : Nat} {σ : sf_S} (h : ¬ σ b 5 = 0) : dX6_failed b σ = some (1, σ) := by
  unfold dX6_failed
  simp only [h, not_false_eq_true, if_true, if_false]
/-- the second part of a chain -/
theorem sc_chain2 {X : sc_X} {D np g h k m lev e c u : Nat} {σ0 τ0 σ τ : sf_S} (hI : sc_IH X (X.E (k + 1))) (hk : k < X.n) (hL : X.L k = 99) (hm : 41 ≤ m + 1 + k) (hlev : lev ≤ k) (hh : h ≤ k) (hM : sc_Mid X k h D np g e σ0 τ0 σ τ) (hg : sc_Go k τ0 c (nI (X.E (k + 1))) 1 τ)
    (hc : c ≤ 1 + (2 * (X.E (k + 1) - (k + 1)) + 80 * ((X.E (k + 1) - (k + 1)) * e))) (lv : sc_Lv X sc_N0 (D + e) σ τ (X.E (k + 1))) (hu : u ≤ D + e) (g1 : σ (X.q + 1) k = nI u) (g2 : σ (X.q + 2) k = 1) (g3 : τ 24 k = 1) :
    sc_Po X k h D np g σ0 τ0 (dX0_askChain_43 (dX0_ask_R m) X.q (nI k) (nI lev) σ) := by
  obtain ⟨⟨np0, w, -⟩, -⟩ := id hM
  have hn4 := w.cy.n40
  have hp : sc_p (X.L k) = 2 := by rw [hL]; decide +kernel
  have hz : ∀ c, c ≠ 99 → X.L k ≠ c := fun c q e => q (by rw [← e]; exact hL)
  obtain ⟨p1, p2, p3, p4, p5⟩ := w.cy.T.p2 hk hp
  have q4 := (w.cy.T.lt hk).2
  obtain ⟨r, σ', τ', dl, cc, x1, hcc, ho, cs⟩ := sc_child (m := m) (lev := lev + 1) hI hM hg hk (by omega) (by omega) (by omega) (by omega) (by omega) (by omega) lv
  rw [← p5] at hcc
  have hS : X.E k - k = (X.E k - (k + 1)) + 1 := by omega
  have hbd : c + cc + 1 + 1 ≤ 2 * (X.E k - k) + 80 * ((X.E k - k) * (e + dl)) := by
    rw [hS]
    exact sc_bd3 (by omega) (by omega) hc hcc
  unfold dX0_askChain_43
  rw [w.cy.snd p1]
  simp only [Option.bind_some]
  rw [nI_1, x1]
  simp only [Option.bind_some]
  rw [if_pos (sc_b01 r)]
  rcases cs with ⟨hM', h45, hg', hr⟩ | ⟨rfl, hf, hP⟩
  · obtain ⟨⟨np', w', -⟩, -⟩ := id hM'
    have e1 : σ' (X.q + 1) k = nI u := by rw [(ho k (by omega)).1]; exact g1
    have e2 : σ' (X.q + 2) k = 1 := by rw [(ho k (by omega)).2.1]; exact g2
    have e3 : τ' 24 k = 1 := by rw [(ho k (by omega)).2.2.1]; exact g3
    cases r with
    | false => exact sc_ret (r := false) hk hh hM' hg' (sc_hrC2 w'.cy hk hL h45 e3) sc_fr_rf sc_fr_rf h45 hbd (fun q => absurd q (by decide))
    | true =>
      obtain ⟨hdl, hlv, hval⟩ := hr rfl
      refine sc_ret (r := true) hk hh hM' hg' (sc_hrC1 w'.cy hk hL h45) sc_fr_rf sc_fr_rf h45 hbd (fun _ => ⟨by omega, sc_Lv.mk ?_ (fun q => ?_) (fun _ => hlv), hval⟩)
      · unfold sc_Nat
        rw [e2, e3]
        exact sc_N0_gen (by omega) (hz _ (by decide)) (hz _ (by decide)) (hz _ (by decide)) (show u ≤ _ by omega) e1 (fun _ => ⟨true, rfl, rfl⟩)
      · rw [e2] at q
        rcases q with q | q | ⟨-, q⟩ | ⟨q, -⟩
        · omega
        · exact absurd q (hz _ (by decide))
        · exact absurd q (by decide)
        · exact absurd q (hz _ (by decide))
  · exact hP (by omega) σ' sc_fr_rf
theorem sc_chain {X : sc_X} {D np g h k m lev : Nat} {σ τ : sf_S} (hI : ∀ a, k < a → a < X.n → sc_IH X a) (w : sc_W X D np g σ τ) (hk : k < X.n) (hL : X.L k = 99) (hm : 41 ≤ m + 1 + k) (hlev : lev ≤ k) (hh : h ≤ k) (hfl : σ (sf_rn X.q) 5 = 0) (h48 : τ 0 48 = nI h) (hv : sc_Lv X sc_N0 D σ τ k) : sc_Po X k h D np g σ τ (dX0_ask_R (m + 1) X.q (nI k) (nI lev) σ) := by
  have hn4 := w.cy.n40
  have hp : sc_p (X.L k) = 2 := by rw [hL]; decide +kernel
  have hz : ∀ c, c ≠ 99 → X.L k ≠ c := fun c q e => q (by rw [← e]; exact hL)
  obtain ⟨p1, p2, p3, p4, p5⟩ := w.cy.T.p2 hk hp
  have q4 := (w.cy.T.lt hk).2
  obtain ⟨k1, k2, k3, k4, k5, k6⟩ := w.cy.ok
  obtain ⟨hN, l1, l2⟩ := hv.inv
  obtain ⟨u, u1, u2, u3, u4, u5, u6, u7⟩ := id hN
  obtain ⟨t, t1, t2⟩ := u7 (Or.inl hL)
  have hO := sc_dwO (σ := σ) (τ := τ) (h := h) (a := nI k) (b := nI (h + 1)) w.cy.ok
  obtain ⟨o1, o2, o3, o4, o5, o6⟩ := hO k (by omega)
  have hps : sc_ps X.L X.E k = k + 1 := by rw [sc_ps, if_neg (hz 120 (by decide))]
  have hqs : sc_qs X.L X.E k = X.E (k + 1) := by rw [sc_qs, if_neg (hz 120 (by decide)), if_neg (by omega)]
  have lvb := (l2 hp).same w.cy p3 hO
  rw [sc_askC w.cy hk (by omega) m hL]
  refine sc_Po.chk ?_
  unfold dX0_askChain
  simp only [w.cy.ncl hk, w.cy.nin hk, if_true]
  rw [o2, t1]
  cases t with
  | true =>
    rw [if_pos (show ¬ sc_b true = 0 by decide)]
    have hnx := sc_nxq w.cy hk (Or.inl hL) t2
    rw [hqs] at hnx
    obtain ⟨hM, hg⟩ := sc_dwn w hk hfl h48 hh (a := X.E (k + 1)) (by omega) sc_fr_rf hnx
    exact sc_chain2 (hI _ (by omega) p3) hk hL hm hlev hh hM hg (by omega) lvb (by omega) (o1.trans u2) (o2.trans t1) (o3.trans t2)
  | false =>
    rw [if_neg (show ¬ ¬ sc_b false = 0 by decide)]
    have hnx := sc_nx w.cy hk (by omega) (fun q => absurd q (hz 116 (by decide))) (fun q => absurd q (hz 119 (by decide))) (hz 122 (by decide)) (fun _ => by rw [t2]; decide)
    rw [hps] at hnx
    obtain ⟨hM, hg⟩ := sc_dwn w hk hfl h48 hh (a := k + 1) (by omega) sc_fr_rf hnx
    obtain ⟨r, σ', τ', dl, cc, x1, hcc, ho, cs⟩ := sc_child (m := m) (lev := lev + 1) (hI _ (by omega) p1) hM hg hk (by omega) (by omega) (by omega) (by omega) (by omega) (by omega) ((l1 (Or.inr (Or.inr (Or.inl ⟨hL, t1⟩)))).same w.cy p1 hO)
    have hS : X.E k - k = (X.E k - (k + 1)) + 1 := by omega
    have hle : (X.E (k + 1) - (k + 1)) * dl ≤ (X.E k - (k + 1)) * dl := Nat.mul_le_mul_right _ (by omega)
    have hbd : 1 + cc + 1 + 1 ≤ 2 * (X.E k - k) + 80 * ((X.E k - k) * (0 + dl)) := by
      rw [hS]
      exact sc_bd (by omega) (by omega)
    have lvb2 := lvb.f0 w.cy p3 (D' := D + (0 + dl)) (by omega) ho (sc_cl1 w.cy p1) (Or.inr (Nat.le_refl _))
    have e1 : σ' (X.q + 1) k = nI u := by rw [(ho k (by omega)).1]; exact o1.trans u2
    have e2 : σ' (X.q + 2) k = 0 := by rw [(ho k (by omega)).2.1]; exact o2.trans t1
    have e3 : τ' 24 k = 0 := by rw [(ho k (by omega)).2.2.1]; exact o3.trans t2
    rw [nI_1, nI_1, x1]
    simp only [Option.bind_some]
    rcases cs with ⟨hM', h45, hg', hr⟩ | ⟨rfl, hf, hP⟩
    · obtain ⟨⟨np', w', -⟩, -, -, -, -, h5, -⟩ := id hM'
      cases r with
      | true =>
        rw [if_neg (show ¬ sc_b true = 0 by decide)]
        obtain ⟨hdl, hlv, hval⟩ := hr rfl
        refine sc_ret (r := true) hk hh hM' hg' (sc_hrC1 w'.cy hk hL h45) sc_fr_rf sc_fr_rf h45 hbd (fun _ => ⟨by omega, sc_Lv.mk ?_ (fun _ => hlv) (fun _ => lvb2), hval⟩)
        unfold sc_Nat
        rw [e2, e3]
        exact sc_N0_gen (by omega) (hz _ (by decide)) (hz _ (by decide)) (hz _ (by decide)) (show u ≤ _ by omega) e1 (fun _ => ⟨false, rfl, rfl⟩)
      | false =>
        rw [if_pos (show sc_b false = 0 from rfl), sc_failed h5]
        simp only [Option.bind_some, if_true]
        rw [sc_narI1]
        have hear := sc_hrC0 w'.cy hk hL h45 e3
        rw [hqs] at hear
        obtain ⟨hM2, hg2⟩ := sc_more hk hh hM' hg' (by omega) hear (sc_fr_up (σ := σ') (k := X.q + 2) (j := k) (v := 1) (by simp [sc_oC]; omega)) (sc_fr_up (by simp [sc_oM]; omega))
        refine sc_chain2 (hI _ (by omega) p3) hk hL hm hlev hh hM2 hg2 (by rw [Nat.zero_add]; omega) ?_ (show u ≤ _ by omega) ?_ sc_upS sc_upS
        · exact lvb2.f0 w.cy p3 (Nat.le_refl _) (lo := k) (hi := k + 1) (fun b hb => ⟨sc_upK (by omega), sc_upJ (by omega), sc_upJ (by omega), sc_upK (by omega), sc_upK (by decide), sc_upK (by omega)⟩) (sc_cl0 (hz _ (by decide))) (Or.inr (by omega))
        · rw [sc_upK (by omega)]; exact e1
    · rw [if_pos (show sc_b false = 0 from rfl), sc_failed1 hf]
      simp only [Option.bind_some]
      rw [if_neg (show ¬ (1 : Int32) = 0 by decide)]
      exact hP (by omega) σ' sc_fr_rf
