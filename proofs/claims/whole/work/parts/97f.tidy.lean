/-! simplifying, both sides -/
theorem sc_remeasure {p n : Nat} {σ τ : sf_S} (h : sc_Rp p n σ τ) : ∃ E σ' τ', dX2_measure p σ = some σ' ∧ dX12_places τ = some τ' ∧ sc_Pq p n E σ' τ' ∧ (∀ a b, ¬ (p ≤ a ∧ a ≤ p + 9) → σ' a b = σ a b) ∧ ∀ a b, ¬ (15 ≤ a ∧ a ≤ 20) → τ' a b = τ a b := by
  obtain ⟨h0, hn, h4, h21, hG, hA, hw⟩ := h
  obtain ⟨E, hT⟩ := sc_T_ex hG
  obtain ⟨σ', s1, s2, s3⟩ := sc_measC (q := p) (L := τ 11) hn h0 hT h4 (fun j hj => (hA j hj).1)
  obtain ⟨τ', t1, t2, t3⟩ := sc_placesM (L := τ 11) hn hT (fun j hj => ((hA j hj).2.2.2.2).1) h21 (fun j _ => rfl)
  have r : ∀ a, ¬ (15 ≤ a ∧ a ≤ 20) → τ' a = τ a := fun a ha => funext fun b => t2 a b (by omega)
  refine ⟨E, σ', τ', s1, t1, ⟨h0, hn, ?_, ?_, ?_, ?_, fun j hj => ?_, ?_, ?_, ?_⟩, fun a b hab => s2 a b (by omega), fun a b hab => t2 a b (by omega)⟩
  · rw [s2 _ _ (by omega)]; exact h4
  · rw [t2 _ _ (by omega)]; exact h21
  · rw [r 11 (by omega)]; exact hG
  · rw [r 11 (by omega)]; exact hT
  · rw [r 11 (by omega), r 12 (by omega), r 13 (by omega), r 14 (by omega), s2 _ _ (by omega), s2 _ _ (by omega), s2 _ _ (by omega), s2 _ _ (by omega)]
    exact hA j hj
  · rw [r 11 (by omega)]; exact s3
  · rw [r 11 (by omega)]; exact t3
  · rw [r 11 (by omega)]; exact hw
def sc_ix (b : Bool) (n i : Nat) : Nat := if b = true then n - 1 - i else i
theorem sc_search {q n : Nat} {E : Nat → Nat} {σ τ : sf_S} (h : sc_Pq (sf_pl q) n E σ τ) (b : Bool) : ∀ (r i f1 f2 : Nat), i + r = n → r < f1 → r < f2 →
    (dX5_place_10 q f1 (sc_b b) (nI n) (nI i) σ = some (-1, σ) ∧ dX12_tidiesOnce_2 f2 (sc_b b) (nI i) τ = some (0, τ)) ∨
    ∃ k r', k < n ∧ r' < 13 ∧ sc_rl τ E k r' ∧ dX5_place_10 q f1 (sc_b b) (nI n) (nI i) σ = some (nI k, σ) ∧ dX5_ruleFor q (nI k) σ = some (nI r', σ) ∧ dX12_tidiesOnce_2 f2 (sc_b b) (nI i) τ = (dX12_uses (nI k) (nI r') τ).bind fun u2 => some (1, u2) := by
  have hn := h.2.1
  have h21 := h.2.2.2.1
  intro r
  induction r with
  | zero =>
    intro i f1 f2 hi g1 g2
    obtain ⟨m1, rfl⟩ : ∃ m, f1 = m + 1 := ⟨f1 - 1, by omega⟩
    obtain ⟨m2, rfl⟩ : ∃ m, f2 = m + 1 := ⟨f2 - 1, by omega⟩
    refine Or.inl ⟨?_, ?_⟩
    · simp only [dX5_place_10]
      rw [if_pos (nI_le (by omega) (by omega))]
    · simp only [dX12_tidiesOnce_2]
      rw [h21, if_pos (nI_le (by omega) (by omega))]
  | succ r ih =>
    intro i f1 f2 hi g1 g2
    obtain ⟨m1, rfl⟩ : ∃ m, f1 = m + 1 := ⟨f1 - 1, by omega⟩
    obtain ⟨m2, rfl⟩ : ∃ m, f2 = m + 1 := ⟨f2 - 1, by omega⟩
    have hix : sc_ix b n i < n := by unfold sc_ix; split <;> omega
    have eC : dX5_place_10 q (m1 + 1) (sc_b b) (nI n) (nI i) σ = dX5_place_28 q (dX5_place_10 q m1) (sc_b b) (nI n) (nI i) (nI (sc_ix b n i)) σ := by
      conv => lhs; simp only [dX5_place_10]
      rw [if_neg (nI_ge (by omega) (by omega))]
      cases b
      · rw [if_pos (show sc_b false = 0 from rfl)]; rfl
      · rw [if_neg (show ¬ sc_b true = 0 by decide), sc_1, pk_sub (by omega), pk_sub (by omega)]; rfl
    have eM : dX12_tidiesOnce_2 (m2 + 1) (sc_b b) (nI i) τ = dX12_tidiesOnce_26 (dX12_tidiesOnce_2 m2) (sc_b b) (nI i) (nI (sc_ix b n i)) τ := by
      conv => lhs; simp only [dX12_tidiesOnce_2]
      rw [h21, if_neg (nI_ge (by omega) (by omega))]
      cases b
      · rw [if_neg (show ¬ ¬ sc_b false = 0 by simp [sc_b])]; rfl
      · rw [if_pos (show ¬ sc_b true = 0 by decide), sc_1, pk_sub (by omega), pk_sub (by omega)]; rfl
    obtain ⟨v, v1, v2, v3⟩ := sc_rule h hix
    unfold dX5_place_28 at eC
    unfold dX12_tidiesOnce_26 at eM
    rw [v1] at eC
    rw [v2] at eM
    simp only [Option.bind_some, nI_1] at eC eM
    rcases v3 with rfl | ⟨r', hr', rfl, hrl⟩
    · rw [if_pos rfl] at eC eM
      rw [eC, eM]
      exact ih (i + 1) m1 m2 (by omega) (by omega) (by omega)
    · rw [if_neg (sc_nm1 (by omega))] at eC eM
      exact Or.inr ⟨_, r', hix, hr', hrl, eC, v1, eM⟩
/-- the counters of the rules -/
def sc_ct (q : Nat) (σ τ : sf_S) : Prop := ∀ k, k < 13 → σ (q + 1) k = τ 22 k
theorem sc_simpL {q : Nat} (hq : sf_pl q + 9 < q) (b : Bool) : ∀ (r t n f1 f2 : Nat) (E : Nat → Nat) (σ τ : sf_S), t + r = 1000000 → r + 1 < f1 → r + 1 < f2 → sc_Pq (sf_pl q) n E σ τ → sc_ct q σ τ → σ q 2 = nI t →
    ∃ n' E' σ' τ' N, dX5_simplify_28 q f1 (sc_b b) (nI t) σ = some σ' ∧ dX12_tidies_28 f2 (sc_b b) (nI t) 1 (nI t) τ = some (N, τ') ∧ sc_Pq (sf_pl q) n' E' σ' τ' ∧ sc_ct q σ' τ' ∧ σ' q 2 = N ∧ (∀ a c, ¬ ((sf_pl q ≤ a ∧ a ≤ sf_pl q + 9) ∨ (a = q ∧ c = 2) ∨ a = q + 1) → σ' a c = σ a c) ∧ (∀ a c, ¬ ((a = 0 ∧ c = 21) ∨ (11 ≤ a ∧ a ≤ 20) ∨ a = 22) → τ' a c = τ a c) ∧ (sc_dd n (τ 11) (τ 13) → sc_dd n' (τ' 11) (τ' 13)) := by
  intro r
  induction r with
  | zero =>
    intro t n f1 f2 E σ τ ht g1 g2 hP hct hq2
    obtain ⟨m1, rfl⟩ : ∃ m, f1 = m + 1 := ⟨f1 - 1, by omega⟩
    obtain ⟨m2, rfl⟩ : ∃ m, f2 = m + 1 := ⟨f2 - 1, by omega⟩
    have et : (1000000 : Int32) ≤ nI t := by rw [show (1000000 : Int32) = nI 1000000 from by decide +kernel]; exact nI_le (by omega) (by omega)
    refine ⟨n, E, σ, τ, nI t, ?_, ?_, hP, hct, hq2, fun _ _ _ => rfl, fun _ _ _ => rfl, fun q => q⟩
    · simp only [dX5_simplify_28]
      rw [if_pos et]
    · simp only [dX12_tidies_28]
      rw [if_pos et]
  | succ r ih =>
    intro t n f1 f2 E σ τ ht g1 g2 hP hct hq2
    obtain ⟨m1, rfl⟩ : ∃ m, f1 = m + 1 := ⟨f1 - 1, by omega⟩
    obtain ⟨m2, rfl⟩ : ∃ m, f2 = m + 1 := ⟨f2 - 1, by omega⟩
    have hF := sf_F_le
    have hn := hP.2.1
    have et : ¬ (1000000 : Int32) ≤ nI t := by rw [show (1000000 : Int32) = nI 1000000 from by decide +kernel]; exact nI_ge (by omega) (by omega)
    have hpl : dX5_place q (sc_b b) σ = dX5_place_10 q sf_F (sc_b b) (nI n) (nI 0) σ := by
      unfold dX5_place
      rw [hP.2.2.1, ← sc_0]
    rcases sc_search hP b n 0 sf_F sf_F (by omega) (by omega) (by omega) with ⟨a1, a2⟩ | ⟨k, r', hk, hr', hrl, a1, a2, a3⟩
    · refine ⟨n, E, σ, τ, nI t, ?_, ?_, hP, hct, hq2, fun _ _ _ => rfl, fun _ _ _ => rfl, fun q => q⟩
      · simp only [dX5_simplify_28]
        rw [if_neg et, hpl, a1]
        simp only [Option.bind_some]
        have : dX5_ruleFor q (-1) σ = some (-1, σ) := by
          unfold dX5_ruleFor dX2_has
          rw [if_pos (by decide : (-1 : Int32) < 0)]
          simp only [Option.bind_some]
          rw [if_neg (by simp)]
        rw [this]
        simp only [Option.bind_some]
        rw [if_neg (by simp)]
      · obtain ⟨m3, rfl⟩ : ∃ m, m2 = m + 1 := ⟨m2 - 1, by omega⟩
        have hstop : dX12_tidies_28 (m3 + 1) (sc_b b) (nI t) 0 (nI (t + 1)) τ = some (nI t, τ) := by
          simp only [dX12_tidies_28]
          split
          · rfl
          · rw [if_pos trivial]
        conv => lhs; rw [dX12_tidies_28.eq_2]
        simp only []
        rw [if_neg et, if_neg (by decide), dX12_tidiesOnce, sc_0, a2]
        simp only [Option.bind_some]
        rw [← sc_0, if_pos rfl, nI_1, Int32.add_zero]
        exact hstop
    · obtain ⟨n', X', σ1, τ1, b1, b2, b3, b4, b5, b6, b7, b8⟩ := sc_apply hP hk hr' hrl
      -- the counters
      generalize hτ2 : sf_up τ1 22 r' (τ1 22 r' + 1) = τ2
      have d2 : ∀ x y, ¬ (x = 22 ∧ y = r') → τ2 x y = τ1 x y := fun x y hxy => by
        rw [← hτ2]
        by_cases hx : x = 22
        · subst hx; exact sc_upJ (by omega)
        · exact sc_upK hx
      have hRp : sc_Rp (sf_pl q) n' σ1 τ2 := sc_mk_Rp b3 ⟨by rw [d2 _ _ (by omega)]; exact b4.1, fun c hc j hj => by rw [d2 _ _ (by omega)]; exact b4.2 c hc j hj⟩ b5
      obtain ⟨E', σ3, τ3, e1, e2, e3, e4, e5⟩ := sc_remeasure hRp
      have c22 : ∀ y, τ1 22 y = τ 22 y := fun y => b7 22 y (by omega)
      have cq : ∀ x y, ¬ (sf_pl q ≤ x ∧ x ≤ sf_pl q + 9) → σ3 x y = σ x y := fun x y hxy => by rw [e4 x y hxy, b6 x y (by omega)]
      generalize hσ4 : sf_up (sf_up σ3 (q + 1) r' (σ3 (q + 1) r' + 1)) q 2 (sf_up σ3 (q + 1) r' (σ3 (q + 1) r' + 1) q 2 + 1) = σ4
      have d4 : ∀ x y, ¬ ((x = q + 1 ∧ y = r') ∨ (x = q ∧ y = 2)) → σ4 x y = σ3 x y := fun x y hxy => by
        have : ∀ (s : sf_S) (k' j' : Nat) (v : Int32), (x ≠ k' ∨ y ≠ j') → sf_up s k' j' v x y = s x y := fun s k' j' v h => by
          rcases h with h | h
          · exact sc_upK h
          · exact sc_upJ h
        rw [← hσ4, this _ _ _ _ (by omega), this _ _ _ _ (by omega)]
      have hP4 : sc_Pq (sf_pl q) n' E' σ4 τ3 := e3.kept (fun a c h1 h2 => d4 a c (by omega)) (fun _ _ _ => rfl)
      have hct4 : sc_ct q σ4 τ3 := fun j hj => by
        rw [e5 _ _ (by omega)]
        by_cases hjr : j = r'
        · subst hjr
          rw [← hτ2, sc_upS, ← hσ4, sc_upK (by omega), sc_upS, cq _ _ (by omega), c22, hct j hj]
        · rw [d4 _ _ (by omega), d2 _ _ (by omega), cq _ _ (by omega), c22]
          exact hct j hj
      have hq4 : σ4 q 2 = nI (t + 1) := by
        rw [← hσ4, sc_upS, sc_upK (by omega), cq _ _ (by omega), hq2, nI_1]
      obtain ⟨n5, E5, σ5, τ5, N, f1', f2', f3, f4, f5, f6, f7, f8⟩ := ih (t + 1) n' m1 m2 E' σ4 τ3 (by omega) (by omega) (by omega) hP4 hct4 hq4
      refine ⟨n5, E5, σ5, τ5, N, ?_, ?_, f3, f4, f5, fun a c hac => ?_, fun a c hac => ?_, fun hd => f8 (sc_dd_congr (b8 n hn hP.2.2.2.1 hd) (fun j hj => ⟨?_, ?_⟩))⟩
      · conv => lhs; rw [dX5_simplify_28.eq_2]
        simp only []
        rw [if_neg et, hpl, a1]
        simp only [Option.bind_some, a2]
        rw [if_pos (sc_nm1 (by omega)), b1]
        simp only [Option.bind_some, e1, sc_inI (show r' < 13 from hr') (by omega : 13 ≤ 10000), if_true, sc_cl (show r' < 2 ^ 31 by omega), nI_1, hσ4]
        exact f1'
      · conv => lhs; rw [dX12_tidies_28.eq_2]
        simp only []
        rw [if_neg et, if_neg (by decide), dX12_tidiesOnce, sc_0, a3, b2]
        unfold dX12_uses_157
        simp only [sc_inI (show r' < 13 from hr') (by omega : 13 ≤ 10000), if_true, sc_cl (show r' < 2 ^ 31 by omega), hτ2, e2, Option.bind_some]
        rw [if_neg (by rw [← sc_0]; decide), nI_1]
        exact f2'
      · rw [f6 a c hac, d4 a c (by omega), cq a c (by omega)]
      · rw [f7 a c hac, e5 a c (by omega), d2 a c (by omega), b7 a c (by omega)]
      · rw [e5 _ _ (by omega), d2 _ _ (by omega)]; exact b4.2 0 (by omega) j hj
      · rw [e5 _ _ (by omega), d2 _ _ (by omega)]; exact b4.2 2 (by omega) j hj
