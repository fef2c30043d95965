/-! simplifying, in the class -/
theorem tk_P.kept {p : Nat} {σ σ' : sf_S} (h1 : ∀ a b, p + 1 ≤ a → a ≤ p + 9 → σ' a b = σ a b) : ∀ {T : tt_T} {k w : Nat} {o b : Int32}, tk_P p σ T k w o b → tk_P p σ' T k w o b
  | .leaf, _, _, _, _, _ => trivial
  | .inner s c u P Q, k, w, o, b, ⟨⟨a1, a2, a3, a4⟩, ⟨a5, a6, a7, a8, a9⟩, hP, hQ⟩ => by
    refine ⟨⟨?_, ?_, ?_, ?_⟩, ⟨?_, ?_, ?_, ?_, ?_⟩, hP.kept h1, hQ.kept h1⟩
    all_goals rw [h1 _ _ (by omega) (by omega)]; assumption
theorem tk_M.kept {p : Nat} {T : tt_T} {σ σ' : sf_S} (h : tk_M p T σ) (h1 : ∀ a b, ((a = p ∧ (b = 4 ∨ b = 11)) ∨ (p + 1 ≤ a ∧ a ≤ p + 9)) → σ' a b = σ a b) : tk_M p T σ' := by
  obtain ⟨a, b, c⟩ := h
  refine ⟨a.kept fun x y q => h1 x y (by omega), b.kept fun x y q1 q2 => h1 x y (Or.inr ⟨q1, q2⟩), by rw [h1 _ _ (Or.inl ⟨rfl, Or.inr rfl⟩)]; exact c⟩
/-- what simplifying writes to -/
def tk_sf (q : Nat) (σ σ' : sf_S) : Prop := ∀ a b, ¬ (sf_pl q ≤ a ∧ a ≤ sf_pl q + 9) → ¬ (a = q ∧ b = 2) → ¬ a = q + 1 → σ' a b = σ a b
theorem tk_sf_tr {q : Nat} {a b c : sf_S} (h1 : tk_sf q a b) (h2 : tk_sf q b c) : tk_sf q a c := fun x y q1 q2 q3 => (h2 x y q1 q2 q3).trans (h1 x y q1 q2 q3)
theorem tk_simp28 {q : Nat} (hq : q = 13 ∨ q = 49) (x1 : Int32) : ∀ (m i fuel t : Nat) (T : tt_T) (σ : sf_S), tt_ok T → tk_M (sf_pl q) T σ → tt_mu T ≤ m → i + m ≤ 900000 → m < fuel → σ q 2 = nI t →
    ∃ s t', dX5_simplify_28 q fuel x1 (nI i) σ = some s ∧ tk_M (sf_pl q) (tt_nf T) s ∧ s q 2 = nI t' ∧ t ≤ t' ∧ t' ≤ t + m ∧ (t' = t ↔ tt_nm T) ∧ tk_sf q σ s := by
  have hpq : sf_pl q + 9 < q ∧ 1 ≤ sf_pl q := by rcases hq with rfl | rfl <;> decide
  intro m
  induction m with
  | zero =>
    intro i fuel t T σ hT hM hm hi hf h2
    have := tt_wf_sz hT.1
    unfold tt_mu at hm
    omega
  | succ m ih =>
    intro i fuel t T σ hT hM hm hi hf h2
    obtain ⟨f, rfl⟩ : ∃ f, fuel = f + 1 := ⟨fuel - 1, by omega⟩
    obtain ⟨h1, h3, h4, h5, h6⟩ := id hT
    have hlim : ¬ (1000000 : Int32) ≤ nI i := by
      rw [show (1000000 : Int32) = nI 1000000 from by decide +kernel]
      exact nI_ge (by omega) (by omega)
    obtain ⟨v, e1, e2⟩ := tk_place (q := q) (x1 := x1) h6 h1 hM
    simp only [dX5_simplify_28]
    rw [if_neg hlim, e1]
    simp only [Option.bind_some]
    rcases e2 with ⟨rfl, e2⟩ | ⟨k, hk, rfl, e2⟩
    · have hnm : tt_nm T := tt_nm_of T fun k hk => tt_rn_none (e2 k hk)
      have hr : dX5_ruleFor q (-1) σ = some (-1, σ) := by
        unfold dX5_ruleFor dX2_has
        rw [if_pos (by decide)]
        rfl
      rw [hr]
      simp only [Option.bind_some]
      rw [if_neg (by decide)]
      refine ⟨σ, t, rfl, ?_, h2, Nat.le_refl _, by omega, ⟨fun _ => hnm, fun _ => rfl⟩, fun _ _ _ _ _ => rfl⟩
      rw [tt_nf_id T ⟨h1, hnm, h3⟩]; exact hM
    · obtain ⟨r, U, ha, hrn⟩ := tt_rn_some e2
      obtain ⟨w', o', b', hS⟩ := hM.2.1.at T 0 0 0 (-1) k hk
      rw [Nat.zero_add] at hS
      have hz4 := hM.1.1
      rw [tt_fl_len] at hz4
      have hrule := tk_rule (q := q) h6 hz4 (tt_at_sz T k hk).2 hS (tt_at_wf T k hk h1)
      have hr13 := tt_ap_13 ha
      rw [hrn] at hrule
      obtain ⟨s1, a1, a2, a3⟩ := tk_apply (q := q) h6 h1 hM hk ha
      obtain ⟨b1, b2, b3, b4, b5⟩ := tt_ok_step hT hk ha
      obtain ⟨s2, c1, c2, c3⟩ := tk_meas (p := sf_pl q) (T := tt_put T k U) (σ := s1) b1.1 b1.2.2.2.1 b1.2.2.2.2 a2
      have hin : sf_in (nI r) 13 = true := sc_inI hr13 (by omega)
      have s2q : s2 q 2 = nI t := by rw [c2 _ _ (by omega), a3 _ _ (by omega)]; exact h2
      obtain ⟨s, t', d1, d2, d3, d4, d5, -, d7⟩ := ih (i + 1) f (t + 1) (tt_put T k U) (sf_up (sf_up s2 (q + 1) r (s2 (q + 1) r + 1)) q 2 (s2 q 2 + 1)) b1
        (c3.kept fun a b hab => by rw [sc_upK (by omega), sc_upK (by omega)]) (by omega) (by omega) (by omega) (by rw [sc_upS, s2q, nI_1])
      refine ⟨s, t', ?_, by rw [← b4]; exact d2, d3, by omega, by omega, ⟨fun q2 => by omega, fun q2 => ?_⟩, fun a b g1 g2 g3 => ?_⟩
      · rw [hrule]
        simp only [Option.bind_some]
        rw [if_pos (sc_nm1 (by omega)), a1]
        simp only [Option.bind_some]
        rw [c1]
        simp only [Option.bind_some, hin, if_true, sc_cl (show r < 2 ^ 31 by omega)]
        rw [sc_upK (show q ≠ q + 1 by omega), nI_1]
        exact d1
      · rw [tt_nm_sub T k q2] at ha; cases ha
      · rw [d7 a b g1 g2 g3]
        have : sf_up (sf_up s2 (q + 1) r (s2 (q + 1) r + 1)) q 2 (s2 q 2 + 1) a b = s2 a b := by
          have e : ∀ (x : sf_S) (k' j' : Nat) (v : Int32), (a ≠ k' ∨ b ≠ j') → sf_up x k' j' v a b = x a b := fun x k' j' v h => by
            rcases h with h | h
            · exact sc_upK h
            · exact sc_upJ h
          rw [e _ _ _ _ (by omega), e _ _ _ _ (by omega)]
        rw [this, c2 a b (by omega), a3 a b (by omega)]
theorem tk_simp2 {q : Nat} (hq : q = 13 ∨ q = 49) (x1 : Int32) : ∀ (m i fuel : Nat) (σ : sf_S), i + m = 13 → m < fuel → ∃ s, dX5_simplify_2 q fuel x1 (nI i) σ = dX5_simplify_28 q sf_F x1 (nI 0) (sf_up s q 2 0) ∧ ∀ a b, ¬ a = q + 1 → s a b = σ a b := by
  intro m
  induction m with
  | zero =>
    intro i fuel σ hi hf
    obtain ⟨f, rfl⟩ : ∃ f, fuel = f + 1 := ⟨fuel - 1, by omega⟩
    refine ⟨σ, ?_, fun _ _ _ => rfl⟩
    simp only [dX5_simplify_2]
    rw [show (13 : Int32) = nI 13 from by decide +kernel, if_pos (nI_le (by omega) (by omega)), sc_0]
  | succ m ih =>
    intro i fuel σ hi hf
    obtain ⟨f, rfl⟩ : ∃ f, fuel = f + 1 := ⟨fuel - 1, by omega⟩
    obtain ⟨s, s1, s2⟩ := ih (i + 1) f (sf_up σ (q + 1) i 0) (by omega) (by omega)
    refine ⟨s, ?_, fun a b hab => by rw [s2 a b hab, sc_upK hab]⟩
    simp only [dX5_simplify_2]
    rw [show (13 : Int32) = nI 13 from by decide +kernel, if_neg (nI_ge (by omega) (by omega)), if_pos (sc_inI (by omega) (by omega)), sc_cl (by omega), nI_1]
    exact s1
theorem tk_simp {q : Nat} (hq : q = 13 ∨ q = 49) (x1 : Int32) {T : tt_T} {σ : sf_S} (hT : tt_ok T) (hM : tk_M (sf_pl q) T σ) : ∃ s t, dX5_simplify q x1 σ = some s ∧ tk_M (sf_pl q) (tt_nf T) s ∧ s q 2 = nI t ∧ t ≤ 4000 ∧ (t = 0 ↔ tt_nm T) ∧ tk_sf q σ s := by
  have hF := sf_F_le
  have hpq : sf_pl q + 9 < q ∧ 1 ≤ sf_pl q := by rcases hq with rfl | rfl <;> decide
  have hmu := tt_mu_le hT.2.2.2.2
  obtain ⟨s0, a1, a2⟩ := tk_simp2 hq x1 13 0 sf_F σ (by omega) (by omega)
  obtain ⟨s, t, b1, b2, b3, b4, b5, b6, b7⟩ := tk_simp28 hq x1 4000 0 sf_F 0 T (sf_up s0 q 2 0) hT
    (hM.kept fun a b hab => by
      have : ¬ (a = q ∧ b = 2) := by omega
      rw [show sf_up s0 q 2 0 a b = s0 a b from if_neg this, a2 a b (by omega)]) hmu (by omega) (by omega) (by rw [sc_upS, sc_0])
  refine ⟨s, t, ?_, b2, b3, by omega, b6, fun a b g1 g2 g3 => ?_⟩
  · unfold dX5_simplify
    rw [sc_0]
    exact a1.trans b1
  · rw [b7 a b g1 g2 g3, show sf_up s0 q 2 0 a b = s0 a b from if_neg g2, a2 a b g3]
/-- taking a plan over -/
theorem tk_take {q r1 : Nat} {T : tt_T} {σ : sf_S} (hd : r1 + 9 < q ∨ q + 9 < r1) (hw : tt_wf T) (hu : tt_uv T 0) (hz : tt_sz T ≤ 40) (hR : tk_R r1 (tt_fl T) σ) : ∃ s, dX2_takeFrom q r1 σ = some s ∧ tk_M q T s ∧ ∀ x y, ¬ (q ≤ x ∧ x ≤ q + 9) → s x y = σ x y := by
  have h1 := tt_wf_sz hw
  have hrow : ∀ i e, (tt_fl T)[i]? = some e → σ (r1 + 1) i = e.1 := fun i e h => (hR.2 i e h).1
  have hlen := tt_fl_len T
  obtain ⟨E, s, hT, s1, s2, s3, s4, s5⟩ := sc_take (q := q) (r1 := r1) hz (by omega) hd (by rw [← hlen]; exact hR.1) (tk_G hw hu hrow)
  refine ⟨s, s1, tk_ofT hw ⟨by rw [hlen]; exact s2, fun j c hj => ?_⟩ (fun j hj => (s3 j hj).1.symm) hT s4, s5⟩
  have hj2 := (List.getElem?_eq_some_iff.mp hj).1
  rw [hlen] at hj2
  obtain ⟨e1, e2, e3, e4⟩ := s3 j hj2
  rw [e1, e2, e3, e4]
  exact hR.2 j c hj
