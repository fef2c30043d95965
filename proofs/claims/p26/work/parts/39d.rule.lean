/-! which rule the class finds at a node: the tree's -/
theorem sc_il_cases {c : Int32} (h : sc_il c = true) : c = 37 ∨ c = 42 ∨ c = 43 ∨ c = 47 ∨ c = 63 ∨ c = 99 ∨ c = 100 ∨ c = 105 ∨ c = 107 ∨ c = 108 ∨ c = 114 ∨ c = 115 ∨ c = 116 ∨ c = 117 ∨ c = 118 ∨ c = 119 ∨ c = 120 ∨ c = 122 := by
  by_cases h37 : c = 37
  · simp [h37]
  by_cases h42 : c = 42
  · simp [h42]
  by_cases h43 : c = 43
  · simp [h43]
  by_cases h47 : c = 47
  · simp [h47]
  by_cases h63 : c = 63
  · simp [h63]
  by_cases h99 : c = 99
  · simp [h99]
  by_cases h100 : c = 100
  · simp [h100]
  by_cases h105 : c = 105
  · simp [h105]
  by_cases h107 : c = 107
  · simp [h107]
  by_cases h108 : c = 108
  · simp [h108]
  by_cases h114 : c = 114
  · simp [h114]
  by_cases h115 : c = 115
  · simp [h115]
  by_cases h116 : c = 116
  · simp [h116]
  by_cases h117 : c = 117
  · simp [h117]
  by_cases h118 : c = 118
  · simp [h118]
  by_cases h119 : c = 119
  · simp [h119]
  by_cases h120 : c = 120
  · simp [h120]
  by_cases h122 : c = 122
  · simp [h122]
  simp only [sc_il, sc_p, h37, h42, h43, h47, h63, h99, h100, h105, h107, h108, h114, h115, h116, h117, h118, h119, h120, h122, if_false, or_self, ne_eq, not_true_eq_false, decide_false] at h
  cases h
theorem tk_P.root {p : Nat} {σ : sf_S} {X : tt_T} {j w : Nat} {o b : Int32} (h : tk_P p σ X j w o b) (hw : tt_wf X) : ∃ s c u P Q, X = .inner s c u P Q ∧ σ (p + 1) j = c.1 ∧ σ (p + 2) j = c.2.1 ∧ σ (p + 3) j = c.2.2.1 ∧ σ (p + 4) j = c.2.2.2 ∧ σ (p + 5) j = nI (j + tt_sz X) ∧ σ (p + 9) j = sc_b (tt_pu X) := by
  cases X with
  | leaf => exact absurd hw id
  | inner s c u P Q =>
    obtain ⟨⟨h1, h2, h3, h4⟩, ⟨h5, -, -, -, h9⟩, -⟩ := h
    exact ⟨s, c, u, P, Q, rfl, h1, h2, h3, h4, h5, h9⟩
theorem tk_P.at {p : Nat} {σ : sf_S} : ∀ (T : tt_T) (k0 w : Nat) (o b : Int32) (k : Nat), tk_P p σ T k0 w o b → k < tt_sz T → ∃ w' o' b', tk_P p σ (tt_at T k) (k0 + k) w' o' b'
  | .leaf, _, _, _, _, k, _, hk => absurd hk (Nat.not_lt_zero k)
  | .inner s c u P Q, k0, w, o, b, 0, h, _ => ⟨w, o, b, h⟩
  | .inner s c u P Q, k0, w, o, b, k + 1, h, hk => by
    simp only [tt_sz] at hk
    simp only [tt_at]
    split
    · rename_i hp
      obtain ⟨w', o', b', h'⟩ := tk_P.at P _ _ _ _ k h.2.2.1 hp
      exact ⟨w', o', b', by rw [show k0 + (k + 1) = k0 + 1 + k by omega]; exact h'⟩
    · rename_i hp
      obtain ⟨w', o', b', h'⟩ := tk_P.at Q _ _ _ _ (k - tt_sz P) h.2.2.2 (by omega)
      exact ⟨w', o', b', by rw [show k0 + (k + 1) = k0 + 1 + tt_sz P + (k - tt_sz P) by omega]; exact h'⟩
theorem tk_isnil {p n j w : Nat} {o b : Int32} {σ : sf_S} {X : tt_T} (hn : n ≤ 40) (h4 : σ p 4 = nI n) (hj : j < n) (hX : tk_P p σ X j w o b) (hw : tt_wf X) : dX2_isNil p (nI j) σ = some (sc_b (tt_isnil X), σ) := by
  obtain ⟨s, c, u, P, Q, rfl, h1, h2, h3, h5, -⟩ := hX.root hw
  unfold dX2_isNil
  rw [sc_has hn h4 (by omega), decide_eq_true hj]
  simp only [Option.bind_some, sc_inI (show j < 40 by omega) (by omega : 40 ≤ 10000), if_true, sc_cl (show j < 2 ^ 31 by omega), h1, h3, h5]
  rw [if_neg (by decide)]
  simp only [tt_isnil]
  by_cases a : c.1 = 114
  · by_cases b : c.2.2.1 = 0
    · by_cases d : c.2.2.2 = 0
      · simp [a, b, d, sc_b]
      · simp [a, b, d, sc_b]
    · simp [a, b, sc_b]
  · simp [a, sc_b]
theorem tk_lat {p n j : Nat} {σ : sf_S} (hn : n ≤ 40) (h4 : σ p 4 = nI n) (hj : j < n) : dX2_letterAt p (nI j) σ = some (σ (p + 1) j, σ) := by
  unfold dX2_letterAt
  rw [if_neg (nI_pos (by omega)), h4, if_neg (nI_ge hj (by omega)), if_pos (sc_inI (by omega) (by omega)), sc_cl (by omega)]
theorem tk_2nd {p n k : Nat} {σ : sf_S} (hn : n ≤ 40) (h4 : σ p 4 = nI n) (hj : k + 1 < n) : dX2_secondPart p (nI k) σ = some (σ (p + 5) (k + 1), σ) := by
  unfold dX2_secondPart
  rw [if_neg (nI_pos (by omega)), h4, nI_1, if_neg (nI_ge hj (by omega)), if_pos (sc_inI (by omega) (by omega)), sc_cl (by omega)]
/-- the rule's number -/
def tt_rn (S : tt_T) : Int32 := match tt_ap S with
  | none => -1
  | some (r, _) => nI r
theorem tk_ruleT {q n k w : Nat} {o b : Int32} {σ : sf_S} {s : Nat} {c : tt_C} {u : Unit} {P Q : tt_T} (hn : n ≤ 40) (h4 : σ (sf_pl q) 4 = nI n) (hk : k + tt_sz (.inner s c u P Q) ≤ n) (hP : tk_P (sf_pl q) σ (.inner s c u P Q) k w o b) (hw : tt_wf (.inner s c u P Q)) (hc : c.1 = 116) : dX5_ruleFor q (nI k) σ = some (tt_rn (.inner s c u P Q), σ) := by
  obtain ⟨⟨h1, h2, h3, h5⟩, -, hP1, -⟩ := hP
  obtain ⟨q1, q2⟩ := hw.2.2.2.2.1 (by rw [hc]; decide +kernel)
  have hz := tt_wf_sz q1
  simp only [tt_sz] at hk
  have hik : sf_in (nI k) 40 = true := sc_inI (by omega) (by omega)
  have hC : dX5_ruleFor q (nI k) σ = dX5_ruleForTake q (nI k) σ := by
    unfold dX5_ruleFor
    rw [sc_has hn h4 (by omega), decide_eq_true (show k < n by omega)]
    simp only [Option.bind_some, hik, if_true, sc_cl (show k < 2 ^ 31 by omega), h1, hc]
    cases dX5_ruleForTake q (nI k) σ <;> rfl
  obtain ⟨z, e, v, X, Y, rfl, g1, -⟩ := hP1.root q1
  rw [hC]
  unfold dX5_ruleForTake
  rw [nI_1, tk_lat hn h4 (by omega), g1]
  simp only [Option.bind_some, hik, if_true, sc_cl (show k < 2 ^ 31 by omega), h3, tt_rn, tt_ap_t hc, tt_apt, tt_pmd]
  generalize e.1 = d
  by_cases d1 : d = 37
  · subst d1; rfl
  by_cases d2 : d = 42
  · subst d2; rfl
  by_cases d3 : d = 43
  · subst d3; rfl
  by_cases d4 : d = 114
  · subst d4; rfl
  by_cases d5 : d = 116
  · subst d5; rfl
  simp only [d1, d2, d3, d4, d5, if_false, or_self, decide_false, Bool.false_eq_true]
  by_cases hf : c.2.2.1 = 0
  · rw [if_neg (by simp [hf]), if_pos hf]; rfl
  · rw [if_pos hf, if_neg hf]
theorem tk_ruleD {q n k w : Nat} {o b : Int32} {σ : sf_S} {s : Nat} {c : tt_C} {u : Unit} {P Q : tt_T} (hn : n ≤ 40) (h4 : σ (sf_pl q) 4 = nI n) (hk : k + tt_sz (.inner s c u P Q) ≤ n) (hP : tk_P (sf_pl q) σ (.inner s c u P Q) k w o b) (hw : tt_wf (.inner s c u P Q)) (hc : c.1 = 100) : dX5_ruleFor q (nI k) σ = some (tt_rn (.inner s c u P Q), σ) := by
  obtain ⟨⟨h1, h2, h3, h5⟩, -, hP1, -⟩ := hP
  obtain ⟨q1, q2⟩ := hw.2.2.2.2.1 (by rw [hc]; decide +kernel)
  have hz := tt_wf_sz q1
  simp only [tt_sz] at hk
  have hik : sf_in (nI k) 40 = true := sc_inI (by omega) (by omega)
  have hC : dX5_ruleFor q (nI k) σ = dX5_ruleForDrop q (nI k) σ := by
    unfold dX5_ruleFor
    rw [sc_has hn h4 (by omega), decide_eq_true (show k < n by omega)]
    simp only [Option.bind_some, hik, if_true, sc_cl (show k < 2 ^ 31 by omega), h1, hc]
    cases dX5_ruleForDrop q (nI k) σ <;> rfl
  obtain ⟨z, e, v, X, Y, rfl, g1, -⟩ := hP1.root q1
  have e2 : nI k + 2 = nI (k + 2) := by rw [show (2 : Int32) = nI 2 from by decide +kernel, nI_add]
  have h117 : dX5_ruleForDrop_117 q (nI k) σ = some (if c.2.2.1 = 0 then 10 else -1, σ) := by
    unfold dX5_ruleForDrop_117
    rw [if_pos hik, sc_cl (by omega), h3]
    by_cases hf : c.2.2.1 = 0
    · rw [if_neg (by simp [hf]), if_pos hf]
    · rw [if_pos hf, if_neg hf]
  rw [hC]
  unfold dX5_ruleForDrop
  rw [nI_1, tk_lat hn h4 (by omega), g1]
  simp only [Option.bind_some, e2, h117, tt_rn, tt_ap_d hc, tt_apd, tt_pmd]
  have hil := q1.2.2.1
  have w1 := q1.2.2.2.2.1
  generalize hd : e.1 = d at *
  by_cases d1 : d = 37
  · subst d1; rfl
  by_cases d2 : d = 42
  · subst d2; rfl
  by_cases d3 : d = 43
  · subst d3; rfl
  by_cases d4 : d = 100
  · subst d4; rfl
  by_cases d5 : d = 105
  · subst d5; rfl
  by_cases d6 : d = 114
  · subst d6; rfl
  have hlast : (some (if c.2.2.1 = 0 then (10 : Int32) else -1, σ)) = some (match (if c.2.2.1 = 0 then some (10, .inner z e v X Y) else none : Option (Nat × tt_T)) with
    | none => (-1 : Int32)
    | some (r, _) => nI r, σ) := by
    by_cases hf : c.2.2.1 = 0
    · rw [if_pos hf, if_pos hf]; rfl
    · rw [if_neg hf, if_neg hf]
  by_cases d7 : d = 116
  · obtain ⟨f1, f2⟩ := w1 (by rw [d7]; decide +kernel)
    have hz2 := tt_wf_sz f1
    simp only [tt_sz] at hk
    obtain ⟨z2, e3, v2, X2, Y2, rfl, -, -, -, -, -, k9⟩ := hP1.2.2.1.root f1
    rw [sc_has hn h4 (by omega), decide_eq_true (show k + 2 < n by omega)]
    subst d7
    simp only [Option.bind_some, sc_inI (show k + 2 < 40 by omega) (by omega : 40 ≤ 10000), if_true, sc_cl (show k + 2 < 2 ^ 31 by omega), k9]
    cases hpu : tt_pu (.inner z2 e3 v2 X2 Y2)
    · simp only [d1, d2, d3, d4, d5, d6, if_false, or_self, decide_false, Bool.false_eq_true, and_false, not_true_eq_false, sc_b0, Bool.true_eq_false, if_true]
      exact h117.trans hlast
    · rfl
  · simp only [d1, d2, d3, d4, d5, d6, d7, if_false, not_false_eq_true, if_true, or_self, decide_false, Bool.false_eq_true, false_and]
    exact hlast
theorem tk_rule {q n k w : Nat} {o b : Int32} {σ : sf_S} {S : tt_T} (hn : n ≤ 40) (h4 : σ (sf_pl q) 4 = nI n) (hk : k + tt_sz S ≤ n) (hP : tk_P (sf_pl q) σ S k w o b) (hw : tt_wf S) : dX5_ruleFor q (nI k) σ = some (tt_rn S, σ) := by
  cases S with
  | leaf => exact absurd hw id
  | inner s c u P Q =>
    by_cases h116 : c.1 = 116
    · exact tk_ruleT hn h4 hk hP hw h116
    by_cases h100 : c.1 = 100
    · exact tk_ruleD hn h4 hk hP hw h100
    have hP0 := hP
    obtain ⟨⟨h1, h2, h3, h5⟩, -, hP1, hQ1⟩ := hP0
    obtain ⟨-, -, hil, w0, w1, w2⟩ := id hw
    simp only [tt_sz] at hk
    have hkn : k < n := by omega
    have hik : sf_in (nI k) 40 = true := sc_inI (by omega) (by omega)
    have hC0 : dX2_has (sf_pl q) (nI k) σ = some (1, σ) := by rw [sc_has hn h4 (by omega), decide_eq_true hkn]; rfl
    by_cases h114 : c.1 = 114
    · have hnk := tk_isnil hn h4 hkn hP hw
      unfold dX5_ruleFor
      rw [hC0]
      simp only [Option.bind_some, hik, if_true, sc_cl (show k < 2 ^ 31 by omega), h1, h114, h3, h5, hnk, tt_rn, tt_ap]
      simp only [tt_isnil, h114, true_and]
      by_cases hlt : c.2.2.1 < c.2.2.2
      · have hle : ¬ c.2.2.2 ≤ c.2.2.1 := by rw [Int32.le_iff_toInt_le]; rw [Int32.lt_iff_toInt_lt] at hlt; omega
        simp only [hlt, hle, if_true, false_and, if_false]; rfl
      · have hle : c.2.2.2 ≤ c.2.2.1 := by rw [Int32.le_iff_toInt_le]; rw [Int32.lt_iff_toInt_lt] at hlt; omega
        simp only [hlt, hle, if_false, true_and]
        by_cases hz : c.2.2.1 = 0 ∧ c.2.2.2 = 0
        · rw [decide_eq_true hz, show (if ¬(c.2.2.1 = 0 ∧ c.2.2.2 = 0) then some (0, tt_nil) else none) = (none : Option (Nat × tt_T)) from if_neg (fun q => q hz)]; rfl
        · rw [decide_eq_false hz, show (if ¬(c.2.2.1 = 0 ∧ c.2.2.2 = 0) then some (0, tt_nil) else none) = (some (0, tt_nil) : Option (Nat × tt_T)) from if_pos hz]; rfl
    by_cases h99 : c.1 = 99
    · obtain ⟨q1, q2⟩ := w2 (by rw [h99]; decide +kernel)
      have z1 := tt_wf_sz q1
      have z2 := tt_wf_sz q2
      obtain ⟨s1, c1, u1, P1, Q1, e1, -, -, -, -, g5, -⟩ := hP1.root q1
      unfold dX5_ruleFor
      rw [hC0]
      simp only [Option.bind_some, hik, if_true, sc_cl (show k < 2 ^ 31 by omega), h1, h99, nI_1, tk_isnil hn h4 (show k + 1 < n by omega) hP1 q1, tk_2nd hn h4 (show k + 1 < n by omega), g5, tk_isnil hn h4 (show k + 1 + tt_sz P < n by omega) hQ1 q2]
      have hap : tt_ap (.inner s c u P Q) = if tt_isnil P = true then some (12, Q) else if tt_isnil Q = true then some (12, P) else none := by
        simp only [tt_ap]; rw [h99]; rfl
      simp only [tt_rn, hap]
      cases tt_isnil P <;> cases tt_isnil Q <;> rfl
    by_cases hleaf : c.1 = 105 ∨ c.1 = 115 ∨ c.1 = 117 ∨ c.1 = 118
    · have hap : tt_ap (.inner s c u P Q) = none := by
        simp only [tt_ap]
        rw [if_neg h114, if_neg h116, if_neg h100, if_neg h99, if_pos hleaf]
      simp only [tt_rn, hap]
      unfold dX5_ruleFor
      rw [hC0]
      simp only [Option.bind_some, hik, if_true, sc_cl (show k < 2 ^ 31 by omega), h1]
      rcases hleaf with hl | hl | hl | hl <;> rw [hl] <;> rfl
    have hleaf2 := hleaf
    simp only [not_or] at hleaf2
    obtain ⟨h105, h115, h117, h118⟩ := hleaf2
    have hp1 : ¬ sc_p c.1 = 0 := by
      rcases sc_il_cases hil with e | e | e | e | e | e | e | e | e | e | e | e | e | e | e | e | e | e <;> first | (exfalso; first | exact h116 e | exact h100 e | exact h114 e | exact h99 e | exact h105 e | exact h115 e | exact h117 e | exact h118 e) | (rw [e]; decide +kernel)
    by_cases h120 : c.1 = 120
    · obtain ⟨q1, q2⟩ := w2 (by rw [h120]; decide +kernel)
      have z1 := tt_wf_sz q1
      have z2 := tt_wf_sz q2
      obtain ⟨s1, c1, u1, P1, Q1, e1, -, -, -, -, g5, -⟩ := hP1.root q1
      have hin : dX2_input (sf_pl q) (nI k) σ = some (nI (k + 1 + tt_sz P), σ) := by
        unfold dX2_input
        rw [tk_lat hn h4 hkn, h1]
        simp only [Option.bind_some]
        rw [if_neg (by simp [h120]), tk_2nd hn h4 (by omega), g5]; rfl
      have hap : tt_ap (.inner s c u P Q) = if tt_isnil Q = true then some (11, tt_nil) else none := by
        simp only [tt_ap]; rw [h120]; rfl
      unfold dX5_ruleFor
      rw [hC0]
      simp only [Option.bind_some, hik, if_true, sc_cl (show k < 2 ^ 31 by omega), h1, hin, tk_isnil hn h4 (show k + 1 + tt_sz P < n by omega) hQ1 q2]
      simp only [Option.bind_some, h99, h100, h105, h114, h115, h116, h117, h118, if_false, ite_self, tt_rn, hap]
      cases tt_isnil Q <;> rfl
    · have q1 : tt_wf P := by
        rcases sc_p3 c.1 with k | k | k
        · exact absurd k hp1
        · exact (w1 k).1
        · exact (w2 k).1
      have z1 := tt_wf_sz q1
      have hin : dX2_input (sf_pl q) (nI k) σ = some (nI (k + 1), σ) := by
        unfold dX2_input
        rw [tk_lat hn h4 hkn, h1]
        simp only [Option.bind_some]
        rw [if_pos h120, nI_1]
      have hap : tt_ap (.inner s c u P Q) = if tt_isnil P = true then some (11, tt_nil) else none := by
        simp only [tt_ap]
        rw [if_neg h114, if_neg h116, if_neg h100, if_neg h99, if_neg hleaf, if_neg h120]
      unfold dX5_ruleFor
      rw [hC0]
      simp only [Option.bind_some, hik, if_true, sc_cl (show k < 2 ^ 31 by omega), h1, hin, tk_isnil hn h4 (show k + 1 < n by omega) hP1 q1]
      simp only [Option.bind_some, h99, h100, h105, h114, h115, h116, h117, h118, if_false, ite_self, tt_rn, hap]
      cases tt_isnil P <;> rfl
