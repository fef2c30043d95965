/-! printing a plan: what is put, whatever room there is -/
/-- which mark a letter has: 6 <>=, 7 +*<, 8 a figure to 3, 9 to 9; 0 none -/
def sc_mk (c : Int32) : Nat := if c = 63 then 6 else if c = 119 then 6 else if c = 122 then 7 else if c = 115 then 8 else if c = 108 then 9 else 0
theorem sc_hdC (c : Int32) (σ : sf_S) : dX4_hasDigit c σ = some (sc_b (decide (c = 115 ∨ c = 108)), σ) := by
  unfold dX4_hasDigit
  by_cases h1 : c = 115
  · subst h1; rfl
  by_cases h2 : c = 108
  · subst h2; rfl
  · simp only [h1, h2, if_false, not_false_eq_true, if_true, or_self, decide_false]; rfl
theorem sc_hmC (c : Int32) (σ : sf_S) : dX4_hasMark c σ = some (sc_b (decide (sc_mk c ≠ 0)), σ) := by
  unfold dX4_hasMark
  simp only [sc_hdC, Option.bind_some]
  by_cases h1 : c = 63
  · subst h1; rfl
  by_cases h2 : c = 119
  · subst h2; rfl
  by_cases h3 : c = 122
  · subst h3; rfl
  by_cases h4 : c = 115
  · subst h4; rfl
  by_cases h5 : c = 108
  · subst h5; rfl
  · simp only [sc_mk, h1, h2, h3, h4, h5, if_false, or_self, decide_false]; rfl
def tp_nar (x : Int32) : Int32 := vp_nar .byte x.toInt8.toInt32
def tp_put (x : Int32) (σ : sf_S) : sf_S := if σ 11 2 < 400 then sf_up (sf_up σ 12 (σ 11 2).toNatClampNeg (tp_nar x)) 11 2 (σ 11 2 + 1) else σ
def tp_ps : List Int32 → sf_S → sf_S
  | [], σ => σ
  | x :: l, σ => tp_ps l (tp_put x σ)
def tp_L (σ : sf_S) : Prop := ∃ l, l ≤ 400 ∧ σ 11 2 = nI l
theorem tp_c400 : (400 : Int32) = nI 400 := by decide +kernel
theorem tp_put_lt {x : Int32} {σ : sf_S} {l : Nat} (h : σ 11 2 = nI l) (hl : l < 400) : tp_put x σ = sf_up (sf_up σ 12 l (tp_nar x)) 11 2 (nI (l + 1)) := by
  unfold tp_put
  rw [h, tp_c400, if_pos (nI_lt hl (by omega)), sc_cl (by omega), nI_1]
theorem tp_put_ge {x : Int32} {σ : sf_S} (h : σ 11 2 = nI 400) : tp_put x σ = σ := by
  unfold tp_put
  rw [h, tp_c400, if_neg (nI_nlt (Nat.le_refl _) (by omega))]
theorem tp_put_L {x : Int32} {σ : sf_S} (h : tp_L σ) : tp_L (tp_put x σ) := by
  obtain ⟨l, hl, h⟩ := h
  by_cases h4 : l < 400
  · rw [tp_put_lt h h4]; exact ⟨l + 1, by omega, sc_upS⟩
  · have : l = 400 := by omega
    subst this
    rw [tp_put_ge h]; exact ⟨400, by omega, h⟩
theorem tp_put_ok {x : Int32} {σ : sf_S} (h : tp_L σ) : dX3_put x σ = some (tp_put x σ) := by
  obtain ⟨l, hl, h⟩ := h
  unfold dX3_put
  by_cases h4 : l < 400
  · rw [tp_put_lt h h4]
    simp only [h]
    rw [tp_c400, if_pos (nI_lt h4 (by omega)), if_pos (sc_inI h4 (by omega)), sc_cl (by omega), sc_upK (by omega), h, nI_1]
    rfl
  · have : l = 400 := by omega
    subst this
    rw [tp_put_ge h, h, tp_c400, if_neg (nI_nlt (Nat.le_refl _) (by omega))]
theorem tp_ps_L : ∀ (ds : List Int32) {σ : sf_S}, tp_L σ → tp_L (tp_ps ds σ)
  | [], _, h => h
  | x :: l, _, h => tp_ps_L l (tp_put_L h)
theorem tp_ps_app : ∀ (a b : List Int32) (σ : sf_S), tp_ps (a ++ b) σ = tp_ps b (tp_ps a σ)
  | [], _, _ => rfl
  | x :: a, b, σ => tp_ps_app a b (tp_put x σ)
theorem tp_put_ne {x : Int32} {σ : sf_S} {a b : Nat} (h : ¬ (a = 12 ∨ (a = 11 ∧ b = 2))) : tp_put x σ a b = σ a b := by
  unfold tp_put
  split
  · have : ¬ (a = 11 ∧ b = 2) := by omega
    rw [show sf_up (sf_up σ 12 (σ 11 2).toNatClampNeg (tp_nar x)) 11 2 (σ 11 2 + 1) a b = sf_up σ 12 (σ 11 2).toNatClampNeg (tp_nar x) a b from if_neg this, sc_upK (by omega)]
  · rfl
theorem tp_ps_ne : ∀ (ds : List Int32) (σ : sf_S) {a b : Nat}, ¬ (a = 12 ∨ (a = 11 ∧ b = 2)) → tp_ps ds σ a b = σ a b
  | [], _, _, _, _ => rfl
  | x :: l, σ, a, b, h => by rw [tp_ps, tp_ps_ne l _ h, tp_put_ne h]
theorem tp_ps_len : ∀ (ds : List Int32) (σ : sf_S) (l : Nat), l ≤ 400 → σ 11 2 = nI l → tp_ps ds σ 11 2 = nI (min 400 (l + ds.length))
  | [], σ, l, hl, h => by rw [tp_ps, h]; congr 1; simp; omega
  | x :: d, σ, l, hl, h => by
    rw [tp_ps]
    by_cases h4 : l < 400
    · rw [tp_ps_len d _ (l + 1) (by omega) (by rw [tp_put_lt h h4]; exact sc_upS)]
      congr 1; simp only [List.length_cons]; omega
    · have : l = 400 := by omega
      subst this
      rw [tp_put_ge h, tp_ps_len d σ 400 (by omega) h]
      congr 1; simp only [List.length_cons]; omega
theorem tp_ps_lo : ∀ (ds : List Int32) (σ : sf_S) (l j : Nat), l ≤ 400 → σ 11 2 = nI l → j < l → tp_ps ds σ 12 j = σ 12 j
  | [], _, _, _, _, _, _ => rfl
  | x :: d, σ, l, j, hl, h, hj => by
    rw [tp_ps]
    by_cases h4 : l < 400
    · rw [tp_ps_lo d _ (l + 1) j (by omega) (by rw [tp_put_lt h h4]; exact sc_upS) (by omega), tp_put_lt h h4, sc_upK (by omega), sc_upJ (by omega)]
    · have : l = 400 := by omega
      subst this
      rw [tp_put_ge h, tp_ps_lo d σ 400 j (by omega) h hj]
theorem tp_ps_at : ∀ (ds : List Int32) (σ : sf_S) (l i : Nat) (x : Int32), l + i < 400 → σ 11 2 = nI l → ds[i]? = some x → tp_ps ds σ 12 (l + i) = tp_nar x
  | [], _, _, _, _, _, _, h => by simp at h
  | y :: d, σ, l, 0, x, hl, h, hx => by
    cases hx
    have h4 : l < 400 := by omega
    rw [tp_ps, tp_ps_lo d _ (l + 1) (l + 0) (by omega) (by rw [tp_put_lt h h4]; exact sc_upS) (by omega), tp_put_lt h h4, sc_upK (by omega), Nat.add_zero, sc_upS]
  | y :: d, σ, l, i + 1, x, hl, h, hx => by
    have h4 : l < 400 := by omega
    rw [tp_ps, show l + (i + 1) = l + 1 + i by omega]
    exact tp_ps_at d _ (l + 1) i x (by omega) (by rw [tp_put_lt h h4]; exact sc_upS) (by simpa using hx)
/-! numbers -/
theorem tp_57 : ∀ (m j n : Nat) (x2 x4 : Int64), j + m = 11 → m < n → ∃ ds, ∀ σ, tp_L σ → dX3_putNumber_57 n x2 x4 (nI j) σ = some (tp_ps ds σ) := by
  intro m
  induction m with
  | zero =>
    intro j n x2 x4 hj hn
    obtain ⟨f, rfl⟩ : ∃ f, n = f + 1 := ⟨n - 1, by omega⟩
    refine ⟨[59], fun σ h => ?_⟩
    simp only [dX3_putNumber_57]
    rw [show (11 : Int32) = nI 11 from by decide +kernel, if_pos (nI_le (by omega) (by omega)), tp_put_ok h]; rfl
  | succ m ih =>
    intro j n x2 x4 hj hn
    obtain ⟨f, rfl⟩ : ∃ f, n = f + 1 := ⟨n - 1, by omega⟩
    have h11 : ¬ (11 : Int32) ≤ nI j := by rw [show (11 : Int32) = nI 11 from by decide +kernel]; exact nI_ge (by omega) (by omega)
    by_cases hc : lg_cmp x4 (0 : Int64) ≤ 0
    · refine ⟨[59], fun σ h => ?_⟩
      simp only [dX3_putNumber_57]
      rw [if_neg h11, if_pos hc, tp_put_ok h]; rfl
    · have h0 : ¬ x4 = 0 := fun e => by subst e; exact hc (by decide +kernel)
      obtain ⟨ds, hd⟩ := ih (j + 1) f x2 (x4 / 10) (by omega) (by omega)
      refine ⟨((48 : Int32) + ((x2 / x4 - x2 / x4 / (10 : Int64) * (10 : Int64))).toInt32) :: ds, fun σ h => ?_⟩
      simp only [dX3_putNumber_57]
      rw [if_neg h11, if_neg hc, if_neg h0, if_neg (by decide), tp_put_ok h]
      simp only [Option.bind_some]
      rw [if_neg (by decide), nI_1]
      exact hd _ (tp_put_L h)
theorem tp_44 (x1 : Int32) (x2 x4 : Int64) : ∃ ds, ∀ σ, tp_L σ → dX3_putNumber_44 x1 x2 x4 σ = some (tp_ps ds σ) := by
  have hF := sf_F_le
  obtain ⟨ds, hd⟩ := tp_57 11 0 sf_F x2 x4 (by omega) (by omega)
  by_cases hx : 0 ≤ x1
  · refine ⟨ds, fun σ h => ?_⟩
    unfold dX3_putNumber_44
    rw [if_pos hx, sc_0]; exact hd σ h
  · refine ⟨45 :: ds, fun σ h => ?_⟩
    unfold dX3_putNumber_44
    rw [if_neg hx, tp_put_ok h, sc_0]; exact hd _ (tp_put_L h)
theorem tp_12 : ∀ (m j n : Nat) (x1 : Int32) (x2 x4 : Int64), j + m = 10 → m < n → ∃ ds, ∀ σ, tp_L σ → dX3_putNumber_12 n x1 x2 x4 (nI j) σ = some (tp_ps ds σ) := by
  intro m
  induction m with
  | zero =>
    intro j n x1 x2 x4 hj hn
    obtain ⟨f, rfl⟩ : ∃ f, n = f + 1 := ⟨n - 1, by omega⟩
    obtain ⟨ds, hd⟩ := tp_44 x1 x2 x4
    refine ⟨ds, fun σ h => ?_⟩
    simp only [dX3_putNumber_12]
    rw [show (10 : Int32) = nI 10 from by decide +kernel, if_pos (nI_le (by omega) (by omega))]
    exact hd σ h
  | succ m ih =>
    intro j n x1 x2 x4 hj hn
    obtain ⟨f, rfl⟩ : ∃ f, n = f + 1 := ⟨n - 1, by omega⟩
    have h10 : ¬ (10 : Int32) ≤ nI j := by rw [show (10 : Int32) = nI 10 from by decide +kernel]; exact nI_ge (by omega) (by omega)
    by_cases hc : 0 < lg_cmp (x4 * (10 : Int64)) x2
    · obtain ⟨ds, hd⟩ := tp_44 x1 x2 x4
      refine ⟨ds, fun σ h => ?_⟩
      simp only [dX3_putNumber_12]
      rw [if_neg h10, if_pos hc]
      exact hd σ h
    · obtain ⟨ds, hd⟩ := ih (j + 1) f x1 x2 (x4 * 10) (by omega) (by omega)
      refine ⟨ds, fun σ h => ?_⟩
      simp only [dX3_putNumber_12]
      rw [if_neg h10, if_neg hc, nI_1]
      exact hd σ h
theorem tp_num (x : Int32) : ∃ ds, ∀ σ, tp_L σ → dX3_putNumber x σ = some (tp_ps ds σ) := by
  have hF := sf_F_le
  obtain ⟨ds, hd⟩ := tp_12 10 0 sf_F x (if 0 < x.toInt64 then x.toInt64 else -x.toInt64) 1 (by omega) (by omega)
  refine ⟨ds, fun σ h => ?_⟩
  unfold dX3_putNumber
  rw [sc_0]
  exact hd σ h
noncomputable def tp_nt (x : Int32) : List Int32 := Classical.choose (tp_num x)
theorem tp_nt_ok (x : Int32) {σ : sf_S} (h : tp_L σ) : dX3_putNumber x σ = some (tp_ps (tp_nt x) σ) := Classical.choose_spec (tp_num x) σ h
/-- a node's text, a plan's text -/
noncomputable def tp_nu (c : tt_C) : List Int32 := (if 0 < sc_nn c.1 then tp_nt c.2.2.1 else []) ++ (if 1 < sc_nn c.1 then tp_nt c.2.2.2 else [])
noncomputable def tp_nd (c : tt_C) : List Int32 := c.1 :: ((if c.1 = 115 ∨ c.1 = 108 then [48 + c.2.1] else if sc_mk c.1 ≠ 0 then [c.2.1] else []) ++ tp_nu c)
theorem tp_66 {k : Nat} {c : tt_C} {σ : sf_S} (hk : k < 40) (h3 : σ 4 k = c.2.2.1) (h4 : σ 5 k = c.2.2.2) (h : tp_L σ) : dX3_printNode_66 (nI k) (nI (sc_nn c.1)) σ = some (tp_ps (tp_nu c) σ) := by
  have hn : sc_nn c.1 ≤ 2 := by
    unfold sc_nn
    repeat' split
    all_goals omega
  have hik : sf_in (nI k) 40 = true := sc_inI hk (by omega)
  have hcl := sc_cl (show k < 2 ^ 31 by omega)
  unfold dX3_printNode_66 tp_nu
  rcases (by omega : sc_nn c.1 = 0 ∨ sc_nn c.1 = 1 ∨ sc_nn c.1 = 2) with e | e | e <;> rw [e]
  · rw [if_pos (by decide), if_neg (by omega), if_neg (by omega)]
    unfold dX3_printNode_83
    rw [if_pos (by decide)]; rfl
  · rw [if_neg (by decide), if_pos hik, hcl, h3, tp_nt_ok _ h, if_pos (by omega), if_neg (by omega)]
    unfold dX3_printNode_83
    simp only [Option.bind_some]
    rw [if_pos (by decide), List.append_nil]
  · rw [if_neg (by decide), if_pos hik, hcl, h3, tp_nt_ok _ h, if_pos (by omega), if_pos (by omega)]
    unfold dX3_printNode_83
    simp only [Option.bind_some]
    rw [if_neg (by decide), if_pos hik, hcl, tp_ps_ne _ _ (by omega), h4, tp_nt_ok _ (tp_ps_L _ h), tp_ps_app]; rfl
theorem tp_node {k : Nat} {c : tt_C} {σ : sf_S} (hk : k < 40) (h1 : σ 2 k = c.1) (h2 : σ 3 k = c.2.1) (h3 : σ 4 k = c.2.2.1) (h4 : σ 5 k = c.2.2.2) (h : tp_L σ) : dX3_printNode (nI k) σ = some (tp_ps (tp_nd c) σ) := by
  have hik : sf_in (nI k) 40 = true := sc_inI hk (by omega)
  have hcl := sc_cl (show k < 2 ^ 31 by omega)
  have hs : ∀ x (s : sf_S), tp_L s → (s 3 k = c.2.1 ∧ s 4 k = c.2.2.1 ∧ s 5 k = c.2.2.2) → tp_L (tp_put x s) ∧ (tp_put x s 3 k = c.2.1 ∧ tp_put x s 4 k = c.2.2.1 ∧ tp_put x s 5 k = c.2.2.2) := fun x s hL hr => ⟨tp_put_L hL, by rw [tp_put_ne (by omega)]; exact hr.1, by rw [tp_put_ne (by omega)]; exact hr.2.1, by rw [tp_put_ne (by omega)]; exact hr.2.2⟩
  obtain ⟨g1, g2, g3, g4⟩ := hs c.1 σ h ⟨h2, h3, h4⟩
  unfold dX3_printNode
  simp only [hik, if_true, hcl, h1, sc_numsC, Option.bind_some]
  rw [tp_put_ok h]
  simp only [Option.bind_some, sc_hdC, sc_hmC]
  unfold tp_nd
  by_cases hd : c.1 = 115 ∨ c.1 = 108
  · rw [decide_eq_true hd, if_neg (by decide), g2, if_pos hd]
    obtain ⟨k1, k2, k3, k4⟩ := hs (48 + c.2.1) _ g1 ⟨g2, g3, g4⟩
    rw [tp_put_ok g1]
    simp only [Option.bind_some]
    rw [tp_66 hk k3 k4 k1]; rfl
  · rw [decide_eq_false hd, if_pos (by decide), if_neg hd]
    by_cases hm : sc_mk c.1 ≠ 0
    · rw [decide_eq_true hm, if_neg (by decide), g2, if_pos hm]
      obtain ⟨k1, k2, k3, k4⟩ := hs c.2.1 _ g1 ⟨g2, g3, g4⟩
      rw [tp_put_ok g1]
      simp only [Option.bind_some]
      rw [tp_66 hk k3 k4 k1]; rfl
    · rw [decide_eq_false hm, if_pos (by decide), if_neg hm]
      rw [tp_66 hk g3 g4 g1]; rfl
noncomputable def tp_tx : List tt_C → List Int32
  | [] => []
  | c :: l => tp_nd c ++ tp_tx l
theorem tp_printL {l : List tt_C} (hl : l.length ≤ 40) : ∀ (m k fuel : Nat) (σ : sf_S), k + m = l.length → m < fuel → tk_R 1 l σ → tp_L σ → dX3_print_7 fuel (nI k) σ = some (tp_ps (tp_tx (l.drop k)) σ) := by
  intro m
  induction m with
  | zero =>
    intro k fuel σ hk hf hR hL
    obtain ⟨f, rfl⟩ : ∃ f, fuel = f + 1 := ⟨fuel - 1, by omega⟩
    simp only [dX3_print_7]
    rw [hR.1, if_pos (nI_le (by omega) (by omega)), List.drop_of_length_le (by omega)]; rfl
  | succ m ih =>
    intro k fuel σ hk hf hR hL
    obtain ⟨f, rfl⟩ : ∃ f, fuel = f + 1 := ⟨fuel - 1, by omega⟩
    have hk2 : k < l.length := by omega
    have hg : l[k]? = some l[k] := List.getElem?_eq_getElem hk2
    obtain ⟨a1, a2, a3, a4⟩ := hR.2 k _ hg
    simp only [dX3_print_7]
    rw [hR.1, if_neg (nI_ge hk2 (by omega)), tp_node (show k < 40 by omega) a1 a2 a3 a4 hL]
    simp only [Option.bind_some, nI_1]
    rw [ih (k + 1) f _ (by omega) (by omega) (hR.kept fun a b hab => tp_ps_ne _ _ (by omega)) (tp_ps_L _ hL)]
    rw [List.drop_eq_getElem_cons hk2]
    show _ = some (tp_ps (tp_nd l[k] ++ tp_tx (l.drop (k + 1))) σ)
    rw [tp_ps_app]
theorem tp_print {l : List tt_C} {σ : sf_S} (hl : l.length ≤ 40) (hR : tk_R 1 l σ) : dX3_print σ = some (tp_ps (tp_tx l) (sf_up σ 11 2 0)) := by
  have hF := sf_F_le
  unfold dX3_print
  have h0 := tp_printL hl l.length 0 sf_F (sf_up σ 11 2 0) (by omega) (by omega) (hR.kept fun a b hab => sc_upK (by omega)) ⟨0, by omega, by rw [sc_upS, sc_0]⟩
  rw [List.drop_zero] at h0
  rw [← sc_0] at h0
  exact h0
