/-! the sheets: lose, lay, get, copy, write -/
theorem sc_nm1 {n : Nat} (h : n < 2 ^ 31) : nI n ≠ -1 := fun e => by
  have := congrArg Int32.toInt e
  rw [nI_toInt h, show (-1 : Int32).toInt = -1 from by decide] at this
  omega
theorem sc_lostC {s : Nat} (hs : s < 4) (σ : sf_S) : dX7_isLost (nI s) σ = some (sc_b (decide (σ 17 s = -1)), σ) := by
  unfold dX7_isLost
  rw [if_neg (nI_pos (by omega)), sc_c4, if_neg (nI_ge (by omega) (by omega)), if_pos (sc_inI (by omega) (by omega)), sc_cl (by omega)]
  by_cases h : σ 17 s = -1
  · rw [if_neg (by simp [h]), decide_eq_true h]; rfl
  · rw [if_pos h, decide_eq_false h]; rfl
theorem sc_m1n : ¬ (0 : Int32) ≤ -1 := by decide
theorem sc_lose {σ τ : sf_S} (h : sc_Sh σ τ) (hf : sc_Fi σ τ) (x1 : Int32) : sc_pr sc_SC sc_SM sc_shR σ τ (dX11_lose x1 σ) (dX12_lose x1 τ) := by
  unfold dX11_lose dX12_lose
  simp only [sc_sheetC, sc_sheetM, Option.bind_some, sc_b0, decide_eq_false_iff_not]
  by_cases h1 : 0 ≤ x1.toInt ∧ x1.toInt < 4
  rotate_left
  · simp only [h1, not_false_eq_true, not_true_eq_false, if_false]
    exact sc_same ⟨h, hf⟩
  simp only [h1, not_true_eq_false, not_false_eq_true, and_self, if_true]
  obtain ⟨s, hs, rfl⟩ := sc_of (m := 4) h1
  rw [sc_lostC hs]
  simp only [Option.bind_some, sc_b0, decide_eq_false_iff_not, sc_inI (show s < 4 from hs) (by omega : 4 ≤ 10000), if_true, sc_cl (show s < 2 ^ 31 by omega)]
  rcases h.1 s hs with ⟨e1, e2⟩ | ⟨n, f, hn, hff, e1, e2, e3, e4⟩
  · rw [if_neg (by simp [e1]), e2, if_neg sc_m1n]
    exact sc_found h (by decide) (by decide)
  · rw [if_pos (by rw [e1]; exact sc_nm1 (by omega)), e4, if_pos (nI_pos' (by omega))]
    refine ⟨nI n, sf_up σ 17 s (-1), sf_up τ 1 s (-1), by rw [e1], by rw [sc_upK (by omega), e2], sc_fr_up rfl, sc_fr_up rfl, ⟨fun t ht => ?_, fun j hj => ?_⟩, ?_⟩
    · by_cases hts : t = s
      · subst hts
        exact Or.inl ⟨sc_upS, sc_upS⟩
      · have := h.1 t ht
        simpa [sf_up, hts] using this
    · have := h.2 j hj
      simpa [sf_up] using this
    · simpa [sc_Fi, sf_up] using hf
/-- the class's elementError and the reference's lacks -/
theorem sc_err {σ τ : sf_S} (h : sc_Sh σ τ) {s f : Nat} (hs : s < 4) (hf : f < 3) (x3 : Int32) :
    (dX11_elementError (nI s) (nI f) x3 σ = some (0, σ) ∧ dX12_lacks (nI s) (nI f) x3 τ = some (0, τ) ∧ ∃ i n, x3 = nI i ∧ i < n ∧ n ≤ 60 ∧ σ 17 s = nI n ∧ σ 16 s = nI f ∧ τ 1 s = nI f) ∨
    ∃ c e, c ≠ 0 ∧ c ≠ -2 ∧ -10 - c = e ∧ -10 - e = c ∧ dX11_elementError (nI s) (nI f) x3 σ = some (c, σ) ∧ dX12_lacks (nI s) (nI f) x3 τ = some (c, sf_up τ 0 4 e) := by
  unfold dX11_elementError dX12_lacks
  simp only [sc_sheetC, sc_formC, Option.bind_some, sc_b0, decide_eq_false_iff_not, sc_inI (show s < 4 from hs) (by omega : 4 ≤ 10000), if_true, sc_cl (show s < 2 ^ 31 by omega), nI_toInt (show s < 2 ^ 31 by omega), nI_toInt (show f < 2 ^ 31 by omega)]
  rw [if_neg (by omega), if_pos (by omega), sc_lostC hs]
  simp only [Option.bind_some, sc_b0, decide_eq_false_iff_not, sc_in12]
  rcases h.1 s hs with ⟨e1, e2⟩ | ⟨n, g, hn, hg, e1, e2, e3, e4⟩
  · refine Or.inr ⟨-11, 1, by decide, by decide, by decide, by decide, ?_, ?_⟩
    · rw [if_neg (by simp [e1])]
    · rw [e2, if_neg sc_m1n]; rfl
  rw [if_pos (by rw [e1]; exact sc_nm1 (by omega)), e3, e4, if_pos (nI_pos' (by omega))]
  by_cases hgf : g = f
  rotate_left
  · refine Or.inr ⟨-13, 3, by decide, by decide, by decide, by decide, ?_, ?_⟩
    · rw [if_neg (by rw [nI_eq (by omega) (by omega)]; exact hgf)]
    · rw [if_neg (by rw [nI_eq (by omega) (by omega)]; exact hgf)]; rfl
  subst hgf
  rw [if_pos rfl, if_pos rfl, e2]
  unfold dX7_hasElement
  rw [if_neg (nI_pos (by omega)), sc_c4, if_neg (nI_ge (by omega) (by omega))]
  simp only [sc_inI (show s < 4 from hs) (by omega : 4 ≤ 10000), if_true, sc_cl (show s < 2 ^ 31 by omega), e1, Int32.toInt_toInt64, sc_l0]
  have hsub : (nI n - 1).toInt = (n : Int) - 1 := by rw [sc_1]; exact pk_sub_toInt (by omega) (by omega)
  rw [hsub]
  by_cases hx : x3 < 0
  · have hx' := sc_lt0.mp hx
    refine Or.inr ⟨-12, 2, by decide, by decide, by decide, by decide, ?_, ?_⟩
    · rw [if_pos hx]; rfl
    · rw [if_pos (by omega)]; rfl
  have hx' : 0 ≤ x3.toInt := by have := mt sc_lt0.mpr hx; omega
  obtain ⟨i, hi, rfl⟩ := sc_ofp hx'
  rw [if_neg hx, nI_toInt hi]
  by_cases hin : i < n
  · refine Or.inl ⟨?_, ?_, i, n, rfl, hin, hn, by simp, by simp, by simp⟩
    · rw [if_neg (nI_ge hin (by omega))]; rfl
    · rw [if_neg (by omega)]
  · refine Or.inr ⟨-12, 2, by decide, by decide, by decide, by decide, ?_, ?_⟩
    · rw [if_pos (nI_le (by omega) hi)]; rfl
    · rw [if_pos (by omega)]; rfl
theorem sc_castC (f v : Int32) (σ : sf_S) : ∃ w, dX7_cast f v σ = some (w, σ) ∧ ∀ τ, dX12_cut f v τ = some (w, τ) := by
  unfold dX7_cast dX12_cut
  by_cases h0 : f = 0
  · simp only [h0, not_true_eq_false, if_false]
    exact ⟨_, rfl, fun _ => rfl⟩
  · by_cases h1 : f = 1
    · simp only [h0, h1, not_true_eq_false, not_false_eq_true, if_true, if_false]
      exact ⟨_, rfl, fun _ => rfl⟩
    · simp only [h0, h1, not_false_eq_true, if_true]
      exact ⟨_, rfl, fun _ => rfl⟩
theorem sc_elem {s i n : Nat} (hs : s < 4) (hi : i < n) (hn : n ≤ 60) {σ : sf_S} (e1 : σ 17 s = nI n) : dX7_hasElement (nI s) (nI i) σ = some (1, σ) := by
  unfold dX7_hasElement
  rw [if_neg (nI_pos (by omega)), sc_c4, if_neg (nI_ge (by omega) (by omega)), if_neg (nI_pos (by omega)), if_pos (sc_inI (by omega) (by omega)), sc_cl (by omega), e1, if_neg (nI_ge hi (by omega))]
/-- store, as far as an element is there -/
theorem sc_store {s i n : Nat} (hs : s < 4) (hi : i < n) (hn : n ≤ 60) {σ : sf_S} (e1 : σ 17 s = nI n) (v : Int32) : ∃ w, dX7_store (nI s) (nI i) v σ = some (sf_up σ 18 (60 * s + i) w) ∧ ∀ τ, dX12_cut (σ 16 s) v τ = some (w, τ) := by
  unfold dX7_store
  rw [sc_elem hs hi hn e1]
  simp only [Option.bind_some]
  rw [if_pos (by decide), if_pos (sc_inI (by omega) (by omega)), sc_cl (by omega)]
  obtain ⟨w, hw, hw2⟩ := sc_castC (σ 16 s) v σ
  refine ⟨w, ?_, hw2⟩
  rw [hw]
  simp only [Option.bind_some, sc_idx1]
  rw [if_pos (sc_inI (by omega) (by omega)), sc_cl (by omega)]
theorem sc_Sh_up {σ τ : sf_S} (h : sc_Sh σ τ) (j : Nat) (w : Int32) : sc_Sh (sf_up σ 18 j w) (sf_up τ 3 j w) := by
  refine ⟨fun t ht => ?_, fun k hk => ?_⟩
  · have := h.1 t ht
    simpa [sf_up] using this
  · have := h.2 k hk
    simp only [sf_up, this]
theorem sc_lay {σ τ : sf_S} (h : sc_Sh σ τ) (hf : sc_Fi σ τ) (x1 x2 x3 x4 : Int32) : sc_pr sc_SC sc_SM sc_shR σ τ (dX11_lay x1 x2 x3 x4 σ) (dX12_lay x1 x2 x3 x4 τ) := by
  unfold dX11_lay dX12_lay
  simp only [sc_sheetM, sc_formM, Option.bind_some, sc_b0, decide_eq_false_iff_not]
  by_cases h1 : 0 ≤ x1.toInt ∧ x1.toInt < 4
  rotate_left
  · unfold dX11_elementError
    simp only [sc_sheetC, Option.bind_some, sc_b0, decide_eq_false_iff_not, h1, not_false_eq_true, if_true, not_true_eq_false, if_false]
    exact sc_same ⟨h, hf⟩
  by_cases h2 : 0 ≤ x2.toInt ∧ x2.toInt < 3
  rotate_left
  · unfold dX11_elementError
    simp only [sc_sheetC, sc_formC, Option.bind_some, sc_b0, decide_eq_false_iff_not, h1, h2, not_false_eq_true, if_true, not_true_eq_false, if_false, and_self]
    exact sc_same ⟨h, hf⟩
  simp only [h1, h2, not_true_eq_false, not_false_eq_true, and_self, if_false, if_true]
  obtain ⟨s, hs, rfl⟩ := sc_of (m := 4) h1
  obtain ⟨f, hff, rfl⟩ := sc_of (m := 3) h2
  rcases sc_err h hs hff x3 with ⟨a1, a2, i, n, rfl, hi, hn, e1, e3, e4⟩ | ⟨c, e, c0, c2, ce, ec, a1, a2⟩
  · rw [a1, a2]
    simp only [Option.bind_some]
    rw [if_pos (by decide), if_pos trivial, if_pos trivial]
    obtain ⟨w, hw, hw2⟩ := sc_store hs hi hn e1 x4
    rw [hw, ← e3, hw2]
    simp only [Option.bind_some, sc_idx2]
    rw [if_pos (sc_inI (by omega) (by omega)), sc_cl (by omega)]
    refine ⟨1, _, _, rfl, rfl, sc_fr_up rfl, sc_fr_up rfl, sc_Sh_up h _ _, ?_⟩
    simpa [sc_Fi, sf_up] using hf
  · rw [a1, a2]
    simp only [Option.bind_some]
    rw [if_pos c2, if_neg c0, if_neg c0]
    refine ⟨c, sf_up σ 0 13 e, sf_up τ 0 4 e, ?_, rfl, sc_fr_up rfl, sc_fr_up rfl, h.kept (fun a b hab => sc_upK (by omega)) (fun a b hab => sc_upK (by omega)), ?_⟩
    · simp only [dX11_find, Option.bind_some, ce]
    · show sf_up σ 0 13 e 0 13 = sf_up τ 0 4 e 0 4
      rw [sc_upS, sc_upS]
theorem sc_get {σ τ : sf_S} (h : sc_Sh σ τ) (hf : sc_Fi σ τ) (x1 x2 x3 : Int32) : sc_pr sc_SC sc_SM sc_shR σ τ (dX11_get x1 x2 x3 σ) (dX12_get x1 x2 x3 τ) := by
  unfold dX11_get dX12_get
  simp only [sc_sheetM, sc_formM, Option.bind_some, sc_b0, decide_eq_false_iff_not]
  by_cases h1 : 0 ≤ x1.toInt ∧ x1.toInt < 4
  rotate_left
  · unfold dX11_elementError
    simp only [sc_sheetC, Option.bind_some, sc_b0, decide_eq_false_iff_not, h1, not_false_eq_true, if_true]
    exact sc_same ⟨h, hf⟩
  by_cases h2 : 0 ≤ x2.toInt ∧ x2.toInt < 3
  rotate_left
  · unfold dX11_elementError
    simp only [sc_sheetC, sc_formC, Option.bind_some, sc_b0, decide_eq_false_iff_not, h1, h2, not_false_eq_true, if_true, not_true_eq_false, if_false, and_self]
    exact sc_same ⟨h, hf⟩
  simp only [h1, h2, not_true_eq_false, not_false_eq_true, and_self, if_false, if_true]
  obtain ⟨s, hs, rfl⟩ := sc_of (m := 4) h1
  obtain ⟨f, hff, rfl⟩ := sc_of (m := 3) h2
  rcases sc_err h hs hff x3 with ⟨a1, a2, i, n, rfl, hi, hn, e1, e3, e4⟩ | ⟨c, e, c0, c2, ce, ec, a1, a2⟩
  · rw [a1, a2]
    simp only [Option.bind_some]
    rw [if_neg (by decide), if_pos trivial]
    unfold dX7_at
    rw [if_neg (nI_pos (by omega)), sc_c4, if_neg (nI_ge (by omega) (by omega)), if_neg (nI_pos (by omega)), if_pos (sc_inI (by omega) (by omega)), sc_cl (by omega), e1, if_pos (nI_lt hi (by omega))]
    simp only [sc_idx1, sc_idx2]
    rw [if_pos (sc_inI (by omega) (by omega)), if_pos (sc_inI (by omega) (by omega)), sc_cl (by omega), h.2 _ (by omega)]
    exact sc_same ⟨h, hf⟩
  · rw [a1, a2]
    simp only [Option.bind_some]
    rw [if_pos c0, if_neg c2, if_neg c0]
    refine ⟨-2147483648, sf_up σ 0 13 e, sf_up τ 0 4 e, ?_, rfl, sc_fr_up rfl, sc_fr_up rfl, h.kept (fun a b hab => sc_upK (by omega)) (fun a b hab => sc_upK (by omega)), ?_⟩
    · simp only [dX11_find, Option.bind_some, ce]
    · show sf_up σ 0 13 e 0 13 = sf_up τ 0 4 e 0 4
      rw [sc_upS, sc_upS]
