/-! what nodes do with numbers, in the class -/
theorem tr_md (x n : Int32) (σ : sf_S) : dX10_modulo x n σ = some (tt_md x n, σ) := by
  unfold dX10_modulo tt_md
  by_cases h : n = 0
  · rw [if_neg (by simp [h]), if_pos h]
  · rw [if_pos h, if_neg h]
    unfold dJ9_floorMod_7cf53
    rw [if_neg h]
    by_cases g : 0 ≤ (x ^^^ n)
    · simp only [g, if_true, Option.bind_some]
    · by_cases z : x - x / n * n = 0
      · simp only [g, z, if_true, if_false, Option.bind_some]
      · simp only [g, z, if_false, Option.bind_some]
/-- a node of the plan -/
def tr_nd (pl n k : Nat) (c : tt_C) (o : Int32) (σ : sf_S) : Prop := n ≤ 40 ∧ σ pl 4 = nI n ∧ k < n ∧ σ (pl + 1) k = c.1 ∧ σ (pl + 2) k = c.2.1 ∧ σ (pl + 3) k = c.2.2.1 ∧ σ (pl + 4) k = c.2.2.2 ∧ σ (pl + 7) k = o
theorem tr_nd.kept {pl n k : Nat} {c : tt_C} {o : Int32} {σ σ' : sf_S} (h : tr_nd pl n k c o σ) (h1 : ∀ a b, ((a = pl ∧ b = 4) ∨ (pl + 1 ≤ a ∧ a ≤ pl + 9)) → σ' a b = σ a b) : tr_nd pl n k c o σ' := by
  obtain ⟨a1, a2, a3, a4, a5, a6, a7, a8⟩ := h
  refine ⟨a1, ?_, a3, ?_, ?_, ?_, ?_, ?_⟩
  all_goals rw [h1 _ _ (by omega)]; assumption
theorem tr_has {pl n k : Nat} {c : tt_C} {o : Int32} {σ : sf_S} (h : tr_nd pl n k c o σ) : dX2_has pl (nI k) σ = some (1, σ) := by
  rw [sc_has h.1 h.2.1 (by have := h.1; have := h.2.2.1; omega), decide_eq_true h.2.2.1]; rfl
theorem tr_ps {q n k : Nat} {c : tt_C} {o : Int32} {σ : sf_S} (h : tr_nd (sf_pl q) n k c o σ) (v : Int32) : dX10_passes q (nI k) v σ = some (sc_b (tt_ps c v), σ) := by
  obtain ⟨h0, h4, hk, h1, h2, h3, -⟩ := id h
  have hik : sf_in (nI k) 40 = true := sc_inI (by omega) (by omega)
  unfold dX10_passes tt_ps
  rw [tr_has h]
  simp only [Option.bind_some]
  rw [if_pos (by decide)]
  simp only [hik, if_true, sc_cl (show k < 2 ^ 31 by omega), h1, h2, h3]
  by_cases e : c.1 = 107
  · rw [if_neg (by simp [e]), tr_md, if_pos e]
    simp only [Option.bind_some]
    by_cases z : tt_md v c.2.2.1 = 0
    · rw [if_neg (by simp [z]), decide_eq_true z]; rfl
    · rw [if_pos z, decide_eq_false z]; rfl
  · rw [if_pos e, if_neg e]
    by_cases e1 : c.2.1 = 60
    · rw [if_neg (by simp [e1]), if_pos e1]
      by_cases z : v < c.2.2.1
      · rw [if_neg (by rw [Int32.le_iff_toInt_le]; rw [Int32.lt_iff_toInt_lt] at z; omega), decide_eq_true z]; rfl
      · rw [if_pos (by rw [Int32.le_iff_toInt_le]; rw [Int32.lt_iff_toInt_lt] at z; omega), decide_eq_false z]; rfl
    · rw [if_pos e1, if_neg e1]
      by_cases e2 : c.2.1 = 62
      · rw [if_neg (by simp [e2]), if_pos e2]
        by_cases z : c.2.2.1 < v
        · rw [if_neg (by rw [Int32.le_iff_toInt_le]; rw [Int32.lt_iff_toInt_lt] at z; omega), decide_eq_true z]; rfl
        · rw [if_pos (by rw [Int32.le_iff_toInt_le]; rw [Int32.lt_iff_toInt_lt] at z; omega), decide_eq_false z]; rfl
      · rw [if_pos e2, if_neg e2]
        by_cases z : v = c.2.2.1
        · rw [if_neg (by simp [z]), decide_eq_true z]; rfl
        · rw [if_pos z, decide_eq_false z]; rfl
theorem tr_jn {q n k : Nat} {c : tt_C} {o : Int32} {σ : sf_S} (h : tr_nd (sf_pl q) n k c o σ) (x y : Int32) : dX10_join q (nI k) x y σ = some (tt_jn c x y, σ) := by
  obtain ⟨h0, h4, hk, h1, h2, h3, -⟩ := id h
  have hik : sf_in (nI k) 40 = true := sc_inI (by omega) (by omega)
  unfold dX10_join tt_jn
  rw [tr_has h]
  simp only [Option.bind_some]
  rw [if_pos (by decide)]
  simp only [hik, if_true, sc_cl (show k < 2 ^ 31 by omega), h2]
  by_cases e : c.2.1 = 43
  · rw [if_neg (by simp [e]), if_pos e]
  · rw [if_pos e, if_neg e]
    by_cases e1 : c.2.1 = 42
    · rw [if_neg (by simp [e1]), if_pos e1]
    · rw [if_pos e1, if_neg e1]
/-- what was written down -/
def tr_N (rn : Nat) (N : List (Int32 × Int32)) (σ : sf_S) : Prop := σ rn 9 = nI N.length ∧ ∀ j a v, N[j]? = some (a, v) → j < 40 → σ (rn + 2) j = a ∧ σ (rn + 3) j = v
theorem tr_N.kept {rn : Nat} {N : List (Int32 × Int32)} {σ σ' : sf_S} (h : tr_N rn N σ) (h1 : ∀ a b, ((a = rn ∧ b = 9) ∨ a = rn + 2 ∨ a = rn + 3) → σ' a b = σ a b) : tr_N rn N σ' := by
  refine ⟨by rw [h1 _ _ (by omega)]; exact h.1, fun j a v hj hl => ?_⟩
  rw [h1 _ _ (by omega), h1 _ _ (by omega)]
  exact h.2 j a v hj hl
theorem tr_note {rn : Nat} {N : List (Int32 × Int32)} {σ : sf_S} (h : tr_N rn N σ) (hl : N.length < 1000000) (a v : Int32) : ∃ σ', dX6_note rn a v σ = some σ' ∧ tr_N rn (N ++ [(a, v)]) σ' ∧ ∀ x y, ¬ ((x = rn ∧ y = 9) ∨ x = rn + 2 ∨ x = rn + 3) → σ' x y = σ x y := by
  obtain ⟨h9, hA⟩ := h
  have c40 : (40 : Int32) = nI 40 := by decide +kernel
  unfold dX6_note
  rw [h9, c40]
  by_cases h40 : 40 ≤ N.length
  · rw [if_pos (nI_le h40 (by omega))]
    refine ⟨_, rfl, ⟨by rw [sc_upS, nI_1]; congr 1; simp, fun j a' v' hj hj2 => ?_⟩, fun x y hxy => ?_⟩
    · rw [sc_upK (by omega), sc_upK (by omega)]
      rw [List.getElem?_append_left (by omega)] at hj
      exact hA j a' v' hj hj2
    · have : ¬ (x = rn ∧ y = 9) := by omega
      exact if_neg this
  · rw [if_neg (nI_ge (by omega) (by omega))]
    simp only [sc_inI (show N.length < 40 by omega) (by omega : 40 ≤ 10000), if_true, sc_cl (show N.length < 2 ^ 31 by omega), sc_upK (show rn ≠ rn + 2 by omega), sc_upK (show rn ≠ rn + 3 by omega), h9]
    refine ⟨_, rfl, ⟨by rw [sc_upS, nI_1]; congr 1; simp, fun j a' v' hj hj2 => ?_⟩, fun x y hxy => ?_⟩
    · by_cases e : j = N.length
      · subst e
        rw [List.getElem?_append_right (Nat.le_refl _), Nat.sub_self] at hj
        cases hj
        exact ⟨by rw [sc_upK (by omega), sc_upK (by omega), sc_upS], by rw [sc_upK (by omega), sc_upS]⟩
      · have : j < N.length := by
          have := (List.getElem?_eq_some_iff.mp hj).1
          simp at this; omega
        rw [List.getElem?_append_left this] at hj
        obtain ⟨k1, k2⟩ := hA j a' v' hj hj2
        exact ⟨by rw [sc_upK (by omega), sc_upK (by omega), sc_upJ (by omega)]; exact k1, by rw [sc_upK (by omega), sc_upJ (by omega), sc_upK (by omega)]; exact k2⟩
    · have e1 : ¬ (x = rn ∧ y = 9) := by omega
      rw [show sf_up (sf_up (sf_up σ (rn + 2) N.length a) (rn + 3) N.length v) rn 9 (nI N.length + 1) x y = sf_up (sf_up σ (rn + 2) N.length a) (rn + 3) N.length v x y from if_neg e1, sc_upK (by omega), sc_upK (by omega)]
/-- a number goes through + * / % l -/
def tr_chs (q rn : Nat) (c : tt_C) (o v : Int32) (N : List (Int32 × Int32)) (σ σ' : sf_S) (res : Int32) : Prop :=
  (∃ u, tt_op c o v = [.inl u] ∧ res = 1 ∧ σ' q (sf_vl q) = u ∧ ∀ a b, ¬ (a = q ∧ b = sf_vl q) → σ' a b = σ a b) ∨
  (∃ x, tt_op c o v = [tv_n x v, .inl v] ∧ res = 1 ∧ σ' q (sf_vl q) = v ∧ tr_N rn (N ++ [(x, v)]) σ' ∧ ∀ a b, ¬ ((a = q ∧ b = sf_vl q) ∨ (a = rn ∧ b = 9) ∨ a = rn + 2 ∨ a = rn + 3) → σ' a b = σ a b) ∨
  (tt_op c o v = [tv_s 1 o] ∧ res = 0 ∧ σ' rn 5 = 1 ∧ σ' rn 6 = o ∧ ∀ a b, ¬ ((a = q ∧ b = sf_vl q) ∨ (a = rn ∧ (b = 5 ∨ b = 6))) → σ' a b = σ a b)
theorem tr_change {q rn n k : Nat} {c : tt_C} {o : Int32} {σ : sf_S} {N : List (Int32 × Int32)} (hrn : sf_rn q = rn) (hq : q + 10 < 2000 ∧ sf_pl q + 9 < rn ∧ rn + 3 < q ∨ sf_pl q + 9 < rn ∧ rn + 3 < q) (h : tr_nd (sf_pl q) n k c o σ) (hc : c.1 = 37 ∨ c.1 = 42 ∨ c.1 = 43 ∨ c.1 = 47 ∨ c.1 = 108) (hN : tr_N rn N σ) (hl : N.length < 1000000) (v : Int32) : ∃ res σ', dX10_change q (nI k) v σ = some (res, σ') ∧ tr_chs q rn c o v N σ σ' res := by
  have hq2 : sf_pl q + 9 < rn ∧ rn + 3 < q := by omega
  obtain ⟨h0, h4, hk, h1, h2, h3, h5, h7⟩ := id h
  have hik : sf_in (nI k) 40 = true := sc_inI (by omega) (by omega)
  have hcl := sc_cl (show k < 2 ^ 31 by omega)
  have e1 : sf_up σ q (sf_vl q) v (sf_pl q + 1) k = c.1 := by rw [sc_upK (by omega)]; exact h1
  have e2 : sf_up σ q (sf_vl q) v (sf_pl q + 2) k = c.2.1 := by rw [sc_upK (by omega)]; exact h2
  have e7 : sf_up σ q (sf_vl q) v (sf_pl q + 7) k = o := by rw [sc_upK (by omega)]; exact h7
  have up2 : ∀ (x : Int32) a b, ¬ (a = q ∧ b = sf_vl q) → sf_up (sf_up σ q (sf_vl q) v) q (sf_vl q) x a b = σ a b := fun x a b hab => by
    rw [show sf_up (sf_up σ q (sf_vl q) v) q (sf_vl q) x a b = sf_up σ q (sf_vl q) v a b from if_neg hab]
    exact if_neg hab
  unfold dX10_change
  rw [tr_has h]
  simp only [Option.bind_some]
  rw [if_pos (by decide)]
  simp only [hik, if_true, hcl, h3, e1]
  rcases hc with hc | hc | hc | hc | hc
  · rw [if_pos hc, tr_md]
    exact ⟨_, _, rfl, Or.inl ⟨tt_md v c.2.2.1, by simp only [tt_op, if_pos hc], rfl, sc_upS, up2 _⟩⟩
  · rw [if_neg (by rw [hc]; decide), if_pos hc]
    exact ⟨_, _, rfl, Or.inl ⟨v * c.2.2.1, by simp only [tt_op]; rw [if_neg (by rw [hc]; decide), if_pos hc], rfl, sc_upS, up2 _⟩⟩
  · rw [if_neg (by rw [hc]; decide), if_neg (by rw [hc]; decide), if_pos hc]
    exact ⟨_, _, rfl, Or.inl ⟨v + c.2.2.1, by simp only [tt_op]; rw [if_neg (by rw [hc]; decide), if_neg (by rw [hc]; decide), if_pos hc], rfl, sc_upS, up2 _⟩⟩
  · have hop : tt_op c o v = if v = 0 then [tv_s 1 o] else [tv_g (c.2.2.1 / v)] := by
      simp only [tt_op]; rw [if_neg (by rw [hc]; decide), if_neg (by rw [hc]; decide), if_neg (by rw [hc]; decide), if_pos hc]
    rw [if_neg (by rw [hc]; decide), if_neg (by rw [hc]; decide), if_neg (by rw [hc]; decide), if_pos hc]
    unfold dX10_divide
    by_cases z : v = 0
    · rw [if_neg (by simp [z]), if_pos hik, hcl, e7, hrn]
      unfold dX6_fail
      simp only [Option.bind_some]
      rw [if_pos (by decide)]
      refine ⟨_, _, rfl, Or.inr (Or.inr ⟨by rw [hop, if_pos z], rfl, ?_, sc_upS, fun a b hab => ?_⟩)⟩
      · rw [sc_upJ (by omega), sc_upS]
      · have g1 : ¬ (a = rn ∧ b = 6) := by omega
        have g2 : ¬ (a = rn ∧ b = 5) := by omega
        have g3 : ¬ (a = q ∧ b = sf_vl q) := by omega
        exact (if_neg g1).trans ((if_neg g2).trans (if_neg g3))
    · rw [if_pos z, if_neg z]
      simp only [Option.bind_some]
      rw [if_pos (by decide)]
      exact ⟨_, _, rfl, Or.inl ⟨c.2.2.1 / v, by rw [hop, if_neg z], rfl, sc_upS, up2 _⟩⟩
  · have hop : tt_op c o v = [tv_n c.2.1 v, tv_g v] := by
      simp only [tt_op]; rw [if_neg (by rw [hc]; decide), if_neg (by rw [hc]; decide), if_neg (by rw [hc]; decide), if_neg (by rw [hc]; decide), if_pos hc]
    rw [if_neg (by rw [hc]; decide), if_neg (by rw [hc]; decide), if_neg (by rw [hc]; decide), if_neg (by rw [hc]; decide), e2, hrn]
    obtain ⟨σ', s1, s2, s3⟩ := tr_note (σ := sf_up σ q (sf_vl q) v) (hN.kept fun a b hab => sc_upK (by omega)) hl c.2.1 v
    rw [s1]
    refine ⟨_, _, rfl, Or.inr (Or.inl ⟨c.2.1, hop, rfl, ?_, s2, fun a b hab => ?_⟩)⟩
    · rw [s3 _ _ (by omega)]; exact sc_upS
    · rw [s3 a b (by omega)]
      have g3 : ¬ (a = q ∧ b = sf_vl q) := by omega
      exact if_neg g3
/-! sheets -/
def tr_S (σ : sf_S) : tt_S := fun m => if m < 0 ∨ 4 ≤ m ∨ σ 17 m.toNatClampNeg = -1 then none else some ((σ 17 m.toNatClampNeg).toNatClampNeg, fun i => σ 18 (60 * m.toNatClampNeg + i))
def tr_Sh (σ : sf_S) : Prop := ∀ s, s < 4 → σ 17 s = -1 ∨ ∃ l, l ≤ 60 ∧ σ 17 s = nI l
theorem tr_S_congr {σ σ' : sf_S} (h : ∀ a b, (a = 17 ∨ a = 18) → σ' a b = σ a b) : tr_S σ' = tr_S σ := by
  funext m
  unfold tr_S
  rw [h 17 _ (Or.inl rfl)]
  simp only [h 18 _ (Or.inr rfl)]
theorem tr_Sh.kept {σ σ' : sf_S} (hS : tr_Sh σ) (h : ∀ a b, (a = 17 ∨ a = 18) → σ' a b = σ a b) : tr_Sh σ' := fun s hs => by rw [h 17 s (Or.inl rfl)]; exact hS s hs
theorem tr_lost {σ : sf_S} (m : Int32) : dX7_isLost m σ = some (sc_b (decide (tr_S σ m = none)), σ) := by
  unfold dX7_isLost tr_S
  by_cases h1 : m < 0
  · rw [if_pos h1, if_pos (Or.inl h1)]; rfl
  · rw [if_neg h1]
    by_cases h2 : (4 : Int32) ≤ m
    · rw [if_pos h2, if_pos (Or.inr (Or.inl h2))]; rfl
    · rw [if_neg h2]
      obtain ⟨j, hj, rfl⟩ := nI_of h1
      have hj4 : j < 4 := by
        rw [show (4 : Int32) = nI 4 from by decide +kernel, nI_leI (by omega) hj] at h2; omega
      rw [if_pos (sc_inI hj4 (by omega)), sc_cl (by omega)]
      by_cases h3 : σ 17 j = -1
      · rw [if_neg (by simp [h3]), if_pos (Or.inr (Or.inr h3))]; rfl
      · rw [if_pos h3, if_neg (by simp only [not_or]; exact ⟨h1, h2, h3⟩)]; rfl
theorem tr_S_some {σ : sf_S} {m : Int32} (hS : tr_Sh σ) {N : Nat} {f : Nat → Int32} (h : tr_S σ m = some (N, f)) : ∃ j, j < 4 ∧ m = nI j ∧ N ≤ 60 ∧ σ 17 j = nI N ∧ f = fun i => σ 18 (60 * j + i) := by
  unfold tr_S at h
  split at h
  · cases h
  · rename_i q
    simp only [not_or] at q
    obtain ⟨h1, h2, h3⟩ := q
    obtain ⟨j, hj, rfl⟩ := nI_of h1
    have hj4 : j < 4 := by
      rw [show (4 : Int32) = nI 4 from by decide +kernel, nI_leI (by omega) hj] at h2; omega
    rw [sc_cl (by omega)] at h h3
    rcases hS j hj4 with e | ⟨l, hl, e⟩
    · exact absurd e h3
    · rw [e, sc_cl (by omega)] at h
      cases h
      exact ⟨j, hj4, rfl, hl, e, rfl⟩
