/-! a rule, in the class's plan -/
def tk_af (p : Nat) (σ σ' : sf_S) : Prop := ∀ x y, ¬ ((x = p ∧ y = 4) ∨ (p + 1 ≤ x ∧ x ≤ p + 4)) → σ' x y = σ x y
theorem tk_af_tr {p : Nat} {a b c : sf_S} (h1 : tk_af p a b) (h2 : tk_af p b c) : tk_af p a c := fun x y h => (h2 x y h).trans (h1 x y h)
theorem tk_af_up {p k c : Nat} {σ : sf_S} {v : Int32} (h : p + 1 ≤ c ∧ c ≤ p + 4) : tk_af p σ (sf_up σ c k v) := fun x y hxy => sc_upK (by omega)
def tk_u4 (p k : Nat) (c : tt_C) (σ : sf_S) : sf_S := sf_up (sf_up (sf_up (sf_up σ (p + 1) k c.1) (p + 2) k c.2.1) (p + 3) k c.2.2.1) (p + 4) k c.2.2.2
theorem tk_u4_af {p k : Nat} {c : tt_C} {σ : sf_S} : tk_af p σ (tk_u4 p k c σ) := fun x y h => by
  unfold tk_u4
  rw [sc_upK (by omega), sc_upK (by omega), sc_upK (by omega), sc_upK (by omega)]
theorem tk_u4_at {p k : Nat} {c : tt_C} {σ : sf_S} : tk_u4 p k c σ (p + 1) k = c.1 ∧ tk_u4 p k c σ (p + 2) k = c.2.1 ∧ tk_u4 p k c σ (p + 3) k = c.2.2.1 ∧ tk_u4 p k c σ (p + 4) k = c.2.2.2 := by
  unfold tk_u4
  simp (disch := omega) only [sc_upK, sc_upS]
  exact ⟨trivial, trivial, trivial, trivial⟩
theorem tk_u4_ne {p k j x : Nat} {c : tt_C} {σ : sf_S} (h : j ≠ k) : tk_u4 p k c σ x j = σ x j := by
  unfold tk_u4
  rw [sc_upJ h, sc_upJ h, sc_upJ h, sc_upJ h]
theorem tk_R_set {p k : Nat} {l : List tt_C} {c : tt_C} {σ : sf_S} (h : tk_R p l σ) : tk_R p (l.set k c) (tk_u4 p k c σ) := by
  refine ⟨?_, fun j e hj => ?_⟩
  · rw [List.length_set]
    unfold tk_u4
    rw [sc_upK (by omega), sc_upK (by omega), sc_upK (by omega), sc_upK (by omega)]
    exact h.1
  · rw [List.getElem?_set] at hj
    by_cases hk : k = j
    · subst hk
      rw [if_pos rfl] at hj
      split at hj
      · cases hj
        exact tk_u4_at
      · cases hj
    · rw [if_neg hk] at hj
      rw [tk_u4_ne (Ne.symm hk), tk_u4_ne (Ne.symm hk), tk_u4_ne (Ne.symm hk), tk_u4_ne (Ne.symm hk)]
      exact h.2 j e hj
theorem tk_R_1 {p k : Nat} {l : List tt_C} {c : tt_C} {v : Int32} {σ : sf_S} (h : tk_R p l σ) (hk : l[k]? = some c) : tk_R p (l.set k (c.1, c.2.1, v, c.2.2.2)) (sf_up σ (p + 3) k v) := by
  obtain ⟨q1, q2, q3, q4⟩ := h.2 k c hk
  refine ⟨by rw [List.length_set, sc_upK (by omega)]; exact h.1, fun j e hj => ?_⟩
  rw [List.getElem?_set] at hj
  by_cases hkj : k = j
  · subst hkj
    rw [if_pos rfl] at hj
    split at hj
    · cases hj
      simp (disch := omega) only [sc_upK, sc_upS]
      exact ⟨q1, q2, trivial, q4⟩
    · cases hj
  · rw [if_neg hkj] at hj
    rw [sc_upJ (Ne.symm hkj), sc_upJ (Ne.symm hkj), sc_upJ (Ne.symm hkj), sc_upJ (Ne.symm hkj)]
    exact h.2 j e hj
theorem tk_R_2 {p k : Nat} {l : List tt_C} {c : tt_C} {v : Int32} {σ : sf_S} (h : tk_R p l σ) (hk : l[k]? = some c) : tk_R p (l.set k (c.1, c.2.1, c.2.2.1, v)) (sf_up σ (p + 4) k v) := by
  obtain ⟨q1, q2, q3, q4⟩ := h.2 k c hk
  refine ⟨by rw [List.length_set, sc_upK (by omega)]; exact h.1, fun j e hj => ?_⟩
  rw [List.getElem?_set] at hj
  by_cases hkj : k = j
  · subst hkj
    rw [if_pos rfl] at hj
    split at hj
    · cases hj
      simp (disch := omega) only [sc_upK, sc_upS]
      exact ⟨q1, q2, q3, trivial⟩
    · cases hj
  · rw [if_neg hkj] at hj
    rw [sc_upJ (Ne.symm hkj), sc_upJ (Ne.symm hkj), sc_upJ (Ne.symm hkj), sc_upJ (Ne.symm hkj)]
    exact h.2 j e hj
theorem tk_cut {p a b : Nat} {l : List tt_C} {σ : sf_S} (hn : l.length ≤ 40) (hab : a ≤ b) (hb : b ≤ l.length) (h : tk_R p l σ) : ∃ s, dX2_cut p (nI a) (nI b) σ = some s ∧ tk_R p (l.take a ++ l.drop b) s ∧ tk_af p σ s := by
  obtain ⟨s, s1, s2, s3, s4⟩ := sc_cutC hn hab hb h.1
  refine ⟨s, s1, ⟨?_, fun j c hj => ?_⟩, fun x y hxy => s4 x y hxy⟩
  · rw [s2]; congr 1; simp; omega
  · have hlen := (List.getElem?_eq_some_iff.mp hj).1
    simp only [List.length_append, List.length_take, List.length_drop] at hlen
    have e : l[sc_sh a (b - a) j]? = some c := by
      rw [← hj]
      unfold sc_sh
      by_cases hja : j < a
      · rw [if_pos hja, List.getElem?_append_left (by simp; omega), List.getElem?_take_of_lt hja]
      · rw [if_neg hja, List.getElem?_append_right (by simp; omega), List.getElem?_drop]
        congr 1; simp; omega
    have hj2 : j < l.length - (b - a) := by omega
    rw [s3 1 (by omega) (by omega) j hj2, s3 2 (by omega) (by omega) j hj2, s3 3 (by omega) (by omega) j hj2, s3 4 (by omega) (by omega) j hj2]
    exact h.2 _ c e
theorem tk_swap {p k : Nat} {l : List tt_C} {c e : tt_C} {σ : sf_S} (hn : l.length ≤ 40) (hc : l[k]? = some c) (he : l[k + 1]? = some e) (h : tk_R p l σ) : ∃ s, dX2_swapWithNext p (nI k) σ = some s ∧ tk_R p ((l.set k e).set (k + 1) c) s ∧ tk_af p σ s := by
  have hk1 := (List.getElem?_eq_some_iff.mp he).1
  obtain ⟨q1, q2, q3, q4⟩ := h.2 k c hc
  obtain ⟨r1, r2, r3, r4⟩ := h.2 (k + 1) e he
  obtain ⟨u, u1, u2, u3⟩ := sc_moveC (p := p) (k := k + 1) (t := k) (σ := σ) (by omega) (by omega)
  have hR : tk_R p (l.set k e) u := by
    refine ⟨by rw [List.length_set, u3 _ _ (by omega)]; exact h.1, fun j x hj => ?_⟩
    rw [u2 1 (by omega) (by omega) j, u2 2 (by omega) (by omega) j, u2 3 (by omega) (by omega) j, u2 4 (by omega) (by omega) j]
    rw [List.getElem?_set] at hj
    by_cases hkj : k = j
    · subst hkj
      rw [if_pos rfl] at hj
      split at hj
      · cases hj
        rw [if_pos rfl, if_pos rfl, if_pos rfl, if_pos rfl]
        exact ⟨r1, r2, r3, r4⟩
      · cases hj
    · rw [if_neg hkj] at hj
      rw [if_neg (Ne.symm hkj), if_neg (Ne.symm hkj), if_neg (Ne.symm hkj), if_neg (Ne.symm hkj)]
      exact h.2 j x hj
  refine ⟨tk_u4 p (k + 1) c u, ?_, tk_R_set hR, tk_af_tr (fun x y hxy => u3 x y (by omega)) tk_u4_af⟩
  have hik : sf_in (nI k) 40 = true := sc_inI (by omega) (by omega)
  have hik1 : sf_in (nI (k + 1)) 40 = true := sc_inI (by omega) (by omega)
  unfold dX2_swapWithNext
  rw [sc_has hn h.1 (by omega), decide_eq_true (show k < l.length by omega)]
  simp only [Option.bind_some]
  rw [if_neg (by decide), nI_1, sc_has hn h.1 (by omega), decide_eq_true (show k + 1 < l.length by omega)]
  simp only [Option.bind_some]
  rw [if_pos (by decide)]
  simp only [hik, hik1, if_true, sc_cl (show k < 2 ^ 31 by omega), sc_cl (show k + 1 < 2 ^ 31 by omega), u1, Option.bind_some, q1, q2, q3, q4]
  rfl
theorem tk_makeNil {p k m : Nat} {l : List tt_C} {σ : sf_S} (hn : l.length ≤ 40) (hk : k < m) (hm : m ≤ l.length) (h5 : σ (p + 5) k = nI m) (h : tk_R p l σ) : ∃ s, dX2_makeNil p (nI k) σ = some s ∧ tk_R p (l.take k ++ (114, -1, 0, 0) :: l.drop m) s ∧ tk_af p σ s := by
  have hik : sf_in (nI k) 40 = true := sc_inI (by omega) (by omega)
  have hR : tk_R p (l.set k (114, -1, 0, 0)) (tk_u4 p k (114, -1, 0, 0) σ) := tk_R_set h
  obtain ⟨s, s1, s2, s3⟩ := tk_cut (a := k + 1) (b := m) (by rw [List.length_set]; exact hn) (by omega) (by rw [List.length_set]; exact hm) hR
  refine ⟨s, ?_, ?_, tk_af_tr tk_u4_af s3⟩
  · unfold dX2_makeNil
    rw [sc_has hn h.1 (by omega), decide_eq_true (show k < l.length by omega)]
    simp only [Option.bind_some]
    rw [if_pos (by decide)]
    have e5 : tk_u4 p k (114, -1, 0, 0) σ (p + 5) k = nI m := by
      unfold tk_u4
      rw [sc_upK (by omega), sc_upK (by omega), sc_upK (by omega), sc_upK (by omega)]; exact h5
    simp only [hik, if_true, sc_cl (show k < 2 ^ 31 by omega)]
    show (dX2_cut p (nI k + 1) (tk_u4 p k (114, -1, 0, 0) σ (p + 5) k) (tk_u4 p k (114, -1, 0, 0) σ)).bind _ = _
    rw [e5, nI_1, s1]; rfl
  · have e : (l.set k (114, -1, 0, 0)).take (k + 1) ++ (l.set k (114, -1, 0, 0)).drop m = l.take k ++ (114, -1, 0, 0) :: l.drop m := by
      rw [List.drop_set_of_lt hk, List.take_succ, List.take_set_of_le (Nat.le_refl k), List.getElem?_set_self (by omega)]
      simp
    rw [e] at s2
    exact s2
/-! lists -/
theorem tk_l1 (A X : List tt_C) (a b : Nat) : (A ++ X).take (A.length + a) ++ (A ++ X).drop (A.length + b) = A ++ (X.take a ++ X.drop b) := by
  rw [List.take_length_add_append, List.drop_length_add_append, List.append_assoc]
theorem tk_l2 (A X : List tt_C) (a : Nat) (v : tt_C) : (A ++ X).set (A.length + a) v = A ++ X.set a v := by
  rw [List.set_append_right _ _ (by omega), Nat.add_sub_cancel_left]
theorem tk_l3 (A X : List tt_C) (a : Nat) : (A ++ X)[A.length + a]? = X[a]? := by
  rw [List.getElem?_append_right (by omega), Nat.add_sub_cancel_left]
/-- merging a node with the next: their numbers -/
theorem tk_merge {q k : Nat} {A R : List tt_C} {c e : tt_C} {σ : sf_S} (hA : A.length = k) (hn : (A ++ c :: e :: R).length ≤ 40) (h : tk_R (sf_pl q) (A ++ c :: e :: R) σ) (r : Nat) (hr : r = 1 ∨ r = 2 ∨ r = 6 ∨ r = 7 ∨ r = 8) : ∃ s, dX5_mergeWithNext q (nI r) (nI k) σ = some s ∧ tk_R (sf_pl q) (A ++ (if r = 1 then (e.1, e.2.1, (if e.2.2.1 < c.2.2.1 then e.2.2.1 else c.2.2.1), e.2.2.2) else if r = 2 then (e.1, e.2.1, c.2.2.1 + e.2.2.1, e.2.2.2) else if r = 6 then (e.1, e.2.1, e.2.2.1, if e.2.2.1 + c.2.2.1 < e.2.2.2 then e.2.2.1 + c.2.2.1 else e.2.2.2) else if r = 7 then (e.1, e.2.1, (if e.2.2.1 + c.2.2.1 < e.2.2.2 then e.2.2.1 + c.2.2.1 else e.2.2.2), e.2.2.2) else (e.1, e.2.1, e.2.2.1 + c.2.2.1 * e.2.2.2, e.2.2.2)) :: R) s ∧ tk_af (sf_pl q) σ s := by
  have hlen : (A ++ c :: e :: R).length = k + 2 + R.length := by simp; omega
  have hck : (A ++ c :: e :: R)[k]? = some c := by have := tk_l3 A (c :: e :: R) 0; rw [hA] at this; exact this
  have hek : (A ++ c :: e :: R)[k + 1]? = some e := by have := tk_l3 A (c :: e :: R) 1; rw [hA] at this; exact this
  obtain ⟨q1, q2, q3, q4⟩ := h.2 k c hck
  obtain ⟨r1, r2, r3, r4⟩ := h.2 (k + 1) e hek
  have hik : sf_in (nI k) 40 = true := sc_inI (by omega) (by omega)
  have hik1 : sf_in (nI (k + 1)) 40 = true := sc_inI (by omega) (by omega)
  -- what is written, then the cut
  have key : ∀ (v : tt_C) (σ2 : sf_S), tk_R (sf_pl q) ((A ++ c :: e :: R).set (k + 1) v) σ2 → tk_af (sf_pl q) σ σ2 → ∃ s, dX2_cut (sf_pl q) (nI k) (nI (k + 1)) σ2 = some s ∧ tk_R (sf_pl q) (A ++ v :: R) s ∧ tk_af (sf_pl q) σ s := fun v σ2 hR hf => by
    obtain ⟨s, s1, s2, s3⟩ := tk_cut (a := k) (b := k + 1) (by rw [List.length_set]; exact hn) (by omega) (by rw [List.length_set]; omega) hR
    refine ⟨s, s1, ?_, tk_af_tr hf s3⟩
    have e1 := tk_l2 A (c :: e :: R) 1 v
    have e2 := tk_l1 A (c :: v :: R) 0 1
    rw [hA] at e1 e2
    rw [e1] at s2
    have e3 : (c :: e :: R).set 1 v = c :: v :: R := rfl
    rw [e3] at s2
    have e4 : (A ++ c :: v :: R).take k ++ (A ++ c :: v :: R).drop (k + 1) = A ++ v :: R := e2
    rw [e4] at s2
    exact s2
  have hfin : ∀ x : Option sf_S, x.bind some = x := fun x => by cases x <;> rfl
  unfold dX5_mergeWithNext
  rw [sc_has hn h.1 (by omega), decide_eq_true (show k < (A ++ c :: e :: R).length by omega)]
  simp only [Option.bind_some]
  rw [if_neg (by decide), nI_1, sc_has hn h.1 (by omega), decide_eq_true (show k + 1 < (A ++ c :: e :: R).length by omega)]
  simp only [Option.bind_some]
  rw [if_pos (by decide)]
  simp only [hik, hik1, if_true, sc_cl (show k < 2 ^ 31 by omega), sc_cl (show k + 1 < 2 ^ 31 by omega), q3, r3, r4]
  rcases hr with rfl | rfl | rfl | rfl | rfl
  · obtain ⟨s, s1, s2, s3⟩ := key _ _ (tk_R_1 (v := if e.2.2.1 < c.2.2.1 then e.2.2.1 else c.2.2.1) h hek) (tk_af_up (by omega))
    refine ⟨s, ?_, s2, s3⟩
    rw [if_neg (by decide)]
    simp only [dX5_mergeWithNext_81, dX5_mergeWithNext_100, dX5_mergeWithNext_125, dX5_mergeWithNext_150]
    rw [if_pos (by decide), if_pos (by decide), if_pos (by decide), if_pos (by decide), hfin]
    exact s1
  · obtain ⟨s, s1, s2, s3⟩ := key _ _ (tk_R_1 (v := c.2.2.1 + e.2.2.1) h hek) (tk_af_up (by omega))
    refine ⟨s, ?_, s2, s3⟩
    rw [if_pos (by decide)]
    simp only [dX5_mergeWithNext_81, dX5_mergeWithNext_100, dX5_mergeWithNext_125, dX5_mergeWithNext_150, hik1, if_true, sc_cl (show k + 1 < 2 ^ 31 by omega)]
    rw [if_neg (by decide), if_pos (by decide), if_pos (by decide), if_pos (by decide), hfin]
    exact s1
  · obtain ⟨s, s1, s2, s3⟩ := key _ _ (tk_R_2 (v := if e.2.2.1 + c.2.2.1 < e.2.2.2 then e.2.2.1 + c.2.2.1 else e.2.2.2) h hek) (tk_af_up (by omega))
    refine ⟨s, ?_, s2, s3⟩
    rw [if_pos (by decide)]
    simp only [dX5_mergeWithNext_81, dX5_mergeWithNext_100, dX5_mergeWithNext_125, dX5_mergeWithNext_150, hik1, if_true, sc_cl (show k + 1 < 2 ^ 31 by omega)]
    rw [if_pos (by decide), if_neg (by decide), if_pos (by decide), if_pos (by decide), hfin]
    exact s1
  · obtain ⟨s, s1, s2, s3⟩ := key _ _ (tk_R_1 (v := if e.2.2.1 + c.2.2.1 < e.2.2.2 then e.2.2.1 + c.2.2.1 else e.2.2.2) h hek) (tk_af_up (by omega))
    refine ⟨s, ?_, s2, s3⟩
    rw [if_pos (by decide)]
    simp only [dX5_mergeWithNext_81, dX5_mergeWithNext_100, dX5_mergeWithNext_125, dX5_mergeWithNext_150, hik1, if_true, sc_cl (show k + 1 < 2 ^ 31 by omega)]
    rw [if_pos (by decide), if_pos (by decide), if_neg (by decide), if_pos (by decide), hfin]
    exact s1
  · obtain ⟨s, s1, s2, s3⟩ := key _ _ (tk_R_1 (v := e.2.2.1 + c.2.2.1 * e.2.2.2) h hek) (tk_af_up (by omega))
    refine ⟨s, ?_, s2, s3⟩
    rw [if_pos (by decide)]
    simp only [dX5_mergeWithNext_81, dX5_mergeWithNext_100, dX5_mergeWithNext_125, dX5_mergeWithNext_150, hik1, if_true, sc_cl (show k + 1 < 2 ^ 31 by omega)]
    rw [if_pos (by decide), if_pos (by decide), if_pos (by decide), if_neg (by decide), hfin]
    exact s1
