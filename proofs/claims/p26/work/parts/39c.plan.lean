/-! the class's plan: adding, taking over, cutting (as in the claim of the whole) -/
theorem sc_c40 : (40 : Int32) = nI 40 := by decide +kernel
/-- a plan's node, added -/
theorem sc_add {q m : Nat} {σ : sf_S} (h : σ q 4 = nI m) (hm : m < 40) (a b c d : Int32) : ∃ σ', dX2_add q a b c d σ = some σ' ∧ σ' q 4 = nI (m + 1) ∧ σ' (q + 1) m = a ∧ σ' (q + 2) m = b ∧ σ' (q + 3) m = c ∧ σ' (q + 4) m = d ∧ ∀ x y, ¬ ((x = q ∧ y = 4) ∨ ((x = q + 1 ∨ x = q + 2 ∨ x = q + 3 ∨ x = q + 4) ∧ y = m)) → σ' x y = σ x y := by
  unfold dX2_add
  rw [h, sc_c40, if_pos (nI_lt hm (by omega))]
  simp (disch := omega) only [sc_inI (show m < 40 from hm) (by omega : 40 ≤ 10000), if_true, sc_cl (show m < 2 ^ 31 by omega), sc_upK, h, nI_1]
  refine ⟨_, rfl, sc_upS, ?_, ?_, ?_, ?_, fun x y hxy => ?_⟩
  · simp (disch := omega) only [sc_upK, sc_upS]
  · simp (disch := omega) only [sc_upK, sc_upS]
  · simp (disch := omega) only [sc_upK, sc_upS]
  · simp (disch := omega) only [sc_upK, sc_upS]
  · have : ∀ (s : sf_S) (k' j' : Nat) (v : Int32), (x ≠ k' ∨ y ≠ j') → sf_up s k' j' v x y = s x y := fun s k' j' v h => by
      rcases h with h | h
      · exact sc_upK h
      · exact sc_upJ h
    rw [this _ _ _ _ (by omega), this _ _ _ _ (by omega), this _ _ _ _ (by omega), this _ _ _ _ (by omega), this _ _ _ _ (by omega)]
/-- the class's takeFrom, up to its measure -/
theorem sc_takeL {q r1 n : Nat} (hn : n ≤ 40) (hd : r1 + 9 < q ∨ q + 9 < r1) : ∀ (r k fuel : Nat) (σ : sf_S), k + r = n → r < fuel → σ q 4 = nI k → σ r1 4 = nI n → (∀ j, j < k → σ (q + 1) j = σ (r1 + 1) j ∧ σ (q + 2) j = σ (r1 + 2) j ∧ σ (q + 3) j = σ (r1 + 3) j ∧ σ (q + 4) j = σ (r1 + 4) j) →
    ∃ s, dX2_takeFrom_7 q r1 fuel (nI k) σ = (dX2_measure q s).bind some ∧ s q 4 = nI n ∧ (∀ j, j < n → s (q + 1) j = σ (r1 + 1) j ∧ s (q + 2) j = σ (r1 + 2) j ∧ s (q + 3) j = σ (r1 + 3) j ∧ s (q + 4) j = σ (r1 + 4) j) ∧ ∀ x y, ¬ ((x = q ∧ y = 4) ∨ x = q + 1 ∨ x = q + 2 ∨ x = q + 3 ∨ x = q + 4) → s x y = σ x y := by
  intro r
  induction r with
  | zero =>
    intro k fuel σ hk hf h4 hr hA
    obtain ⟨m, rfl⟩ : ∃ m, fuel = m + 1 := ⟨fuel - 1, by omega⟩
    have hkn : k = n := by omega
    subst hkn
    refine ⟨σ, ?_, h4, hA, fun _ _ _ => rfl⟩
    simp only [dX2_takeFrom_7]
    rw [hr, if_pos (nI_le (by omega) (by omega))]
  | succ r ih =>
    intro k fuel σ hk hf h4 hr hA
    obtain ⟨m, rfl⟩ : ∃ m, fuel = m + 1 := ⟨fuel - 1, by omega⟩
    obtain ⟨u, u1, u2, u3, u4, u5, u6, u7⟩ := sc_add (q := q) h4 (by omega) (σ (r1 + 1) k) (σ (r1 + 2) k) (σ (r1 + 3) k) (σ (r1 + 4) k)
    have ur : ∀ c j, c ≤ 9 → u (r1 + c) j = σ (r1 + c) j := fun c j hc => u7 _ _ (by omega)
    have ur0 : u r1 4 = σ r1 4 := u7 _ _ (by omega)
    obtain ⟨s, s1, s2, s3, s4⟩ := ih (k + 1) m u (by omega) (by omega) u2 (by rw [ur0]; exact hr) (fun j hj => by
      rw [ur 1 j (by omega), ur 2 j (by omega), ur 3 j (by omega), ur 4 j (by omega)]
      by_cases hjk : j = k
      · subst hjk; exact ⟨u3, u4, u5, u6⟩
      · rw [u7 _ _ (by omega), u7 _ _ (by omega), u7 _ _ (by omega), u7 _ _ (by omega)]
        exact hA j (by omega))
    refine ⟨s, ?_, s2, fun j hj => ?_, fun x y hxy => by rw [s4 x y hxy, u7 x y (by omega)]⟩
    · simp only [dX2_takeFrom_7]
      rw [hr, if_neg (nI_ge (by omega) (by omega))]
      simp only [sc_inI (show k < 40 by omega) (by omega : 40 ≤ 10000), if_true, sc_cl (show k < 2 ^ 31 by omega), u1, Option.bind_some, nI_1]
      exact s1
    · have := s3 j hj
      rw [ur 1 j (by omega), ur 2 j (by omega), ur 3 j (by omega), ur 4 j (by omega)] at this
      exact this
theorem sc_take {q r1 n : Nat} {σ : sf_S} (hn : n ≤ 40) (h0 : 0 < n) (hd : r1 + 9 < q ∨ q + 9 < r1) (hr : σ r1 4 = nI n) (hG : sc_G n (σ (r1 + 1))) : ∃ E s, sc_T n (σ (r1 + 1)) E ∧ dX2_takeFrom q r1 σ = some s ∧ s q 4 = nI n ∧ (∀ j, j < n → s (q + 1) j = σ (r1 + 1) j ∧ s (q + 2) j = σ (r1 + 2) j ∧ s (q + 3) j = σ (r1 + 3) j ∧ s (q + 4) j = σ (r1 + 4) j) ∧ sc_MC q n (σ (r1 + 1)) E s ∧ ∀ x y, ¬ (q ≤ x ∧ x ≤ q + 9) → s x y = σ x y := by
  have hF := sf_F_le
  obtain ⟨E, hT⟩ := sc_T_ex hG
  have hne : ∀ c y, c ≤ 9 → sf_up σ q 4 0 (r1 + c) y = σ (r1 + c) y := fun c y hc => sc_upK (by omega)
  obtain ⟨s, s1, s2, s3, s4⟩ := sc_takeL (q := q) (r1 := r1) hn hd n 0 sf_F (sf_up σ q 4 0) (by omega) (by omega) (by rw [sc_upS, sc_0]) (by rw [show r1 = r1 + 0 from rfl, hne 0 4 (by omega)]; exact hr) (fun j hj => absurd hj (Nat.not_lt_zero j))
  obtain ⟨s', t1, t2, t3⟩ := sc_measC (q := q) hn h0 hT s2 (fun j hj => by rw [(s3 j hj).1, hne 1 j (by omega)])
  refine ⟨E, s', hT, ?_, ?_, fun j hj => ?_, t3, fun x y hxy => ?_⟩
  · unfold dX2_takeFrom
    simp only []
    rw [sc_0, ← sc_0, sc_0] at *
    rw [s1, t1]
    rfl
  · rw [t2 _ _ (by omega)]; exact s2
  · rw [t2 _ _ (by omega), t2 _ _ (by omega), t2 _ _ (by omega), t2 _ _ (by omega)]
    have := s3 j hj
    rw [hne 1 j (by omega), hne 2 j (by omega), hne 3 j (by omega), hne 4 j (by omega)] at this
    exact this
  · rw [t2 x y (by omega), s4 x y (by omega), sc_upK (by omega)]
def sc_sh (a m j : Nat) : Nat := if j < a then j else j + m
theorem sc_moveC {p k t : Nat} {σ : sf_S} (hk : k < 40) (ht : t < 40) : ∃ u, dX2_moveNode p (nI k) (nI t) σ = some u ∧ (∀ c, 1 ≤ c → c ≤ 4 → ∀ j, u (p + c) j = if j = t then σ (p + c) k else σ (p + c) j) ∧ ∀ x y, ¬ (p + 1 ≤ x ∧ x ≤ p + 4) → u x y = σ x y := by
  have hik : sf_in (nI k) 40 = true := sc_inI hk (by omega)
  have hit : sf_in (nI t) 40 = true := sc_inI ht (by omega)
  unfold dX2_moveNode
  simp (disch := omega) only [hik, hit, if_true, sc_cl (show k < 2 ^ 31 by omega), sc_cl (show t < 2 ^ 31 by omega), sc_upK]
  refine ⟨_, rfl, fun c h1 h2 j => ?_, fun x y hxy => ?_⟩
  · rcases (by omega : c = 1 ∨ c = 2 ∨ c = 3 ∨ c = 4) with q | q | q | q <;> subst q
    all_goals
      by_cases hj : j = t
      · subst hj
        rw [if_pos rfl]
        simp (disch := omega) only [sc_upK, sc_upS]
      · rw [if_neg hj]
        simp (disch := omega) only [sc_upK, sc_upJ]
  · rw [sc_upK (by omega), sc_upK (by omega), sc_upK (by omega), sc_upK (by omega)]
theorem sc_cutL {p n a b : Nat} {σ0 : sf_S} (hn : n ≤ 40) (hab : a ≤ b) (hb : b ≤ n) : ∀ (r k fuel : Nat) (σ : sf_S), k + r = n → b ≤ k → r < fuel → σ p 4 = nI n → (∀ c, 1 ≤ c → c ≤ 4 → ∀ j, σ (p + c) j = if j + (b - a) < k then σ0 (p + c) (sc_sh a (b - a) j) else σ0 (p + c) j) →
    ∃ s, dX2_cut_20 p fuel (nI a) (nI b) (nI k) σ = some s ∧ s p 4 = nI (n - (b - a)) ∧ (∀ c, 1 ≤ c → c ≤ 4 → ∀ j, j < n - (b - a) → s (p + c) j = σ0 (p + c) (sc_sh a (b - a) j)) ∧ ∀ x y, ¬ ((x = p ∧ y = 4) ∨ (p + 1 ≤ x ∧ x ≤ p + 4)) → s x y = σ x y := by
  intro r
  induction r with
  | zero =>
    intro k fuel σ hk hbk hf h4 hA
    obtain ⟨m, rfl⟩ : ∃ m, fuel = m + 1 := ⟨fuel - 1, by omega⟩
    refine ⟨sf_up σ p 4 (nI n - (nI b - nI a)), ?_, ?_, fun c h1 h2 j hj => ?_, fun x y hxy => ?_⟩
    · simp only [dX2_cut_20]
      rw [h4, if_pos (nI_le (by omega) (by omega))]
    · rw [sc_upS, pk_sub hab, pk_sub (by omega)]
    · rw [sc_upK (by omega), hA c h1 h2 j, if_pos (by omega)]
    · by_cases hx : x = p
      · subst hx; exact sc_upJ (by omega)
      · exact sc_upK hx
  | succ r ih =>
    intro k fuel σ hk hbk hf h4 hA
    obtain ⟨m, rfl⟩ : ∃ m, fuel = m + 1 := ⟨fuel - 1, by omega⟩
    obtain ⟨u, u1, u2, u3⟩ := sc_moveC (p := p) (k := k) (t := k - (b - a)) (σ := σ) (by omega) (by omega)
    have hidx : nI a + nI k - nI b = nI (k - (b - a)) := by
      rw [nI_add, pk_sub (by omega)]; congr 1; omega
    obtain ⟨s, s1, s2, s3, s4⟩ := ih (k + 1) m u (by omega) (by omega) (by omega) (by rw [u3 _ _ (by omega)]; exact h4) (fun c h1 h2 j => by
      rw [u2 c h1 h2 j]
      by_cases hj : j = k - (b - a)
      · rw [if_pos hj, if_pos (by omega), hA c h1 h2 k]
        by_cases hba : b - a = 0
        · rw [if_neg (by omega)]; unfold sc_sh; congr 1; split <;> omega
        · rw [if_neg (by omega)]; unfold sc_sh; rw [if_neg (by omega)]; congr 1; omega
      · rw [if_neg hj, hA c h1 h2 j]
        by_cases hlt : j + (b - a) < k
        · rw [if_pos hlt, if_pos (by omega)]
        · rw [if_neg hlt, if_neg (by omega)])
    refine ⟨s, ?_, s2, s3, fun x y hxy => by rw [s4 x y hxy, u3 x y (by omega)]⟩
    simp only [dX2_cut_20]
    rw [h4, if_neg (nI_ge (by omega) (by omega)), hidx, u1]
    simp only [Option.bind_some, nI_1]
    exact s1
theorem sc_cutC {p n a b : Nat} {σ : sf_S} (hn : n ≤ 40) (hab : a ≤ b) (hb : b ≤ n) (h4 : σ p 4 = nI n) : ∃ s, dX2_cut p (nI a) (nI b) σ = some s ∧ s p 4 = nI (n - (b - a)) ∧ (∀ c, 1 ≤ c → c ≤ 4 → ∀ j, j < n - (b - a) → s (p + c) j = σ (p + c) (sc_sh a (b - a) j)) ∧ ∀ x y, ¬ ((x = p ∧ y = 4) ∨ (p + 1 ≤ x ∧ x ≤ p + 4)) → s x y = σ x y := by
  have hF := sf_F_le
  unfold dX2_cut
  rw [if_neg (nI_pos (by omega)), if_neg (nI_nlt hab (by omega)), h4, if_pos (nI_le hb (by omega))]
  refine sc_cutL hn hab hb (n - b) b sf_F σ (by omega) (Nat.le_refl _) (by omega) h4 (fun c h1 h2 j => ?_)
  unfold sc_sh
  by_cases hj : j + (b - a) < b
  · rw [if_pos hj, if_pos (by omega)]
  · rw [if_neg hj]
theorem sc_has {p n j : Nat} {σ : sf_S} (hn : n ≤ 40) (h4 : σ p 4 = nI n) (hj : j < 2 ^ 31) : dX2_has p (nI j) σ = some (sc_b (decide (j < n)), σ) := by
  unfold dX2_has
  rw [if_neg (nI_pos hj), h4]
  by_cases h : j < n
  · rw [if_neg (nI_ge h (by omega)), decide_eq_true h]; rfl
  · rw [if_pos (nI_le (by omega) hj), decide_eq_false h]; rfl
/-! THE PLAN AS A TREE -/
def tk_R (p : Nat) (l : List tt_C) (σ : sf_S) : Prop := σ p 4 = nI l.length ∧ ∀ j c, l[j]? = some c → σ (p + 1) j = c.1 ∧ σ (p + 2) j = c.2.1 ∧ σ (p + 3) j = c.2.2.1 ∧ σ (p + 4) j = c.2.2.2
def tk_P (p : Nat) (σ : sf_S) : tt_T → Nat → Nat → Int32 → Int32 → Prop
  | .leaf, _, _, _, _ => True
  | .inner s c u P Q, k, w, o, b => (σ (p + 1) k = c.1 ∧ σ (p + 2) k = c.2.1 ∧ σ (p + 3) k = c.2.2.1 ∧ σ (p + 4) k = c.2.2.2) ∧ (σ (p + 5) k = nI (k + tt_sz (.inner s c u P Q)) ∧ σ (p + 6) k = nI w ∧ σ (p + 7) k = o ∧ σ (p + 8) k = b ∧ σ (p + 9) k = sc_b (tt_pu (.inner s c u P Q))) ∧ tk_P p σ P (k + 1) (w + 1) (if c.1 = 120 then o + 1 else o) (if c.1 = 120 then nI k else b) ∧ tk_P p σ Q (k + 1 + tt_sz P) (w + 1) o b
def tt_en : tt_T → Bool
  | .leaf => false
  | .inner _ c _ P Q => decide (c.1 = 105) || tt_en P || tt_en Q
/-- u and v stand in some Q alone -/
def tt_uv : tt_T → Nat → Prop
  | .leaf, _ => True
  | .inner _ c _ P Q, a => ¬ (sc_uv c.1 = true ∧ a = 0) ∧ tt_uv P (if c.1 = 120 then a + 1 else a) ∧ tt_uv Q a
def tk_M (p : Nat) (T : tt_T) (σ : sf_S) : Prop := tk_R p (tt_fl T) σ ∧ tk_P p σ T 0 0 0 (-1) ∧ σ p 11 = sc_b (tt_en T)
theorem tk_fl0 {s : Nat} {c : tt_C} {u : Unit} {P Q : tt_T} {L : Nat → Int32} {j : Nat} (h : ∀ i e, (tt_fl (.inner s c u P Q))[i]? = some e → L (j + i) = e.1) : L j = c.1 ∧ (∀ i e, (tt_fl P)[i]? = some e → L (j + 1 + i) = e.1) ∧ (∀ i e, (tt_fl Q)[i]? = some e → L (j + 1 + tt_sz P + i) = e.1) := by
  refine ⟨h 0 c rfl, fun i e hi => ?_, fun i e hi => ?_⟩
  · have := h (i + 1) e (by
      simp only [tt_fl, List.getElem?_cons_succ]
      rw [List.getElem?_append_left (List.getElem?_eq_some_iff.mp hi).1]; exact hi)
    rw [show j + 1 + i = j + (i + 1) by omega]; exact this
  · have := h (tt_sz P + i + 1) e (by
      simp only [tt_fl, List.getElem?_cons_succ]
      rw [List.getElem?_append_right (by rw [tt_fl_len]; omega), tt_fl_len, Nat.add_sub_cancel_left]; exact hi)
    rw [show j + 1 + tt_sz P + i = j + (tt_sz P + i + 1) by omega]; exact this
theorem tk_st {L : Nat → Int32} : ∀ (T : tt_T) (a : Nat) (X : List Nat) (j : Nat), tt_wf T → tt_uv T a → (∀ i e, (tt_fl T)[i]? = some e → L (j + i) = e.1) → sc_st L j = some (a :: X) → sc_st L (j + tt_sz T) = some X
  | .leaf, _, _, _, h, _, _, _ => absurd h id
  | .inner s c u P Q, a, X, j, hw, hu, hr, hs => by
    obtain ⟨h0, hP, hQ⟩ := tk_fl0 hr
    obtain ⟨-, -, -, w0, w1, w2⟩ := hw
    have h1 : sc_st L (j + 1) = some (sc_push c.1 a X) := by
      simp only [sc_st, hs, Option.bind_some, sc_stp, h0]
      rw [if_neg hu.1]
    rcases sc_p3 c.1 with q | q | q
    · obtain ⟨e1, e2⟩ := w0 q
      subst e1; subst e2
      show sc_st L (j + 1) = some X
      rw [h1]; simp only [sc_push, q]
    · obtain ⟨e1, e2⟩ := w1 q
      subst e2
      have hx : ¬ c.1 = 120 := fun e => by rw [e] at q; exact absurd q (by decide +kernel)
      have hu1 := hu.2.1
      rw [if_neg hx] at hu1
      simp only [sc_push, q] at h1
      have := tk_st P a X (j + 1) e1 hu1 hP h1
      rw [show j + tt_sz (.inner s c u P .leaf) = j + 1 + tt_sz P by simp only [tt_sz]; omega]
      exact this
    · obtain ⟨e1, e2⟩ := w2 q
      simp only [sc_push, q] at h1
      have h2 := tk_st P _ (a :: X) (j + 1) e1 hu.2.1 hP h1
      have h3 := tk_st Q a X _ e2 hu.2.2 hQ h2
      rw [show j + tt_sz (.inner s c u P Q) = j + 1 + tt_sz P + tt_sz Q by simp only [tt_sz]; omega]
      exact h3
theorem tk_G {L : Nat → Int32} {T : tt_T} (hw : tt_wf T) (hu : tt_uv T 0) (hr : ∀ i e, (tt_fl T)[i]? = some e → L i = e.1) : sc_G (tt_sz T) L := by
  have := tk_st (L := L) T 0 [] 0 hw hu (fun i e h => by rw [Nat.zero_add]; exact hr i e h) rfl
  rw [Nat.zero_add] at this
  exact this
theorem tk_E {n : Nat} {L : Nat → Int32} {E : Nat → Nat} (hT : sc_T n L E) : ∀ (T : tt_T) (j : Nat), tt_wf T → j + tt_sz T ≤ n → (∀ i e, (tt_fl T)[i]? = some e → L (j + i) = e.1) → E j = j + tt_sz T ∧ sc_pu L E j = tt_pu T
  | .leaf, _, h, _, _ => absurd h id
  | .inner s c u P Q, j, hw, hn, hr => by
    obtain ⟨h0, hP, hQ⟩ := tk_fl0 hr
    obtain ⟨-, -, -, w0, w1, w2⟩ := hw
    simp only [tt_sz] at hn
    have hj : j < n := by omega
    rcases sc_p3 c.1 with q | q | q
    · obtain ⟨e1, e2⟩ := w0 q
      subst e1; subst e2
      refine ⟨hT.p0 hj (by rw [h0]; exact q), ?_⟩
      rw [sc_pu0 hT hj (by rw [h0]; exact q), h0]; simp [tt_pu]
    · obtain ⟨e1, e2⟩ := w1 q
      subst e2
      obtain ⟨i1, i2⟩ := tk_E hT P (j + 1) e1 (by omega) hP
      obtain ⟨q1, q2⟩ := hT.p1 hj (by rw [h0]; exact q)
      refine ⟨by rw [q2, i1]; simp only [tt_sz]; omega, ?_⟩
      rw [sc_pu1 hT hj (by rw [h0]; exact q), h0, i2]; simp [tt_pu]
    · obtain ⟨e1, e2⟩ := w2 q
      obtain ⟨i1, i2⟩ := tk_E hT P (j + 1) e1 (by omega) hP
      obtain ⟨j1, j2⟩ := tk_E hT Q (j + 1 + tt_sz P) e2 (by omega) hQ
      obtain ⟨q1, q2, q3, q4, q5⟩ := hT.p2 hj (by rw [h0]; exact q)
      rw [i1] at q5
      refine ⟨by rw [q5, j1]; simp only [tt_sz]; omega, ?_⟩
      rw [sc_pu2 hT hj (by rw [h0]; exact q), h0, i2, i1, j2]; simp [tt_pu]
theorem tk_flR {p k : Nat} {σ : sf_S} {s : Nat} {c : tt_C} {u : Unit} {P Q : tt_T} (h : ∀ i e, (tt_fl (.inner s c u P Q))[i]? = some e → σ (p + 1) (k + i) = e.1 ∧ σ (p + 2) (k + i) = e.2.1 ∧ σ (p + 3) (k + i) = e.2.2.1 ∧ σ (p + 4) (k + i) = e.2.2.2) : (σ (p + 1) k = c.1 ∧ σ (p + 2) k = c.2.1 ∧ σ (p + 3) k = c.2.2.1 ∧ σ (p + 4) k = c.2.2.2) ∧ (∀ i e, (tt_fl P)[i]? = some e → σ (p + 1) (k + 1 + i) = e.1 ∧ σ (p + 2) (k + 1 + i) = e.2.1 ∧ σ (p + 3) (k + 1 + i) = e.2.2.1 ∧ σ (p + 4) (k + 1 + i) = e.2.2.2) ∧ (∀ i e, (tt_fl Q)[i]? = some e → σ (p + 1) (k + 1 + tt_sz P + i) = e.1 ∧ σ (p + 2) (k + 1 + tt_sz P + i) = e.2.1 ∧ σ (p + 3) (k + 1 + tt_sz P + i) = e.2.2.1 ∧ σ (p + 4) (k + 1 + tt_sz P + i) = e.2.2.2) := by
  refine ⟨h 0 c rfl, fun i e hi => ?_, fun i e hi => ?_⟩
  · have := h (i + 1) e (by
      simp only [tt_fl, List.getElem?_cons_succ]
      rw [List.getElem?_append_left (List.getElem?_eq_some_iff.mp hi).1]; exact hi)
    rw [show k + 1 + i = k + (i + 1) by omega]; exact this
  · have := h (tt_sz P + i + 1) e (by
      simp only [tt_fl, List.getElem?_cons_succ]
      rw [List.getElem?_append_right (by rw [tt_fl_len]; omega), tt_fl_len, Nat.add_sub_cancel_left]; exact hi)
    rw [show k + 1 + tt_sz P + i = k + (tt_sz P + i + 1) by omega]; exact this
theorem tk_ofMC {p n : Nat} {L : Nat → Int32} {E : Nat → Nat} {σ : sf_S} (hT : sc_T n L E) (hM : sc_MC p n L E σ) : ∀ (T : tt_T) (k w : Nat) (o b : Int32), tt_wf T → k + tt_sz T ≤ n → (∀ i e, (tt_fl T)[i]? = some e → L (k + i) = e.1) → (∀ i e, (tt_fl T)[i]? = some e → σ (p + 1) (k + i) = e.1 ∧ σ (p + 2) (k + i) = e.2.1 ∧ σ (p + 3) (k + i) = e.2.2.1 ∧ σ (p + 4) (k + i) = e.2.2.2) → σ (p + 6) k = nI w → σ (p + 7) k = o → σ (p + 8) k = b → tk_P p σ T k w o b
  | .leaf, _, _, _, _, h, _, _, _, _, _, _ => absurd h id
  | .inner s c u P Q, k, w, o, b, hw, hn, hL, hr, h6, h7, h8 => by
    obtain ⟨g0, gP, gQ⟩ := tk_fl0 hL
    obtain ⟨h0, hP, hQ⟩ := tk_flR hr
    obtain ⟨e1, e2⟩ := tk_E hT _ k hw hn hL
    obtain ⟨-, -, -, w0, w1, w2⟩ := hw
    simp only [tt_sz] at hn
    have hk : k < n := by omega
    obtain ⟨m1, m2, -, -⟩ := id hM
    obtain ⟨m3, m4⟩ := m1 k hk
    rw [e1] at m3
    rw [e2] at m4
    obtain ⟨d1, d2⟩ := m2.2 k hk
    rw [g0] at d1 d2
    refine ⟨h0, ⟨m3, h6, h7, h8, m4⟩, ?_⟩
    rcases sc_p3 c.1 with q | q | q
    · obtain ⟨f1, f2⟩ := w0 q
      subst f1; subst f2
      exact ⟨trivial, trivial⟩
    · obtain ⟨f1, f2⟩ := w1 q
      subst f2
      obtain ⟨x1, x2, x3⟩ := d1 (by omega)
      exact ⟨tk_ofMC hT hM P (k + 1) (w + 1) _ _ f1 (by omega) gP hP (by rw [x1, h6, nI_1]) (by rw [x2, h7]) (by rw [x3, h8]), trivial⟩
    · obtain ⟨f1, f2⟩ := w2 q
      obtain ⟨x1, x2, x3⟩ := d1 (by omega)
      obtain ⟨y1, y2, y3⟩ := d2 q
      rw [(tk_E hT P (k + 1) f1 (by omega) gP).1] at y1 y2 y3
      exact ⟨tk_ofMC hT hM P (k + 1) (w + 1) _ _ f1 (by omega) gP hP (by rw [x1, h6, nI_1]) (by rw [x2, h7]) (by rw [x3, h8]), tk_ofMC hT hM Q _ (w + 1) _ _ f2 (by omega) gQ hQ (by rw [y1, h6, nI_1]) (by rw [y2, h7]) (by rw [y3, h8])⟩
theorem tk_en {L : Nat → Int32} : ∀ (T : tt_T) (j : Nat), (∀ i e, (tt_fl T)[i]? = some e → L (j + i) = e.1) → sc_en L (j + tt_sz T) = (sc_en L j || tt_en T)
  | .leaf, j, _ => by simp [tt_en, tt_sz]
  | .inner s c u P Q, j, hr => by
    obtain ⟨h0, hP, hQ⟩ := tk_fl0 hr
    have i1 := tk_en P (j + 1) hP
    have i2 := tk_en Q (j + 1 + tt_sz P) hQ
    rw [show j + tt_sz (.inner s c u P Q) = j + 1 + tt_sz P + tt_sz Q by simp only [tt_sz]; omega, i2, i1]
    simp only [sc_en, tt_en, h0]
    by_cases e : c.1 = 105
    · rw [if_pos e, decide_eq_true e]; simp
    · rw [if_neg e, decide_eq_false e]; simp [Bool.or_assoc]
theorem tk_ofT {p : Nat} {E : Nat → Nat} {L : Nat → Int32} {T : tt_T} {σ : sf_S} (hw : tt_wf T) (hR : tk_R p (tt_fl T) σ) (hL : ∀ j, j < tt_sz T → L j = σ (p + 1) j) (hT : sc_T (tt_sz T) L E) (hM : sc_MC p (tt_sz T) L E σ) : tk_M p T σ := by
  have hrow : ∀ i e, (tt_fl T)[i]? = some e → L i = e.1 := fun i e h => by
    have := (List.getElem?_eq_some_iff.mp h).1
    rw [tt_fl_len] at this
    rw [hL i this]; exact (hR.2 i e h).1
  obtain ⟨d0, -⟩ := hM.2.1
  refine ⟨hR, ?_, ?_⟩
  · refine tk_ofMC hT hM T 0 0 0 (-1) hw (by omega) (fun i e h => by rw [Nat.zero_add]; exact hrow i e h) (fun i e h => by rw [Nat.zero_add]; exact hR.2 i e h) ?_ d0.2.1 d0.2.2
    rw [d0.1]; exact sc_0
  · rw [hM.2.2.2]
    have := tk_en (L := L) T 0 (fun i e h => by rw [Nat.zero_add]; exact hrow i e h)
    rw [Nat.zero_add] at this
    rw [this]; simp [sc_en]
def tk_mf (p : Nat) (σ σ' : sf_S) : Prop := ∀ a b, ¬ (a = p + 5 ∨ a = p + 6 ∨ a = p + 7 ∨ a = p + 8 ∨ a = p + 9 ∨ (a = p ∧ (b = 10 ∨ b = 11))) → σ' a b = σ a b
theorem tk_R.kept {p : Nat} {l : List tt_C} {σ σ' : sf_S} (h : tk_R p l σ) (h1 : ∀ a b, ((a = p ∧ b = 4) ∨ (p + 1 ≤ a ∧ a ≤ p + 4)) → σ' a b = σ a b) : tk_R p l σ' := by
  refine ⟨by rw [h1 _ _ (by omega)]; exact h.1, fun j c hj => ?_⟩
  rw [h1 _ _ (by omega), h1 _ _ (by omega), h1 _ _ (by omega), h1 _ _ (by omega)]
  exact h.2 j c hj
theorem tk_meas {p : Nat} {T : tt_T} {σ : sf_S} (hw : tt_wf T) (hu : tt_uv T 0) (hz : tt_sz T ≤ 40) (hR : tk_R p (tt_fl T) σ) : ∃ σ', dX2_measure p σ = some σ' ∧ tk_mf p σ σ' ∧ tk_M p T σ' := by
  have h1 := tt_wf_sz hw
  have hrow : ∀ i e, (tt_fl T)[i]? = some e → σ (p + 1) i = e.1 := fun i e h => (hR.2 i e h).1
  obtain ⟨E, hT⟩ := sc_T_ex (tk_G (L := σ (p + 1)) hw hu hrow)
  obtain ⟨σ', s1, s2, s3⟩ := sc_measC (q := p) (σ := σ) hz (by omega) hT (by rw [← tt_fl_len]; exact hR.1) (fun j hj => rfl)
  exact ⟨σ', s1, s2, tk_ofT hw (hR.kept fun a b h => s2 a b (by omega)) (fun j hj => (s2 _ _ (by omega)).symm) hT s3⟩
