/-! asking: filters, while, take -/
def tr_fo (rn : Nat) (σ' : sf_S) : Option (Int32 × Int32) → Prop
  | none => tr_z rn σ'
  | some z => σ' rn 5 = z.1 ∧ σ' rn 6 = z.2
theorem tr_out_z {S : tt_S} {q rn : Nat} {wy : Bool} {T : tt_T} {k : Nat} {o w : Int32} {d : Nat} {σ' : sf_S} {r : tv_A} {z : Option (Int32 × Int32)} (h : r.2.2 = .inr z) (hf : tr_fo rn σ' z) : tr_out S q rn wy T k o w d σ' 0 r := by
  unfold tr_out
  rw [h]
  rcases z with _ | ⟨x, y⟩
  · exact ⟨rfl, hf⟩
  · exact ⟨rfl, hf.1, hf.2⟩
theorem tr_out_v {S : tt_S} {q rn : Nat} {wy : Bool} {T : tt_T} {k : Nat} {o w : Int32} {d : Nat} {σ' : sf_S} {r : tv_A} {v : Int32} {E : tv_L} (h : r.2.2 = .inl (v, E)) (h1 : σ' q 6 = v) (h2 : tr_R S q wy σ' T k o w = E) (h3 : tr_z rn σ') (h4 : d < r.2.1) : tr_out S q rn wy T k o w d σ' 1 r := by
  unfold tr_out
  rw [h]
  exact ⟨rfl, h1, h2, h3, h4⟩
theorem tr_outs {S : tt_S} {q rn : Nat} {wy : Bool} {T : tt_T} {k : Nat} {o w : Int32} {d : Nat} {σ' : sf_S} {res : Int32} {r : tv_A} (h : tr_out S q rn wy T k o w d σ' res r) : (∃ v l, r.2.2 = .inl (v, l) ∧ res = 1 ∧ σ' q 6 = v ∧ tr_R S q wy σ' T k o w = l ∧ tr_z rn σ' ∧ d < r.2.1) ∨ ∃ z, r.2.2 = .inr z ∧ res = 0 ∧ tr_fo rn σ' z := by
  obtain ⟨N, d1, o1⟩ := r
  rcases o1 with ⟨v, l⟩ | (_ | ⟨x, y⟩)
  · exact Or.inl ⟨v, l, rfl, h⟩
  · exact Or.inr ⟨none, rfl, h⟩
  · exact Or.inr ⟨some (x, y), rfl, h⟩
theorem tr_nc_kk {N : List (Int32 × Int32)} {r : tv_A} {f : Int32 → tv_L → Nat → tv_A} (h : tr_nc (tv_pre N (tv_kk r f))) : tr_nc r := by
  obtain ⟨M, d, o⟩ := r
  rcases o with ⟨v, l⟩ | z
  · exact fun b h => (by cases h)
  · exact h
theorem tr_le_kk {N : List (Int32 × Int32)} {r : tv_A} {f : Int32 → tv_L → Nat → tv_A} {m : Nat} (h : m + (tv_pre N (tv_kk r f)).1.length ≤ 100000) : m + N.length + r.1.length ≤ 100000 := by
  obtain ⟨M, d, o⟩ := r
  rcases o with ⟨v, l⟩ | z
  · simp only [tv_kk, tv_pre, List.length_append] at h ⊢; omega
  · simp only [tv_kk, tv_pre, List.length_append] at h ⊢; omega
theorem tr_nc_ke {N : List (Int32 × Int32)} {r : tv_A} {f : Nat → tv_A} {g : tv_L → tv_L} (h : tr_nc (tv_pre N (tv_ke r f g))) : tr_nc r := by
  obtain ⟨M, d, o⟩ := r
  rcases o with ⟨v, l⟩ | (_ | z)
  · exact fun b h => (by cases h)
  · exact fun b h => (by cases h)
  · exact h
theorem tr_le_ke {N : List (Int32 × Int32)} {r : tv_A} {f : Nat → tv_A} {g : tv_L → tv_L} {m : Nat} (h : m + (tv_pre N (tv_ke r f g)).1.length ≤ 100000) : m + N.length + r.1.length ≤ 100000 := by
  obtain ⟨M, d, o⟩ := r
  rcases o with ⟨v, l⟩ | (_ | z)
  all_goals simp only [tv_ke, tv_pre, List.length_append] at h ⊢; omega
/-- the first pipe is asked -/
theorem tr_callP {G : Nat → Int32 → Int32 → sf_S → Option (Int32 × sf_S)} {q pl rn : Nat} {s : Nat} {c : tt_C} {u : Unit} {P Q : tt_T} {k lv : Nat} {o w : Int32} {n d d1 a : Nat} {N N1 : List (Int32 × Int32)} {σ σm : sf_S} {r1 : tv_A} (hq : tr_q q pl rn) (hG : tr_sp G q pl rn P) (hP : 1 ≤ tt_sz P) (hx : ¬ c.1 = 120) (hpre : tr_pre q pl rn (.inner s c u P Q) k lv o w n d N σ) (hB : tr_B q rn (.inner s c u P Q) k d N σ d1 N1 a σm) (h5 : tr_z rn σm) (hr : r1 = tv_ak (tr_R (tr_S σ) q false σm P (k + 1) o w) d1) (hnc : tr_nc r1) (hlen : N.length + N1.length + r1.1.length ≤ 100000) :
    ∃ res σ' a', G q (nI (k + 1)) (nI (lv + 1)) σm = some (res, σ') ∧ tr_B q rn (.inner s c u P Q) k d N σ r1.2.1 (N1 ++ r1.1) (a + a') σ' ∧ d1 ≤ r1.2.1 ∧ a' ≤ tt_al P * (r1.2.1 - d1) + tt_sz P ∧ tr_fr q rn false (k + 1) (k + 1 + tt_sz P) σm σ' ∧
    ((∃ v l, r1.2.2 = .inl (v, l) ∧ res = 1 ∧ σ' q 6 = v ∧ tr_R (tr_S σ) q false σ' P (k + 1) o w = l ∧ tr_z rn σ' ∧ d1 < r1.2.1) ∨ ∃ z, r1.2.2 = .inr z ∧ res = 0 ∧ tr_fo rn σ' z) := by
  have hS := tr_S_B hq hB
  obtain ⟨res, σ', a', g1, g2, g3, g4, g5, g6⟩ := tr_call (rX := r1) hq hG hB ((tr_pre_B hq hpre hB h5).kidP hP hx) ⟨by omega, by simp only [tt_sz]; omega⟩ (by rw [hS]; exact hr) hnc (by rw [List.length_append]; exact hlen)
  rw [hS] at g6
  exact ⟨res, σ', a', g1, g2, g3, g4.2, g5, tr_outs g6⟩
/-- the node, between calls -/
theorem tr_ndB {q pl rn : Nat} {s : Nat} {c : tt_C} {u : Unit} {P Q : tt_T} {k lv : Nat} {o w : Int32} {n d d1 a : Nat} {N N1 : List (Int32 × Int32)} {σ σm : sf_S} (hq : tr_q q pl rn) (hpre : tr_pre q pl rn (.inner s c u P Q) k lv o w n d N σ) (hB : tr_B q rn (.inner s c u P Q) k d N σ d1 N1 a σm) : tr_nd pl n k c o σm := by
  have hs := tr_sep hq
  have hm : tr_m false = 3 := rfl
  exact hpre.nd.kept fun a b hab => hB.1 a b (by omega)
/-- a cell of the node's own -/
theorem tr_B.own {q pl rn : Nat} {T : tt_T} {k d d1 a : Nat} {N N1 : List (Int32 × Int32)} {σ σ1 : sf_S} {x : Int32} {j : Nat} (hq : tr_q q pl rn) (hB : tr_B q rn T k d N σ d1 N1 a σ1) (hT : 1 ≤ tt_sz T) (hj : j = 1 ∧ (∃ u, x = nI u ∧ u ≤ 300000 + d1) ∨ j = 2 ∨ j = 3) : tr_B q rn T k d N σ d1 N1 a (sf_up σ1 (q + j) k x) := by
  have hs := tr_sep hq
  have hm : tr_m false = 3 := rfl
  have hj2 : 1 ≤ j ∧ j ≤ 3 := by omega
  refine hB.step hq (fun a b hab => ?_) (sc_upK (by omega)) (sc_upK (by omega)) (hB.2.2.1.kept fun a b hab => sc_upK (by omega)) fun b h1 h2 => ?_
  · have : ¬ (a = q + j ∧ b = k) := by omega
    exact if_neg this
  · by_cases e : q + j = q + 1 ∧ b = k
    · obtain ⟨e1, rfl⟩ := e
      rw [e1, sc_upS]
      rcases hj with h | h | h
      · exact h.2
      · omega
      · omega
    · obtain ⟨y, y1, y2⟩ := hB.2.2.2.1 b h1 h2
      refine ⟨y, ?_, y2⟩
      rw [← y1]
      have : ¬ (q + 1 = q + j ∧ b = k) := by omega
      exact if_neg this
theorem tr_R_ps {c : tt_C} {o v : Int32} (hc : c.1 = 63 ∨ c.1 = 107) : tt_op c o v = if tt_ps c v = true then [tv_g v] else [] := by
  unfold tt_op
  rcases hc with h | h <;> rw [h] <;> rfl
theorem tr_filterL {G : Nat → Int32 → Int32 → sf_S → Option (Int32 × sf_S)} {q pl rn : Nat} {s : Nat} {c : tt_C} {u : Unit} {P Q : tt_T} {k lv : Nat} {o w : Int32} {n d : Nat} {N : List (Int32 × Int32)} {σ : sf_S} (hq : tr_q q pl rn) (hG : tr_sp G q pl rn P) (hP : 1 ≤ tt_sz P) (hc : c.1 = 63 ∨ c.1 = 107) (hpre : tr_pre q pl rn (.inner s c u P Q) k lv o w n d N σ) : ∀ (m fuel j d1 a : Nat) (N1 : List (Int32 × Int32)) (σm : sf_S) (r : tv_A), 500 - d1 ≤ m → m < fuel → j + m ≤ 1000 → tr_B q rn (.inner s c u P Q) k d N σ d1 N1 a σm → tr_z rn σm → r = tv_pre N1 (tv_ak (tr_R (tr_S σ) q false σm (.inner s c u P Q) k o w) d1) → tr_nc r → N.length + r.1.length ≤ 100000 →
    ∃ res σ' a', dX0_askFilter_2 G q fuel (nI k) (nI lv) (nI j) σm = some (res, σ') ∧ tr_B q rn (.inner s c u P Q) k d N σ r.2.1 r.1 (a + a') σ' ∧ d1 ≤ r.2.1 ∧ a' ≤ (tt_al P + tt_sz P) * (r.2.1 - d1) + tt_sz P ∧ tr_out (tr_S σ) q rn false (.inner s c u P Q) k o w d σ' res r := by
  have hs := tr_sep hq
  obtain ⟨e1, e2, e3, e4⟩ := hq.eqs
  have hx : ¬ c.1 = 120 := by rcases hc with h | h <;> rw [h] <;> decide
  have hun : c.1 = 37 ∨ c.1 = 42 ∨ c.1 = 43 ∨ c.1 = 47 ∨ c.1 = 108 ∨ c.1 = 63 ∨ c.1 = 107 := by rcases hc with h | h <;> simp [h]
  intro m
  induction m with
  | zero =>
    intro fuel j d1 a N1 σm r hm hf hj hB h5 hr hnc hlen
    obtain ⟨f, rfl⟩ : ∃ f, fuel = f + 1 := ⟨fuel - 1, by omega⟩
    rw [tr_R_un hun, tv_ak_bnd] at hr
    generalize hrP : tv_ak (tr_R (tr_S σ) q false σm P (k + 1) o w) d1 = rP at hr
    subst hr
    obtain ⟨res, σ1, a1, g1, g2, g3, g4, g5, g6⟩ := tr_callP hq hG hP hx hpre hB h5 hrP.symm (tr_nc_kk hnc) (tr_le_kk hlen)
    have hle := g2.2.1.2.2
    simp only [dX0_askFilter_2]
    rw [if_neg (by rw [show (1000000 : Int32) = nI 1000000 from by decide +kernel]; exact nI_ge (by omega) (by omega)), nI_1, nI_1, g1]
    simp only [Option.bind_some]
    obtain ⟨N2, d2, o2⟩ := rP
    rcases g6 with ⟨v, l, f1, f2, f3, f4, f5, f6⟩ | ⟨z, f1, f2, f3⟩
    · exfalso; simp only at f6 hle; omega
    · simp only at f1; subst f1; subst f2
      rw [if_neg (by simp)]
      refine ⟨0, σ1, a1, rfl, g2, g3, Nat.le_trans g4 ?_, tr_out_z rfl f3⟩
      rw [Nat.add_mul]; simp only [tv_kk, tv_pre]; omega
  | succ m ih =>
    intro fuel j d1 a N1 σm r hm hf hj hB h5 hr hnc hlen
    obtain ⟨f, rfl⟩ : ∃ f, fuel = f + 1 := ⟨fuel - 1, by omega⟩
    rw [tr_R_un hun, tv_ak_bnd] at hr
    generalize hrP : tv_ak (tr_R (tr_S σ) q false σm P (k + 1) o w) d1 = rP at hr
    subst hr
    obtain ⟨res, σ1, a1, g1, g2, g3, g4, g5, g6⟩ := tr_callP hq hG hP hx hpre hB h5 hrP.symm (tr_nc_kk hnc) (tr_le_kk hlen)
    simp only [dX0_askFilter_2]
    rw [if_neg (by rw [show (1000000 : Int32) = nI 1000000 from by decide +kernel]; exact nI_ge (by omega) (by omega)), nI_1, nI_1, g1]
    simp only [Option.bind_some]
    obtain ⟨N2, d2, o2⟩ := rP
    simp only at g2 g3 g4 g6
    rcases g6 with ⟨v, l, f1, f2, f3, f4, f5, f6⟩ | ⟨z, f1, f2, f3⟩
    · subst f1; subst f2
      rw [if_pos (by decide), e3, f3, tr_ps (by rw [e1]; exact tr_ndB hq hpre g2)]
      simp only [Option.bind_some]
      have hR1 : tr_R (tr_S σ) q false σ1 (.inner s c u P Q) k o w = tv_bnd (tt_op c o) l := by rw [tr_R_un hun, f4]
      by_cases hps : tt_ps c v = true
      · rw [hps, if_neg (by decide)]
        have er : tv_pre N1 (tv_kk (N2, d2, .inl (v, l)) fun v l d2 => tv_ak (tt_op c o v ++ tv_bnd (tt_op c o) l) d2) = (N1 ++ N2, d2, .inl (v, tv_bnd (tt_op c o) l)) := by
          simp [tv_kk, tr_R_ps hc, hps, tv_ak, tv_pre]
        rw [er]
        refine ⟨1, σ1, a1, rfl, g2, g3, Nat.le_trans g4 ?_, tr_out_v rfl f3 hR1 f5 (by have := hB.2.1.2.1; simp only; omega)⟩
        rw [Nat.add_mul]; simp only; omega
      · rw [Bool.not_eq_true] at hps
        rw [hps, if_pos (by rfl)]
        have er : tv_pre N1 (tv_kk (N2, d2, .inl (v, l)) fun v l d2 => tv_ak (tt_op c o v ++ tv_bnd (tt_op c o) l) d2) = tv_pre (N1 ++ N2) (tv_ak (tv_bnd (tt_op c o) l) d2) := by
          simp [tv_kk, tr_R_ps hc, hps, tv_pre]
        rw [er] at hnc hlen ⊢
        obtain ⟨res, σ2, a2, h1, h2, h3, h4, h6⟩ := ih f (j + 1) d2 (a + a1) (N1 ++ N2) σ1 _ (by omega) (by omega) (by omega) g2 f5 (by rw [hR1]) hnc hlen
        rw [nI_1]
        refine ⟨res, σ2, a1 + a2, h1, by rw [← Nat.add_assoc]; exact h2, by omega, ?_, h6⟩
        generalize (tv_pre (N1 ++ N2) (tv_ak (tv_bnd (tt_op c o) l) d2)).2.1 = D at h3 h4
        obtain ⟨y, rfl⟩ : ∃ y, d2 = d1 + (y + 1) := ⟨d2 - d1 - 1, by omega⟩
        obtain ⟨z, rfl⟩ : ∃ z, D = d1 + (y + 1) + z := ⟨D - (d1 + (y + 1)), by omega⟩
        rw [show d1 + (y + 1) + z - d1 = y + 1 + z by omega]
        rw [show d1 + (y + 1) - d1 = y + 1 by omega] at g4
        rw [show d1 + (y + 1) + z - (d1 + (y + 1)) = z by omega] at h4
        rw [Nat.mul_add, Nat.add_mul (tt_al P) (tt_sz P) (y + 1), Nat.mul_add (tt_sz P) y 1]
        omega
    · subst f1; subst f2
      rw [if_neg (by simp)]
      refine ⟨0, σ1, a1, rfl, g2, g3, Nat.le_trans g4 ?_, tr_out_z rfl f3⟩
      rw [Nat.add_mul]; simp only [tv_kk, tv_pre]; omega
theorem tr_R0 {q pl rn : Nat} {S : tt_S} {wy : Bool} {T : tt_T} {k : Nat} {o w : Int32} {σ : sf_S} (hq : tr_q q pl rn) : tr_R S q wy (sf_up σ rn 3 (σ rn 3 + 1)) T k o w = tr_R S q wy σ T k o w := by
  have hs := tr_sep hq
  exact tr_R_congr T k o w fun a b h1 h2 h3 h4 => sc_upK (by omega)
theorem tr_lv {q pl rn : Nat} {s : Nat} {c : tt_C} {u : Unit} {P Q : tt_T} {k lv : Nat} {o w : Int32} {n d : Nat} {N : List (Int32 × Int32)} {σ : sf_S} (h : tr_pre q pl rn (.inner s c u P Q) k lv o w n d N σ) : lv ≤ 40 := by
  have := h.1.2.2.2
  simp only [tt_sz] at this; omega
theorem tr_ask_fl {G : Nat → Int32 → Int32 → sf_S → Option (Int32 × sf_S)} {q pl rn : Nat} {s : Nat} {c : tt_C} {u : Unit} {P Q : tt_T} (hq : tr_q q pl rn) (hG : tr_sp G q pl rn P) (hP : 1 ≤ tt_sz P) (hc : c.1 = 63 ∨ c.1 = 107) : tr_sp (dX0_ask G) q pl rn (.inner s c u P Q) := by
  intro k lv o w n d N σ r hpre hr hnc hNl
  obtain ⟨hB0, h50⟩ := tr_B0 hq hpre
  have hF := sf_F_le
  obtain ⟨res, σ', a', h1, h2, h3, h4, h5⟩ := tr_filterL hq hG hP hc hpre 500 sf_F 0 d 1 [] _ r (by omega) (by omega) (by omega) hB0 h50 (by rw [tr_R0 hq, tv_pre_nil]; exact hr) hnc hNl
  rw [tr_in hq hpre.nd (tr_lv hpre), if_neg (by rcases hc with h | h <;> rw [h] <;> decide), if_pos hc]
  refine ⟨res, σ', ?_, tr_post_of h2 (by omega) ?_ h5⟩
  · unfold dX0_askFilter
    rw [sc_0, h1]
    simp only [Option.bind_some]
    rw [if_pos (tr_out01 h5)]
  · simp only [tt_al, tt_sz]
    rw [show tt_al P + tt_al Q + tt_sz P + tt_sz Q = (tt_al P + tt_sz P) + (tt_al Q + tt_sz Q) by omega, Nat.add_mul (tt_al P + tt_sz P)]
    omega
theorem tr_done {q rn : Nat} {T : tt_T} {k : Nat} {o w : Int32} {d : Nat} {N : List (Int32 × Int32)} {σ : sf_S} {r : tv_A} {X : Option (Int32 × sf_S)} (h : ∃ res σ', X = some (res, σ') ∧ tr_post q rn T k o w d N σ σ' res r) : ∃ res σ', (X.bind fun u => if sf_01 u.1 then some (u.1, u.2) else none) = some (res, σ') ∧ tr_post q rn T k o w d N σ σ' res r := by
  obtain ⟨res, σ', h1, h2⟩ := h
  refine ⟨res, σ', ?_, h2⟩
  rw [h1]
  simp only [Option.bind_some]
  rw [if_pos (tr_out01 h2.2.2.2.2.2)]
theorem tr_wk2 {P Q : tt_T} {s : Nat} {c : tt_C} {u : Unit} {a d d1 : Nat} (h : a ≤ tt_al P * (d1 - d) + tt_sz P) : 1 + a ≤ tt_al (.inner s c u P Q) * (d1 - d) + tt_sz (.inner s c u P Q) := by
  simp only [tt_al, tt_sz, Nat.add_mul]; omega
theorem tr_ask_wh {G : Nat → Int32 → Int32 → sf_S → Option (Int32 × sf_S)} {q pl rn : Nat} {s : Nat} {c : tt_C} {u : Unit} {P Q : tt_T} (hq : tr_q q pl rn) (hG : tr_sp G q pl rn P) (hP : 1 ≤ tt_sz P) (hc : c.1 = 119) : tr_sp (dX0_ask G) q pl rn (.inner s c u P Q) := by
  intro k lv o w n d N σ r hpre hr hnc hNl
  have hs := tr_sep hq
  obtain ⟨e1, e2, e3, e4⟩ := hq.eqs
  obtain ⟨hB0, h50⟩ := tr_B0 hq hpre
  have hnd := hpre.nd
  have hik : sf_in (nI k) 40 = true := sc_inI (by have := hnd.1; have := hnd.2.2.1; omega) (by omega)
  have hcl := sc_cl (show k < 2 ^ 31 by have := hnd.1; have := hnd.2.2.1; omega)
  have nar0 : vp_nar .boolean (0 : Int32) = 0 := by decide +kernel
  have nar1 : vp_nar .boolean (1 : Int32) = 1 := by decide +kernel
  have hRT : ∀ σ2 : sf_S, tr_R (tr_S σ) q false σ2 (.inner s c u P Q) k o w = if σ2 (q + 2) k = 0 then tv_tw (tt_ps c) (tr_R (tr_S σ) q false σ2 P (k + 1) o w) else [] := fun σ2 => by
    simp only [tr_R]; rw [hc]; rfl
  rw [tr_in hq hnd (tr_lv hpre), hc]
  simp (decide := true) only [if_false, if_true]
  refine tr_done ?_
  · unfold dX0_askWhile
    rw [if_pos hik, hcl]
    rw [← tr_R0 hq, hRT] at hr
    by_cases hz : sf_up σ rn 3 (σ rn 3 + 1) (q + 2) k = 0
    · rw [if_neg (by simp [hz])]
      rw [if_pos hz, tv_ak_tw] at hr
      generalize hrP : tv_ak (tr_R (tr_S σ) q false (sf_up σ rn 3 (σ rn 3 + 1)) P (k + 1) o w) d = rP at hr
      subst hr
      obtain ⟨res, σ1, a1, g1, g2, g3, g4, g5, g6⟩ := tr_callP hq hG hP (by rw [hc]; decide) hpre hB0 h50 hrP.symm (tr_nc_kk (N := []) hnc) (tr_le_kk (N := []) hNl)
      rw [nI_1, nI_1, g1]
      simp only [Option.bind_some]
      obtain ⟨N2, d2, o2⟩ := rP
      simp only [List.nil_append] at g2 g3 g4 g6
      rcases g6 with ⟨v, l, f1, f2, f3, f4, f5, f6⟩ | ⟨z, f1, f2, f3⟩
      · subst f1; subst f2
        rw [if_pos (by decide), e3, f3, tr_ps (by rw [e1]; exact tr_ndB hq hpre g2)]
        simp only [Option.bind_some]
        by_cases hps : tt_ps c v = true
        · rw [hps, if_pos (by decide)]
          unfold dX0_askWhile_46
          simp only [hik, if_true, hcl, nar0, sc_upS, not_true_eq_false, if_false]
          have er : tv_kk (N2, d2, .inl (v, l)) (fun v l d2 => if tt_ps c v = true then (([], d2, .inl (v, tv_tw (tt_ps c) l)) : tv_A) else ([], d2, .inr none)) = (N2, d2, .inl (v, tv_tw (tt_ps c) l)) := by
            simp [tv_kk, hps, tv_pre]
          rw [er]
          refine ⟨1, _, rfl, tr_post_of (a := 1 + a1) (g2.own (x := 0) hq (by simp only [tt_sz]; omega) (Or.inr (Or.inl rfl))) (by omega) (tr_wk2 g4) (tr_out_v rfl (by rw [sc_upK (by omega)]; exact f3) ?_ (tr_z_up (by omega) f5) f6)⟩
          rw [hRT, sc_upS, if_pos rfl, tr_R_congr P (k + 1) o w (σ := σ1) (fun a b h1 h2 h3 h4 => sc_upJ (by omega)), f4]
        · rw [Bool.not_eq_true] at hps
          rw [hps, if_neg (by decide)]
          unfold dX0_askWhile_46
          simp only [hik, if_true, hcl, nar1, sc_upS]
          rw [if_pos (by decide)]
          have er : tv_kk (N2, d2, .inl (v, l)) (fun v l d2 => if tt_ps c v = true then (([], d2, .inl (v, tv_tw (tt_ps c) l)) : tv_A) else ([], d2, .inr none)) = (N2, d2, .inr none) := by
            simp [tv_kk, hps, tv_pre]
          rw [er]
          exact ⟨0, _, rfl, tr_post_of (a := 1 + a1) (g2.own (x := 1) hq (by simp only [tt_sz]; omega) (Or.inr (Or.inl rfl))) (by omega) (tr_wk2 g4) (tr_out_z rfl (show tr_fo rn _ none from tr_z_up (by omega) f5))⟩
      · subst f1; subst f2
        rw [if_neg (by simp)]
        exact ⟨0, σ1, rfl, tr_post_of (a := 1 + a1) g2 (by omega) (tr_wk2 g4) (tr_out_z rfl f3)⟩
    · rw [if_pos hz]
      rw [if_neg hz] at hr
      subst hr
      exact ⟨0, _, rfl, tr_post_of (a := 1) hB0 (by omega) (by simp only [tt_sz]; omega) (tr_out_z rfl h50)⟩
theorem tr_clamp {x : Int32} {u : Nat} (hu : u < 2 ^ 31) : x ≤ nI u ↔ x.toNatClampNeg ≤ u := by
  rw [Int32.le_iff_toInt_le, nI_toInt hu]
  show _ ↔ x.toInt.toNat ≤ u
  omega
