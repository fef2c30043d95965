/-! all rules, in the class's plan -/
theorem tk_bs (x : Option sf_S) : x.bind some = x := by cases x <;> rfl
theorem tk_nil {p k : Nat} {A B : List tt_C} {S : tt_T} {σ : sf_S} {w : Nat} {o b : Int32} (hA : A.length = k) (hn : (A ++ tt_fl S ++ B).length ≤ 40) (hw : tt_wf S) (hS : tk_P p σ S k w o b) (hR : tk_R p (A ++ tt_fl S ++ B) σ) : ∃ s, dX2_makeNil p (nI k) σ = some s ∧ tk_R p (A ++ tt_fl tt_nil ++ B) s ∧ tk_af p σ s := by
  have hz := tt_wf_sz hw
  have hl := tt_fl_len S
  obtain ⟨s0, c, u, P, Q, e, -, -, -, -, h5, -⟩ := hS.root hw
  obtain ⟨s, s1, s2, s3⟩ := tk_makeNil (m := k + tt_sz S) hn (by omega) (by simp only [List.length_append]; omega) h5 hR
  refine ⟨s, s1, ?_, s3⟩
  have e1 : (A ++ tt_fl S ++ B).take k = A := by rw [List.append_assoc, ← hA]; exact List.take_left' rfl
  have e2 : (A ++ tt_fl S ++ B).drop (k + tt_sz S) = B := List.drop_left' (by simp only [List.length_append]; omega)
  rw [e1, e2] at s2
  have : A ++ tt_fl tt_nil ++ B = A ++ (114, -1, 0, 0) :: B := by simp [tt_fl, tt_nil]
  rw [this]; exact s2
theorem tk_2rows {k : Nat} {A R : List tt_C} {c e : tt_C} (hA : A.length = k) : (A ++ c :: e :: R)[k]? = some c ∧ (A ++ c :: e :: R)[k + 1]? = some e ∧ ((A ++ c :: e :: R).set k e).set (k + 1) c = A ++ e :: c :: R := by
  have h0 := tk_l3 A (c :: e :: R) 0
  have h1 := tk_l3 A (c :: e :: R) 1
  have h2 := tk_l2 A (c :: e :: R) 0 e
  have h3 := tk_l2 A (e :: e :: R) 1 c
  rw [hA] at h0 h1 h2 h3
  refine ⟨h0, h1, ?_⟩
  have h2 : (A ++ c :: e :: R).set k e = A ++ e :: e :: R := h2
  rw [h2]
  exact h3
theorem tk_apply {q k r : Nat} {T U : tt_T} {σ : sf_S} (hz : tt_sz T ≤ 40) (hw : tt_wf T) (hM : tk_M (sf_pl q) T σ) (hk : k < tt_sz T) (ha : tt_ap (tt_at T k) = some (r, U)) : ∃ s, dX5_apply q (nI r) (nI k) σ = some s ∧ tk_R (sf_pl q) (tt_fl (tt_put T k U)) s ∧ tk_af (sf_pl q) σ s := by
  obtain ⟨A, B, hfl, hA, hput⟩ := tt_put_fl T k hk
  obtain ⟨hR, hP, -⟩ := hM
  obtain ⟨w', o', b', hS⟩ := hP.at T 0 0 0 (-1) k hk
  rw [Nat.zero_add] at hS
  have hwS := tt_at_wf T k hk hw
  have hlen := tt_fl_len T
  obtain ⟨hz1, hz2⟩ := tt_at_sz T k hk
  rw [hput U]
  rw [hfl] at hR hlen
  have hn : (A ++ tt_fl (tt_at T k) ++ B).length ≤ 40 := by omega
  have h4 := hR.1
  rw [hlen] at h4
  generalize tt_at T k = S at *
  cases S with
  | leaf => cases ha
  | inner s c u P Q =>
    obtain ⟨hs, hv, hil, w0, w1, w2⟩ := id hwS
    have hnil := fun (_ : Unit) => tk_nil hA hn hwS hS hR
    have hfS : tt_fl (.inner s c u P Q) = c :: (tt_fl P ++ tt_fl Q) := rfl
    simp only [tt_ap] at ha
    split at ha
    · split at ha
      · cases ha
        obtain ⟨z, z1, z2, z3⟩ := hnil ()
        refine ⟨z, ?_, z2, z3⟩
        unfold dX5_apply
        rw [if_pos (by decide), tk_bs]; exact z1
      · cases ha
    split at ha
    · rename_i hc
      obtain ⟨q1, q2⟩ := w1 (by rw [hc]; decide +kernel)
      cases P with
      | leaf => exact absurd q1 id
      | inner z0 e v X Y =>
        subst q2
        have hfl2 : A ++ tt_fl (.inner s c u (.inner z0 e v X Y) .leaf) ++ B = A ++ c :: e :: (tt_fl X ++ tt_fl Y ++ B) := by simp [tt_fl]
        rw [hfl2] at hR hn
        obtain ⟨g1, g2, g3⟩ := tk_2rows (c := c) (e := e) (R := tt_fl X ++ tt_fl Y ++ B) hA
        simp only [tt_apt] at ha
        split at ha
        · cases ha
          obtain ⟨z, z1, z2, z3⟩ := tk_swap hn g1 g2 hR
          refine ⟨z, ?_, ?_, z3⟩
          · unfold dX5_apply
            rw [if_neg (by decide), if_neg (by decide), if_neg (by decide), if_pos (by decide), tk_bs]; exact z1
          · rw [g3] at z2
            have : A ++ tt_fl (tt_nd e (tt_nd c X .leaf) Y) ++ B = A ++ e :: c :: (tt_fl X ++ tt_fl Y ++ B) := by simp [tt_fl]
            rw [this]; exact z2
        split at ha
        · cases ha
          obtain ⟨z, z1, z2, z3⟩ := tk_merge hA hn hR 6 (by omega)
          refine ⟨z, ?_, ?_, z3⟩
          · unfold dX5_apply
            rw [if_neg (by decide), if_neg (by decide), if_neg (by decide), if_neg (by decide), if_neg (by decide), if_neg (by decide), if_pos (by decide), tk_bs]; exact z1
          · simp only [tt_fl, List.append_assoc, List.cons_append] at z2 ⊢
            exact z2
        split at ha
        · cases ha
          obtain ⟨z, z1, z2, z3⟩ := tk_merge hA hn hR 1 (by omega)
          refine ⟨z, ?_, ?_, z3⟩
          · unfold dX5_apply
            rw [if_neg (by decide), if_pos (by decide), tk_bs]; exact z1
          · simp only [tt_fl, List.append_assoc, List.cons_append] at z2 ⊢
            exact z2
        split at ha
        · cases ha
          obtain ⟨z, z1, z2, z3⟩ := hnil ()
          refine ⟨z, ?_, z2, z3⟩
          unfold dX5_apply
          rw [if_neg (by decide), if_neg (by decide), if_neg (by decide), if_neg (by decide), if_neg (by decide), if_neg (by decide), if_neg (by decide), if_neg (by decide), if_neg (by decide), if_pos (by decide), tk_bs]; exact z1
        · cases ha
    split at ha
    · rename_i hc
      obtain ⟨q1, q2⟩ := w1 (by rw [hc]; decide +kernel)
      cases P with
      | leaf => exact absurd q1 id
      | inner z0 e v X Y =>
        subst q2
        have hfl2 : A ++ tt_fl (.inner s c u (.inner z0 e v X Y) .leaf) ++ B = A ++ c :: e :: (tt_fl X ++ tt_fl Y ++ B) := by simp [tt_fl]
        have hn0 := hn
        have hR0 := hR
        rw [hfl2] at hR hn
        obtain ⟨g1, g2, g3⟩ := tk_2rows (c := c) (e := e) (R := tt_fl X ++ tt_fl Y ++ B) hA
        have hl2 : (A ++ c :: e :: (tt_fl X ++ tt_fl Y ++ B)).length = k + 2 + (tt_fl X ++ tt_fl Y ++ B).length := by simp only [List.length_append, List.length_cons]; omega
        simp only [tt_apd] at ha
        split at ha
        · cases ha
          obtain ⟨z, z1, z2, z3⟩ := tk_swap hn g1 g2 hR
          refine ⟨z, ?_, ?_, z3⟩
          · unfold dX5_apply
            rw [if_neg (by decide), if_neg (by decide), if_neg (by decide), if_neg (by decide), if_pos (by decide), tk_bs]; exact z1
          · rw [g3] at z2
            have : A ++ tt_fl (tt_nd e (tt_nd c X .leaf) Y) ++ B = A ++ e :: c :: (tt_fl X ++ tt_fl Y ++ B) := by simp [tt_fl]
            rw [this]; exact z2
        split at ha
        · cases ha
          obtain ⟨z, z1, z2, z3⟩ := tk_merge hA hn hR 2 (by omega)
          refine ⟨z, ?_, ?_, z3⟩
          · unfold dX5_apply
            rw [if_neg (by decide), if_neg (by decide), if_pos (by decide), tk_bs]; exact z1
          · simp only [tt_fl, List.append_assoc, List.cons_append] at z2 ⊢
            exact z2
        split at ha
        · cases ha
          obtain ⟨z, z1, z2, z3⟩ := tk_merge hA hn hR 8 (by omega)
          refine ⟨z, ?_, ?_, z3⟩
          · unfold dX5_apply
            rw [if_neg (by decide), if_neg (by decide), if_neg (by decide), if_neg (by decide), if_neg (by decide), if_neg (by decide), if_neg (by decide), if_neg (by decide), if_pos (by decide), tk_bs]; exact z1
          · simp only [tt_fl, List.append_assoc, List.cons_append] at z2 ⊢
            exact z2
        split at ha
        · cases ha
          obtain ⟨z, z1, z2, z3⟩ := tk_merge hA hn hR 7 (by omega)
          refine ⟨z, ?_, ?_, z3⟩
          · unfold dX5_apply
            rw [if_neg (by decide), if_neg (by decide), if_neg (by decide), if_neg (by decide), if_neg (by decide), if_neg (by decide), if_neg (by decide), if_pos (by decide), tk_bs]; exact z1
          · simp only [tt_fl, List.append_assoc, List.cons_append] at z2 ⊢
            exact z2
        split at ha
        · cases ha
          obtain ⟨z, z1, z2, z3⟩ := tk_swap hn g1 g2 hR
          rw [g3] at z2
          obtain ⟨f1, -, -⟩ := tk_2rows (c := e) (e := c) (R := tt_fl X ++ tt_fl Y ++ B) hA
          have x3 := (z2.2 k e f1).2.2.1
          have y3 := (hR.2 k c g1).2.2.1
          have hik : sf_in (nI k) 40 = true := sc_inI (by omega) (by omega)
          refine ⟨sf_up z (sf_pl q + 3) k (if 0 < e.2.2.1 - c.2.2.1 then e.2.2.1 - c.2.2.1 else 0), ?_, ?_, tk_af_tr z3 (tk_af_up (by omega))⟩
          · unfold dX5_apply
            rw [if_neg (by decide), if_neg (by decide), if_neg (by decide), if_neg (by decide), if_neg (by decide), if_pos (by decide), tk_bs]
            unfold dX5_swapDropWithTake
            rw [sc_has hn hR.1 (by omega), decide_eq_true (show k < (A ++ c :: e :: (tt_fl X ++ tt_fl Y ++ B)).length by omega)]
            simp only [Option.bind_some]
            rw [if_neg (by decide), nI_1, sc_has hn hR.1 (by omega), decide_eq_true (show k + 1 < (A ++ c :: e :: (tt_fl X ++ tt_fl Y ++ B)).length by omega)]
            simp only [Option.bind_some]
            rw [if_pos (by decide)]
            simp only [hik, if_true, sc_cl (show k < 2 ^ 31 by omega), z1, Option.bind_some, x3, y3]
          · have z4 := tk_R_1 (v := if 0 < e.2.2.1 - c.2.2.1 then e.2.2.1 - c.2.2.1 else 0) z2 f1
            have e5 := tk_l2 A (e :: c :: (tt_fl X ++ tt_fl Y ++ B)) 0 (e.1, e.2.1, (if 0 < e.2.2.1 - c.2.2.1 then e.2.2.1 - c.2.2.1 else 0), e.2.2.2)
            rw [hA] at e5
            have e5 : (A ++ e :: c :: (tt_fl X ++ tt_fl Y ++ B)).set k (e.1, e.2.1, (if 0 < e.2.2.1 - c.2.2.1 then e.2.2.1 - c.2.2.1 else 0), e.2.2.2) = A ++ (e.1, e.2.1, (if 0 < e.2.2.1 - c.2.2.1 then e.2.2.1 - c.2.2.1 else 0), e.2.2.2) :: c :: (tt_fl X ++ tt_fl Y ++ B) := e5
            rw [e5] at z4
            simp only [tt_fl, List.append_assoc, List.cons_append, List.append_nil, List.nil_append] at z4 ⊢
            exact z4
        split at ha
        · cases ha
          obtain ⟨z, z1, z2, z3⟩ := tk_cut (a := k) (b := k + 1) hn (by omega) (by omega) hR
          refine ⟨z, ?_, ?_, z3⟩
          · unfold dX5_apply
            rw [if_neg (by decide), if_neg (by decide), if_neg (by decide), if_neg (by decide), if_neg (by decide), if_neg (by decide), if_neg (by decide), if_neg (by decide), if_neg (by decide), if_neg (by decide), if_pos (by decide), tk_bs, nI_1]; exact z1
          · have e5 := tk_l1 A (c :: e :: (tt_fl X ++ tt_fl Y ++ B)) 0 1
            rw [hA] at e5
            have e5 : (A ++ c :: e :: (tt_fl X ++ tt_fl Y ++ B)).take k ++ (A ++ c :: e :: (tt_fl X ++ tt_fl Y ++ B)).drop (k + 1) = A ++ e :: (tt_fl X ++ tt_fl Y ++ B) := e5
            rw [e5] at z2
            simp only [tt_fl, List.append_assoc, List.cons_append] at z2 ⊢
            exact z2
        · cases ha
    split at ha
    · rename_i hc
      obtain ⟨q1, q2⟩ := w2 (by rw [hc]; decide +kernel)
      have zP := tt_wf_sz q1
      have zQ := tt_wf_sz q2
      have lP := tt_fl_len P
      have lQ := tt_fl_len Q
      simp only [tt_sz] at hz2
      obtain ⟨-, -, hP1, hQ1⟩ := hS
      obtain ⟨s1, c1, u1, P1, Q1, e1, -, -, -, -, g5, -⟩ := hP1.root q1
      have hnl : (A ++ (c :: (tt_fl P ++ tt_fl Q)) ++ B).length = tt_sz T := hlen
      have hP2 := tk_isnil hz h4 (show k + 1 < tt_sz T by omega) hP1 q1
      have hap : dX5_apply q (nI 12) (nI k) σ = dX5_keepOnePart q (nI k) σ := by
        unfold dX5_apply
        rw [if_neg (by decide), if_neg (by decide), if_neg (by decide), if_neg (by decide), if_neg (by decide), if_neg (by decide), if_neg (by decide), if_neg (by decide), if_neg (by decide), if_neg (by decide), if_neg (by decide), if_neg (by decide), if_pos (by decide), tk_bs]
      have hkp : dX5_keepOnePart q (nI k) σ = if sc_b (tt_isnil P) = 0 then (dX2_cut (sf_pl q) (nI (k + 1 + tt_sz P)) (nI (k + 1 + tt_sz P) + 1) σ).bind fun u3 => (dX2_cut (sf_pl q) (nI k) (nI k + 1) u3).bind fun u4 => some u4 else (dX2_cut (sf_pl q) (nI k) (nI (k + 1 + tt_sz P)) σ).bind fun u5 => some u5 := by
        unfold dX5_keepOnePart
        rw [tk_2nd hz h4 (by omega), g5]
        simp only [Option.bind_some, nI_1, hP2]
      split at ha
      · rename_i hi
        cases ha
        obtain ⟨z, z1, z2, z3⟩ := tk_cut (a := k) (b := k + 1 + tt_sz P) hn (by omega) (by rw [hfS, hnl]; omega) hR
        refine ⟨z, ?_, ?_, z3⟩
        · rw [hap, hkp, if_neg (by rw [hi]; decide), z1]; rfl
        · have e5 := tk_l1 A (c :: (tt_fl P ++ tt_fl U) ++ B) 0 (1 + tt_sz P)
          rw [hA, ← List.append_assoc A, ← Nat.add_assoc] at e5
          have e6 : (c :: (tt_fl P ++ tt_fl U) ++ B).drop (1 + tt_sz P) = tt_fl U ++ B := by
            rw [Nat.add_comm 1, List.cons_append, List.drop_succ_cons, List.append_assoc]
            exact List.drop_left' lP
          rw [e6] at e5
          rw [hfS] at z2
          have e5 : (A ++ c :: (tt_fl P ++ tt_fl U) ++ B).take k ++ (A ++ c :: (tt_fl P ++ tt_fl U) ++ B).drop (k + 1 + tt_sz P) = A ++ (tt_fl U ++ B) := e5
          rw [e5, ← List.append_assoc] at z2
          exact z2
      rename_i hi
      split at ha
      · rename_i hi2
        cases ha
        have hQe := tt_isnil_eq q2 hi2
        have hQl : tt_fl Q = [(114, -1, 0, 0)] := by rw [hQe]; rfl
        have zQ1 : tt_sz Q = 1 := by rw [hQe]; rfl
        obtain ⟨z, z1, z2, z3⟩ := tk_cut (a := k + 1 + tt_sz U) (b := k + 1 + tt_sz U + 1) hn (by omega) (by rw [hfS, hnl]; omega) hR
        have e5 := tk_l1 (A ++ c :: tt_fl U) ((114, -1, 0, 0) :: B) 0 1
        have e7 : (A ++ c :: tt_fl U).length = k + 1 + tt_sz U := by simp only [List.length_append, List.length_cons]; omega
        have e8 : A ++ tt_fl (.inner s c u U Q) ++ B = A ++ c :: tt_fl U ++ (114, -1, 0, 0) :: B := by rw [hfS, hQl]; simp
        rw [e7] at e5
        have e5 : (A ++ c :: tt_fl U ++ (114, -1, 0, 0) :: B).take (k + 1 + tt_sz U) ++ (A ++ c :: tt_fl U ++ (114, -1, 0, 0) :: B).drop (k + 1 + tt_sz U + 1) = A ++ c :: tt_fl U ++ B := e5
        rw [e8, e5] at z2
        have hn2 : (A ++ c :: tt_fl U ++ B).length ≤ 40 := by
          rw [e8] at hn
          simp only [List.length_append, List.length_cons] at hn ⊢; omega
        obtain ⟨y, y1, y2, y3⟩ := tk_cut (a := k) (b := k + 1) hn2 (by omega) (by simp only [List.length_append, List.length_cons]; omega) z2
        refine ⟨y, ?_, ?_, tk_af_tr z3 y3⟩
        · rw [hap, hkp, if_pos (by cases h9 : tt_isnil U with | false => rfl | true => exact absurd h9 hi), nI_1, z1]
          simp only [Option.bind_some, nI_1]
          rw [y1]; rfl
        · have e9 := tk_l1 A (c :: tt_fl U ++ B) 0 1
          rw [hA, ← List.append_assoc A] at e9
          have e9 : (A ++ c :: tt_fl U ++ B).take k ++ (A ++ c :: tt_fl U ++ B).drop (k + 1) = A ++ (tt_fl U ++ B) := e9
          rw [e9, ← List.append_assoc] at y2
          exact y2
      · cases ha
    split at ha
    · cases ha
    have h11 : dX5_apply q (nI 11) (nI k) σ = dX2_makeNil (sf_pl q) (nI k) σ := by
      unfold dX5_apply
      rw [if_neg (by decide), if_neg (by decide), if_neg (by decide), if_neg (by decide), if_neg (by decide), if_neg (by decide), if_neg (by decide), if_neg (by decide), if_neg (by decide), if_neg (by decide), if_neg (by decide), if_pos (by decide), tk_bs]
    obtain ⟨z, z1, z2, z3⟩ := hnil ()
    split at ha
    · split at ha
      · cases ha
        exact ⟨z, h11.trans z1, z2, z3⟩
      · cases ha
    · split at ha
      · cases ha
        exact ⟨z, h11.trans z1, z2, z3⟩
      · cases ha
