/-! asking: chain, zip -/
/-- the second pipe is asked -/
theorem tr_callQ {G : Nat → Int32 → Int32 → sf_S → Option (Int32 × sf_S)} {q pl rn : Nat} {s : Nat} {c : tt_C} {u : Unit} {P Q : tt_T} {k lv : Nat} {o w : Int32} {n d d1 a : Nat} {N N1 : List (Int32 × Int32)} {σ σm : sf_S} {r1 : tv_A} (hq : tr_q q pl rn) (hG : tr_sp G q pl rn Q) (hQ : 1 ≤ tt_sz Q) (hpre : tr_pre q pl rn (.inner s c u P Q) k lv o w n d N σ) (hB : tr_B q rn (.inner s c u P Q) k d N σ d1 N1 a σm) (h5 : tr_z rn σm) (hr : r1 = tv_ak (tr_R (tr_S σ) q false σm Q (k + 1 + tt_sz P) o w) d1) (hnc : tr_nc r1) (hlen : N.length + N1.length + r1.1.length ≤ 100000) :
    ∃ res σ' a', G q (nI (k + 1 + tt_sz P)) (nI (lv + 1)) σm = some (res, σ') ∧ tr_B q rn (.inner s c u P Q) k d N σ r1.2.1 (N1 ++ r1.1) (a + a') σ' ∧ d1 ≤ r1.2.1 ∧ a' ≤ tt_al Q * (r1.2.1 - d1) + tt_sz Q ∧ tr_fr q rn false (k + 1 + tt_sz P) (k + 1 + tt_sz P + tt_sz Q) σm σ' ∧
    ((∃ v l, r1.2.2 = .inl (v, l) ∧ res = 1 ∧ σ' q 6 = v ∧ tr_R (tr_S σ) q false σ' Q (k + 1 + tt_sz P) o w = l ∧ tr_z rn σ' ∧ d1 < r1.2.1) ∨ ∃ z, r1.2.2 = .inr z ∧ res = 0 ∧ tr_fo rn σ' z) := by
  have hS := tr_S_B hq hB
  obtain ⟨res, σ', a', g1, g2, g3, g4, g5, g6⟩ := tr_call (rX := r1) hq hG hB ((tr_pre_B hq hpre hB h5).kidQ hQ) ⟨by omega, by simp only [tt_sz]; omega⟩ (by rw [hS]; exact hr) hnc (by rw [List.length_append]; exact hlen)
  rw [hS] at g6
  exact ⟨res, σ', a', g1, g2, g3, g4.2, g5, tr_outs g6⟩
/-- where the second pipe begins -/
theorem tr_pre.snd {q pl rn : Nat} {s : Nat} {c : tt_C} {u : Unit} {P Q : tt_T} {k lv : Nat} {o w : Int32} {n d : Nat} {N : List (Int32 × Int32)} {σ : sf_S} (h : tr_pre q pl rn (.inner s c u P Q) k lv o w n d N σ) (hP : 1 ≤ tt_sz P) (hQ : 1 ≤ tt_sz Q) : dX2_secondPart pl (nI k) σ = some (nI (k + 1 + tt_sz P), σ) ∧ σ (pl + 5) (k + 1) = nI (k + 1 + tt_sz P) := by
  obtain ⟨⟨a1, a2, a3, a4⟩, ⟨b1, b2, b3⟩, ⟨wi, b, ⟨-, -, hPP, -⟩, hw⟩, -⟩ := h
  simp only [tt_sz] at a3
  obtain ⟨s1, c1, u1, P1, Q1, -, -, -, -, -, g5, -⟩ := hPP.root ((tt_wf_kid b1).1 hP)
  exact ⟨by rw [tk_2nd a1 a2 (by omega), g5], g5⟩
theorem tr_fail {rn : Nat} {σ : sf_S} : dX6_failed rn σ = some (if σ rn 5 = 0 then 0 else 1, σ) := by
  unfold dX6_failed
  split <;> rfl
theorem tr_fo_x {rn : Nat} {σ : sf_S} {r : tv_A} {x : Int32 × Int32} (hnc : tr_nc r) (h : r.2.2 = .inr (some x)) (hf : tr_fo rn σ (some x)) : ¬ σ rn 5 = 0 := by
  intro h0
  obtain ⟨x1, x2⟩ := x
  have : x1 = 0 := hf.1.symm.trans h0
  subst this
  exact hnc x2 h
theorem tr_ask_ch {G : Nat → Int32 → Int32 → sf_S → Option (Int32 × sf_S)} {q pl rn : Nat} {s : Nat} {c : tt_C} {u : Unit} {P Q : tt_T} (hq : tr_q q pl rn) (hG : tr_sp G q pl rn P) (hG2 : tr_sp G q pl rn Q) (hP : 1 ≤ tt_sz P) (hQ : 1 ≤ tt_sz Q) (hc : c.1 = 99) : tr_sp (dX0_ask G) q pl rn (.inner s c u P Q) := by
  intro k lv o w n d N σ r hpre hr hnc hNl
  have hs := tr_sep hq
  obtain ⟨e1, e2, e3, e4⟩ := hq.eqs
  obtain ⟨hB0, h50⟩ := tr_B0 hq hpre
  have hnd := hpre.nd
  have hik : sf_in (nI k) 40 = true := sc_inI (by have := hnd.1; have := hnd.2.2.1; omega) (by omega)
  have hcl := sc_cl (show k < 2 ^ 31 by have := hnd.1; have := hnd.2.2.1; omega)
  have nar1 : vp_nar .boolean (1 : Int32) = 1 := by decide +kernel
  have hm3 : tr_m false = 3 := rfl
  have hRT : ∀ σ2 : sf_S, tr_R (tr_S σ) q false σ2 (.inner s c u P Q) k o w = (if σ2 (q + 2) k = 0 then tr_R (tr_S σ) q false σ2 P (k + 1) o w else []) ++ tr_R (tr_S σ) q false σ2 Q (k + 1 + tt_sz P) o w := fun σ2 => by
    simp only [tr_R]; rw [hc]; rfl
  -- the second part, when the first is over
  have part2 : ∀ (d1 a : Nat) (N1 : List (Int32 × Int32)) (σm : sf_S), tr_B q rn (.inner s c u P Q) k d N σ d1 N1 a σm → tr_z rn σm → ¬ σm (q + 2) k = 0 → r = tv_pre N1 (tv_ak (tr_R (tr_S σ) q false σm Q (k + 1 + tt_sz P) o w) d1) → ∃ res σ' a', dX0_askChain_43 G q (nI k) (nI lv) σm = some (res, σ') ∧ tr_B q rn (.inner s c u P Q) k d N σ r.2.1 r.1 (a + a') σ' ∧ d1 ≤ r.2.1 ∧ a' ≤ tt_al Q * (r.2.1 - d1) + tt_sz Q ∧ tr_out (tr_S σ) q rn false (.inner s c u P Q) k o w d σ' res r := by
    intro d1 a N1 σm hB h5 hz hr
    generalize hrQ : tv_ak (tr_R (tr_S σ) q false σm Q (k + 1 + tt_sz P) o w) d1 = rQ at hr
    subst hr
    obtain ⟨res, σ1, a1, g1, g2, g3, g4, g5, g6⟩ := tr_callQ hq hG2 hQ hpre hB h5 hrQ.symm (show tr_nc rQ from hnc) (by simp only [tv_pre, List.length_append] at hNl; omega)
    unfold dX0_askChain_43
    rw [e1, ((tr_pre_B hq hpre hB h5).snd hP hQ).1]
    simp only [Option.bind_some]
    rw [nI_1, g1]
    simp only [Option.bind_some]
    obtain ⟨N2, d2, o2⟩ := rQ
    simp only at g2 g3 g4 g6
    rcases g6 with ⟨v, l, f1, f2, f3, f4, f5, f6⟩ | ⟨z, f1, f2, f3⟩
    · subst f1; subst f2
      rw [if_pos (by decide)]
      refine ⟨1, σ1, a1, rfl, g2, g3, g4, tr_out_v rfl f3 ?_ f5 (by have := hB.2.1.2.1; simp only [tv_pre]; omega)⟩
      rw [hRT, g5 _ _ (by omega), if_neg hz, f4]; rfl
    · subst f1; subst f2
      rw [if_pos (by decide)]
      exact ⟨0, σ1, a1, rfl, g2, g3, g4, tr_out_z (z := z) rfl f3⟩
  rw [tr_in hq hnd (tr_lv hpre), hc]
  simp (decide := true) only [if_false, if_true]
  refine tr_done ?_
  unfold dX0_askChain
  rw [if_pos hik, hcl]
  rw [← tr_R0 hq, hRT] at hr
  by_cases hz : sf_up σ rn 3 (σ rn 3 + 1) (q + 2) k = 0
  · rw [if_neg (by simp [hz])]
    rw [if_pos hz, tv_ak_app] at hr
    generalize hrP : tv_ak (tr_R (tr_S σ) q false (sf_up σ rn 3 (σ rn 3 + 1)) P (k + 1) o w) d = rP at hr
    have hncP : tr_nc rP := by rw [hr] at hnc; exact tr_nc_ke (N := []) hnc
    have hlenP : N.length + ([] : List (Int32 × Int32)).length + rP.1.length ≤ 100000 := by rw [hr] at hNl; exact tr_le_ke (N := []) hNl
    obtain ⟨res, σ1, a1, g1, g2, g3, g4, g5, g6⟩ := tr_callP hq hG hP (by rw [hc]; decide) hpre hB0 h50 hrP.symm hncP hlenP
    rw [nI_1, nI_1, g1]
    simp only [Option.bind_some]
    obtain ⟨N2, d2, o2⟩ := rP
    simp only [List.nil_append] at g2 g3 g4 g6
    rcases g6 with ⟨v, l, f1, f2, f3, f4, f5, f6⟩ | ⟨z, f1, f2, f3⟩
    · subst f1; subst f2
      rw [if_neg (by decide)]
      have er : r = (N2, d2, .inl (v, l ++ tr_R (tr_S σ) q false (sf_up σ rn 3 (σ rn 3 + 1)) Q (k + 1 + tt_sz P) o w)) := hr
      subst er
      refine ⟨1, σ1, rfl, tr_post_of (a := 1 + a1) g2 (by omega) (tr_wk2 g4) (tr_out_v rfl f3 ?_ f5 f6)⟩
      rw [hRT, g5 _ _ (by omega), if_pos hz, f4, tr_R_out hq g5 (Or.inl (by omega))]
    · subst f1; subst f2
      rw [if_pos rfl, e2, tr_fail]
      simp only [Option.bind_some]
      cases z with
      | some x =>
        rw [if_neg (tr_fo_x hncP rfl f3), if_neg (by decide)]
        have er : r = (N2, d2, .inr (some x)) := hr
        subst er
        exact ⟨0, σ1, rfl, tr_post_of (a := 1 + a1) g2 (by omega) (tr_wk2 g4) (tr_out_z (z := some x) rfl f3)⟩
      | none =>
        rw [if_pos f3.1, if_pos rfl, if_pos hik, nar1]
        have hB2 := g2.own (x := 1) hq (by simp only [tt_sz]; omega) (Or.inr (Or.inl rfl))
        have er : r = tv_pre N2 (tv_ak (tr_R (tr_S σ) q false (sf_up σ1 (q + 2) k 1) Q (k + 1 + tt_sz P) o w) d2) := by
          rw [hr, tr_R_congr Q (k + 1 + tt_sz P) o w (σ := σ1) (σ' := sf_up σ1 (q + 2) k 1) (fun a b h1 h2 h3 h4 => sc_upJ (by omega)), tr_R_out hq g5 (Or.inl (by omega))]
          rfl
        obtain ⟨res, σ2, a2, k1, k2, k3, k4, k5⟩ := part2 d2 (1 + a1) N2 (sf_up σ1 (q + 2) k 1) hB2 (tr_z_up (by omega) f3) (by rw [sc_upS]; decide) er
        refine ⟨res, σ2, k1, tr_post_of k2 (by omega) ?_ k5⟩
        generalize r.2.1 = D at k3 k4
        obtain ⟨y', rfl⟩ : ∃ y', d2 = d + y' := ⟨d2 - d, by omega⟩
        obtain ⟨z', rfl⟩ : ∃ z', D = d + y' + z' := ⟨D - (d + y'), by omega⟩
        rw [show d + y' + z' - d = y' + z' by omega]
        rw [show d + y' - d = y' by omega] at g4
        rw [show d + y' + z' - (d + y') = z' by omega] at k4
        simp only [tt_al, tt_sz, Nat.add_mul, Nat.mul_add]
        omega
  · rw [if_pos hz]
    rw [if_neg hz, List.nil_append] at hr
    obtain ⟨res, σ2, a2, k1, k2, k3, k4, k5⟩ := part2 d 1 [] _ hB0 h50 hz hr
    refine ⟨res, σ2, k1, tr_post_of k2 (by omega) ?_ k5⟩
    simp only [tt_al, tt_sz, Nat.add_mul]
    omega
theorem tr_ask_zp {G : Nat → Int32 → Int32 → sf_S → Option (Int32 × sf_S)} {q pl rn : Nat} {s : Nat} {c : tt_C} {u : Unit} {P Q : tt_T} (hq : tr_q q pl rn) (hG : tr_sp G q pl rn P) (hG2 : tr_sp G q pl rn Q) (hP : 1 ≤ tt_sz P) (hQ : 1 ≤ tt_sz Q) (hc : c.1 = 122) : tr_sp (dX0_ask G) q pl rn (.inner s c u P Q) := by
  intro k lv o w n d N σ r hpre hr hnc hNl
  have hs := tr_sep hq
  obtain ⟨e1, e2, e3, e4⟩ := hq.eqs
  obtain ⟨hB0, h50⟩ := tr_B0 hq hpre
  have hnd := hpre.nd
  have hm3 : tr_m false = 3 := rfl
  have hRT : ∀ σ2 : sf_S, tr_R (tr_S σ) q false σ2 (.inner s c u P Q) k o w = tv_zp (tt_jn c) (tr_R (tr_S σ) q false σ2 P (k + 1) o w) (tr_R (tr_S σ) q false σ2 Q (k + 1 + tt_sz P) o w) := fun σ2 => by
    simp only [tr_R]; rw [hc]; rfl
  rw [tr_in hq hnd (tr_lv hpre), hc]
  simp (decide := true) only [if_false, if_true]
  refine tr_done ?_
  unfold dX0_askZip
  rw [← tr_R0 hq, hRT, tv_ak_zp] at hr
  generalize hrP : tv_ak (tr_R (tr_S σ) q false (sf_up σ rn 3 (σ rn 3 + 1)) P (k + 1) o w) d = rP at hr
  have hncP : tr_nc rP := by rw [hr] at hnc; exact tr_nc_kk (N := []) hnc
  have hlenP : N.length + ([] : List (Int32 × Int32)).length + rP.1.length ≤ 100000 := by rw [hr] at hNl; exact tr_le_kk (N := []) hNl
  obtain ⟨res, σ1, a1, g1, g2, g3, g4, g5, g6⟩ := tr_callP hq hG hP (by rw [hc]; decide) hpre hB0 h50 hrP.symm hncP hlenP
  rw [nI_1, nI_1, g1]
  simp only [Option.bind_some]
  obtain ⟨N2, d2, o2⟩ := rP
  simp only [List.nil_append] at g2 g3 g4 g6
  rcases g6 with ⟨v, l, f1, f2, f3, f4, f5, f6⟩ | ⟨z, f1, f2, f3⟩
  · subst f1; subst f2
    rw [if_pos (by decide), e3, f3, e1, ((tr_pre_B hq hpre g2 f5).snd hP hQ).1]
    simp only [Option.bind_some]
    have er : r = tv_pre N2 (tv_ak (tv_zh (tt_jn c) v l (tr_R (tr_S σ) q false σ1 Q (k + 1 + tt_sz P) o w)) d2) := by
      rw [hr, tr_R_out hq g5 (Or.inl (by omega))]; rfl
    rw [tv_ak_sp] at er
    generalize hrQ : tv_ak (tr_R (tr_S σ) q false σ1 Q (k + 1 + tt_sz P) o w) d2 = rQ at er
    have hncQ : tr_nc rQ := by rw [er] at hnc; exact tr_nc_kk hnc
    have hlenQ : N.length + N2.length + rQ.1.length ≤ 100000 := by rw [er] at hNl; exact tr_le_kk hNl
    obtain ⟨res, σ2, a2, k1, k2, k3, k4, k5, k6⟩ := tr_callQ hq hG2 hQ hpre g2 f5 hrQ.symm hncQ hlenQ
    rw [k1]
    simp only [Option.bind_some]
    obtain ⟨N3, d3, o3⟩ := rQ
    simp only at k2 k3 k4 k6
    have hwk : 1 + a1 + a2 ≤ tt_al (.inner s c u P Q) * (d3 - d) + tt_sz (.inner s c u P Q) := by
      obtain ⟨y', rfl⟩ : ∃ y', d2 = d + y' := ⟨d2 - d, by omega⟩
      obtain ⟨z', rfl⟩ : ∃ z', d3 = d + y' + z' := ⟨d3 - (d + y'), by omega⟩
      rw [show d + y' + z' - d = y' + z' by omega]
      rw [show d + y' - d = y' by omega] at g4
      rw [show d + y' + z' - (d + y') = z' by omega] at k4
      simp only [tt_al, tt_sz, Nat.add_mul, Nat.mul_add]
      omega
    rcases k6 with ⟨v2, l2, j1, j2, j3, j4, j5, j6⟩ | ⟨z, j1, j2, j3⟩
    · subst j1; subst j2
      rw [if_pos (by decide), j3, tr_jn (by rw [e1]; exact tr_ndB hq hpre k2)]
      simp only [Option.bind_some]
      have er2 : r = (N2 ++ N3, d3, .inl (tt_jn c v v2, tv_zp (tt_jn c) l l2)) := by
        rw [er]; simp [tv_kk, tv_pre]
      subst er2
      have hf : tr_fr q rn false k (k + tt_sz (.inner s c u P Q)) σ2 (sf_up σ2 q 6 (tt_jn c v v2)) := fun a b hab => by
        have : ¬ (a = q ∧ b = 6) := by omega
        exact if_neg this
      refine ⟨1, _, rfl, tr_post_of (a := 1 + a1 + a2) (k2.step hq hf (sc_upK (by omega)) (sc_upK (by omega)) (k2.2.2.1.kept fun a b hab => sc_upK (by omega)) fun b h1 h2 => ?_) (by omega) hwk (tr_out_v rfl sc_upS ?_ (tr_z_up (by omega) j5) (by simp only; omega))⟩
      · obtain ⟨y, y1, y2⟩ := k2.2.2.2.1 b h1 h2
        exact ⟨y, by rw [sc_upK (by omega)]; exact y1, y2⟩
      · rw [hRT, tr_R_congr P (k + 1) o w (σ := σ2) (fun a b h1 h2 h3 h4 => sc_upK (by omega)), tr_R_congr Q (k + 1 + tt_sz P) o w (σ := σ2) (fun a b h1 h2 h3 h4 => sc_upK (by omega)), tr_R_out hq k5 (Or.inr (by omega)), f4, j4]
    · subst j1; subst j2
      rw [if_neg (by simp)]
      have er2 : r = (N2 ++ N3, d3, .inr z) := by rw [er]; rfl
      subst er2
      exact ⟨0, σ2, rfl, tr_post_of (a := 1 + a1 + a2) k2 (by omega) hwk (tr_out_z (z := z) rfl j3)⟩
  · subst f1; subst f2
    rw [if_neg (by simp)]
    have er : r = (N2, d2, .inr z) := hr
    subst er
    exact ⟨0, σ1, rfl, tr_post_of (a := 1 + a1) g2 (by omega) (tr_wk2 g4) (tr_out_z (z := z) rfl f3)⟩
