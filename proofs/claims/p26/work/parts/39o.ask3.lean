/-! asking: take, drop -/
theorem tr_ask_tk {G : Nat → Int32 → Int32 → sf_S → Option (Int32 × sf_S)} {q pl rn : Nat} {s : Nat} {c : tt_C} {u : Unit} {P Q : tt_T} (hq : tr_q q pl rn) (hG : tr_sp G q pl rn P) (hP : 1 ≤ tt_sz P) (hc : c.1 = 116) : tr_sp (dX0_ask G) q pl rn (.inner s c u P Q) := by
  intro k lv o w n d N σ r hpre hr hnc hNl
  have hs := tr_sep hq
  obtain ⟨e1, e2, e3, e4⟩ := hq.eqs
  obtain ⟨hB0, h50⟩ := tr_B0 hq hpre
  have hnd := hpre.nd
  have hik : sf_in (nI k) 40 = true := sc_inI (by have := hnd.1; have := hnd.2.2.1; omega) (by omega)
  have hcl := sc_cl (show k < 2 ^ 31 by have := hnd.1; have := hnd.2.2.1; omega)
  have hd5 := hpre.2.2.2.2.2.1.2
  have hRT : ∀ σ2 : sf_S, tr_R (tr_S σ) q false σ2 (.inner s c u P Q) k o w = tv_tk (tr_R (tr_S σ) q false σ2 P (k + 1) o w) (c.2.2.1.toNatClampNeg - (σ2 (q + 1) k).toNatClampNeg) := fun σ2 => by
    simp only [tr_R]; rw [hc]; rfl
  obtain ⟨y, y1, y2⟩ := hB0.2.2.2.1 k (Nat.le_refl _) (by simp only [tt_sz]; omega)
  rw [tr_in hq hnd (tr_lv hpre), hc]
  simp (decide := true) only [if_false, if_true]
  refine tr_done ?_
  unfold dX0_askTake
  rw [if_pos hik, if_pos hik, hcl, e1, y1, (tr_ndB hq hpre hB0).2.2.2.2.2.1]
  rw [← tr_R0 hq, hRT, y1, sc_cl (by omega)] at hr
  by_cases hz : c.2.2.1.toNatClampNeg ≤ y
  · rw [if_pos ((tr_clamp (by omega)).mpr hz)]
    rw [Nat.sub_eq_zero_of_le hz, tv_ak_tk0] at hr
    subst hr
    exact ⟨0, _, rfl, tr_post_of (a := 1) hB0 (by omega) (by simp only [tt_sz]; omega) (tr_out_z rfl h50)⟩
  · rw [if_neg (fun h => hz ((tr_clamp (by omega)).mp h))]
    rw [show c.2.2.1.toNatClampNeg - y = (c.2.2.1.toNatClampNeg - (y + 1)) + 1 by omega, tv_ak_tk] at hr
    generalize hrP : tv_ak (tr_R (tr_S σ) q false (sf_up σ rn 3 (σ rn 3 + 1)) P (k + 1) o w) d = rP at hr
    subst hr
    obtain ⟨res, σ1, a1, g1, g2, g3, g4, g5, g6⟩ := tr_callP hq hG hP (by rw [hc]; decide) hpre hB0 h50 hrP.symm (tr_nc_kk (N := []) hnc) (tr_le_kk (N := []) hNl)
    rw [nI_1, nI_1, g1]
    simp only [Option.bind_some]
    obtain ⟨N2, d2, o2⟩ := rP
    simp only [List.nil_append] at g2 g3 g4 g6
    rcases g6 with ⟨v, l, f1, f2, f3, f4, f5, f6⟩ | ⟨z, f1, f2, f3⟩
    · subst f1; subst f2
      have hm : tr_m false = 3 := rfl
      rw [if_pos (by decide), if_pos hik, if_pos hik, g5 _ _ (by omega), y1, nI_1]
      have er : tv_kk (N2, d2, .inl (v, l)) (fun v l d2 => (([], d2, .inl (v, tv_tk l (c.2.2.1.toNatClampNeg - (y + 1)))) : tv_A)) = (N2, d2, .inl (v, tv_tk l (c.2.2.1.toNatClampNeg - (y + 1)))) := by
        simp [tv_kk, tv_pre]
      rw [er]
      refine ⟨1, _, rfl, tr_post_of (a := 1 + a1) (g2.own (x := nI (y + 1)) (j := 1) hq (by simp only [tt_sz]; omega) (Or.inl ⟨rfl, y + 1, rfl, by show y + 1 ≤ 300000 + d2; omega⟩)) (by omega) (tr_wk2 g4) (tr_out_v rfl (by rw [sc_upK (by omega)]; exact f3) ?_ (tr_z_up (by omega) f5) f6)⟩
      rw [hRT, sc_upS, sc_cl (by omega), tr_R_congr P (k + 1) o w (σ := σ1) (fun a b h1 h2 h3 h4 => sc_upJ (by omega)), f4]
    · subst f1; subst f2
      rw [if_neg (by simp)]
      exact ⟨0, σ1, rfl, tr_post_of (a := 1 + a1) g2 (by omega) (tr_wk2 g4) (tr_out_z rfl f3)⟩
theorem tr_drop78 {G : Nat → Int32 → Int32 → sf_S → Option (Int32 × sf_S)} {q pl rn : Nat} {s : Nat} {c : tt_C} {u : Unit} {P Q : tt_T} {k lv : Nat} {o w : Int32} {n d : Nat} {N : List (Int32 × Int32)} {σ : sf_S} (hq : tr_q q pl rn) (hG : tr_sp G q pl rn P) (hP : 1 ≤ tt_sz P) (hc : c.1 = 100) (hpre : tr_pre q pl rn (.inner s c u P Q) k lv o w n d N σ) {d1 a y : Nat} {N1 : List (Int32 × Int32)} {σm : sf_S} {r : tv_A} (hB : tr_B q rn (.inner s c u P Q) k d N σ d1 N1 a σm) (h5 : tr_z rn σm) (hy : σm (q + 1) k = nI y) (hy2 : y ≤ 400000) (hyc : c.2.2.1.toNatClampNeg ≤ y ∨ ¬ σm (q + 2) k = 0) (hr : r = tv_pre N1 (tv_ak (tr_R (tr_S σ) q false σm (.inner s c u P Q) k o w) d1)) (hnc : tr_nc r) (hlen : N.length + r.1.length ≤ 100000) :
    ∃ res σ' a', dX0_askDrop_78 G q (nI k) (nI lv) σm = some (res, σ') ∧ tr_B q rn (.inner s c u P Q) k d N σ r.2.1 r.1 (a + a') σ' ∧ d1 ≤ r.2.1 ∧ a' ≤ tt_al P * (r.2.1 - d1) + tt_sz P ∧ tr_out (tr_S σ) q rn false (.inner s c u P Q) k o w d σ' res r := by
  have hs := tr_sep hq
  obtain ⟨e1, e2, e3, e4⟩ := hq.eqs
  have hnd := hpre.nd
  have hik : sf_in (nI k) 40 = true := sc_inI (by have := hnd.1; have := hnd.2.2.1; omega) (by omega)
  have hcl := sc_cl (show k < 2 ^ 31 by have := hnd.1; have := hnd.2.2.1; omega)
  have nar0 : vp_nar .boolean (0 : Int32) = 0 := by decide +kernel
  have nar1 : vp_nar .boolean (1 : Int32) = 1 := by decide +kernel
  have hm : tr_m false = 3 := rfl
  have hRT : ∀ σ2 : sf_S, tr_R (tr_S σ) q false σ2 (.inner s c u P Q) k o w = if σ2 (q + 2) k = 0 then tv_dr (tr_R (tr_S σ) q false σ2 P (k + 1) o w) (c.2.2.1.toNatClampNeg - (σ2 (q + 1) k).toNatClampNeg) else [] := fun σ2 => by
    simp only [tr_R]; rw [hc]; rfl
  unfold dX0_askDrop_78
  rw [if_pos hik, hcl]
  rw [hRT] at hr
  by_cases hz : σm (q + 2) k = 0
  · rw [if_pos hz]
    have hy3 : c.2.2.1.toNatClampNeg ≤ y := by
      rcases hyc with h | h
      · exact h
      · exact absurd hz h
    rw [if_pos hz, hy, sc_cl (by omega), Nat.sub_eq_zero_of_le hy3, tv_dr0] at hr
    generalize hrP : tv_ak (tr_R (tr_S σ) q false σm P (k + 1) o w) d1 = rP at hr
    subst hr
    obtain ⟨res, σ1, a1, g1, g2, g3, g4, g5, g6⟩ := tr_callP hq hG hP (by rw [hc]; decide) hpre hB h5 hrP.symm (show tr_nc rP from hnc) (by simp only [tv_pre, List.length_append] at hlen; omega)
    rw [nI_1, nI_1, g1]
    simp only [Option.bind_some]
    obtain ⟨N2, d2, o2⟩ := rP
    simp only at g2 g3 g4 g6
    rcases g6 with ⟨v, l, f1, f2, f3, f4, f5, f6⟩ | ⟨z, f1, f2, f3⟩
    · subst f1; subst f2
      rw [if_pos (by decide)]
      unfold dX0_askDrop_112
      simp only [hik, if_true, hcl, nar0, sc_upS, not_true_eq_false, if_false]
      refine ⟨1, _, a1, rfl, g2.own (x := 0) hq (by simp only [tt_sz]; omega) (Or.inr (Or.inl rfl)), g3, g4, tr_out_v rfl (by rw [sc_upK (by omega)]; exact f3) ?_ (tr_z_up (by omega) f5) (by have := hB.2.1.2.1; simp only [tv_pre]; omega)⟩
      rw [hRT, sc_upS, if_pos rfl, sc_upK (by omega), g5 _ _ (by omega), hy, sc_cl (by omega), Nat.sub_eq_zero_of_le hy3, tv_dr0, tr_R_congr P (k + 1) o w (σ := σ1) (fun a b h1 h2 h3 h4 => sc_upJ (by omega)), f4]
    · subst f1; subst f2
      rw [if_neg (by simp)]
      unfold dX0_askDrop_112
      simp only [hik, if_true, hcl, nar1, sc_upS]
      rw [if_pos (by decide)]
      refine ⟨0, _, a1, rfl, g2.own (x := 1) hq (by simp only [tt_sz]; omega) (Or.inr (Or.inl rfl)), g3, g4, tr_out_z (z := z) rfl ?_⟩
      cases z with
      | none => exact tr_z_up (by omega) f3
      | some z => exact ⟨(sc_upK (by omega)).trans f3.1, (sc_upK (by omega)).trans f3.2⟩
  · rw [if_neg hz]
    rw [if_neg hz] at hr
    subst hr
    refine ⟨0, σm, 0, rfl, ?_, Nat.le_refl _, Nat.zero_le _, tr_out_z rfl h5⟩
    simpa [tv_ak, tv_pre] using hB
theorem tr_dropL {G : Nat → Int32 → Int32 → sf_S → Option (Int32 × sf_S)} {q pl rn : Nat} {s : Nat} {c : tt_C} {u : Unit} {P Q : tt_T} {k lv : Nat} {o w : Int32} {n d : Nat} {N : List (Int32 × Int32)} {σ : sf_S} (hq : tr_q q pl rn) (hG : tr_sp G q pl rn P) (hP : 1 ≤ tt_sz P) (hc : c.1 = 100) (hc0 : 0 ≤ c.2.2.1.toInt) (hcm : c.2.2.1.toNatClampNeg ≤ 100000) (hpre : tr_pre q pl rn (.inner s c u P Q) k lv o w n d N σ) : ∀ (m fuel y d1 a : Nat) (N1 : List (Int32 × Int32)) (σm : sf_S) (r : tv_A), c.2.2.1.toNatClampNeg - y ≤ m → m < fuel → y ≤ 400000 → tr_B q rn (.inner s c u P Q) k d N σ d1 N1 a σm → tr_z rn σm → σm (q + 1) k = nI y → r = tv_pre N1 (tv_ak (tr_R (tr_S σ) q false σm (.inner s c u P Q) k o w) d1) → tr_nc r → N.length + r.1.length ≤ 100000 →
    ∃ res σ' a', dX0_askDrop_23 G q fuel (nI k) (nI lv) c.2.2.1 (nI y) σm = some (res, σ') ∧ tr_B q rn (.inner s c u P Q) k d N σ r.2.1 r.1 (a + a') σ' ∧ d1 ≤ r.2.1 ∧ a' ≤ (tt_al P + tt_sz P) * (r.2.1 - d1) + tt_sz P ∧ tr_out (tr_S σ) q rn false (.inner s c u P Q) k o w d σ' res r := by
  have hs := tr_sep hq
  obtain ⟨e1, e2, e3, e4⟩ := hq.eqs
  have hnd := hpre.nd
  have hik : sf_in (nI k) 40 = true := sc_inI (by have := hnd.1; have := hnd.2.2.1; omega) (by omega)
  have hcl := sc_cl (show k < 2 ^ 31 by have := hnd.1; have := hnd.2.2.1; omega)
  have nar0 : vp_nar .boolean (0 : Int32) = 0 := by decide +kernel
  have nar1 : vp_nar .boolean (1 : Int32) = 1 := by decide +kernel
  have hm3 : tr_m false = 3 := rfl
  have hRT : ∀ σ2 : sf_S, tr_R (tr_S σ) q false σ2 (.inner s c u P Q) k o w = if σ2 (q + 2) k = 0 then tv_dr (tr_R (tr_S σ) q false σ2 P (k + 1) o w) (c.2.2.1.toNatClampNeg - (σ2 (q + 1) k).toNatClampNeg) else [] := fun σ2 => by
    simp only [tr_R]; rw [hc]; rfl
  have wk : ∀ {a' D : Nat}, a' ≤ tt_al P * D + tt_sz P → a' ≤ (tt_al P + tt_sz P) * D + tt_sz P := fun h => by rw [Nat.add_mul]; omega
  intro m
  induction m with
  | zero =>
    intro fuel y d1 a N1 σm r hm hf hy2 hB h5 hy hr hnc hlen
    obtain ⟨f, rfl⟩ : ∃ f, fuel = f + 1 := ⟨fuel - 1, by omega⟩
    simp only [dX0_askDrop_23]
    rw [if_pos ((tr_clamp (by omega)).mpr (by omega))]
    obtain ⟨res, σ', a', h1, h2, h3, h4, h6⟩ := tr_drop78 hq hG hP hc hpre hB h5 hy hy2 (Or.inl (by omega)) hr hnc hlen
    exact ⟨res, σ', a', h1, h2, h3, wk h4, h6⟩
  | succ m ih =>
    intro fuel y d1 a N1 σm r hm hf hy2 hB h5 hy hr hnc hlen
    obtain ⟨f, rfl⟩ : ∃ f, fuel = f + 1 := ⟨fuel - 1, by omega⟩
    simp only [dX0_askDrop_23]
    by_cases hyc : c.2.2.1.toNatClampNeg ≤ y
    · rw [if_pos ((tr_clamp (by omega)).mpr hyc)]
      obtain ⟨res, σ', a', h1, h2, h3, h4, h6⟩ := tr_drop78 hq hG hP hc hpre hB h5 hy hy2 (Or.inl hyc) hr hnc hlen
      exact ⟨res, σ', a', h1, h2, h3, wk h4, h6⟩
    rw [if_neg (fun h => hyc ((tr_clamp (by omega)).mp h)), if_pos hik, hcl]
    by_cases hz : σm (q + 2) k = 0
    · rw [if_neg (by simp [hz])]
      simp only [hik, if_true, hy, nI_1]
      rw [hRT, if_pos hz, hy, sc_cl (by omega), show c.2.2.1.toNatClampNeg - y = (c.2.2.1.toNatClampNeg - (y + 1)) + 1 by omega, tv_ak_dr] at hr
      have hB1 := hB.own (x := nI (y + 1)) (j := 1) hq (by simp only [tt_sz]; omega) (Or.inl ⟨rfl, y + 1, rfl, by omega⟩)
      have h51 : tr_z rn (sf_up σm (q + 1) k (nI (y + 1))) := tr_z_up (by omega) h5
      have hR1 : tr_R (tr_S σ) q false (sf_up σm (q + 1) k (nI (y + 1))) P (k + 1) o w = tr_R (tr_S σ) q false σm P (k + 1) o w := tr_R_congr P (k + 1) o w fun a b h1 h2 h3 h4 => sc_upJ (by omega)
      rw [← hR1] at hr
      generalize hrP : tv_ak (tr_R (tr_S σ) q false (sf_up σm (q + 1) k (nI (y + 1))) P (k + 1) o w) d1 = rP at hr
      subst hr
      obtain ⟨res, σ1, a1, g1, g2, g3, g4, g5, g6⟩ := tr_callP hq hG hP (by rw [hc]; decide) hpre hB1 h51 hrP.symm (tr_nc_kk hnc) (tr_le_kk hlen)
      rw [g1]
      simp only [Option.bind_some]
      have hy1 : σ1 (q + 1) k = nI (y + 1) := by rw [g5 _ _ (by omega), sc_upS]
      obtain ⟨N2, d2, o2⟩ := rP
      simp only at g2 g3 g4 g6
      rcases g6 with ⟨v, l, f1, f2, f3, f4, f5, f6⟩ | ⟨z, f1, f2, f3⟩
      · subst f1; subst f2
        rw [if_pos (by decide), nar0]
        have er : tv_pre N1 (tv_kk (N2, d2, .inl (v, l)) fun _ l d2 => tv_ak (tv_dr l (c.2.2.1.toNatClampNeg - (y + 1))) d2) = tv_pre (N1 ++ N2) (tv_ak (tv_dr l (c.2.2.1.toNatClampNeg - (y + 1))) d2) := by
          simp [tv_kk, tv_pre]
        rw [er] at hnc hlen ⊢
        obtain ⟨res, σ2, a2, h1, h2, h3, h4, h6⟩ := ih f (y + 1) d2 (a + a1) (N1 ++ N2) (sf_up σ1 (q + 2) k 0) _ (by omega) (by omega) (by omega) (g2.own (x := 0) hq (by simp only [tt_sz]; omega) (Or.inr (Or.inl rfl))) (tr_z_up (by omega) f5) (by rw [sc_upK (by omega)]; exact hy1) (by
          rw [hRT, sc_upS, if_pos rfl, sc_upK (by omega), hy1, sc_cl (by omega), tr_R_congr P (k + 1) o w (σ := σ1) (fun a b h1 h2 h3 h4 => sc_upJ (by omega)), f4]) hnc hlen
        refine ⟨res, σ2, a1 + a2, h1, by rw [← Nat.add_assoc]; exact h2, by omega, ?_, h6⟩
        generalize (tv_pre (N1 ++ N2) (tv_ak (tv_dr l (c.2.2.1.toNatClampNeg - (y + 1))) d2)).2.1 = D at h3 h4
        obtain ⟨y', rfl⟩ : ∃ y', d2 = d1 + (y' + 1) := ⟨d2 - d1 - 1, by omega⟩
        obtain ⟨z', rfl⟩ : ∃ z', D = d1 + (y' + 1) + z' := ⟨D - (d1 + (y' + 1)), by omega⟩
        rw [show d1 + (y' + 1) + z' - d1 = y' + 1 + z' by omega]
        rw [show d1 + (y' + 1) - d1 = y' + 1 by omega] at g4
        rw [show d1 + (y' + 1) + z' - (d1 + (y' + 1)) = z' by omega] at h4
        rw [Nat.mul_add, Nat.add_mul (tt_al P) (tt_sz P) (y' + 1), Nat.mul_add (tt_sz P) y' 1]
        omega
      · subst f1; subst f2
        rw [if_neg (by simp), nar1]
        obtain ⟨f', rfl⟩ : ∃ f', f = f' + 1 := ⟨f - 1, by omega⟩
        have hB2 := g2.own (x := 1) hq (by simp only [tt_sz]; omega) (Or.inr (Or.inl rfl))
        have hfin : dX0_askDrop_78 G q (nI k) (nI lv) (sf_up σ1 (q + 2) k 1) = some (0, sf_up σ1 (q + 2) k 1) := by
          unfold dX0_askDrop_78
          rw [if_pos hik, hcl, sc_upS, if_neg (by decide)]
        refine ⟨0, sf_up σ1 (q + 2) k 1, a1, ?_, hB2, g3, wk g4, tr_out_z (z := z) rfl ?_⟩
        · simp only [dX0_askDrop_23]
          split
          · exact hfin
          · rw [hcl, sc_upS, if_pos (by decide)]; exact hfin
        · cases z with
          | none => exact tr_z_up (by omega) f3
          | some z => exact ⟨(sc_upK (by omega)).trans f3.1, (sc_upK (by omega)).trans f3.2⟩
    · rw [if_pos hz]
      obtain ⟨res, σ', a', h1, h2, h3, h4, h6⟩ := tr_drop78 hq hG hP hc hpre hB h5 hy hy2 (Or.inr hz) hr hnc hlen
      exact ⟨res, σ', a', h1, h2, h3, wk h4, h6⟩
theorem tr_ask_dr {G : Nat → Int32 → Int32 → sf_S → Option (Int32 × sf_S)} {q pl rn : Nat} {s : Nat} {c : tt_C} {u : Unit} {P Q : tt_T} (hq : tr_q q pl rn) (hG : tr_sp G q pl rn P) (hP : 1 ≤ tt_sz P) (hc : c.1 = 100) : tr_sp (dX0_ask G) q pl rn (.inner s c u P Q) := by
  intro k lv o w n d N σ r hpre hr hnc hNl
  have hs := tr_sep hq
  have hF := sf_F_le
  obtain ⟨e1, e2, e3, e4⟩ := hq.eqs
  obtain ⟨hB0, h50⟩ := tr_B0 hq hpre
  have hnd := hpre.nd
  have hik : sf_in (nI k) 40 = true := sc_inI (by have := hnd.1; have := hnd.2.2.1; omega) (by omega)
  have hcl := sc_cl (show k < 2 ^ 31 by have := hnd.1; have := hnd.2.2.1; omega)
  have hc0 : 0 ≤ c.2.2.1.toInt := hpre.2.1.2.1.1.2.1 hc
  have hcm : c.2.2.1.toNatClampNeg ≤ 100000 := by
    have := hpre.2.1.2.2
    simp only [tt_dw] at this
    rw [if_pos hc] at this
    show c.2.2.1.toInt.toNat ≤ 100000
    omega
  obtain ⟨y, y1, y2⟩ := hB0.2.2.2.1 k (Nat.le_refl _) (by simp only [tt_sz]; omega)
  have hd5 := hpre.2.2.2.2.2.1.2
  obtain ⟨res, σ', a', h1, h2, h3, h4, h5⟩ := tr_dropL hq hG hP hc hc0 hcm hpre 100000 sf_F y d 1 [] _ r (by omega) (by omega) (by omega) hB0 h50 y1 (by rw [tr_R0 hq, tv_pre_nil]; exact hr) hnc hNl
  rw [tr_in hq hnd (tr_lv hpre), hc]
  simp (decide := true) only [if_false, if_true]
  refine tr_done ⟨res, σ', ?_, tr_post_of h2 (by omega) ?_ h5⟩
  · unfold dX0_askDrop
    simp only [hik, if_true, hcl, e1]
    rw [(tr_ndB hq hpre hB0).2.2.2.2.2.1, y1, if_neg ?_, h1]
    rw [Int32.lt_iff_toInt_lt, show (1000000 : Int32).toInt = 1000000 from by decide]
    have : c.2.2.1.toInt.toNat ≤ 100000 := hcm
    omega
  · simp only [tt_al, tt_sz]
    rw [show tt_al P + tt_al Q + tt_sz P + tt_sz Q = (tt_al P + tt_sz P) + (tt_al Q + tt_sz Q) by omega, Nat.add_mul (tt_al P + tt_sz P)]
    omega
