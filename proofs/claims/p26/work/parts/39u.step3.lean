/-! stepping: take, drop, producers, chain, zip, opener -/
theorem tr_lt {x : Int32} {u : Nat} (hu : u < 2 ^ 31) : nI u < x ↔ ¬ x.toNatClampNeg ≤ u := by
  rw [← tr_clamp hu, Int32.lt_iff_toInt_lt, Int32.le_iff_toInt_le]; omega
theorem tr_stepTk {G : Int32 → Int32 → sf_S → Option (Int32 × sf_S)} {s : Nat} {c : tt_C} {u : Unit} {P Q : tt_T} (hG : tr_s1 G P) (hP : 1 ≤ tt_sz P) (hil : sc_il c.1 = true) (hc : c.1 = 116) : tr_s1 (dX8_step G) (.inner s c u P Q) := by
  intro k lv o w n d N σ r hpre hz hr hnc hlen
  have hnd := hpre.nd
  have hm := tr_m1
  have hik : sf_in (nI k) 40 = true := sc_inI (by have := hnd.1; have := hnd.2.2.1; omega) (by omega)
  have hcl := sc_cl (show k < 2 ^ 31 by have := hnd.1; have := hnd.2.2.1; omega)
  have hd5 := hpre.2.2.2.2.2.1.2
  rw [tr_in1 hnd (tr_lv hpre) hil, hc, if_neg (by decide), if_neg (by decide), if_neg (by decide), if_neg (by decide +kernel)]
  obtain ⟨y, y1, y2⟩ := hpre.2.2.2.2.1 k (Nat.le_refl _) (by simp only [tt_sz]; omega)
  have hRT : ∀ σ2 : sf_S, tr_R (tr_S σ) 27 true σ2 (.inner s c u P Q) k o w = tv_tk (tr_R (tr_S σ) 27 true σ2 P (k + 1) o w) (c.2.2.1.toNatClampNeg - (σ2 28 k).toNatClampNeg) := fun σ2 => by
    simp only [tr_R]; rw [hc]; rfl
  unfold dX8_stepOne
  rw [if_pos hik, hcl, hnd.2.2.2.1, hc, if_neg (by decide), if_pos hik, if_pos hik, y1, show σ 4 k = c.2.2.1 from hnd.2.2.2.2.2.1]
  by_cases hyc : c.2.2.1.toNatClampNeg ≤ y
  · rw [if_neg (fun h => (tr_lt (by omega)).mp h hyc)]
    rw [hRT, y1, sc_cl (by omega), Nat.sub_eq_zero_of_le hyc, tv_ak_tk0] at hr
    refine ⟨0, σ, [], d, rfl, ⟨tr_fr_rf, ⟨hpre.2.2.2.2.2.1.1, by omega, by omega, hd5⟩, by rw [List.append_nil]; exact hpre.2.2.2.2.2.2.2, hpre.2.2.2.2.1, rfl⟩, hz, Or.inr (Or.inr (Or.inl ⟨rfl, hr, hpre.2.2.2.2.2.2.1, Or.inr ⟨rfl, Nat.le_refl _⟩⟩))⟩
  · rw [if_pos ((tr_lt (by omega)).mpr hyc), tr_one34]
    have hsub : c.2.2.1.toNatClampNeg - y = (c.2.2.1.toNatClampNeg - (y + 1)) + 1 := by omega
    refine tr_one hG hP (by rw [hc]; decide) hpre hz (fun v l d2 => ([], d2, .inl (v, tv_tk l (c.2.2.1.toNatClampNeg - (y + 1))))) (tr_ct k) (by rw [hr, hRT, y1, sc_cl (by omega), hsub, tv_ak_tk]) hnc hlen (fun σ1 h1 d' => by rw [hRT, h1 _ _ (by omega), y1, sc_cl (by omega), hsub, tv_ak_tk]) ?_
    intro σ1 N1 d1 v E g2 g3 g4 er f2 f3 f4 f5
    have hnd1 := tr_nd1 hpre g2
    have hy1 : σ1 28 k = nI y := by rw [g3 _ _ (by omega), y1]
    refine ⟨2, sf_up σ1 28 k (nI (y + 1)), N1, d1, ?_, g2.own (by simp only [tt_sz]; omega) (Or.inl ⟨rfl, y + 1, rfl, by omega⟩), tr_tz_congr _ _ (fun b _ _ => sc_upK (by omega)) g4, Or.inl ⟨rfl, ⟨v, tv_tk E (c.2.2.1.toNatClampNeg - (y + 1)), ?_, by rw [sc_upK (by omega)]; exact f2, ?_⟩, tr_z_up (by omega) f4, f5⟩⟩
    · unfold tr_ct
      simp only [hik, if_true, hcl, hnd1.2.2.2.1, hc, hy1, nI_1]
      rfl
    · rw [er]; simp [tv_pre]
    · rw [hRT, sc_upS, sc_cl (by omega), tr_R_congr P (k + 1) o w (σ := σ1) (fun a b h1 h2 h3 h4 => sc_upJ (by omega)), f3]
theorem tr_stepDr {G : Int32 → Int32 → sf_S → Option (Int32 × sf_S)} {s : Nat} {c : tt_C} {u : Unit} {P Q : tt_T} (hG : tr_s1 G P) (hP : 1 ≤ tt_sz P) (hil : sc_il c.1 = true) (hc : c.1 = 100) : tr_s1 (dX8_step G) (.inner s c u P Q) := by
  intro k lv o w n d N σ r hpre hz hr hnc hlen
  have hnd := hpre.nd
  have hm := tr_m1
  have hik : sf_in (nI k) 40 = true := sc_inI (by have := hnd.1; have := hnd.2.2.1; omega) (by omega)
  have hcl := sc_cl (show k < 2 ^ 31 by have := hnd.1; have := hnd.2.2.1; omega)
  have hd5 := hpre.2.2.2.2.2.1.2
  rw [tr_in1 hnd (tr_lv hpre) hil, hc, if_neg (by decide), if_neg (by decide), if_neg (by decide), if_neg (by decide +kernel)]
  obtain ⟨y, y1, y2⟩ := hpre.2.2.2.2.1 k (Nat.le_refl _) (by simp only [tt_sz]; omega)
  have hRT : ∀ σ2 : sf_S, tr_R (tr_S σ) 27 true σ2 (.inner s c u P Q) k o w = if σ2 29 k = 0 then tv_dr (tr_R (tr_S σ) 27 true σ2 P (k + 1) o w) (c.2.2.1.toNatClampNeg - (σ2 28 k).toNatClampNeg) else [] := fun σ2 => by
    simp only [tr_R]; rw [hc]; rfl
  have h29 := hz.1 (Or.inl hc)
  unfold dX8_stepOne
  rw [if_pos hik, hcl, hnd.2.2.2.1, hc, if_pos (by decide), tr_one34]
  by_cases hyc : c.2.2.1.toNatClampNeg ≤ y
  · refine tr_one hG hP (by rw [hc]; decide) hpre hz (fun v l d2 => ([], d2, .inl (v, l))) (tr_ct k) (by rw [hr, hRT, if_pos h29, y1, sc_cl (by omega), Nat.sub_eq_zero_of_le hyc, tv_dr0, tv_kk_id]) hnc hlen (fun σ1 h1 d' => by rw [hRT, h1 29 k (by omega), if_pos h29, h1 28 k (by omega), y1, sc_cl (by omega), Nat.sub_eq_zero_of_le hyc, tv_dr0, tv_kk_id]) ?_
    intro σ1 N1 d1 v E g2 g3 g4 er f2 f3 f4 f5
    have hnd1 := tr_nd1 hpre g2
    have hy1 : σ1 28 k = nI y := by rw [g3 _ _ (by omega), y1]
    refine ⟨2, σ1, N1, d1, ?_, g2, g4, Or.inl ⟨rfl, ⟨v, E, by rw [er]; simp [tv_pre], f2, ?_⟩, f4, f5⟩⟩
    · unfold tr_ct
      simp only [hik, if_true, hcl, hnd1.2.2.2.1, hc, hy1, show σ1 4 k = c.2.2.1 from hnd1.2.2.2.2.2.1]
      rw [if_neg (by decide), if_neg (fun h => (tr_lt (by omega)).mp h hyc)]
    · rw [hRT, if_pos (g4.1 (Or.inl hc)), hy1, sc_cl (by omega), Nat.sub_eq_zero_of_le hyc, tv_dr0, f3]
  · have hsub : c.2.2.1.toNatClampNeg - y = (c.2.2.1.toNatClampNeg - (y + 1)) + 1 := by omega
    refine tr_one hG hP (by rw [hc]; decide) hpre hz (fun _ l d2 => tv_ak (tv_dr l (c.2.2.1.toNatClampNeg - (y + 1))) d2) (tr_ct k) (by rw [hr, hRT, if_pos h29, y1, sc_cl (by omega), hsub, tv_ak_dr]) hnc hlen (fun σ1 h1 d' => by rw [hRT, h1 29 k (by omega), if_pos h29, h1 28 k (by omega), y1, sc_cl (by omega), hsub, tv_ak_dr]) ?_
    intro σ1 N1 d1 v E g2 g3 g4 er f2 f3 f4 f5
    have hnd1 := tr_nd1 hpre g2
    have hy1 : σ1 28 k = nI y := by rw [g3 _ _ (by omega), y1]
    refine ⟨1, sf_up σ1 28 k (nI (y + 1)), N1, d1, ?_, g2.own (by simp only [tt_sz]; omega) (Or.inl ⟨rfl, y + 1, rfl, by omega⟩), tr_tz_congr _ _ (fun b _ _ => sc_upK (by omega)) g4, Or.inr (Or.inl ⟨rfl, ?_, tr_z_up (by omega) f4, Or.inl f5⟩)⟩
    · unfold tr_ct
      simp only [hik, if_true, hcl, hnd1.2.2.2.1, hc, hy1, show σ1 4 k = c.2.2.1 from hnd1.2.2.2.2.2.1, nI_1]
      rw [if_neg (by decide), if_pos ((tr_lt (by omega)).mpr hyc)]
    · rw [er, hRT, sc_upK (by omega), if_pos (g4.1 (Or.inl hc)), sc_upS, sc_cl (by omega), tr_R_congr P (k + 1) o w (σ := σ1) (fun a b h1 h2 h3 h4 => sc_upJ (by omega)), f3]
theorem tr_stepPd {G : Int32 → Int32 → sf_S → Option (Int32 × sf_S)} {s : Nat} {c : tt_C} {u : Unit} (hil : sc_il c.1 = true) (hc : tt_pd c) : tr_s1 (dX8_step G) (.inner s c u .leaf .leaf) := by
  intro k lv o w n d N σ r hpre hz hr hnc hlen
  have hnd := hpre.nd
  have hm := tr_m1
  have hdis : ∀ L : Int32, L ∈ ([99, 120, 122] : List Int32) → ¬ c.1 = L := by
    rcases hc with h | h | h | h | h <;> rw [h] <;> decide
  have hp0 : sc_p c.1 = 0 := by rcases hc with h | h | h | h | h <;> rw [h] <;> decide +kernel
  rw [tr_in1 hnd (tr_lv hpre) hil, if_neg (hdis 99 (by decide)), if_neg (hdis 120 (by decide)), if_neg (hdis 122 (by decide)), if_pos hp0]
  have hRT : ∀ σ2 : sf_S, tr_R (tr_S σ) 27 true σ2 (.inner s c u .leaf .leaf) k o w = tt_lf (tr_S σ) c o w (σ2 28 k).toNatClampNeg := fun σ2 => by
    simp only [tr_R]
    rcases hc with h | h | h | h | h <;> rw [h] <;> rfl
  obtain ⟨⟨a1, a2, a3, a4⟩, -, ⟨wi, b, hPP, hw⟩, hSh, hub, ⟨hd, hd5⟩, h5, hN⟩ := id hpre
  simp only [tt_sz] at a3
  obtain ⟨y, y1, y2⟩ := hub k (Nat.le_refl _) (by simp only [tt_sz]; omega)
  have y1' : σ 28 k = nI y := y1
  rw [hRT, y1', sc_cl (by omega)] at hr
  obtain ⟨res, σ', g1, g2⟩ := tr_produce (u := y) tr_q1 hnd hPP.2.1.2.2.2.1 (hw.wk (by omega)) hSh hc y1 (by omega) hd hd5 (by rw [← hr]; intro e; rw [e] at hnc; exact hnc 0 rfl)
  rw [g1]
  simp only [Option.bind_some]
  unfold tr_prs at g2
  rw [← hr] at g2
  obtain ⟨g2, g3, g4, g5⟩ := g2
  have hdd := tv_ak_d (tt_lf (tr_S σ) c o w y) d hd5
  rw [← hr] at hdd
  have hB : r.2.1 ≤ d + 1 → (∃ z, σ' (27 + 1) k = nI z ∧ z ≤ 300000 + r.2.1) → tr_B1 (.inner s c u .leaf .leaf) k d N σ r.2.1 [] σ' := fun hd1 h => by
    refine ⟨fun a b hab => g4 a b ?_, ⟨g3, hdd.1, hd1, hdd.2⟩, ?_, fun b h1 h2 => ?_, g4 _ _ (by omega)⟩
    · simp only [tt_sz] at hab; omega
    · rw [List.append_nil]; exact hN.kept fun a b hab => g4 a b (by omega)
    · simp only [tt_sz] at h2
      obtain rfl : b = k := by omega
      exact h
  have htz : tr_tz (.inner s c u .leaf .leaf) k σ' := tr_tz_congr _ _ (fun b _ _ => g4 _ _ (by omega)) hz
  have hph : tr_ph (.inner s c u .leaf .leaf) k σ' = tr_ph (.inner s c u .leaf .leaf) k σ := tr_ph_congr _ _ fun b _ _ => g4 _ _ (by omega)
  obtain ⟨N1, d1, o1⟩ := r
  simp only at g2
  subst g2
  rcases o1 with ⟨v, l⟩ | (_ | ⟨x, x2⟩)
  · obtain ⟨k1, k2, k3, k4, k5, k6⟩ := g5
    simp only at k6
    subst k1
    refine ⟨2, σ', [], d1, by unfold dX8_given; rw [if_neg (by decide)], hB (by simp only; omega) ⟨y + 1, k3, by simp only; omega⟩, htz, Or.inl ⟨rfl, ⟨v, l, rfl, k2, ?_⟩, ⟨k5.1.trans h5.1, k5.2.trans h5.2⟩, k6⟩⟩
    rw [hRT, show σ' 28 k = nI (y + 1) from k3, sc_cl (by omega), k4]
  · obtain ⟨k1, k2, k3, k4⟩ := g5
    simp only at k4
    subst k1
    refine ⟨0, σ', [], d1, ?_, hB (by simp only; omega) ⟨y, k3.trans y1, by simp only; omega⟩, htz, Or.inr (Or.inr (Or.inl ⟨rfl, rfl, ⟨k2.1.trans h5.1, k2.2.trans h5.2⟩, Or.inr ⟨k4, by rw [hph]; exact Nat.le_refl _⟩⟩))⟩
    unfold dX8_given
    rw [if_pos rfl, tr_fail, k2.1, h5.1]; rfl
  · obtain ⟨k1, k2, k3, k4⟩ := g5
    subst k1
    have hd1 : d1 ≤ d + 1 := by
      have e1 : ∀ (E : tv_L) (f : Nat → Int32) (i m : Nat), d ≤ 500 → (tv_ak (tv_pr f i m ++ E) d).2.1 ≤ d + 1 ∨ m = 0 := fun E f i m h => by
        cases m with
        | zero => exact Or.inr rfl
        | succ m =>
          left
          simp only [tv_pr, List.cons_append, tv_ak]
          split
          · simp
          · simp; omega
      by_cases h105 : c.1 = 105
      · rw [tt_lf_i h105] at hr
        rcases e1 [tv_c] (tt_fn (tr_S σ) c w) y (600 - y) hd5 with h | h
        · rw [← hr] at h; exact h
        · rw [h] at hr
          simp only [tv_pr, List.nil_append, tv_ak] at hr
          have := congrArg (fun z : tv_A => z.2.1) hr
          simp at this; omega
      · by_cases hs : c.1 = 115 → ¬ tr_S σ c.2.1 = none
        · rw [tt_lf_p h105 hs, ← List.append_nil (tv_pr _ _ _)] at hr
          rcases e1 [] (tt_fn (tr_S σ) c w) y (tt_cn (tr_S σ) c w - y) hd5 with h | h
          · rw [← hr] at h; exact h
          · rw [h] at hr
            simp only [tv_pr, List.nil_append, tv_ak] at hr
            have := congrArg (fun z : tv_A => z.2.1) hr
            simp at this; omega
        · have h115 : c.1 = 115 ∧ tr_S σ c.2.1 = none := by
            by_cases h1 : c.1 = 115
            · refine ⟨h1, ?_⟩
              by_cases h2 : tr_S σ c.2.1 = none
              · exact h2
              · exact absurd (fun _ => h2) hs
            · exact absurd (fun h => absurd h h1) hs
          have hl : tt_lf (tr_S σ) c o w y = [tv_s 2 o] := by
            unfold tt_lf
            rw [if_neg (by rw [h115.1]; decide), if_neg (by rw [h115.1]; decide), if_pos h115.1, h115.2]
          rw [hl] at hr
          have := congrArg (fun z : tv_A => z.2.1) hr
          simp [tv_ak] at this; omega
    refine ⟨3, σ', [], d1, ?_, hB hd1 ⟨y, k4.trans y1, by simp only at hdd ⊢; omega⟩, htz, Or.inr (Or.inr (Or.inr ⟨rfl, x, x2, rfl, k2, k3⟩))⟩
    unfold dX8_given
    rw [if_pos rfl, tr_fail, if_neg (tr_fo_x hnc rfl ⟨k2, k3⟩)]; rfl
