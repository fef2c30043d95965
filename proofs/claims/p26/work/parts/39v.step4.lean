/-! stepping: chain, zip, opener; every node -/
theorem tr_in4 {k : Nat} {s : Nat} {c : tt_C} {u : Unit} {P Q : tt_T} {lv : Nat} {o w : Int32} {n d : Nat} {N : List (Int32 × Int32)} {σ : sf_S} (hpre : tr_pre 27 1 19 (.inner s c u P Q) k lv o w n d N σ) : sf_in (nI k) 40 = true ∧ (nI k).toNatClampNeg = k := by
  have hnd := hpre.nd
  exact ⟨sc_inI (by have := hnd.1; have := hnd.2.2.1; omega) (by omega), sc_cl (by have := hnd.1; have := hnd.2.2.1; omega)⟩
theorem tr_stepCh {G : Int32 → Int32 → sf_S → Option (Int32 × sf_S)} {s : Nat} {c : tt_C} {u : Unit} {P Q : tt_T} (hG : tr_s1 G P) (hG2 : tr_s1 G Q) (hP : 1 ≤ tt_sz P) (hQ : 1 ≤ tt_sz Q) (hil : sc_il c.1 = true) (hc : c.1 = 99) : tr_s1 (dX8_step G) (.inner s c u P Q) := by
  intro k lv o w n d N σ r hpre hz hr hnc hlen
  have hnd := hpre.nd
  have hm := tr_m1
  obtain ⟨hik, hcl⟩ := tr_in4 hpre
  have nar1 : vp_nar .boolean (1 : Int32) = 1 := by decide +kernel
  rw [tr_in1 hnd (tr_lv hpre) hil, if_pos hc]
  have hRT : ∀ σ2 : sf_S, tr_R (tr_S σ) 27 true σ2 (.inner s c u P Q) k o w = (if σ2 29 k = 0 then tr_R (tr_S σ) 27 true σ2 P (k + 1) o w else []) ++ tr_R (tr_S σ) 27 true σ2 Q (k + 1 + tt_sz P) o w := fun σ2 => by
    simp only [tr_R]; rw [hc]; rfl
  unfold dX8_stepChain
  rw [if_pos hik, hcl]
  by_cases h29 : σ 29 k = 0
  · rw [if_pos h29]
    rw [hRT, if_pos h29, tv_ak_app] at hr
    have hncP : tr_nc (tv_ak (tr_R (tr_S σ) 27 true σ P (k + 1) o w) d) := by rw [hr] at hnc; exact tr_nc_ke (N := []) hnc
    have hlenP : N.length + (tv_ak (tr_R (tr_S σ) 27 true σ P (k + 1) o w) d).1.length ≤ 100000 := by rw [hr] at hlen; exact tr_keN hlen
    obtain ⟨res, σ1, N1, d1, g1, g2, g3, g4, g5⟩ := tr_call1 (T := .inner s c u P Q) (k := k) hG hpre.2.2.2.2.1 (hpre.kidP hP (by rw [hc]; decide)) hz.2.1 ⟨by omega, by simp only [tt_sz]; omega⟩ rfl hncP hlenP
    have h291 : σ1 29 k = 0 := by rw [g3 _ _ (by omega)]; exact h29
    have htz := tr_tzP hz g3 g4
    rw [nI_1, nI_1, g1]
    simp only [Option.bind_some]
    have hQ1 : tr_R (tr_S σ) 27 true σ1 Q (k + 1 + tt_sz P) o w = tr_R (tr_S σ) 27 true σ Q (k + 1 + tt_sz P) o w := tr_R_out1 g3 (Or.inl (by omega))
    by_cases h0 : res = 0
    · rw [if_pos h0, if_pos hik, nar1]
      rcases g5 with ⟨f1, -⟩ | ⟨f1, -⟩ | ⟨f1, f2, f3, f4⟩ | ⟨f1, -⟩
      · rw [f1] at h0; exact absurd h0 (by decide)
      · rw [f1] at h0; exact absurd h0 (by decide)
      · refine ⟨1, _, N1, d1, rfl, g2.own (x := 1) (by simp only [tt_sz]; omega) (Or.inr (Or.inl rfl)), ?_, Or.inr (Or.inl ⟨rfl, ?_, tr_z_up (by omega) f3, ?_⟩)⟩
        · refine ⟨fun e => ?_, tr_tz_congr P _ (fun b h1 h2 => sc_upJ (by omega)) htz.2.1, tr_tz_congr Q _ (fun b h1 h2 => sc_upJ (by omega)) htz.2.2⟩
          rw [hc] at e
          rcases e with e | e <;> exact absurd e (by decide)
        · rw [hr, f2, hRT, sc_upS, if_neg (by decide), List.nil_append, tr_R_congr Q (k + 1 + tt_sz P) o w (σ := σ1) (fun a b h1 h2 h3 h4 => sc_upJ (by omega)), hQ1]; rfl
        · rcases f4 with f4 | ⟨f4, f5⟩
          · exact Or.inl f4
          · refine Or.inr ⟨f4, ?_⟩
            simp only [tr_ph, hc, if_true, sc_upS, h29]
            rw [tr_ph_congr P (k + 1) (σ := σ1) (fun b h1 h2 => sc_upJ (by omega)), tr_ph_congr Q (k + 1 + tt_sz P) (σ := σ) (fun b h1 h2 => by rw [sc_upJ (by omega)]; exact g3 29 b (by omega))]
            rw [if_neg (by decide)]
            omega
      · rw [f1] at h0; exact absurd h0 (by decide)
    · rw [if_neg h0]
      exact ⟨res, σ1, N1, d1, rfl, g2, htz, tr_thru2 g5 h0 hr (by rw [hRT, if_pos h291, hQ1]) (fun d' => by rw [hRT, if_pos h291, hQ1, tv_ak_app]) (tr_phP g3)⟩
  · rw [if_neg h29, (hpre.snd hP hQ).1]
    simp only [Option.bind_some, tr_b2]
    rw [hRT, if_neg h29, List.nil_append] at hr
    obtain ⟨res, σ1, N1, d1, g1, g2, g3, g4, g5⟩ := tr_call1 (T := .inner s c u P Q) (k := k) hG2 hpre.2.2.2.2.1 (hpre.kidQ hQ) hz.2.2 ⟨by omega, by simp only [tt_sz]; omega⟩ hr hnc hlen
    have h291 : ¬ σ1 29 k = 0 := by rw [g3 _ _ (by omega)]; exact h29
    have hR1 : tr_R (tr_S σ) 27 true σ1 (.inner s c u P Q) k o w = tr_R (tr_S σ) 27 true σ1 Q (k + 1 + tt_sz P) o w := by rw [hRT, if_neg h291]; rfl
    rw [nI_1, g1]
    refine ⟨res, σ1, N1, d1, rfl, g2, tr_tzQ hz g3 g4, ?_⟩
    obtain ⟨z, z1, z2⟩ := tr_phQ (s := s) (c := c) (u := u) (P := P) g3
    rcases g5 with ⟨f1, ⟨v, E, f2, f3, f4⟩, f5⟩ | ⟨f1, f2, f3, f4⟩ | ⟨f1, f2, f3, f4⟩ | f1
    · exact Or.inl ⟨f1, ⟨v, E, f2, f3, by rw [hR1, f4]⟩, f5⟩
    · exact Or.inr (Or.inl ⟨f1, by rw [hR1]; exact f2, f3, by omega⟩)
    · exact Or.inr (Or.inr (Or.inl ⟨f1, f2, f3, by omega⟩))
    · exact Or.inr (Or.inr (Or.inr f1))
theorem tr_stepZp {G : Int32 → Int32 → sf_S → Option (Int32 × sf_S)} {s : Nat} {c : tt_C} {u : Unit} {P Q : tt_T} (hG : tr_s1 G P) (hG2 : tr_s1 G Q) (hP : 1 ≤ tt_sz P) (hQ : 1 ≤ tt_sz Q) (hil : sc_il c.1 = true) (hc : c.1 = 122) : tr_s1 (dX8_step G) (.inner s c u P Q) := by
  intro k lv o w n d N σ r hpre hz hr hnc hlen
  have hnd := hpre.nd
  have hm := tr_m1
  obtain ⟨hik, hcl⟩ := tr_in4 hpre
  have nar1 : vp_nar .boolean (1 : Int32) = 1 := by decide +kernel
  have nar0 : vp_nar .boolean (0 : Int32) = 0 := by decide +kernel
  rw [tr_in1 hnd (tr_lv hpre) hil, hc, if_neg (by decide), if_neg (by decide), if_pos rfl]
  have hRT : ∀ σ2 : sf_S, tr_R (tr_S σ) 27 true σ2 (.inner s c u P Q) k o w = if ¬ σ2 29 k = 0 then tv_zh (tt_jn c) (σ2 31 k) (tr_R (tr_S σ) 27 true σ2 P (k + 1) o w) (tr_R (tr_S σ) 27 true σ2 Q (k + 1 + tt_sz P) o w) else tv_zp (tt_jn c) (tr_R (tr_S σ) 27 true σ2 P (k + 1) o w) (tr_R (tr_S σ) 27 true σ2 Q (k + 1 + tt_sz P) o w) := fun σ2 => by
    simp only [tr_R]
    rw [if_neg (by rw [hc]; decide), if_neg (by rw [hc]; decide), if_pos hc]
    simp only [true_and]
  have tzo : ∀ σ2 : sf_S, tr_tz P (k + 1) σ2 → tr_tz Q (k + 1 + tt_sz P) σ2 → tr_tz (.inner s c u P Q) k σ2 := fun σ2 h1 h2 => by
    refine ⟨fun e => ?_, h1, h2⟩
    rw [hc] at e
    rcases e with e | e <;> exact absurd e (by decide)
  unfold dX8_stepZip
  rw [if_pos hik, hcl]
  by_cases h29 : σ 29 k = 0
  · rw [if_pos h29]
    unfold dX8_stepZip_24
    rw [hRT, if_neg (by simp [h29]), tv_ak_zp] at hr
    have hncP : tr_nc (tv_ak (tr_R (tr_S σ) 27 true σ P (k + 1) o w) d) := by rw [hr] at hnc; exact tr_nc_kk (N := []) hnc
    have hlenP : N.length + (tv_ak (tr_R (tr_S σ) 27 true σ P (k + 1) o w) d).1.length ≤ 100000 := by rw [hr] at hlen; exact tr_kkN hlen
    obtain ⟨res, σ1, N1, d1, g1, g2, g3, g4, g5⟩ := tr_call1 (T := .inner s c u P Q) (k := k) hG hpre.2.2.2.2.1 (hpre.kidP hP (by rw [hc]; decide)) hz.2.1 ⟨by omega, by simp only [tt_sz]; omega⟩ rfl hncP hlenP
    have h291 : σ1 29 k = 0 := by rw [g3 _ _ (by omega)]; exact h29
    have htz := tr_tzP hz g3 g4
    have hQ1 : tr_R (tr_S σ) 27 true σ1 Q (k + 1 + tt_sz P) o w = tr_R (tr_S σ) 27 true σ Q (k + 1 + tt_sz P) o w := tr_R_out1 g3 (Or.inl (by omega))
    rw [nI_1, nI_1, g1]
    simp only [Option.bind_some]
    by_cases h2 : res = 2
    · rw [if_pos h2, if_pos hik, hcl, h291, if_neg (by simp)]
      rcases g5 with ⟨-, ⟨v, E, f1, f2, f3⟩, f4, f5⟩ | ⟨f1, -⟩ | ⟨f1, -⟩ | ⟨f1, -⟩
      · unfold dX8_stepZip_57
        simp only [hik, if_true, hcl, nar1, sc_upS, sc_upK (show (29 : Nat) ≠ 27 by omega), sc_upK (show (27 : Nat) ≠ 29 by omega), f2]
        rw [if_neg (by decide)]
        have hB1 := (g2.own (x := 1) (j := 29) (by simp only [tt_sz]; omega) (Or.inr (Or.inl rfl))).own (x := v) (j := 31) (by simp only [tt_sz]; omega) (Or.inr (Or.inr (Or.inr rfl)))
        refine ⟨1, _, N1, d1, rfl, hB1, tzo _ (tr_tz_congr P _ (fun b h1 h2 => by rw [sc_upJ (by omega), sc_upJ (by omega)]) htz.2.1) (tr_tz_congr Q _ (fun b h1 h2 => by rw [sc_upJ (by omega), sc_upJ (by omega)]) htz.2.2), Or.inr (Or.inl ⟨rfl, ?_, tr_z_up (by omega) (tr_z_up (by omega) f4), Or.inl f5⟩)⟩
        rw [hr, f1, hRT, sc_upK (by omega), sc_upS, if_pos (by decide), sc_upS, tr_R_congr P (k + 1) o w (σ := σ1) (fun a b h1 h2 h3 h4 => by rw [sc_upJ (by omega), sc_upJ (by omega)]), tr_R_congr Q (k + 1 + tt_sz P) o w (σ := σ1) (σ' := sf_up (sf_up σ1 29 k 1) 31 k v) (fun a b h1 h2 h3 h4 => by rw [sc_upJ (by omega), sc_upJ (by omega)]), f3, hQ1]
        rfl
      · rw [f1] at h2; exact absurd h2 (by decide)
      · rw [f1] at h2; exact absurd h2 (by decide)
      · rw [f1] at h2; exact absurd h2 (by decide)
    · rw [if_neg h2]
      exact ⟨res, σ1, N1, d1, rfl, g2, htz, tr_thru g5 h2 hr (fun d' => by rw [hRT, if_neg (by simp [h291]), hQ1, tv_ak_zp]) (tr_phP g3)⟩
  · rw [if_neg h29, (hpre.snd hP hQ).1]
    simp only [Option.bind_some]
    unfold dX8_stepZip_24
    rw [hRT, if_pos h29, tv_ak_sp] at hr
    have hncQ : tr_nc (tv_ak (tr_R (tr_S σ) 27 true σ Q (k + 1 + tt_sz P) o w) d) := by rw [hr] at hnc; exact tr_nc_kk (N := []) hnc
    have hlenQ : N.length + (tv_ak (tr_R (tr_S σ) 27 true σ Q (k + 1 + tt_sz P) o w) d).1.length ≤ 100000 := by rw [hr] at hlen; exact tr_kkN hlen
    obtain ⟨res, σ1, N1, d1, g1, g2, g3, g4, g5⟩ := tr_call1 (T := .inner s c u P Q) (k := k) hG2 hpre.2.2.2.2.1 (hpre.kidQ hQ) hz.2.2 ⟨by omega, by simp only [tt_sz]; omega⟩ rfl hncQ hlenQ
    have h291 : ¬ σ1 29 k = 0 := by rw [g3 _ _ (by omega)]; exact h29
    have h311 : σ1 31 k = σ 31 k := g3 _ _ (by omega)
    have htz := tr_tzQ hz g3 g4
    have hP1 : tr_R (tr_S σ) 27 true σ1 P (k + 1) o w = tr_R (tr_S σ) 27 true σ P (k + 1) o w := tr_R_out1 g3 (Or.inr (by omega))
    rw [nI_1, g1]
    simp only [Option.bind_some]
    by_cases h2 : res = 2
    · rw [if_pos h2, if_pos hik, hcl, if_pos h291]
      rcases g5 with ⟨-, ⟨v, E, f1, f2, f3⟩, f4, f5⟩ | ⟨f1, -⟩ | ⟨f1, -⟩ | ⟨f1, -⟩
      · unfold dX8_stepZip_57
        have hB1 := g2.own (x := 0) (j := 29) (by simp only [tt_sz]; omega) (Or.inr (Or.inl rfl))
        have hnd1 := tr_nd1 hpre hB1
        simp only [hik, if_true, hcl, nar0, sc_upS, sc_upK (show (31 : Nat) ≠ 29 by omega), sc_upK (show (27 : Nat) ≠ 29 by omega), f2, h311]
        rw [tr_jn (show tr_nd (sf_pl 27) n k c o _ from hnd1)]
        simp only [Option.bind_some]
        refine ⟨2, _, N1, d1, rfl, hB1.step (fun a b hab => ?_) (sc_upK (by omega)) (sc_upK (by omega)) (hB1.2.2.1.kept fun a b hab => sc_upK (by omega)) (fun b h1 h2 => ?_), tzo _ (tr_tz_congr P _ (fun b h1 h2 => by rw [sc_upK (by omega), sc_upJ (by omega)]) htz.2.1) (tr_tz_congr Q _ (fun b h1 h2 => by rw [sc_upK (by omega), sc_upJ (by omega)]) htz.2.2), Or.inl ⟨rfl, ⟨tt_jn c (σ 31 k) v, tv_zp (tt_jn c) (tr_R (tr_S σ) 27 true σ P (k + 1) o w) E, ?_, sc_upS, ?_⟩, tr_z_up (by omega) (tr_z_up (by omega) f4), f5⟩⟩
        · have : ¬ (a = 27 ∧ b = 6) := by omega
          exact if_neg this
        · obtain ⟨y, y1, y2⟩ := hB1.2.2.2.1 b h1 h2
          exact ⟨y, by rw [sc_upK (by omega)]; exact y1, y2⟩
        · rw [hr, f1]; simp [tv_kk, tv_pre]
        · rw [hRT, sc_upK (by omega), sc_upS, if_neg (by simp), tr_R_congr P (k + 1) o w (σ := σ1) (fun a b h1 h2 h3 h4 => by rw [sc_upK (by omega), sc_upJ (by omega)]), tr_R_congr Q (k + 1 + tt_sz P) o w (σ := σ1) (fun a b h1 h2 h3 h4 => by rw [sc_upK (by omega), sc_upJ (by omega)]), f3, hP1]
      · rw [f1] at h2; exact absurd h2 (by decide)
      · rw [f1] at h2; exact absurd h2 (by decide)
      · rw [f1] at h2; exact absurd h2 (by decide)
    · rw [if_neg h2]
      exact ⟨res, σ1, N1, d1, rfl, g2, htz, tr_thru g5 h2 hr (fun d' => by rw [hRT, if_pos h291, hP1, h311, tv_ak_sp]) (tr_phQ g3)⟩
theorem tr_opn1 {s : Nat} {c : tt_C} {u : Unit} {P Q : tt_T} {k lv : Nat} {o w : Int32} {n d d1 : Nat} {N N1 : List (Int32 × Int32)} {σ σm : sf_S} (hP : 1 ≤ tt_sz P) (hQ : 1 ≤ tt_sz Q) (hc : c.1 = 120) (hpre : tr_pre 27 1 19 (.inner s c u P Q) k lv o w n d N σ) (hB : tr_B1 (.inner s c u P Q) k d N σ d1 N1 σm) (h5 : tr_z 19 σm) (hz : tr_tz (.inner s c u P Q) k σm) (v : Int32) :
    ∃ σ', dX9_open 27 (nI k) v σm = some σ' ∧ tr_B1 (.inner s c u P Q) k d N σ d1 N1 σ' ∧ tr_z 19 σ' ∧ tr_tz (.inner s c u P Q) k σ' ∧ tr_R (tr_S σ) 27 true σ' (.inner s c u P Q) k o w = tt_sem (tr_S σ) P (o + 1) v ++ tv_bnd (fun v => tt_sem (tr_S σ) P (o + 1) v) (tr_R (tr_S σ) 27 true σm Q (k + 1 + tt_sz P) o w) := by
  have hm := tr_m1
  have hpm := tr_pre_B1 hpre hB h5
  obtain ⟨a1, a2, a3, a4⟩ := hpm.1
  simp only [tt_sz] at a3
  have hop := tr_open (q := 27) (n := n) (e := k + 1 + tt_sz P) (c := c) (o := o) (by show 1 + 9 < 27; omega) hpm.nd (hpm.snd hP hQ).2 (by omega) (by omega) rfl v
  have hf : ∀ a b, ¬ ((a = 28 ∨ a = 29 ∨ a = 30) ∧ k ≤ b ∧ b < k + 1 + tt_sz P) → tr_rs 27 (k + 1) (k + 1 + tt_sz P) (sf_up (sf_up σm (27 + 3) k v) (27 + 2) k 1) a b = σm a b := fun a b hab => by
    unfold tr_rs
    rw [if_neg (by omega)]
    have g1 : ¬ (a = 27 + 2 ∧ b = k) := by omega
    have g2 : ¬ (a = 27 + 3 ∧ b = k) := by omega
    exact (if_neg g1).trans (if_neg g2)
  refine ⟨_, hop, ?_, tr_z_k h5 (fun b hb => hf _ _ (by omega)), ?_, ?_⟩
  · refine hB.step (fun a b hab => hf a b (by simp only [tt_sz] at hab; omega)) (hf _ _ (by omega)) (hf _ _ (by omega)) (hB.2.2.1.kept fun a b hab => hf _ _ (by omega)) fun b h1 h2 => ?_
    obtain ⟨y, y1, y2⟩ := hB.2.2.2.1 b h1 h2
    by_cases hb : k + 1 ≤ b ∧ b < k + 1 + tt_sz P
    · refine ⟨0, ?_, by omega⟩
      unfold tr_rs
      rw [if_pos ⟨Or.inl rfl, hb⟩, sc_0]
    · refine ⟨y, ?_, y2⟩
      unfold tr_rs
      rw [if_neg (by omega), sc_upK (by omega), sc_upK (by omega)]; exact y1
  · refine ⟨fun e => ?_, tr_tz_zero P _ (fun b h1 h2 => ?_), tr_tz_congr Q _ (fun b h1 h2 => hf 29 b (by omega)) hz.2.2⟩
    · rw [hc] at e
      rcases e with e | e <;> exact absurd e (by decide)
    · unfold tr_rs
      rw [if_pos ⟨Or.inr rfl, h1, h2⟩]
  · have c2 : tr_rs 27 (k + 1) (k + 1 + tt_sz P) (sf_up (sf_up σm (27 + 3) k v) (27 + 2) k 1) (27 + 2) k = 1 := by
      unfold tr_rs; rw [if_neg (by omega), sc_upS]
    have c3 : tr_rs 27 (k + 1) (k + 1 + tt_sz P) (sf_up (sf_up σm (27 + 3) k v) (27 + 2) k 1) (27 + 3) k = v := by
      unfold tr_rs; rw [if_neg (by omega), sc_upK (by omega), sc_upS]
    have hRT : ∀ σ2 : sf_S, tr_R (tr_S σ) 27 true σ2 (.inner s c u P Q) k o w = (if σ2 (27 + 2) k = 0 then [] else tr_R (tr_S σ) 27 true σ2 P (k + 1) (o + 1) (σ2 (27 + 3) k)) ++ tv_bnd (fun v => tt_sem (tr_S σ) P (o + 1) v) (tr_R (tr_S σ) 27 true σ2 Q (k + 1 + tt_sz P) o w) := fun σ2 => by
      simp only [tr_R]; rw [hc]; rfl
    rw [hRT, c2, c3, if_neg (by decide), tr_R_fresh P (k + 1) (o + 1) v (fun b h1 h2 => ⟨by unfold tr_rs; rw [if_pos ⟨Or.inl rfl, h1, h2⟩], by unfold tr_rs; rw [if_pos ⟨Or.inr rfl, h1, h2⟩]⟩)]
    congr 2
    exact tr_R_congr Q _ o w fun a b h1 h2 h3 h4 => hf a b (by omega)
theorem tr_stepOp {G : Int32 → Int32 → sf_S → Option (Int32 × sf_S)} {s : Nat} {c : tt_C} {u : Unit} {P Q : tt_T} (hG : tr_s1 G P) (hG2 : tr_s1 G Q) (hP : 1 ≤ tt_sz P) (hQ : 1 ≤ tt_sz Q) (hil : sc_il c.1 = true) (hc : c.1 = 120) : tr_s1 (dX8_step G) (.inner s c u P Q) := by
  intro k lv o w n d N σ r hpre hz hr hnc hlen
  have hnd := hpre.nd
  have hm := tr_m1
  obtain ⟨hik, hcl⟩ := tr_in4 hpre
  have nar0 : vp_nar .boolean (0 : Int32) = 0 := by decide +kernel
  rw [tr_in1 hnd (tr_lv hpre) hil, hc, if_neg (by decide), if_pos rfl]
  have hRT : ∀ σ2 : sf_S, tr_R (tr_S σ) 27 true σ2 (.inner s c u P Q) k o w = (if σ2 29 k = 0 then [] else tr_R (tr_S σ) 27 true σ2 P (k + 1) (o + 1) (σ2 30 k)) ++ tv_bnd (fun v => tt_sem (tr_S σ) P (o + 1) v) (tr_R (tr_S σ) 27 true σ2 Q (k + 1 + tt_sz P) o w) := fun σ2 => by
    simp only [tr_R]; rw [hc]; rfl
  unfold dX8_stepOpener
  rw [if_pos hik, hcl]
  by_cases h29 : σ 29 k = 0
  · rw [if_pos h29]
    have hin : dX2_input 1 (nI k) σ = some (nI (k + 1 + tt_sz P), σ) := by
      unfold dX2_input
      rw [tk_lat hnd.1 hnd.2.1 hnd.2.2.1, hnd.2.2.2.1, hc]
      simp only [Option.bind_some]
      rw [if_neg (by decide), (hpre.snd hP hQ).1]
      rfl
    rw [hin]
    simp only [Option.bind_some]
    rw [hRT, if_pos h29, List.nil_append, tv_ak_bnd] at hr
    have hncQ : tr_nc (tv_ak (tr_R (tr_S σ) 27 true σ Q (k + 1 + tt_sz P) o w) d) := by rw [hr] at hnc; exact tr_nc_kk (N := []) hnc
    have hlenQ : N.length + (tv_ak (tr_R (tr_S σ) 27 true σ Q (k + 1 + tt_sz P) o w) d).1.length ≤ 100000 := by rw [hr] at hlen; exact tr_kkN hlen
    obtain ⟨res, σ1, N1, d1, g1, g2, g3, g4, g5⟩ := tr_call1 (T := .inner s c u P Q) (k := k) hG2 hpre.2.2.2.2.1 (hpre.kidQ hQ) hz.2.2 ⟨by omega, by simp only [tt_sz]; omega⟩ rfl hncQ hlenQ
    have h291 : σ1 29 k = 0 := by rw [g3 _ _ (by omega)]; exact h29
    have htz := tr_tzQ hz g3 g4
    rw [nI_1, g1]
    simp only [Option.bind_some]
    by_cases h2 : res = 2
    · rw [if_pos h2]
      rcases g5 with ⟨-, ⟨v, E, f1, f2, f3⟩, f4, f5⟩ | ⟨f1, -⟩ | ⟨f1, -⟩ | ⟨f1, -⟩
      · obtain ⟨σ2, k1, k2, k3, k4, k5⟩ := tr_opn1 hP hQ hc hpre g2 f4 htz v
        rw [f2, k1]
        simp only [Option.bind_some]
        refine ⟨1, σ2, N1, d1, rfl, k2, k4, Or.inr (Or.inl ⟨rfl, ?_, k3, Or.inl f5⟩)⟩
        rw [hr, f1, k5, f3]; rfl
      · rw [f1] at h2; exact absurd h2 (by decide)
      · rw [f1] at h2; exact absurd h2 (by decide)
      · rw [f1] at h2; exact absurd h2 (by decide)
    · rw [if_neg h2]
      exact ⟨res, σ1, N1, d1, rfl, g2, htz, tr_thru g5 h2 hr (fun d' => by rw [hRT, if_pos h291, List.nil_append, tv_ak_bnd]) (tr_phQ g3)⟩
  · rw [if_neg h29]
    rw [hRT, if_neg h29, tv_ak_app] at hr
    have hncP : tr_nc (tv_ak (tr_R (tr_S σ) 27 true σ P (k + 1) (o + 1) (σ 30 k)) d) := by rw [hr] at hnc; exact tr_nc_ke (N := []) hnc
    have hlenP : N.length + (tv_ak (tr_R (tr_S σ) 27 true σ P (k + 1) (o + 1) (σ 30 k)) d).1.length ≤ 100000 := by rw [hr] at hlen; exact tr_keN hlen
    obtain ⟨res, σ1, N1, d1, g1, g2, g3, g4, g5⟩ := tr_call1 (T := .inner s c u P Q) (k := k) hG hpre.2.2.2.2.1 (hpre.kidX hP hc) hz.2.1 ⟨by omega, by simp only [tt_sz]; omega⟩ rfl hncP hlenP
    have h291 : ¬ σ1 29 k = 0 := by rw [g3 _ _ (by omega)]; exact h29
    have h301 : σ1 30 k = σ 30 k := g3 _ _ (by omega)
    have htz := tr_tzP hz g3 g4
    have hQ1 : tr_R (tr_S σ) 27 true σ1 Q (k + 1 + tt_sz P) o w = tr_R (tr_S σ) 27 true σ Q (k + 1 + tt_sz P) o w := tr_R_out1 g3 (Or.inl (by omega))
    rw [nI_1, nI_1, g1]
    simp only [Option.bind_some]
    by_cases h0 : res = 0
    · rw [if_pos h0, if_pos hik, nar0]
      rcases g5 with ⟨f1, -⟩ | ⟨f1, -⟩ | ⟨f1, f2, f3, f4⟩ | ⟨f1, -⟩
      · rw [f1] at h0; exact absurd h0 (by decide)
      · rw [f1] at h0; exact absurd h0 (by decide)
      · refine ⟨1, _, N1, d1, rfl, g2.own (x := 0) (by simp only [tt_sz]; omega) (Or.inr (Or.inl rfl)), ?_, Or.inr (Or.inl ⟨rfl, ?_, tr_z_up (by omega) f3, ?_⟩)⟩
        · refine ⟨fun e => ?_, tr_tz_congr P _ (fun b h1 h2 => sc_upJ (by omega)) htz.2.1, tr_tz_congr Q _ (fun b h1 h2 => sc_upJ (by omega)) htz.2.2⟩
          rw [hc] at e
          rcases e with e | e <;> exact absurd e (by decide)
        · rw [hr, f2, hRT, sc_upS, if_pos rfl, List.nil_append, tr_R_congr Q (k + 1 + tt_sz P) o w (σ := σ1) (fun a b h1 h2 h3 h4 => sc_upJ (by omega)), hQ1]; rfl
        · rcases f4 with f4 | ⟨f4, f5⟩
          · exact Or.inl f4
          · refine Or.inr ⟨f4, ?_⟩
            simp (decide := true) only [tr_ph, hc, sc_upS, h29, if_true, if_false]
            rw [tr_ph_congr P (k + 1) (σ := σ1) (fun b h1 h2 => sc_upJ (by omega)), tr_ph_congr Q (k + 1 + tt_sz P) (σ := σ) (fun b h1 h2 => by rw [sc_upJ (by omega)]; exact g3 29 b (by omega))]
            omega
      · rw [f1] at h0; exact absurd h0 (by decide)
    · rw [if_neg h0]
      exact ⟨res, σ1, N1, d1, rfl, g2, htz, tr_thru2 g5 h0 hr (by rw [hRT, if_neg h291, hQ1, h301]) (fun d' => by rw [hRT, if_neg h291, hQ1, h301, tv_ak_app]) (tr_phP g3)⟩
theorem tr_step : ∀ (n : Nat) (T : tt_T), tt_sz T ≤ n → tt_wf T → tr_s1 (dX8_step_R n) T
  | _, .leaf, _, h => absurd h id
  | 0, .inner s c u P Q, h, _ => by simp only [tt_sz] at h; omega
  | n + 1, .inner s c u P Q, h, hw => by
    simp only [tt_sz] at h
    obtain ⟨k1, k2, -⟩ := tt_wf_kid hw
    obtain ⟨-, -, hil, w0, w1, w2⟩ := hw
    have iP : tt_wf P → tr_s1 (dX8_step_R n) P := fun h1 => tr_step n P (by omega) h1
    have iQ : tt_wf Q → tr_s1 (dX8_step_R n) Q := fun h1 => tr_step n Q (by omega) h1
    show tr_s1 (dX8_step (dX8_step_R n)) (.inner s c u P Q)
    have one : sc_p c.1 = 1 → 1 ≤ tt_sz P ∧ tr_s1 (dX8_step_R n) P := fun e => ⟨tt_wf_sz (w1 e).1, iP (w1 e).1⟩
    have two : sc_p c.1 = 2 → (1 ≤ tt_sz P ∧ tr_s1 (dX8_step_R n) P) ∧ 1 ≤ tt_sz Q ∧ tr_s1 (dX8_step_R n) Q := fun e => ⟨⟨tt_wf_sz (w2 e).1, iP (w2 e).1⟩, tt_wf_sz (w2 e).2, iQ (w2 e).2⟩
    by_cases hpd : tt_pd c
    · have : sc_p c.1 = 0 := by rcases hpd with h | h | h | h | h <;> rw [h] <;> decide +kernel
      obtain ⟨rfl, rfl⟩ := w0 this
      exact tr_stepPd hil hpd
    by_cases h99 : c.1 = 99
    · obtain ⟨⟨a1, a2⟩, a3, a4⟩ := two (by rw [h99]; decide +kernel)
      exact tr_stepCh a2 a4 a1 a3 hil h99
    by_cases h122 : c.1 = 122
    · obtain ⟨⟨a1, a2⟩, a3, a4⟩ := two (by rw [h122]; decide +kernel)
      exact tr_stepZp a2 a4 a1 a3 hil h122
    by_cases h120 : c.1 = 120
    · obtain ⟨⟨a1, a2⟩, a3, a4⟩ := two (by rw [h120]; decide +kernel)
      exact tr_stepOp a2 a4 a1 a3 hil h120
    by_cases h116 : c.1 = 116
    · obtain ⟨a1, a2⟩ := one (by rw [h116]; decide +kernel)
      exact tr_stepTk a2 a1 hil h116
    by_cases h100 : c.1 = 100
    · obtain ⟨a1, a2⟩ := one (by rw [h100]; decide +kernel)
      exact tr_stepDr a2 a1 hil h100
    by_cases h119 : c.1 = 119
    · obtain ⟨a1, a2⟩ := one (by rw [h119]; decide +kernel)
      exact tr_stepWh a2 a1 hil h119
    by_cases hfl : c.1 = 63 ∨ c.1 = 107
    · obtain ⟨a1, a2⟩ := one (by rcases hfl with h | h <;> rw [h] <;> decide +kernel)
      exact tr_stepFl a2 a1 hil hfl
    have hun : c.1 = 37 ∨ c.1 = 42 ∨ c.1 = 43 ∨ c.1 = 47 ∨ c.1 = 108 := by
      unfold tt_pd at hpd
      rcases sc_il_cases hil with e | e | e | e | e | e | e | e | e | e | e | e | e | e | e | e | e | e <;> simp_all
    obtain ⟨a1, a2⟩ := one (by rcases hun with h | h | h | h | h <;> rw [h] <;> decide +kernel)
    exact tr_stepUn a2 a1 hil hun
