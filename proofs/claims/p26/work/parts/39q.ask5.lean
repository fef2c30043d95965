/-! asking: the opener, the producers; every node -/
theorem tv_ak_d : ∀ (E : tv_L) (d : Nat), d ≤ 500 → d ≤ (tv_ak E d).2.1 ∧ (tv_ak E d).2.1 ≤ 500
  | [], d, h => by simp [tv_ak, h]
  | .inl v :: l, d, h => by simp [tv_ak, h]
  | .inr none :: l, d, h => by
    simp only [tv_ak]
    split
    · have := tv_ak_d l (d + 1) (by omega)
      omega
    · simp; omega
  | .inr (some (t, a, b)) :: l, d, h => by
    simp only [tv_ak]
    split
    · exact tv_ak_d l d h
    · simp [h]
/-- it is opened -/
theorem tr_opn {q pl rn : Nat} {s : Nat} {c : tt_C} {u : Unit} {P Q : tt_T} {k lv : Nat} {o w : Int32} {n d d1 a : Nat} {N N1 : List (Int32 × Int32)} {σ σm : sf_S} (hq : tr_q q pl rn) (hP : 1 ≤ tt_sz P) (hQ : 1 ≤ tt_sz Q) (hc : c.1 = 120) (hpre : tr_pre q pl rn (.inner s c u P Q) k lv o w n d N σ) (hB : tr_B q rn (.inner s c u P Q) k d N σ d1 N1 a σm) (h5 : tr_z rn σm) (v : Int32) :
    ∃ σ', dX9_open q (nI k) v σm = some σ' ∧ tr_B q rn (.inner s c u P Q) k d N σ d1 N1 a σ' ∧ tr_z rn σ' ∧ tr_R (tr_S σ) q false σ' (.inner s c u P Q) k o w = tt_sem (tr_S σ) P (o + 1) v ++ tv_bnd (fun v => tt_sem (tr_S σ) P (o + 1) v) (tr_R (tr_S σ) q false σm Q (k + 1 + tt_sz P) o w) := by
  have hs := tr_sep hq
  obtain ⟨e1, e2, e3, e4⟩ := hq.eqs
  have hm3 : tr_m false = 3 := rfl
  have hpm := tr_pre_B hq hpre hB h5
  obtain ⟨a1, a2, a3, a4⟩ := hpm.1
  simp only [tt_sz] at a3
  refine ⟨_, tr_open (n := n) (e := k + 1 + tt_sz P) (c := c) (o := o) (by rw [e1]; omega) (by rw [e1]; exact hpm.nd) (by rw [e1]; exact (hpm.snd hP hQ).2) (by omega) (by omega) e4 v, ?_, ?_, ?_⟩
  · have hf : ∀ a b, ¬ ((a = q + 1 ∨ a = q + 2 ∨ a = q + 3) ∧ k ≤ b ∧ b < k + 1 + tt_sz P) → tr_rs q (k + 1) (k + 1 + tt_sz P) (sf_up (sf_up σm (q + 3) k v) (q + 2) k 1) a b = σm a b := fun a b hab => by
      unfold tr_rs
      rw [if_neg (by omega)]
      have g1 : ¬ (a = q + 2 ∧ b = k) := by omega
      have g2 : ¬ (a = q + 3 ∧ b = k) := by omega
      exact (if_neg g1).trans (if_neg g2)
    refine hB.step hq (fun a b hab => hf a b (by simp only [tt_sz] at hab; omega)) (hf _ _ (by omega)) (hf _ _ (by omega)) (hB.2.2.1.kept fun a b hab => hf _ _ (by omega)) fun b h1 h2 => ?_
    obtain ⟨y, y1, y2⟩ := hB.2.2.2.1 b h1 h2
    by_cases hb : k + 1 ≤ b ∧ b < k + 1 + tt_sz P
    · refine ⟨0, ?_, by omega⟩
      unfold tr_rs
      rw [if_pos ⟨Or.inl rfl, hb⟩, sc_0]
    · refine ⟨y, ?_, y2⟩
      unfold tr_rs
      rw [if_neg (by omega), sc_upK (by omega), sc_upK (by omega)]; exact y1
  · refine tr_z_k h5 fun b hb => ?_
    unfold tr_rs
    rw [if_neg (by omega), sc_upK (by omega), sc_upK (by omega)]
  · have c2 : tr_rs q (k + 1) (k + 1 + tt_sz P) (sf_up (sf_up σm (q + 3) k v) (q + 2) k 1) (q + 2) k = 1 := by
      unfold tr_rs; rw [if_neg (by omega), sc_upS]
    have c3 : tr_rs q (k + 1) (k + 1 + tt_sz P) (sf_up (sf_up σm (q + 3) k v) (q + 2) k 1) (q + 3) k = v := by
      unfold tr_rs; rw [if_neg (by omega), sc_upK (by omega), sc_upS]
    have hRT : ∀ σ2 : sf_S, tr_R (tr_S σ) q false σ2 (.inner s c u P Q) k o w = (if σ2 (q + 2) k = 0 then [] else tr_R (tr_S σ) q false σ2 P (k + 1) (o + 1) (σ2 (q + 3) k)) ++ tv_bnd (fun v => tt_sem (tr_S σ) P (o + 1) v) (tr_R (tr_S σ) q false σ2 Q (k + 1 + tt_sz P) o w) := fun σ2 => by
      simp only [tr_R]; rw [hc]; rfl
    rw [hRT, c2, c3, if_neg (by decide), tr_R_fresh P (k + 1) (o + 1) v (fun b h1 h2 => ⟨by unfold tr_rs; rw [if_pos ⟨Or.inl rfl, h1, h2⟩], by unfold tr_rs; rw [if_pos ⟨Or.inr rfl, h1, h2⟩]⟩)]
    congr 2
    refine tr_R_congr Q _ o w fun a b h1 h2 h3 h4 => ?_
    unfold tr_rs
    rw [if_neg (by omega), sc_upJ (by omega), sc_upJ (by omega)]
theorem tr_openL {G : Nat → Int32 → Int32 → sf_S → Option (Int32 × sf_S)} {q pl rn : Nat} {s : Nat} {c : tt_C} {u : Unit} {P Q : tt_T} {k lv : Nat} {o w : Int32} {n d : Nat} {N : List (Int32 × Int32)} {σ : sf_S} (hq : tr_q q pl rn) (hG : tr_sp G q pl rn P) (hG2 : tr_sp G q pl rn Q) (hP : 1 ≤ tt_sz P) (hQ : 1 ≤ tt_sz Q) (hc : c.1 = 120) (hpre : tr_pre q pl rn (.inner s c u P Q) k lv o w n d N σ) : ∀ (m fuel j d1 a : Nat) (N1 : List (Int32 × Int32)) (σm : sf_S) (r : tv_A), 500 - d1 < m → m ≤ fuel → j + m ≤ 1000 → tr_B q rn (.inner s c u P Q) k d N σ d1 N1 a σm → tr_z rn σm → r = tv_pre N1 (tv_ak (tr_R (tr_S σ) q false σm (.inner s c u P Q) k o w) d1) → tr_nc r → N.length + r.1.length ≤ 100000 →
    ∃ res σ' a', dX0_askOpener_2 G q fuel (nI k) (nI lv) (nI j) σm = some (res, σ') ∧ tr_B q rn (.inner s c u P Q) k d N σ r.2.1 r.1 (a + a') σ' ∧ d1 ≤ r.2.1 ∧ a' ≤ (tt_al P + tt_al Q + tt_sz P + tt_sz Q) * (r.2.1 - d1) + (tt_sz P + tt_sz Q) ∧ tr_out (tr_S σ) q rn false (.inner s c u P Q) k o w d σ' res r := by
  have hs := tr_sep hq
  obtain ⟨e1, e2, e3, e4⟩ := hq.eqs
  have hnd := hpre.nd
  have hik : sf_in (nI k) 40 = true := sc_inI (by have := hnd.1; have := hnd.2.2.1; omega) (by omega)
  have hcl := sc_cl (show k < 2 ^ 31 by have := hnd.1; have := hnd.2.2.1; omega)
  have nar0 : vp_nar .boolean (0 : Int32) = 0 := by decide +kernel
  have hm3 : tr_m false = 3 := rfl
  have hRT : ∀ σ2 : sf_S, tr_R (tr_S σ) q false σ2 (.inner s c u P Q) k o w = (if σ2 (q + 2) k = 0 then [] else tr_R (tr_S σ) q false σ2 P (k + 1) (o + 1) (σ2 (q + 3) k)) ++ tv_bnd (fun v => tt_sem (tr_S σ) P (o + 1) v) (tr_R (tr_S σ) q false σ2 Q (k + 1 + tt_sz P) o w) := fun σ2 => by
    simp only [tr_R]; rw [hc]; rfl
  intro m
  induction m with
  | zero => intro fuel j d1 a N1 σm r hm; omega
  | succ m ih =>
    -- the input is asked
    have part2 : ∀ (f j d1 a : Nat) (N1 : List (Int32 × Int32)) (σm : sf_S) (r : tv_A), 500 - d1 < m + 1 → m ≤ f → j + m ≤ 999 → tr_B q rn (.inner s c u P Q) k d N σ d1 N1 a σm → tr_z rn σm → σm (q + 2) k = 0 → r = tv_pre N1 (tv_ak (tr_R (tr_S σ) q false σm (.inner s c u P Q) k o w) d1) → tr_nc r → N.length + r.1.length ≤ 100000 →
        ∃ res σ' a', dX0_askOpener_51 G q (dX0_askOpener_2 G q f) (nI k) (nI lv) (nI j) σm = some (res, σ') ∧ tr_B q rn (.inner s c u P Q) k d N σ r.2.1 r.1 (a + a') σ' ∧ d1 ≤ r.2.1 ∧ a' ≤ (tt_al P + tt_al Q + tt_sz P + tt_sz Q) * (r.2.1 - d1) + tt_sz Q ∧ tr_out (tr_S σ) q rn false (.inner s c u P Q) k o w d σ' res r := by
      intro f j d1 a N1 σm r hm hf hj hB h5 hz hr hnc hlen
      rw [hRT, if_pos hz, List.nil_append, tv_ak_bnd] at hr
      generalize hrQ : tv_ak (tr_R (tr_S σ) q false σm Q (k + 1 + tt_sz P) o w) d1 = rQ at hr
      have hncQ : tr_nc rQ := by rw [hr] at hnc; exact tr_nc_kk hnc
      have hlenQ : N.length + N1.length + rQ.1.length ≤ 100000 := by rw [hr] at hlen; exact tr_le_kk hlen
      obtain ⟨res, σ1, a1, g1, g2, g3, g4, g5, g6⟩ := tr_callQ hq hG2 hQ hpre hB h5 hrQ.symm hncQ hlenQ
      have hpm := tr_pre_B hq hpre hB h5
      unfold dX0_askOpener_51
      have hin : dX2_input pl (nI k) σm = some (nI (k + 1 + tt_sz P), σm) := by
        unfold dX2_input
        rw [tk_lat hpm.nd.1 hpm.nd.2.1 hpm.nd.2.2.1, hpm.nd.2.2.2.1, hc]
        simp only [Option.bind_some]
        rw [if_neg (by decide), (hpm.snd hP hQ).1]
        rfl
      rw [e1, hin]
      simp only [Option.bind_some]
      rw [nI_1, g1]
      simp only [Option.bind_some]
      have hle := g2.2.1.2.2
      obtain ⟨N2, d2, o2⟩ := rQ
      simp only at g2 g3 g4 g6 hle
      rcases g6 with ⟨v, l, f1, f2, f3, f4, f5, f6⟩ | ⟨z, f1, f2, f3⟩
      · subst f1; subst f2
        rw [if_pos (by decide), e3, f3]
        obtain ⟨σ2, k1, k2, k3, k4⟩ := tr_opn hq hP hQ hc hpre g2 f5 v
        rw [k1]
        simp only [Option.bind_some]
        have er : r = tv_pre (N1 ++ N2) (tv_ak (tt_sem (tr_S σ) P (o + 1) v ++ tv_bnd (fun v => tt_sem (tr_S σ) P (o + 1) v) l) d2) := by
          rw [hr]; simp [tv_kk, tv_pre]
        obtain ⟨res, σ3, a2, h1, h2, h3, h4, h6⟩ := ih f (j + 1) d2 (a + a1) (N1 ++ N2) σ2 r (by omega) hf (by omega) k2 k3 (by rw [er, k4, f4]) hnc hlen
        rw [nI_1]
        refine ⟨res, σ3, a1 + a2, h1, by rw [← Nat.add_assoc]; exact h2, by omega, ?_, h6⟩
        generalize r.2.1 = D at h3 h4
        obtain ⟨y', rfl⟩ : ∃ y', d2 = d1 + (y' + 1) := ⟨d2 - d1 - 1, by omega⟩
        obtain ⟨z', rfl⟩ : ∃ z', D = d1 + (y' + 1) + z' := ⟨D - (d1 + (y' + 1)), by omega⟩
        rw [show d1 + (y' + 1) + z' - d1 = y' + 1 + z' by omega]
        rw [show d1 + (y' + 1) - d1 = y' + 1 by omega] at g4
        rw [show d1 + (y' + 1) + z' - (d1 + (y' + 1)) = z' by omega] at h4
        simp only [Nat.add_mul, Nat.mul_add, Nat.mul_one] at h4 g4 ⊢
        omega
      · subst f1; subst f2
        rw [if_neg (by simp)]
        have er : r = (N1 ++ N2, d2, .inr z) := hr
        subst er
        refine ⟨0, σ1, a1, rfl, g2, g3, Nat.le_trans g4 ?_, tr_out_z (z := z) rfl f3⟩
        simp only [Nat.add_mul]; omega
    intro fuel j d1 a N1 σm r hm hf hj hB h5 hr hnc hlen
    obtain ⟨f, rfl⟩ : ∃ f, fuel = f + 1 := ⟨fuel - 1, by omega⟩
    simp only [dX0_askOpener_2]
    rw [if_neg (by rw [show (1000000 : Int32) = nI 1000000 from by decide +kernel]; exact nI_ge (by omega) (by omega)), if_pos hik, hcl]
    by_cases hz : σm (q + 2) k = 0
    · rw [if_pos hz]
      obtain ⟨res, σ', a', h1, h2, h3, h4, h6⟩ := part2 f j d1 a N1 σm r hm (by omega) (by omega) hB h5 hz hr hnc hlen
      exact ⟨res, σ', a', h1, h2, h3, by omega, h6⟩
    · rw [if_neg hz]
      rw [hRT, if_neg hz, tv_ak_app] at hr
      generalize hrP : tv_ak (tr_R (tr_S σ) q false σm P (k + 1) (o + 1) (σm (q + 3) k)) d1 = rP at hr
      have hncP : tr_nc rP := by rw [hr] at hnc; exact tr_nc_ke hnc
      have hlenP : N.length + N1.length + rP.1.length ≤ 100000 := by rw [hr] at hlen; exact tr_le_ke hlen
      have hS := tr_S_B hq hB
      obtain ⟨res, σ1, a1, g1, g2, g3, ⟨-, g4⟩, g5, g6⟩ := tr_call (rX := rP) hq hG hB ((tr_pre_B hq hpre hB h5).kidX hP hc) ⟨by omega, by simp only [tt_sz]; omega⟩ (by rw [hS]; exact hrP.symm) hncP (by rw [List.length_append]; exact hlenP)
      rw [hS] at g6
      rw [nI_1, nI_1, g1]
      simp only [Option.bind_some]
      obtain ⟨N2, d2, o2⟩ := rP
      simp only at g2 g3 g4 g6
      rcases tr_outs g6 with ⟨v, l, f1, f2, f3, f4, f5, f6⟩ | ⟨z, f1, f2, f3⟩
      · simp only at f1 f6; subst f1; subst f2
        rw [if_neg (by decide)]
        have er : r = (N1 ++ N2, d2, .inl (v, l ++ tv_bnd (fun v => tt_sem (tr_S σ) P (o + 1) v) (tr_R (tr_S σ) q false σm Q (k + 1 + tt_sz P) o w))) := hr
        subst er
        refine ⟨1, σ1, a1, rfl, g2, g3, ?_, tr_out_v rfl f3 ?_ f5 (by have := hB.2.1.2.1; simp only; omega)⟩
        · simp only [Nat.add_mul]; omega
        · rw [hRT, g5 _ _ (by omega), if_neg hz, g5 (q + 3) k (by omega), f4, tr_R_out hq g5 (Or.inl (by omega))]
      · simp only at f1; subst f1; subst f2
        rw [if_pos rfl, e2, tr_fail]
        simp only [Option.bind_some]
        cases z with
        | some x =>
          rw [if_neg (tr_fo_x hncP rfl f3), if_neg (by decide)]
          have er : r = (N1 ++ N2, d2, .inr (some x)) := hr
          subst er
          refine ⟨0, σ1, a1, rfl, g2, g3, ?_, tr_out_z (z := some x) rfl f3⟩
          simp only [Nat.add_mul]; omega
        | none =>
          rw [if_pos f3.1, if_pos rfl, if_pos hik, nar0]
          have hB2 := g2.own (x := 0) hq (by simp only [tt_sz]; omega) (Or.inr (Or.inl rfl))
          have er : r = tv_pre (N1 ++ N2) (tv_ak (tr_R (tr_S σ) q false (sf_up σ1 (q + 2) k 0) (.inner s c u P Q) k o w) d2) := by
            rw [hr, hRT, sc_upS, if_pos rfl, List.nil_append, tr_R_congr Q (k + 1 + tt_sz P) o w (σ := σ1) (σ' := sf_up σ1 (q + 2) k 0) (fun a b h1 h2 h3 h4 => sc_upJ (by omega)), tr_R_out hq g5 (Or.inl (by omega))]
            simp only [tv_ke, tv_pre, List.append_assoc]
          obtain ⟨res, σ', a', h1, h2, h3, h4, h6⟩ := part2 f j d2 (a + a1) (N1 ++ N2) (sf_up σ1 (q + 2) k 0) r (by omega) (by omega) (by omega) hB2 (tr_z_up (by omega) f3) sc_upS er hnc hlen
          refine ⟨res, σ', a1 + a', h1, by rw [← Nat.add_assoc]; exact h2, by omega, ?_, h6⟩
          generalize r.2.1 = D at h3 h4
          obtain ⟨y', rfl⟩ : ∃ y', d2 = d1 + y' := ⟨d2 - d1, by omega⟩
          obtain ⟨z', rfl⟩ : ∃ z', D = d1 + y' + z' := ⟨D - (d1 + y'), by omega⟩
          rw [show d1 + y' + z' - d1 = y' + z' by omega]
          rw [show d1 + y' - d1 = y' by omega] at g4
          rw [show d1 + y' + z' - (d1 + y') = z' by omega] at h4
          simp only [Nat.add_mul, Nat.mul_add, Nat.mul_one] at h4 g4 ⊢
          omega
theorem tr_ask_op {G : Nat → Int32 → Int32 → sf_S → Option (Int32 × sf_S)} {q pl rn : Nat} {s : Nat} {c : tt_C} {u : Unit} {P Q : tt_T} (hq : tr_q q pl rn) (hG : tr_sp G q pl rn P) (hG2 : tr_sp G q pl rn Q) (hP : 1 ≤ tt_sz P) (hQ : 1 ≤ tt_sz Q) (hc : c.1 = 120) : tr_sp (dX0_ask G) q pl rn (.inner s c u P Q) := by
  intro k lv o w n d N σ r hpre hr hnc hNl
  obtain ⟨hB0, h50⟩ := tr_B0 hq hpre
  have hF := sf_F_le
  obtain ⟨res, σ', a', h1, h2, h3, h4, h5⟩ := tr_openL hq hG hG2 hP hQ hc hpre 501 sf_F 0 d 1 [] _ r (by omega) (by omega) (by omega) hB0 h50 (by rw [tr_R0 hq, tv_pre_nil]; exact hr) hnc hNl
  rw [tr_in hq hpre.nd (tr_lv hpre), hc]
  simp (decide := true) only [if_false, if_true]
  refine tr_done ⟨res, σ', ?_, tr_post_of h2 (by omega) ?_ h5⟩
  · unfold dX0_askOpener
    rw [sc_0, h1]
  · simp only [tt_al, tt_sz]
    omega
theorem tr_ask_pd {G : Nat → Int32 → Int32 → sf_S → Option (Int32 × sf_S)} {q pl rn : Nat} {s : Nat} {c : tt_C} {u : Unit} (hq : tr_q q pl rn) (hc : tt_pd c) : tr_sp (dX0_ask G) q pl rn (.inner s c u .leaf .leaf) := by
  intro k lv o w n d N σ r hpre hr hnc hNl
  have hs := tr_sep hq
  obtain ⟨e1, e2, e3, e4⟩ := hq.eqs
  obtain ⟨hB0, h50⟩ := tr_B0 hq hpre
  have hm3 : tr_m false = 3 := rfl
  have hpm := tr_pre_B hq hpre hB0 h50
  have hS0 := tr_S_B hq hB0
  have hRT : ∀ σ2 : sf_S, tr_R (tr_S σ) q false σ2 (.inner s c u .leaf .leaf) k o w = tt_lf (tr_S σ) c o w (σ2 (q + 1) k).toNatClampNeg := fun σ2 => by
    simp only [tr_R]
    rcases hc with h | h | h | h | h <;> rw [h] <;> rfl
  obtain ⟨⟨a1, a2, a3, a4⟩, -, ⟨wi, b, hPP, hw⟩, hSh, hub, ⟨hd, hd5⟩, h5, hN⟩ := id hpm
  simp only [tt_sz] at a3
  obtain ⟨y, y1, y2⟩ := hub k (Nat.le_refl _) (by simp only [tt_sz]; omega)
  rw [← tr_R0 hq, hRT, y1, sc_cl (by omega)] at hr
  rw [tr_in hq hpre.nd (tr_lv hpre)]
  have hdis : ∀ L : Int32, L ∈ ([37, 42, 43, 47, 108, 63, 107, 99, 100, 116, 119, 120, 122] : List Int32) → ¬ c.1 = L := by
    rcases hc with h | h | h | h | h <;> rw [h] <;> decide
  simp only [hdis 37 (by decide), hdis 42 (by decide), hdis 43 (by decide), hdis 47 (by decide), hdis 108 (by decide), hdis 63 (by decide), hdis 107 (by decide), hdis 99 (by decide), hdis 100 (by decide), hdis 116 (by decide), hdis 119 (by decide), hdis 120 (by decide), hdis 122 (by decide), or_self, if_false]
  refine tr_done ?_
  obtain ⟨res, σ', g1, g2⟩ := tr_produce (u := y) hq hpm.nd hPP.2.1.2.2.2.1 (hw.wk (by omega)) hSh hc y1 (by omega) hd hd5 (by rw [hS0, ← hr]; intro e; rw [e] at hnc; exact hnc 0 rfl)
  refine ⟨res, σ', g1, ?_⟩
  unfold tr_prs at g2
  rw [hS0, ← hr] at g2
  obtain ⟨g2, g3, g4, g5⟩ := g2
  have hdd := tv_ak_d (tt_lf (tr_S σ) c o w y) d hd5
  rw [← hr] at hdd
  have hub2 : (∃ z, σ' (q + 1) k = nI z ∧ z ≤ 300000 + r.2.1) → tr_ub q k (k + tt_sz (.inner s c u .leaf .leaf)) r.2.1 σ' := fun h b h1 h2 => by
    simp only [tt_sz] at h2
    obtain rfl : b = k := by omega
    exact h
  have hB : (∃ z, σ' (q + 1) k = nI z ∧ z ≤ 300000 + r.2.1) → tr_B q rn (.inner s c u .leaf .leaf) k d N σ r.2.1 r.1 1 σ' := fun h => by
    refine ⟨tr_fr_tr hB0.1 fun a b hab => g4 a b ?_, ⟨g3, hdd⟩, ?_, hub2 h, ?_⟩
    · simp only [tt_sz] at hab; omega
    · rw [g2]; exact hN.kept fun a b hab => g4 a b (by omega)
    · rw [g4 _ _ (by omega)]; exact hB0.2.2.2.2
  have hwk : 1 ≤ tt_al (.inner s c u .leaf .leaf) * (r.2.1 - d) + tt_sz (.inner s c u .leaf .leaf) := by simp only [tt_sz]; omega
  obtain ⟨N1, d1, o1⟩ := r
  rcases o1 with ⟨v, l⟩ | (_ | ⟨x, x2⟩)
  · obtain ⟨k1, k2, k3, k4, k5, k6⟩ := g5
    simp only at k6
    subst k1
    refine tr_post_of (hB ⟨y + 1, k3, by simp only; omega⟩) (Nat.le_refl _) hwk (tr_out_v rfl k2 ?_ ⟨k5.1.trans h5.1, k5.2.trans h5.2⟩ (by simp only; omega))
    rw [hRT, k3, sc_cl (by omega), k4]
  · obtain ⟨k1, k2, k3, k4⟩ := g5
    simp only at k4
    subst k1
    exact tr_post_of (hB ⟨y, k3.trans y1, by simp only; omega⟩) (Nat.le_refl _) hwk (tr_out_z (z := none) rfl ⟨k2.1.trans h5.1, k2.2.trans h5.2⟩)
  · obtain ⟨k1, k2, k3, k4⟩ := g5
    subst k1
    exact tr_post_of (hB ⟨y, k4.trans y1, by simp only at hdd ⊢; omega⟩) (Nat.le_refl _) hwk (tr_out_z (z := some (x, x2)) rfl ⟨k2, k3⟩)
theorem tr_ask {q pl rn : Nat} (hq : tr_q q pl rn) : ∀ (n : Nat) (T : tt_T), tt_sz T ≤ n → tt_wf T → tr_sp (dX0_ask_R n) q pl rn T
  | _, .leaf, _, h => absurd h id
  | 0, .inner s c u P Q, h, _ => by simp only [tt_sz] at h; omega
  | n + 1, .inner s c u P Q, h, hw => by
    simp only [tt_sz] at h
    obtain ⟨k1, k2, -⟩ := tt_wf_kid hw
    obtain ⟨-, -, hil, w0, w1, w2⟩ := hw
    have iP : tt_wf P → tr_sp (dX0_ask_R n) q pl rn P := fun h1 => tr_ask hq n P (by omega) h1
    have iQ : tt_wf Q → tr_sp (dX0_ask_R n) q pl rn Q := fun h1 => tr_ask hq n Q (by omega) h1
    show tr_sp (dX0_ask (dX0_ask_R n)) q pl rn (.inner s c u P Q)
    have one : sc_p c.1 = 1 → 1 ≤ tt_sz P ∧ tr_sp (dX0_ask_R n) q pl rn P := fun e => ⟨tt_wf_sz (w1 e).1, iP (w1 e).1⟩
    have two : sc_p c.1 = 2 → (1 ≤ tt_sz P ∧ tr_sp (dX0_ask_R n) q pl rn P) ∧ 1 ≤ tt_sz Q ∧ tr_sp (dX0_ask_R n) q pl rn Q := fun e => ⟨⟨tt_wf_sz (w2 e).1, iP (w2 e).1⟩, tt_wf_sz (w2 e).2, iQ (w2 e).2⟩
    by_cases hpd : tt_pd c
    · have : sc_p c.1 = 0 := by rcases hpd with h | h | h | h | h <;> rw [h] <;> decide +kernel
      obtain ⟨rfl, rfl⟩ := w0 this
      exact tr_ask_pd hq hpd
    by_cases h99 : c.1 = 99
    · obtain ⟨⟨a1, a2⟩, a3, a4⟩ := two (by rw [h99]; decide +kernel)
      exact tr_ask_ch hq a2 a4 a1 a3 h99
    by_cases h122 : c.1 = 122
    · obtain ⟨⟨a1, a2⟩, a3, a4⟩ := two (by rw [h122]; decide +kernel)
      exact tr_ask_zp hq a2 a4 a1 a3 h122
    by_cases h120 : c.1 = 120
    · obtain ⟨⟨a1, a2⟩, a3, a4⟩ := two (by rw [h120]; decide +kernel)
      exact tr_ask_op hq a2 a4 a1 a3 h120
    by_cases h116 : c.1 = 116
    · obtain ⟨a1, a2⟩ := one (by rw [h116]; decide +kernel)
      exact tr_ask_tk hq a2 a1 h116
    by_cases h100 : c.1 = 100
    · obtain ⟨a1, a2⟩ := one (by rw [h100]; decide +kernel)
      exact tr_ask_dr hq a2 a1 h100
    by_cases h119 : c.1 = 119
    · obtain ⟨a1, a2⟩ := one (by rw [h119]; decide +kernel)
      exact tr_ask_wh hq a2 a1 h119
    by_cases hfl : c.1 = 63 ∨ c.1 = 107
    · obtain ⟨a1, a2⟩ := one (by rcases hfl with h | h <;> rw [h] <;> decide +kernel)
      exact tr_ask_fl hq a2 a1 hfl
    have hun : c.1 = 37 ∨ c.1 = 42 ∨ c.1 = 43 ∨ c.1 = 47 ∨ c.1 = 108 := by
      unfold tt_pd at hpd
      rcases sc_il_cases hil with e | e | e | e | e | e | e | e | e | e | e | e | e | e | e | e | e | e <;> simp_all
    obtain ⟨a1, a2⟩ := one (by rcases hun with h | h | h | h | h <;> rw [h] <;> decide +kernel)
    exact tr_ask_un hq a2 a1 hun
