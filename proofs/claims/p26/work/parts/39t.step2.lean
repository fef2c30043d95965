/-! stepping: nodes with one pipe, producers -/
theorem tr_b2 (x : Option (Int32 × sf_S)) : (x.bind fun u => some (u.1, u.2)) = x := by cases x <;> rfl
theorem tr_in1 {G : Int32 → Int32 → sf_S → Option (Int32 × sf_S)} {n k lv : Nat} {c : tt_C} {o : Int32} {σ : sf_S} (h : tr_nd 1 n k c o σ) (hlv : lv ≤ 40) (hil : sc_il c.1 = true) : dX8_step G (nI k) (nI lv) σ = (if c.1 = 99 then dX8_stepChain G (nI k) (nI lv) σ else if c.1 = 120 then dX8_stepOpener G (nI k) (nI lv) σ else if c.1 = 122 then dX8_stepZip G (nI k) (nI lv) σ else if sc_p c.1 = 0 then (dX9_produce 27 (nI k) σ).bind fun u => dX8_given u.1 u.2 else dX8_stepOne G (nI k) (nI lv) σ) := by
  obtain ⟨h0, h4, hk, h1, -⟩ := id h
  have hik : sf_in (nI k) 40 = true := sc_inI (by omega) (by omega)
  have hle : nI lv ≤ (40 : Int32) := by rw [show (40 : Int32) = nI 40 from by decide +kernel]; exact nI_le hlv (by omega)
  unfold dX8_step
  rw [tr_has h]
  simp only [Option.bind_some]
  rw [if_neg (by decide), if_pos hle, if_pos hik, sc_cl (show k < 2 ^ 31 by omega), h1]
  simp only [tr_b2]
  rcases sc_il_cases hil with e | e | e | e | e | e | e | e | e | e | e | e | e | e | e | e | e | e <;> rw [e] <;> rfl
theorem tr_R_un1 {S : tt_S} {σ : sf_S} {s : Nat} {c : tt_C} {u : Unit} {P Q : tt_T} {k : Nat} {o w : Int32} (hc : c.1 = 37 ∨ c.1 = 42 ∨ c.1 = 43 ∨ c.1 = 47 ∨ c.1 = 108 ∨ c.1 = 63 ∨ c.1 = 107) : tr_R S 27 true σ (.inner s c u P Q) k o w = tv_bnd (tt_op c o) (tr_R S 27 true σ P (k + 1) o w) := by
  simp only [tr_R]
  rcases hc with h | h | h | h | h | h | h <;> rw [h] <;> rfl
theorem tr_tzP {s : Nat} {c : tt_C} {u : Unit} {P Q : tt_T} {k : Nat} {σ σ1 : sf_S} (h : tr_tz (.inner s c u P Q) k σ) (hf : tr_fr 27 19 true (k + 1) (k + 1 + tt_sz P) σ σ1) (h1 : tr_tz P (k + 1) σ1) : tr_tz (.inner s c u P Q) k σ1 := by
  have hm := tr_m1
  exact ⟨fun e => by rw [hf _ _ (by omega)]; exact h.1 e, h1, tr_tz_congr Q _ (fun b h2 h3 => hf _ _ (by omega)) h.2.2⟩
theorem tr_tzQ {s : Nat} {c : tt_C} {u : Unit} {P Q : tt_T} {k : Nat} {σ σ1 : sf_S} (h : tr_tz (.inner s c u P Q) k σ) (hf : tr_fr 27 19 true (k + 1 + tt_sz P) (k + 1 + tt_sz P + tt_sz Q) σ σ1) (h1 : tr_tz Q (k + 1 + tt_sz P) σ1) : tr_tz (.inner s c u P Q) k σ1 := by
  have hm := tr_m1
  exact ⟨fun e => by rw [hf _ _ (by omega)]; exact h.1 e, tr_tz_congr P _ (fun b h2 h3 => hf _ _ (by omega)) h.2.1, h1⟩
theorem tr_phP {s : Nat} {c : tt_C} {u : Unit} {P Q : tt_T} {k : Nat} {σ σ1 : sf_S} (hf : tr_fr 27 19 true (k + 1) (k + 1 + tt_sz P) σ σ1) : ∃ z, tr_ph (.inner s c u P Q) k σ1 = z + tr_ph P (k + 1) σ1 ∧ tr_ph (.inner s c u P Q) k σ = z + tr_ph P (k + 1) σ := by
  have hm := tr_m1
  refine ⟨(if c.1 = 99 then (if σ 29 k = 0 then 1 else 0) else if c.1 = 120 then (if σ 29 k = 0 then 0 else 1) else 0) + tr_ph Q (k + 1 + tt_sz P) σ, ?_, ?_⟩
  · simp only [tr_ph]
    rw [hf 29 k (by omega), tr_ph_congr Q _ (fun b h2 h3 => hf 29 b (by omega))]
    omega
  · simp only [tr_ph]; omega
theorem tr_phQ {s : Nat} {c : tt_C} {u : Unit} {P Q : tt_T} {k : Nat} {σ σ1 : sf_S} (hf : tr_fr 27 19 true (k + 1 + tt_sz P) (k + 1 + tt_sz P + tt_sz Q) σ σ1) : ∃ z, tr_ph (.inner s c u P Q) k σ1 = z + tr_ph Q (k + 1 + tt_sz P) σ1 ∧ tr_ph (.inner s c u P Q) k σ = z + tr_ph Q (k + 1 + tt_sz P) σ := by
  have hm := tr_m1
  refine ⟨(if c.1 = 99 then (if σ 29 k = 0 then 1 else 0) else if c.1 = 120 then (if σ 29 k = 0 then 0 else 1) else 0) + tr_ph P (k + 1) σ, ?_, ?_⟩
  · simp only [tr_ph]
    rw [hf 29 k (by omega), tr_ph_congr P _ (fun b h2 h3 => hf 29 b (by omega))]
  · simp only [tr_ph]
theorem tr_one {G : Int32 → Int32 → sf_S → Option (Int32 × sf_S)} {s : Nat} {c : tt_C} {u : Unit} {P Q : tt_T} {k lv : Nat} {o w : Int32} {n d : Nat} {N : List (Int32 × Int32)} {σ : sf_S} {r : tv_A} (hG : tr_s1 G P) (hP : 1 ≤ tt_sz P) (hx : ¬ c.1 = 120) (hpre : tr_pre 27 1 19 (.inner s c u P Q) k lv o w n d N σ) (hz : tr_tz (.inner s c u P Q) k σ) (F : Int32 → tv_L → Nat → tv_A) (CONT : sf_S → Option (Int32 × sf_S)) (hr : r = tv_kk (tv_ak (tr_R (tr_S σ) 27 true σ P (k + 1) o w) d) F) (hnc : tr_nc r) (hlen : N.length + r.1.length ≤ 100000) (hr2 : ∀ σ1, tr_fr 27 19 true (k + 1) (k + 1 + tt_sz P) σ σ1 → ∀ d', tv_ak (tr_R (tr_S σ) 27 true σ1 (.inner s c u P Q) k o w) d' = tv_kk (tv_ak (tr_R (tr_S σ) 27 true σ1 P (k + 1) o w) d') F)
    (hg : ∀ σ1 N1 d1 v E, tr_B1 (.inner s c u P Q) k d N σ d1 N1 σ1 → tr_fr 27 19 true (k + 1) (k + 1 + tt_sz P) σ σ1 → tr_tz (.inner s c u P Q) k σ1 → r = tv_pre N1 (F v E d1) → σ1 27 6 = v → tr_R (tr_S σ) 27 true σ1 P (k + 1) o w = E → tr_z 19 σ1 → d1 = d + 1 → ∃ res σ' N2 d2, CONT σ1 = some (res, σ') ∧ tr_B1 (.inner s c u P Q) k d N σ d2 N2 σ' ∧ tr_tz (.inner s c u P Q) k σ' ∧ tr_o1 (tr_S σ) (.inner s c u P Q) k o w d σ σ' res r N2 d2) :
    ∃ res σ' N1 d1, ((G (nI (k + 1)) (nI (lv + 1)) σ).bind fun u => if u.1 = 2 then CONT u.2 else some (u.1, u.2)) = some (res, σ') ∧ tr_B1 (.inner s c u P Q) k d N σ d1 N1 σ' ∧ tr_tz (.inner s c u P Q) k σ' ∧ tr_o1 (tr_S σ) (.inner s c u P Q) k o w d σ σ' res r N1 d1 := by
  have hncP : tr_nc (tv_ak (tr_R (tr_S σ) 27 true σ P (k + 1) o w) d) := by rw [hr] at hnc; exact tr_nc_kk (N := []) hnc
  have hlenP : N.length + (tv_ak (tr_R (tr_S σ) 27 true σ P (k + 1) o w) d).1.length ≤ 100000 := by rw [hr] at hlen; exact tr_kkN hlen
  obtain ⟨res, σ1, N1, d1, g1, g2, g3, g4, g5⟩ := tr_call1 (T := .inner s c u P Q) (k := k) hG hpre.2.2.2.2.1 (hpre.kidP hP hx) hz.2.1 ⟨by omega, by simp only [tt_sz]; omega⟩ rfl hncP hlenP
  rw [g1]
  simp only [Option.bind_some]
  have htz := tr_tzP hz g3 g4
  by_cases h2 : res = 2
  · rw [if_pos h2]
    rcases g5 with ⟨-, ⟨v, E, f1, f2, f3⟩, f4, f5⟩ | ⟨f1, -⟩ | ⟨f1, -⟩ | ⟨f1, -⟩
    · exact hg σ1 N1 d1 v E g2 g3 htz (by rw [hr, f1]; rfl) f2 f3 f4 f5
    · rw [f1] at h2; exact absurd h2 (by decide)
    · rw [f1] at h2; exact absurd h2 (by decide)
    · rw [f1] at h2; exact absurd h2 (by decide)
  · rw [if_neg h2]
    exact ⟨res, σ1, N1, d1, rfl, g2, htz, tr_thru g5 h2 hr (hr2 σ1 g3) (tr_phP g3)⟩
noncomputable def tr_ct (k : Nat) (σ : sf_S) : Option (Int32 × sf_S) :=
  if sf_in (nI k) 40 then
      (if σ 2 (nI k).toNatClampNeg = 63 then
        (dX10_passes 27 (nI k) (σ 27 6) σ).bind fun u3 => if u3.1 = 0 then some ((1 : Int32), u3.2) else some ((2 : Int32), u3.2)
      else if σ 2 (nI k).toNatClampNeg = 100 then
        if sf_in (nI k) 40 then if sf_in (nI k) 40 then
            if (σ 28 (nI k).toNatClampNeg) < (σ 4 (nI k).toNatClampNeg) then
              if sf_in (nI k) 40 then if sf_in (nI k) 40 then
                  some ((1 : Int32), sf_up σ 28 (nI k).toNatClampNeg ((σ 28 (nI k).toNatClampNeg) + (1 : Int32)))
                else none else none
            else some ((2 : Int32), σ)
          else none else none
      else if σ 2 (nI k).toNatClampNeg = 107 then
        (dX10_passes 27 (nI k) (σ 27 6) σ).bind fun u5 => if u5.1 = 0 then some ((1 : Int32), u5.2) else some ((2 : Int32), u5.2)
      else if σ 2 (nI k).toNatClampNeg = 116 then
        if sf_in (nI k) 40 then if sf_in (nI k) 40 then
            some ((2 : Int32), sf_up σ 28 (nI k).toNatClampNeg ((σ 28 (nI k).toNatClampNeg) + (1 : Int32)))
          else none else none
      else if σ 2 (nI k).toNatClampNeg = 119 then
        (dX10_passes 27 (nI k) (σ 27 6) σ).bind fun u7 => if u7.1 = 0 then some ((0 : Int32), u7.2) else some ((2 : Int32), u7.2)
      else
        (dX10_change 27 (nI k) (σ 27 6) σ).bind fun u8 => dX8_given u8.1 u8.2)
    else none
theorem tr_one34 {G : Int32 → Int32 → sf_S → Option (Int32 × sf_S)} {k lv : Nat} {σ : sf_S} : dX8_stepOne_34 G (nI k) (nI lv) σ = ((G (nI (k + 1)) (nI (lv + 1)) σ).bind fun u => if u.1 = 2 then tr_ct k u.2 else some (u.1, u.2)) := by
  unfold dX8_stepOne_34 tr_ct
  simp only [nI_1, tr_b2]
theorem tr_stepUn {G : Int32 → Int32 → sf_S → Option (Int32 × sf_S)} {s : Nat} {c : tt_C} {u : Unit} {P Q : tt_T} (hG : tr_s1 G P) (hP : 1 ≤ tt_sz P) (hil : sc_il c.1 = true) (hc : c.1 = 37 ∨ c.1 = 42 ∨ c.1 = 43 ∨ c.1 = 47 ∨ c.1 = 108) : tr_s1 (dX8_step G) (.inner s c u P Q) := by
  intro k lv o w n d N σ r hpre hz hr hnc hlen
  have hnd := hpre.nd
  have hm := tr_m1
  have hik : sf_in (nI k) 40 = true := sc_inI (by have := hnd.1; have := hnd.2.2.1; omega) (by omega)
  have hcl := sc_cl (show k < 2 ^ 31 by have := hnd.1; have := hnd.2.2.1; omega)
  have hun : c.1 = 37 ∨ c.1 = 42 ∨ c.1 = 43 ∨ c.1 = 47 ∨ c.1 = 108 ∨ c.1 = 63 ∨ c.1 = 107 := by rcases hc with h | h | h | h | h <;> simp [h]
  have hdis : ∀ L : Int32, L ∈ ([63, 107, 99, 100, 116, 119, 120, 122] : List Int32) → ¬ c.1 = L := by
    rcases hc with h | h | h | h | h <;> rw [h] <;> decide
  have hp0 : ¬ sc_p c.1 = 0 := by rcases hc with h | h | h | h | h <;> rw [h] <;> decide +kernel
  rw [tr_in1 hnd (tr_lv hpre) hil, if_neg (hdis 99 (by decide)), if_neg (hdis 120 (by decide)), if_neg (hdis 122 (by decide)), if_neg hp0]
  unfold dX8_stepOne
  rw [if_pos hik, hcl, hnd.2.2.2.1, if_pos (hdis 116 (by decide)), tr_one34]
  have hRT : ∀ σ2 : sf_S, tr_R (tr_S σ) 27 true σ2 (.inner s c u P Q) k o w = tv_bnd (tt_op c o) (tr_R (tr_S σ) 27 true σ2 P (k + 1) o w) := fun σ2 => tr_R_un1 hun
  refine tr_one hG hP (hdis 120 (by decide)) hpre hz _ (tr_ct k) (by rw [hr, hRT, tv_ak_bnd]) hnc hlen (fun σ1 h1 d' => by rw [hRT, tv_ak_bnd]) ?_
  intro σ1 N1 d1 v E g2 g3 g4 er f2 f3 f4 f5
  have hnd1 := tr_nd1 hpre g2
  have hlen1 : N.length + N1.length ≤ 100000 := by
    rw [er] at hlen; simp only [tv_pre, List.length_append] at hlen; omega
  unfold tr_ct
  simp only [hik, if_true, hcl, hnd1.2.2.2.1, hdis 63 (by decide), hdis 100 (by decide), hdis 107 (by decide), hdis 116 (by decide), hdis 119 (by decide), if_false, f2]
  obtain ⟨res2, σ2, k1, k2⟩ := tr_change (q := 27) (rn := 19) rfl (by show 27 + 10 < 2000 ∧ 1 + 9 < 19 ∧ 19 + 3 < 27 ∨ 1 + 9 < 19 ∧ 19 + 3 < 27; omega) hnd1 hc g2.2.2.1 (by simp only [List.length_append]; omega) v
  rw [k1]
  simp only [Option.bind_some]
  have tzk : (∀ b, σ2 29 b = σ1 29 b) → tr_tz (.inner s c u P Q) k σ2 := fun h => tr_tz_congr _ _ (fun b _ _ => h b) g4
  have hub : (∀ b, σ2 28 b = σ1 28 b) → tr_ub 27 k (k + tt_sz (.inner s c u P Q)) d1 σ2 := fun hh b h1 h2 => by
    obtain ⟨y, y1, y2⟩ := g2.2.2.2.1 b h1 h2
    exact ⟨y, by rw [← y1]; exact hh b, y2⟩
  have hRk : (∀ a b, 28 ≤ a → a ≤ 31 → σ2 a b = σ1 a b) → tr_R (tr_S σ) 27 true σ2 (.inner s c u P Q) k o w = tv_bnd (tt_op c o) E := fun hh => by
    rw [hRT, tr_R_congr P (k + 1) o w (σ := σ1) (fun a b h1 h2 h3 h4 => hh a b (by omega) (by omega)), f3]
  have hvl : sf_vl 27 = 6 := rfl
  rcases k2 with ⟨v2, m1, rfl, m3, m4⟩ | ⟨x, m1, rfl, m3, m4, m5⟩ | ⟨m1, rfl, m3, m4, m5⟩
  · rw [hvl] at m3 m4
    refine ⟨2, σ2, N1, d1, by unfold dX8_given; rw [if_neg (by decide)], g2.step (fun a b hab => m4 a b (by omega)) (m4 _ _ (by omega)) (m4 _ _ (by omega)) (g2.2.2.1.kept fun a b hab => m4 a b (by omega)) (hub fun b => m4 _ _ (by omega)), tzk fun b => m4 _ _ (by omega), Or.inl ⟨rfl, ⟨v2, _, ?_, m3, hRk fun a b h1 h2 => m4 a b (by omega)⟩, tr_z_k f4 (fun b hb => m4 _ _ (by omega)), f5⟩⟩
    rw [er]; simp [m1, tv_ak, tv_pre]
  · rw [hvl] at m3 m5
    refine ⟨2, σ2, N1 ++ [(x, v)], d1, by unfold dX8_given; rw [if_neg (by decide)], g2.step (fun a b hab => m5 a b (by omega)) (m5 _ _ (by omega)) (m5 _ _ (by omega)) (by rw [← List.append_assoc]; exact m4) (hub fun b => m5 _ _ (by omega)), tzk fun b => m5 _ _ (by omega), Or.inl ⟨rfl, ⟨v, _, ?_, m3, hRk fun a b h1 h2 => m5 a b (by omega)⟩, tr_z_k f4 (fun b hb => m5 _ _ (by omega)), f5⟩⟩
    rw [er]; simp [m1, tv_ak, tv_pre]
  · rw [hvl] at m5
    refine ⟨3, σ2, N1, d1, ?_, g2.step (fun a b hab => m5 a b (by omega)) (m5 _ _ (by omega)) (m5 _ _ (by omega)) (g2.2.2.1.kept fun a b hab => m5 a b (by omega)) (hub fun b => m5 _ _ (by omega)), tzk fun b => m5 _ _ (by omega), Or.inr (Or.inr (Or.inr ⟨rfl, 1, o, ?_, m3, m4⟩))⟩
    · unfold dX8_given
      rw [if_pos rfl, tr_fail, m3]; rfl
    · rw [er]; simp [m1, tv_ak, tv_pre]
theorem tr_stepFl {G : Int32 → Int32 → sf_S → Option (Int32 × sf_S)} {s : Nat} {c : tt_C} {u : Unit} {P Q : tt_T} (hG : tr_s1 G P) (hP : 1 ≤ tt_sz P) (hil : sc_il c.1 = true) (hc : c.1 = 63 ∨ c.1 = 107) : tr_s1 (dX8_step G) (.inner s c u P Q) := by
  intro k lv o w n d N σ r hpre hz hr hnc hlen
  have hnd := hpre.nd
  have hik : sf_in (nI k) 40 = true := sc_inI (by have := hnd.1; have := hnd.2.2.1; omega) (by omega)
  have hcl := sc_cl (show k < 2 ^ 31 by have := hnd.1; have := hnd.2.2.1; omega)
  have hun : c.1 = 37 ∨ c.1 = 42 ∨ c.1 = 43 ∨ c.1 = 47 ∨ c.1 = 108 ∨ c.1 = 63 ∨ c.1 = 107 := by rcases hc with h | h <;> simp [h]
  have hdis : ∀ L : Int32, L ∈ ([99, 116, 120, 122] : List Int32) → ¬ c.1 = L := by
    rcases hc with h | h <;> rw [h] <;> decide
  have hp0 : ¬ sc_p c.1 = 0 := by rcases hc with h | h <;> rw [h] <;> decide +kernel
  rw [tr_in1 hnd (tr_lv hpre) hil, if_neg (hdis 99 (by decide)), if_neg (hdis 120 (by decide)), if_neg (hdis 122 (by decide)), if_neg hp0]
  unfold dX8_stepOne
  rw [if_pos hik, hcl, hnd.2.2.2.1, if_pos (hdis 116 (by decide)), tr_one34]
  have hRT : ∀ σ2 : sf_S, tr_R (tr_S σ) 27 true σ2 (.inner s c u P Q) k o w = tv_bnd (tt_op c o) (tr_R (tr_S σ) 27 true σ2 P (k + 1) o w) := fun σ2 => tr_R_un1 hun
  refine tr_one hG hP (hdis 120 (by decide)) hpre hz _ (tr_ct k) (by rw [hr, hRT, tv_ak_bnd]) hnc hlen (fun σ1 h1 d' => by rw [hRT, tv_ak_bnd]) ?_
  intro σ1 N1 d1 v E g2 g3 g4 er f2 f3 f4 f5
  have hnd1 := tr_nd1 hpre g2
  have hC : ∃ res, tr_ct k σ1 = some (res, σ1) ∧ (tt_ps c v = true ∧ res = 2 ∨ tt_ps c v = false ∧ res = 1) := by
    unfold tr_ct
    rw [if_pos hik, hcl, hnd1.2.2.2.1, f2, tr_ps (show tr_nd (sf_pl 27) n k c o σ1 from hnd1)]
    rcases hc with h | h <;> rw [h] <;> cases hps : tt_ps c v
    · exact ⟨1, rfl, Or.inr ⟨rfl, rfl⟩⟩
    · exact ⟨2, rfl, Or.inl ⟨rfl, rfl⟩⟩
    · exact ⟨1, rfl, Or.inr ⟨rfl, rfl⟩⟩
    · exact ⟨2, rfl, Or.inl ⟨rfl, rfl⟩⟩
  obtain ⟨res, hC1, hC2⟩ := hC
  have hR1 : tr_R (tr_S σ) 27 true σ1 (.inner s c u P Q) k o w = tv_bnd (tt_op c o) E := by rw [hRT, f3]
  rcases hC2 with ⟨hps, rfl⟩ | ⟨hps, rfl⟩
  · refine ⟨2, σ1, N1, d1, hC1, g2, g4, Or.inl ⟨rfl, ⟨v, _, ?_, f2, hR1⟩, f4, f5⟩⟩
    rw [er]; simp [tr_R_ps hc, hps, tv_ak, tv_pre]
  · refine ⟨1, σ1, N1, d1, hC1, g2, g4, Or.inr (Or.inl ⟨rfl, ?_, f4, Or.inl f5⟩)⟩
    rw [er, hR1]; simp [tr_R_ps hc, hps]
theorem tr_stepWh {G : Int32 → Int32 → sf_S → Option (Int32 × sf_S)} {s : Nat} {c : tt_C} {u : Unit} {P Q : tt_T} (hG : tr_s1 G P) (hP : 1 ≤ tt_sz P) (hil : sc_il c.1 = true) (hc : c.1 = 119) : tr_s1 (dX8_step G) (.inner s c u P Q) := by
  intro k lv o w n d N σ r hpre hz hr hnc hlen
  have hnd := hpre.nd
  have hm := tr_m1
  have hik : sf_in (nI k) 40 = true := sc_inI (by have := hnd.1; have := hnd.2.2.1; omega) (by omega)
  have hcl := sc_cl (show k < 2 ^ 31 by have := hnd.1; have := hnd.2.2.1; omega)
  rw [tr_in1 hnd (tr_lv hpre) hil, hc, if_neg (by decide), if_neg (by decide), if_neg (by decide), if_neg (by decide +kernel)]
  unfold dX8_stepOne
  rw [if_pos hik, hcl, hnd.2.2.2.1, hc, if_pos (by decide), tr_one34]
  have hRT : ∀ σ2 : sf_S, tr_R (tr_S σ) 27 true σ2 (.inner s c u P Q) k o w = if σ2 29 k = 0 then tv_tw (tt_ps c) (tr_R (tr_S σ) 27 true σ2 P (k + 1) o w) else [] := fun σ2 => by
    simp only [tr_R]; rw [hc]; rfl
  have h29 := hz.1 (Or.inr hc)
  refine tr_one hG hP (by rw [hc]; decide) hpre hz (fun v l d2 => if tt_ps c v = true then ([], d2, .inl (v, tv_tw (tt_ps c) l)) else ([], d2, .inr none)) (tr_ct k) (by rw [hr, hRT, if_pos h29, tv_ak_tw]) hnc hlen (fun σ1 h1 d' => by rw [hRT, h1 _ _ (by omega), if_pos h29, tv_ak_tw]) ?_
  intro σ1 N1 d1 v E g2 g3 g4 er f2 f3 f4 f5
  have hnd1 := tr_nd1 hpre g2
  unfold tr_ct
  simp only [hik, if_true, hcl, hnd1.2.2.2.1, hc, f2, tr_ps (show tr_nd (sf_pl 27) n k c o σ1 from hnd1)]
  have hR1 : tr_R (tr_S σ) 27 true σ1 (.inner s c u P Q) k o w = tv_tw (tt_ps c) E := by rw [hRT, if_pos (g4.1 (Or.inr hc)), f3]
  cases hps : tt_ps c v
  · refine ⟨0, σ1, N1, d1, rfl, g2, g4, Or.inr (Or.inr (Or.inl ⟨rfl, ?_, f4, Or.inl f5⟩))⟩
    rw [er]; simp [hps, tv_pre]
  · refine ⟨2, σ1, N1, d1, rfl, g2, g4, Or.inl ⟨rfl, ⟨v, _, ?_, f2, hR1⟩, f4, f5⟩⟩
    rw [er]; simp [hps, tv_pre]
