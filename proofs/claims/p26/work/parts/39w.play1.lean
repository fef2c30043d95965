/-! a run in the class's way 1 -/
theorem tv_rk_pre (N : List (Int32 × Int32)) (r : tv_A) (f : Int32 → tv_L → Nat → tv_R) : tv_rk (tv_pre N r) f = tv_rpre N (tv_rk r f) := by
  obtain ⟨M, d, o⟩ := r
  rcases o with ⟨v, l⟩ | z
  · simp [tv_rk, tv_pre, tv_rpre]
  · simp [tv_rk, tv_pre, tv_rpre]
theorem tr_play1L {T : tt_T} {n m : Nat} (hT : tt_wf T ∧ tt_sz T ≤ 40) (hm40 : m ≤ 40) : ∀ (μ t r j fuel d : Nat) (V : List Int32) (N : List (Int32 × Int32)) (σ : sf_S) (ρ : tv_R), t + μ = 20541 → μ < fuel → j + r = m → V.length = j → j ≤ t → t + tr_ph T 0 σ ≤ 41 * d + 40 → tr_pre 27 1 19 T 0 0 0 0 n d N σ → tr_tz T 0 σ → σ 19 1 = nI j → (∀ i v, V[i]? = some v → σ 20 i = v) → σ 19 3 = nI t → ρ = tv_rn r (tr_R (tr_S σ) 27 true σ T 0 0 0) d → (∀ b, ρ.2.2.2 ≠ some (0, b)) → N.length + ρ.2.1.length ≤ 100000 →
    ∃ σ', dX8_play_21 fuel (nI m) (nI t) σ = some σ' ∧ σ' 19 1 = nI (j + ρ.1.length) ∧ (∀ i v, (V ++ ρ.1)[i]? = some v → σ' 20 i = v) ∧ σ' 19 2 = nI ρ.2.2.1 ∧ tr_fo 19 σ' ρ.2.2.2 ∧ tr_N 19 (N ++ ρ.2.1) σ' ∧ (∃ a, σ' 19 3 = nI a ∧ j + ρ.1.length ≤ a ∧ a ≤ 30000) ∧ tr_pf 27 19 true σ σ' := by
  have hm3 := tr_m1
  intro μ
  induction μ with
  | zero =>
    intro t r j fuel d V N σ ρ ht hf hj hV hjt hinv hpre
    have := hpre.2.2.2.2.2.1.2
    omega
  | succ μ ih =>
    intro t r j fuel d V N σ ρ ht hf hj hV hjt hinv hpre hz h1 hres h3 hr hc hN
    obtain ⟨f, rfl⟩ : ∃ f, fuel = f + 1 := ⟨fuel - 1, by omega⟩
    have hd5 := hpre.2.2.2.2.2.1.2
    simp only [dX8_play_21]
    rw [if_neg (by rw [show (1000000 : Int32) = nI 1000000 from by decide +kernel]; exact nI_ge (by omega) (by omega)), h1]
    cases r with
    | zero =>
      have er : ρ = ([], [], d, none) := by rw [hr]; cases tr_R (tr_S σ) 27 true σ T 0 0 0 <;> rfl
      subst er
      rw [if_pos (nI_le (by omega) (by omega))]
      exact ⟨σ, rfl, h1, by rw [List.append_nil]; exact hres, hpre.2.2.2.2.2.1.1, hpre.2.2.2.2.2.2.1, by rw [List.append_nil]; exact hpre.2.2.2.2.2.2.2, ⟨t, h3, by simp only [List.length_nil]; omega, by omega⟩, fun _ _ _ => rfl⟩
    | succ r =>
      rw [if_neg (nI_ge (by omega) (by omega)), h3, nI_1]
      have hk : ∀ a b, ¬ (a = 19 ∧ b = 3) → sf_up σ 19 3 (nI (t + 1)) a b = σ a b := fun a b hab => if_neg hab
      have hpre0 : tr_pre 27 1 19 T 0 0 0 0 n d N (sf_up σ 19 3 (nI (t + 1))) := by
        refine hpre.same tr_q1 (fun a b hab => hk a b (by omega)) (fun b h1 h2 => ?_) ⟨by rw [hk _ _ (by omega)]; exact hpre.2.2.2.2.2.1.1, hd5⟩ (tr_z_k hpre.2.2.2.2.2.2.1 fun b hb => hk _ _ (by omega)) (hpre.2.2.2.2.2.2.2.kept fun a b hab => hk _ _ (by omega))
        obtain ⟨y, y1, y2⟩ := hpre.2.2.2.2.1 b h1 h2
        exact ⟨y, by rw [hk _ _ (by omega)]; exact y1, y2⟩
      have hS0 : tr_S (sf_up σ 19 3 (nI (t + 1))) = tr_S σ := tr_S_congr fun a b hab => hk a b (by omega)
      have hR0 : tr_R (tr_S σ) 27 true (sf_up σ 19 3 (nI (t + 1))) T 0 0 0 = tr_R (tr_S σ) 27 true σ T 0 0 0 := tr_R_congr T 0 0 0 fun a b h1 h2 h3 h4 => hk a b (by omega)
      have hz0 : tr_tz T 0 (sf_up σ 19 3 (nI (t + 1))) := tr_tz_congr T 0 (fun b _ _ => hk _ _ (by omega)) hz
      have hp0 : tr_ph T 0 (sf_up σ 19 3 (nI (t + 1))) = tr_ph T 0 σ := tr_ph_congr T 0 fun b _ _ => hk _ _ (by omega)
      rw [tv_rn_ak, ← hR0] at hr
      generalize hrA : tv_ak (tr_R (tr_S σ) 27 true (sf_up σ 19 3 (nI (t + 1))) T 0 0 0) d = rA at hr
      have hncA : tr_nc rA ∧ N.length + rA.1.length ≤ 100000 := by
        obtain ⟨N1, d1, o1⟩ := rA
        rcases o1 with ⟨v, l⟩ | z
        · refine ⟨fun b h => (by cases h), ?_⟩
          rw [hr] at hN
          simp only [tv_rk, tv_rpre, List.length_append] at hN
          show N.length + N1.length ≤ 100000
          omega
        · rw [hr] at hc hN
          exact ⟨fun b h => hc b (by cases h; rfl), hN⟩
      obtain ⟨res, σ1, N1, d1, g1, g2, g3, g4⟩ := tr_step 42 T (by omega) hT.1 0 0 0 0 n d N _ rA hpre0 hz0 (by rw [hS0]; exact hrA.symm) hncA.1 hncA.2
      rw [hS0] at g4
      have hS1 : tr_S σ1 = tr_S σ := (tr_S_fr tr_q1 g2.1).trans hS0
      have hpf : tr_pf 27 19 true σ σ1 := tr_pf_tr (fun a b hab => hk a b (by omega)) (tr_pf_fr g2.1)
      have h11 : σ1 19 1 = nI j := by rw [g2.1 _ _ (by omega), hk _ _ (by omega)]; exact h1
      have hres1 : ∀ i v, V[i]? = some v → σ1 20 i = v := fun i v hv => by rw [g2.1 _ _ (by omega), hk _ _ (by omega)]; exact hres i v hv
      have h31 : σ1 19 3 = nI (t + 1) := by rw [g2.2.2.2.2, sc_upS]
      have hph := tr_ph_le (σ := σ1) T 0
      have hd := g2.2.1
      rw [sc_0, g1]
      simp only [Option.bind_some]
      rcases g4 with ⟨rfl, ⟨v, E, f1, f2, f3⟩, f4, f5⟩ | ⟨rfl, f1, f2, f3⟩ | ⟨rfl, f1, f2, -⟩ | ⟨rfl, x, y, f1, f2, f3⟩
      · rw [if_neg (by rw [← sc_0]; decide), if_pos (by decide), if_neg (by simp), f2, tr_give h11 (by omega)]
        simp only [Option.bind_some]
        have er : ρ = tv_rpre N1 (v :: (tv_rn r E d1).1, (tv_rn r E d1).2) := by rw [hr, f1]; rfl
        have hp1 := (tr_pre_B1 hpre0 g2 f4).give (j := j) (v := v) (x := nI (j + 1)) tr_q1
        have hf2 : ∀ a b, ¬ (a = 19 ∧ b = 1) → ¬ (a = 20) → sf_up (sf_up σ1 (19 + 1) j v) 19 1 (nI (j + 1)) a b = σ1 a b := fun a b h1 h2 => by
          have g2 : ¬ (a = 19 + 1 ∧ b = j) := by omega
          exact (if_neg h1).trans (if_neg g2)
        have hR2 : tr_R (tr_S (sf_up (sf_up σ1 (19 + 1) j v) 19 1 (nI (j + 1)))) 27 true (sf_up (sf_up σ1 (19 + 1) j v) 19 1 (nI (j + 1))) T 0 0 0 = E := by
          rw [tr_S_congr (σ := σ1) fun a b hab => hf2 a b (by omega) (by omega), hS1, tr_R_congr T 0 0 0 (σ := σ1) fun a b h1 h2 h3 h4 => hf2 a b (by omega) (by omega)]
          exact f3
        obtain ⟨σ', k1, k2, k3, k4, k5, k6, k7, k8⟩ := ih (t + 1) r (j + 1) f d1 (V ++ [v]) (N ++ N1) (sf_up (sf_up σ1 (19 + 1) j v) 19 1 (nI (j + 1))) (tv_rn r E d1) (by omega) (by omega) (by omega) (by simp [hV]) (by omega) (by rw [tr_ph_congr T 0 (σ := σ1) fun b _ _ => hf2 _ _ (by omega) (by omega)]; omega) hp1 (tr_tz_congr T 0 (fun b _ _ => hf2 _ _ (by omega) (by omega)) g3) sc_upS (tr_vals (W := []) (f := fun i => σ1 20 i) hres1 (fun i hi => by rw [sc_upK (by omega), sc_upJ (by omega)]) (by rw [sc_upK (by omega), hV, sc_upS])) (by rw [hf2 _ _ (by omega) (by omega)]; exact h31) (by rw [hR2]) (by rw [er] at hc; exact hc) (by rw [er] at hN; simp only [tv_rpre, List.length_append] at hN ⊢; omega)
        rw [k1, er]
        refine ⟨σ', rfl, ?_, ?_, k4, k5, by simp only [tv_rpre]; rw [← List.append_assoc]; exact k6, ?_, tr_pf_tr hpf (tr_pf_tr (fun a b hab => hf2 a b (by omega) (by omega)) k8)⟩
        · rw [k2]; simp only [tv_rpre, List.length_cons]; congr 1; omega
        · simp only [tv_rpre]
          intro i z hz
          exact k3 i z (by rw [List.append_assoc]; exact hz)
        · obtain ⟨a, a1, a2, a3⟩ := k7
          exact ⟨a, a1, by simp only [tv_rpre, List.length_cons]; omega, a3⟩
      · rw [if_neg (by rw [← sc_0]; decide), if_pos (by decide), if_pos (by decide)]
        have er : ρ = tv_rpre N1 (tv_rn (r + 1) (tr_R (tr_S σ) 27 true σ1 T 0 0 0) d1) := by rw [hr, f1, tv_rk_pre, tv_rn_ak]
        obtain ⟨σ', k1, k2, k3, k4, k5, k6, k7, k8⟩ := ih (t + 1) (r + 1) j f d1 V (N ++ N1) σ1 (tv_rn (r + 1) (tr_R (tr_S σ) 27 true σ1 T 0 0 0) d1) (by omega) (by omega) hj hV (by omega) (by omega) (tr_pre_B1 hpre0 g2 f2) g3 h11 hres1 h31 (by rw [hS1]) (by rw [er] at hc; exact hc) (by rw [er] at hN; simp only [tv_rpre, List.length_append] at hN ⊢; omega)
        rw [k1, er]
        exact ⟨σ', rfl, k2, k3, k4, k5, by simp only [tv_rpre]; rw [← List.append_assoc]; exact k6, k7, tr_pf_tr hpf k8⟩
      · rw [if_pos (by rw [← sc_0])]
        have er : ρ = ([], N1, d1, none) := by rw [hr, f1]; rfl
        subst er
        exact ⟨σ1, rfl, h11, by rw [List.append_nil]; exact hres1, hd.1, f2, g2.2.2.1, ⟨t + 1, h31, by simp only [List.length_nil]; omega, by omega⟩, hpf⟩
      · rw [if_neg (by rw [← sc_0]; decide), if_neg (by simp)]
        have er : ρ = ([], N1, d1, some (x, y)) := by rw [hr, f1]; rfl
        subst er
        exact ⟨σ1, rfl, h11, by rw [List.append_nil]; exact hres1, hd.1, ⟨f2, f3⟩, g2.2.2.1, ⟨t + 1, h31, by simp only [List.length_nil]; omega, by omega⟩, hpf⟩
theorem tr_play1 {T : tt_T} {m : Nat} {σ : sf_S} (hT : tr_T T) (hm : m ≤ 40) (hM : tk_M 1 T σ) (hS : tr_Sh σ) : ∃ σ', dX8_play (nI m) σ = some σ' ∧ tr_res 19 (tv_rn m (tt_sem (tr_S σ) T 0 0) 0) σ' ∧ tr_pf 27 19 true σ σ' := by
  have hF := sf_F_le
  obtain ⟨s, s1, s2, s3, s4, s5, s6, s7, s8⟩ := tr_first tr_q1 hT hM hS
  obtain ⟨h1, h2, h3⟩ := tt_sem_rn (S := tr_S σ) (m := m) hT.2.2.2
  have hph := tr_ph_le (σ := tr_rs 27 0 (tt_sz T) s) T 0
  have hT40 := hT.2.2.2
  obtain ⟨σ', k1, k2, k3, k4, k5, k6, ⟨a, k7, k8, k9⟩, k10⟩ := tr_play1L ⟨hT.1, hT.2.2.2⟩ hm 20541 0 m 0 sf_F 0 [] [] _ _ (by omega) (by omega) (by omega) rfl (by omega) (by omega) s3 (tr_tz_zero T 0 fun b h1 h2 => by unfold tr_rs; exact if_pos ⟨Or.inr rfl, h1, by omega⟩) s6 (fun i v h => by cases h) s7 rfl (by rw [s4, s5]; exact h1) (by rw [s4, s5]; simp; omega)
  rw [s4, s5] at k2 k3 k4 k5 k6 k8
  unfold dX8_play
  rw [s1]
  simp only [Option.bind_some]
  rw [show (1 : Nat) = sf_pl 27 from rfl, s2]
  simp only [Option.bind_some]
  rw [sc_0, k1]
  rw [Nat.zero_add] at k2 k8
  have hm3 := tr_m1
  have hm2 : tr_m false = 3 := rfl
  exact ⟨σ', rfl, ⟨k2, k3, k4, k5, k6, a, k7, k8, by omega⟩, tr_pf_tr (fun x y hxy => s8 x y (by omega)) k10⟩
