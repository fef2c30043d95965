/-! a run in the class's way 0 -/
def tr_pf (q rn : Nat) (wy : Bool) (σ σ' : sf_S) : Prop := ∀ a b, ¬ ((a = q ∧ b = 6) ∨ (q + 1 ≤ a ∧ a ≤ q + tr_m wy) ∨ a = rn ∨ a = rn + 1 ∨ a = rn + 2 ∨ a = rn + 3) → σ' a b = σ a b
theorem tr_pf_tr {q rn : Nat} {wy : Bool} {a b c : sf_S} (h1 : tr_pf q rn wy a b) (h2 : tr_pf q rn wy b c) : tr_pf q rn wy a c := fun x y h => (h2 x y h).trans (h1 x y h)
theorem tr_pf_fr {q rn : Nat} {wy : Bool} {k e : Nat} {σ σ' : sf_S} (h : tr_fr q rn wy k e σ σ') : tr_pf q rn wy σ σ' := fun x y hxy => h x y (by omega)
/-- what a run leaves -/
def tr_res (rn : Nat) (R : tv_R) (σ' : sf_S) : Prop := σ' rn 1 = nI R.1.length ∧ (∀ i v, R.1[i]? = some v → σ' (rn + 1) i = v) ∧ σ' rn 2 = nI R.2.2.1 ∧ tr_fo rn σ' R.2.2.2 ∧ tr_N rn R.2.1 σ' ∧ ∃ A, σ' rn 3 = nI A ∧ R.1.length ≤ A ∧ A ≤ 1000000
theorem tt_al_le : ∀ T : tt_T, tt_al T ≤ tt_sz T * tt_sz T
  | .leaf => Nat.le_refl _
  | .inner _ _ _ P Q => by
    have h1 := tt_al_le P
    have h2 := tt_al_le Q
    simp only [tt_al, tt_sz, Nat.add_mul, Nat.mul_add, Nat.mul_one, Nat.one_mul]
    omega
theorem tt_al_1600 {T : tt_T} (h : tt_sz T ≤ 40) : tt_al T ≤ 1600 := Nat.le_trans (tt_al_le T) (Nat.mul_le_mul h h)
/-- the state after an answer -/
theorem tr_pre_post {q pl rn : Nat} {T : tt_T} {k lv : Nat} {o w : Int32} {n d : Nat} {N : List (Int32 × Int32)} {σ σ' : sf_S} {res : Int32} {r : tv_A} (hq : tr_q q pl rn) (h : tr_pre q pl rn T k lv o w n d N σ) (hp : tr_post q rn T k o w d N σ σ' res r) (hz : tr_z rn σ') : tr_pre q pl rn T k lv o w n r.2.1 (N ++ r.1) σ' := by
  have hs := tr_sep hq
  have hm : tr_m false = 3 := rfl
  obtain ⟨b1, b2, b3, b4, -⟩ := hp
  exact h.same hq (fun x y hxy => b1 x y (by omega)) b4 ⟨b2.1, b2.2.2⟩ hz b3
/-- a number is given -/
theorem tr_give {rn j : Nat} {v : Int32} {σ : sf_S} (h : σ rn 1 = nI j) (hj : j < 40) : dX6_give rn v σ = some (sf_up (sf_up σ (rn + 1) j v) rn 1 (nI (j + 1))) := by
  unfold dX6_give
  rw [h, show (40 : Int32) = nI 40 from by decide +kernel, if_pos (nI_lt hj (by omega))]
  simp only [sc_inI hj (by omega : 40 ≤ 10000), if_true, sc_cl (show j < 2 ^ 31 by omega), sc_upK (show rn ≠ rn + 1 by omega), h, nI_1]
theorem tr_pre.give {q pl rn : Nat} {T : tt_T} {k lv : Nat} {o w : Int32} {n d j : Nat} {N : List (Int32 × Int32)} {v x : Int32} {σ : sf_S} (hq : tr_q q pl rn) (h : tr_pre q pl rn T k lv o w n d N σ) : tr_pre q pl rn T k lv o w n d N (sf_up (sf_up σ (rn + 1) j v) rn 1 x) := by
  have hs := tr_sep hq
  have hf : ∀ a b, ¬ ((a = rn ∧ b = 1) ∨ a = rn + 1) → sf_up (sf_up σ (rn + 1) j v) rn 1 x a b = σ a b := fun a b hab => by
    have g1 : ¬ (a = rn ∧ b = 1) := by omega
    have g2 : ¬ (a = rn + 1 ∧ b = j) := by omega
    exact (if_neg g1).trans (if_neg g2)
  obtain ⟨⟨a1, a2, a3, a4⟩, a5, ⟨wi, b, a6, a7⟩, a8, a9, ⟨b1, b2⟩, b3, b4⟩ := h
  refine ⟨⟨a1, by rw [hf _ _ (by omega)]; exact a2, a3, a4⟩, a5, ⟨wi, b, a6.kept fun x y h1 h2 => hf _ _ (by omega), a7.kept fun x hx => hf _ _ (by omega)⟩, a8.kept fun x y hx => hf _ _ (by omega), fun b h1 h2 => ?_, ⟨by rw [hf _ _ (by omega)]; exact b1, b2⟩, tr_z_k b3 fun b hb => hf _ _ (by omega), b4.kept fun a b hab => hf _ _ (by omega)⟩
  obtain ⟨y, y1, y2⟩ := a9 b h1 h2
  exact ⟨y, by rw [hf _ _ (by omega)]; exact y1, y2⟩
theorem tr_vals {V W : List Int32} {v : Int32} {f g : Nat → Int32} (h : ∀ i z, V[i]? = some z → f i = z) (hg : ∀ i, i ≠ V.length → g i = f i) (hv : g V.length = v) : ∀ i z, (V ++ [v])[i]? = some z → g i = z := by
  intro i z hz
  by_cases e : i < V.length
  · rw [List.getElem?_append_left e] at hz
    rw [hg i (by omega)]; exact h i z hz
  · rw [List.getElem?_append_right (by omega)] at hz
    by_cases e2 : i = V.length
    · subst e2
      rw [Nat.sub_self] at hz
      cases hz; exact hv
    · rw [List.getElem?_eq_none (by simp; omega)] at hz
      cases hz
theorem tr_playL {q pl rn : Nat} {T : tt_T} {n m : Nat} (hq : tr_q q pl rn) (hT : tt_wf T ∧ tt_sz T ≤ 40) (hm40 : m ≤ 40) : ∀ (r j fuel d A : Nat) (V : List Int32) (N : List (Int32 × Int32)) (σ : sf_S) (ρ : tv_R), j + r = m → r < fuel → V.length = j → tr_pre q pl rn T 0 0 0 0 n d N σ → σ rn 1 = nI j → (∀ i v, V[i]? = some v → σ (rn + 1) i = v) → σ rn 3 = nI A → ρ = tv_rn r (tr_R (tr_S σ) q false σ T 0 0 0) d → (∀ b, ρ.2.2.2 ≠ some (0, b)) → N.length + ρ.2.1.length ≤ 100000 →
    ∃ σ', dX0_play_21 q fuel (nI m) (nI j) σ = some σ' ∧ σ' rn 1 = nI (j + ρ.1.length) ∧ (∀ i v, (V ++ ρ.1)[i]? = some v → σ' (rn + 1) i = v) ∧ σ' rn 2 = nI ρ.2.2.1 ∧ tr_fo rn σ' ρ.2.2.2 ∧ tr_N rn (N ++ ρ.2.1) σ' ∧ (∃ a, σ' rn 3 = nI (A + a) ∧ ρ.1.length ≤ a ∧ a ≤ tt_al T * (ρ.2.2.1 - d) + tt_sz T * r) ∧ tr_pf q rn false σ σ' := by
  have hs := tr_sep hq
  obtain ⟨e1, e2, e3, e4⟩ := hq.eqs
  have hm3 : tr_m false = 3 := rfl
  intro r
  induction r with
  | zero =>
    intro j fuel d A V N σ ρ hj hf hV hpre h1 hres h3 hr hc hN
    obtain ⟨f, rfl⟩ : ∃ f, fuel = f + 1 := ⟨fuel - 1, by omega⟩
    have er : ρ = ([], [], d, none) := by rw [hr]; cases tr_R (tr_S σ) q false σ T 0 0 0 <;> rfl
    subst er
    simp only [dX0_play_21]
    rw [if_pos (nI_le (by omega) (by omega))]
    refine ⟨σ, rfl, h1, by rw [List.append_nil]; exact hres, hpre.2.2.2.2.2.1.1, hpre.2.2.2.2.2.2.1, by rw [List.append_nil]; exact hpre.2.2.2.2.2.2.2, ⟨0, h3, Nat.le_refl _, Nat.zero_le _⟩, fun _ _ _ => rfl⟩
  | succ r ih =>
    intro j fuel d A V N σ ρ hj hf hV hpre h1 hres h3 hr hc hN
    obtain ⟨f, rfl⟩ : ∃ f, fuel = f + 1 := ⟨fuel - 1, by omega⟩
    rw [tv_rn_ak] at hr
    generalize hrA : tv_ak (tr_R (tr_S σ) q false σ T 0 0 0) d = rA at hr
    have hncA : tr_nc rA ∧ N.length + rA.1.length ≤ 100000 := by
      obtain ⟨N1, d1, o1⟩ := rA
      rcases o1 with ⟨v, l⟩ | z
      · refine ⟨fun b h => (by cases h), ?_⟩
        rw [hr] at hN
        simp only [tv_rk, tv_rpre, List.length_append] at hN
        show N.length + N1.length ≤ 100000
        omega
      · rw [hr] at hc hN
        exact ⟨fun b h => hc b (by cases h; rfl), hN⟩
    obtain ⟨res, σ1, g1, g2⟩ := tr_ask hq 42 T (by omega) hT.1 0 0 0 0 n d N σ rA hpre hrA.symm hncA.1 hncA.2
    have hS1 : tr_S σ1 = tr_S σ := tr_S_fr hq g2.1
    obtain ⟨a, a1, a2, a3⟩ := g2.2.2.2.2.1
    simp only [dX0_play_21]
    rw [if_neg (nI_ge (by omega) (by omega)), sc_0, g1]
    simp only [Option.bind_some]
    obtain ⟨N1, d1, o1⟩ := rA
    have hd := g2.2.1
    simp only at hd a3
    rcases tr_outs g2.2.2.2.2.2 with ⟨v, l, f1, f2, f3, f4, f5, f6⟩ | ⟨z, f1, f2, f3⟩
    · simp only at f1; subst f1; subst f2
      have hp1 := tr_pre_post hq hpre g2 f5
      have h11 : σ1 rn 1 = nI j := by rw [g2.1 _ _ (by omega)]; exact h1
      rw [if_neg (by rw [← sc_0]; decide), e2, e3, f3, tr_give h11 (by omega)]
      simp only [Option.bind_some]
      have er : ρ = tv_rpre N1 (v :: (tv_rn r l d1).1, (tv_rn r l d1).2) := hr
      have hR2 : tr_R (tr_S (sf_up (sf_up σ1 (rn + 1) j v) rn 1 (nI (j + 1)))) q false (sf_up (sf_up σ1 (rn + 1) j v) rn 1 (nI (j + 1))) T 0 0 0 = l := by
        rw [tr_S_congr (σ := σ1) fun a b hab => by rw [sc_upK (by omega), sc_upK (by omega)], hS1, tr_R_congr T 0 0 0 (σ := σ1) fun a b h1 h2 h3 h4 => by rw [sc_upK (by omega), sc_upK (by omega)]]
        exact f4
      obtain ⟨σ', k1, k2, k3, k4, k5, k6, ⟨a', k7, k8, k9⟩, k10⟩ := ih (j + 1) f d1 (A + a) (V ++ [v]) (N ++ N1) (sf_up (sf_up σ1 (rn + 1) j v) rn 1 (nI (j + 1))) (tv_rn r l d1) (by omega) (by omega) (by simp [hV]) (hp1.give hq) sc_upS (tr_vals (W := []) (f := fun i => σ1 (rn + 1) i) (fun i z hz => by rw [g2.1 _ _ (by omega)]; exact hres i z hz) (fun i hi => by rw [sc_upK (by omega), sc_upJ (by omega)]) (by rw [sc_upK (by omega), hV, sc_upS])) (by rw [sc_upJ (by omega), sc_upK (by omega), a1, h3, nI_add]) (by rw [hR2]) (by rw [er] at hc; exact hc) (by rw [er] at hN; simp only [tv_rpre, List.length_append] at hN ⊢; omega)
      have hd2 := tv_rn_d l r d1 hd.2.2
      rw [nI_1, k1]
      rw [er]
      refine ⟨σ', rfl, ?_, ?_, k4, k5, by simp only [tv_rpre]; rw [← List.append_assoc]; exact k6, ⟨a + a', by rw [k7]; congr 1; omega, ?_, ?_⟩, tr_pf_tr (tr_pf_fr g2.1) (tr_pf_tr (fun x y hxy => by rw [sc_upK (by omega), sc_upK (by omega)]) k10)⟩
      · rw [k2]; simp only [tv_rpre, List.length_cons]; congr 1; omega
      · simp only [tv_rpre]
        intro i z hz
        exact k3 i z (by rw [List.append_assoc]; exact hz)
      · simp only [tv_rpre, List.length_cons]; omega
      · simp only [tv_rpre]
        generalize (tv_rn r l d1).2.2.1 = D at k9 hd2
        obtain ⟨y', rfl⟩ : ∃ y', d1 = d + y' := ⟨d1 - d, by omega⟩
        obtain ⟨z', rfl⟩ : ∃ z', D = d + y' + z' := ⟨D - (d + y'), by omega⟩
        rw [show d + y' + z' - d = y' + z' by omega]
        rw [show d + y' - d = y' by omega] at a3
        rw [show d + y' + z' - (d + y') = z' by omega] at k9
        simp only [Nat.mul_add, Nat.mul_one]
        omega
    · simp only at f1; subst f1; subst f2
      rw [if_pos (by rw [← sc_0])]
      have er : ρ = ([], N1, d1, z) := hr
      subst er
      refine ⟨σ1, rfl, ?_, ?_, hd.1, f3, g2.2.2.1, ⟨a, by rw [a1, h3, nI_add], Nat.zero_le _, ?_⟩, tr_pf_fr g2.1⟩
      · rw [g2.1 _ _ (by omega)]; exact h1
      · rw [List.append_nil]
        intro i v hv
        rw [g2.1 _ _ (by omega)]; exact hres i v hv
      · simp only [Nat.mul_add, Nat.mul_one] at *; omega
/-- the plan that runs are made of -/
def tr_T (T : tt_T) : Prop := tt_wf T ∧ tt_nw T ∧ tt_dw T ≤ 100000 ∧ tt_sz T ≤ 40
theorem tr_begin {rn : Nat} {σ : sf_S} : ∃ s, dX6_begin rn σ = some s ∧ s rn 1 = 0 ∧ s rn 2 = 0 ∧ s rn 3 = 0 ∧ tr_z rn s ∧ s rn 9 = 0 ∧ ∀ a b, a ≠ rn → s a b = σ a b := by
  unfold dX6_begin
  refine ⟨_, rfl, ?_, ?_, ?_, ⟨?_, ?_⟩, ?_, fun a b hab => ?_⟩
  all_goals simp (disch := omega) only [sc_upJ, sc_upS, sc_upK]
/-- the beginning of a run -/
theorem tr_first {q pl rn : Nat} {T : tt_T} {σ : sf_S} (hq : tr_q q pl rn) (hT : tr_T T) (hM : tk_M pl T σ) (hS : tr_Sh σ) : ∃ s, dX6_begin rn σ = some s ∧ dX9_restart q (0 : Int32) (s (sf_pl q) 4) s = some (tr_rs q 0 (tt_sz T) s) ∧ tr_pre q pl rn T 0 0 0 0 (tt_sz T) 0 [] (tr_rs q 0 (tt_sz T) s) ∧ tr_S (tr_rs q 0 (tt_sz T) s) = tr_S σ ∧ (∀ wy S, tr_R S q wy (tr_rs q 0 (tt_sz T) s) T 0 0 0 = tt_sem S T 0 0) ∧ tr_rs q 0 (tt_sz T) s rn 1 = nI 0 ∧ tr_rs q 0 (tt_sz T) s rn 3 = nI 0 ∧ tr_pf q rn false σ (tr_rs q 0 (tt_sz T) s) := by
  have hs := tr_sep hq
  obtain ⟨e1, e2, e3, e4⟩ := hq.eqs
  obtain ⟨t1, t2, t3, t4⟩ := hT
  obtain ⟨s, s1, s2, s3, s4, s5, s6, s7⟩ := tr_begin (rn := rn) (σ := σ)
  have h4 : s pl 4 = nI (tt_sz T) := by rw [s7 _ _ (by omega), hM.1.1, tt_fl_len]
  have hf : ∀ a b, ¬ (a = q + 1 ∨ a = q + 2) → tr_rs q 0 (tt_sz T) s a b = s a b := fun a b hab => by
    unfold tr_rs; rw [if_neg (by omega)]
  have hf2 : ∀ a b, ¬ (a = q + 1 ∨ a = q + 2 ∨ a = rn) → tr_rs q 0 (tt_sz T) s a b = σ a b := fun a b hab => by
    rw [hf a b (by omega), s7 _ _ (by omega)]
  refine ⟨s, s1, ?_, ?_, tr_S_congr fun a b hab => hf2 a b (by omega), fun wy S => tr_R_fresh T 0 0 0 fun b h1 h2 => ?_, by rw [hf _ _ (by omega), s2, sc_0], by rw [hf _ _ (by omega), s4, sc_0], fun a b hab => hf2 a b (by have hm3 : tr_m false = 3 := rfl; omega)⟩
  · rw [e1, h4, sc_0]
    exact tr_restart (n := tt_sz T) t4 (Nat.le_refl _) (Nat.zero_le _) (by rw [e1]; omega) (by rw [e1]; exact h4)
  · refine ⟨⟨t4, by rw [hf _ _ (by omega)]; exact h4, by omega, by omega⟩, ⟨t1, t2, t3⟩, ⟨0, -1, hM.2.1.kept fun x y h1 h2 => hf2 x y (by omega), Or.inl ⟨rfl, rfl⟩⟩, hS.kept fun x y hx => hf2 x y (by omega), fun b h1 h2 => ⟨0, ?_, by omega⟩, ⟨by rw [hf _ _ (by omega), s3, sc_0], by omega⟩, tr_z_k s5 fun b hb => hf _ _ (by omega), ⟨by rw [hf _ _ (by omega), s6]; rfl, fun j a v hj => by cases hj⟩⟩
    unfold tr_rs
    rw [if_pos ⟨Or.inl rfl, h1, by omega⟩, sc_0]
  · unfold tr_rs
    exact ⟨if_pos ⟨Or.inl rfl, h1, by omega⟩, if_pos ⟨Or.inr rfl, h1, by omega⟩⟩
/-- what the list of a plan gives -/
theorem tt_sem_rn {S : tt_S} {T : tt_T} {m : Nat} (hz : tt_sz T ≤ 40) : (∀ b, (tv_rn m (tt_sem S T 0 0) 0).2.2.2 ≠ some (0, b)) ∧ (tv_rn m (tt_sem S T 0 0) 0).2.1.length ≤ 20000 ∧ (tv_rn m (tt_sem S T 0 0) 0).2.2.1 ≤ 500 := by
  obtain ⟨h1, h2⟩ := tv_gd_rn (m := m) (d := 0) (tt_gd S T 0 0) (Nat.le_refl _) (by omega)
  have h3 := (tv_rn_d (tt_sem S T 0 0) m 0 (by omega)).2
  refine ⟨fun b e => ?_, ?_, h3⟩
  · rw [e] at h2
    rcases h2 with h | ⟨h, -⟩ | ⟨x, y, h, hx⟩
    · cases h
    · cases h
    · cases h; rcases hx with h | h <;> cases h
  · have : tt_sz T * (tv_rn m (tt_sem S T 0 0) 0).2.2.1 ≤ 40 * 500 := Nat.mul_le_mul hz h3
    omega
theorem tr_play {q pl rn : Nat} {T : tt_T} {m : Nat} {σ : sf_S} (hq : tr_q q pl rn) (hT : tr_T T) (hm : m ≤ 40) (hM : tk_M pl T σ) (hS : tr_Sh σ) : ∃ σ', dX0_play q (nI m) σ = some σ' ∧ tr_res rn (tv_rn m (tt_sem (tr_S σ) T 0 0) 0) σ' ∧ tr_pf q rn false σ σ' := by
  have hF := sf_F_le
  obtain ⟨e1, e2, e3, e4⟩ := hq.eqs
  obtain ⟨s, s1, s2, s3, s4, s5, s6, s7, s8⟩ := tr_first hq hT hM hS
  obtain ⟨h1, h2, h3⟩ := tt_sem_rn (S := tr_S σ) (m := m) hT.2.2.2
  obtain ⟨σ', k1, k2, k3, k4, k5, k6, ⟨a, k7, k8, k9⟩, k10⟩ := tr_playL hq ⟨hT.1, hT.2.2.2⟩ hm m 0 sf_F 0 0 [] [] _ _ (by omega) (by omega) rfl s3 s6 (fun i v h => by cases h) s7 rfl (by rw [s4, s5]; exact h1) (by rw [s4, s5]; simp; omega)
  rw [s4, s5] at k2 k3 k4 k5 k6 k8 k9
  unfold dX0_play
  rw [e2, s1]
  simp only [Option.bind_some]
  rw [s2]
  simp only [Option.bind_some]
  rw [sc_0, k1]
  rw [Nat.zero_add] at k2 k7
  refine ⟨σ', rfl, ⟨k2, k3, k4, k5, k6, a, k7, k8, ?_⟩, tr_pf_tr s8 k10⟩
  have g1 := tt_al_1600 hT.2.2.2
  have g2 : tt_al T * ((tv_rn m (tt_sem (tr_S σ) T 0 0) 0).2.2.1 - 0) ≤ 1600 * 500 := Nat.mul_le_mul g1 (by omega)
  have g3 : tt_sz T * m ≤ 40 * 40 := Nat.mul_le_mul hT.2.2.2 hm
  omega
