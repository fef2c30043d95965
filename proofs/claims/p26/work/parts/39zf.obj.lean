/-! the object: a plan, its text, its sheets -/
noncomputable abbrev tp_X (T : tt_T) : List Int32 := tp_tx (tt_fl T)
def tp_O (T : tt_T) (S : tt_S) (σ : sf_S) : Prop := tk_M 1 T σ ∧ tr_Sh σ ∧ tr_S σ = S ∧ σ 11 2 = nI (min 400 (tp_X T).length) ∧ ∀ i x, i < 400 → (tp_X T)[i]? = some x → σ 12 i = tp_nar x
theorem tp_O.kept {T : tt_T} {S : tt_S} {σ σ' : sf_S} (h : tp_O T S σ) (h1 : ∀ a b, (a ≤ 12 ∨ a = 17 ∨ a = 18) → σ' a b = σ a b) : tp_O T S σ' := by
  obtain ⟨a1, a2, a3, a4, a5⟩ := h
  exact ⟨a1.kept fun a b hab => h1 a b (by omega), a2.kept fun a b hab => h1 a b (by omega), (tr_S_congr fun a b hab => h1 a b (by omega)).trans a3, by rw [h1 _ _ (by omega)]; exact a4, fun i x hi hx => by rw [h1 _ _ (by omega)]; exact a5 i x hi hx⟩
theorem tp_O.n {T : tt_T} {S : tt_S} {σ : sf_S} (h : tp_O T S σ) (hT : tt_wf T ∧ tt_sz T ≤ 40) : σ 1 4 = nI (tt_sz T) ∧ ¬ σ 1 4 = 0 := by
  have h1 : σ 1 4 = nI (tt_sz T) := by rw [h.1.1.1, tt_fl_len]
  refine ⟨h1, ?_⟩
  rw [h1, sc_0]
  intro e
  have e2 := congrArg Int32.toInt e
  rw [nI_toInt (show tt_sz T < 2 ^ 31 by omega), nI_toInt (by omega)] at e2
  have := tt_wf_sz hT.1
  omega
theorem tp_runs {T : tt_T} {S : tt_S} {m : Nat} {σ : sf_S} (h : tp_O T S σ) (hT : tr_T T) (hm : m ≤ 40) (x : Int32) (hx : x = 0 ∨ x = 1) : dX11_run x (nI m) σ = dX11_run_50 x (nI m) σ := by
  have hn := (h.n ⟨hT.1, hT.2.2.2⟩).2
  unfold dX11_run
  rw [if_neg (by rcases hx with h | h <;> rw [h] <;> decide), if_neg (by rcases hx with h | h <;> rw [h] <;> decide), if_neg (nI_pos (by omega)), if_pos (by rw [show (40 : Int32) = nI 40 from by decide +kernel]; exact nI_le hm (by omega)), if_neg hn, if_pos (by rcases hx with h | h <;> rw [h] <;> decide)]
theorem tp_run0 {T : tt_T} {S : tt_S} {m : Nat} {σ : sf_S} (h : tp_O T S σ) (hT : tr_T T) (hm : m ≤ 40) : ∃ σ', dX11_run 0 (nI m) σ = some (nI (tv_rn m (tt_sem S T 0 0) 0).1.length, σ') ∧ tp_O T S σ' ∧ tr_res 19 (tv_rn m (tt_sem S T 0 0) 0) σ' ∧ ∀ a b, (a < 19 ∨ 35 < a) → σ' a b = σ a b := by
  have hm3 : tr_m false = 3 := rfl
  obtain ⟨σ', s1, s2, s3⟩ := tr_play (q := 23) (pl := 1) (rn := 19) (m := m) (Or.inl ⟨rfl, rfl, rfl⟩) hT hm h.1 h.2.1
  rw [h.2.2.1] at s2
  rw [tp_runs h hT hm 0 (Or.inl rfl)]
  unfold dX11_run_50
  rw [if_neg (by simp), s1]
  simp only [Option.bind_some]
  exact ⟨σ', by rw [s2.1], h.kept fun a b hab => s3 a b (by omega), s2, fun a b hab => s3 a b (by omega)⟩
theorem tp_run1 {T : tt_T} {S : tt_S} {m : Nat} {σ : sf_S} (h : tp_O T S σ) (hT : tr_T T) (hm : m ≤ 40) : ∃ σ', dX11_run 1 (nI m) σ = some (nI (tv_rn m (tt_sem S T 0 0) 0).1.length, σ') ∧ tp_O T S σ' ∧ tr_res 19 (tv_rn m (tt_sem S T 0 0) 0) σ' ∧ ∀ a b, (a < 19 ∨ 35 < a) → σ' a b = σ a b := by
  have hm3 := tr_m1
  obtain ⟨σ', s1, s2, s3⟩ := tr_play1 (m := m) hT hm h.1 h.2.1
  rw [h.2.2.1] at s2
  rw [tp_runs h hT hm 1 (Or.inr rfl)]
  unfold dX11_run_50
  rw [if_pos (by decide), if_neg (by simp), s1]
  simp only [Option.bind_some]
  exact ⟨σ', by rw [s2.1], h.kept fun a b hab => s3 a b (by omega), s2, fun a b hab => s3 a b (by omega)⟩
theorem tp_run2 {T : tt_T} {S : tt_S} {m : Nat} {σ : sf_S} (h : tp_O T S σ) (hT : tr_T T) (hm : m ≤ 40) : ∃ v σ', dX11_run 2 (nI m) σ = some (v, σ') ∧ tp_O T S σ' ∧ (∀ a b, (a < 19 ∨ 35 < a) → σ' a b = σ a b) ∧ ((tt_en T = true ∧ v = -3 ∧ σ' = σ) ∨ (tt_en T = false ∧ ((σ' 19 5 = 0 ∧ ∃ V D, tv_al (tt_sem S T 0 0) V D ∧ D ≤ 500 ∧ v = nI (V.take m).length ∧ σ' 19 1 = v ∧ (∀ i x, (V.take m)[i]? = some x → σ' 20 i = x) ∧ σ' 19 2 = nI D) ∨ (¬ σ' 19 5 = 0 ∧ v = nI 0)))) := by
  have hn := (h.n ⟨hT.1, hT.2.2.2⟩).2
  have hu : dX11_run 2 (nI m) σ = if σ 1 11 = 0 then dX11_run_50 2 (nI m) σ else some (-3, σ) := by
    unfold dX11_run
    rw [if_neg (by decide), if_neg (by decide), if_neg (nI_pos (by omega)), if_pos (by rw [show (40 : Int32) = nI 40 from by decide +kernel]; exact nI_le hm (by omega)), if_neg hn, if_neg (by simp)]
  rw [hu, h.1.2.2]
  cases hen : tt_en T
  · rw [if_pos (by decide)]
    obtain ⟨σ', s1, s2, s3⟩ := tr_play2 (m := m) ⟨hT.1, hT.2.2.2⟩ hm h.1 h.2.1
    rw [h.2.2.1] at s3
    unfold dX11_run_50
    rw [if_pos (by decide), if_pos (by decide), s1]
    simp only [Option.bind_some]
    refine ⟨_, σ', rfl, h.kept fun a b hab => s2 a b (by omega), fun a b hab => s2 a b (by omega), Or.inr ⟨trivial, ?_⟩⟩
    rcases s3 with ⟨e1, V, D, e2, e3, e4, e5, e6⟩ | ⟨e1, e2⟩
    · exact Or.inl ⟨e1, V, D, e2, e3, e4, rfl, e5, e6⟩
    · exact Or.inr ⟨e1, e2⟩
  · rw [if_neg (by decide)]
    exact ⟨-3, σ, rfl, h, fun _ _ _ => rfl, Or.inl ⟨rfl, rfl, rfl⟩⟩
/-- what a run draws, of the plan and of its normal form -/
theorem tp_less {S : tt_S} {T : tt_T} {m : Nat} (hT : tt_ok T) : (tv_rn m (tt_sem S (tt_nf T) 0 0) 0).2.2.1 ≤ (tv_rn m (tt_sem S T 0 0) 0).2.2.1 ∧ ((∀ b, (tv_rn m (tt_sem S T 0 0) 0).2.2.2 ≠ some (3, b)) → (tv_rn m (tt_sem S (tt_nf T) 0 0) 0).1 = (tv_rn m (tt_sem S T 0 0) 0).1 ∧ (tv_rn m (tt_sem S (tt_nf T) 0 0) 0).2.1 = (tv_rn m (tt_sem S T 0 0) 0).2.1 ∧ (tv_rn m (tt_sem S (tt_nf T) 0 0) 0).2.2.2 = (tv_rn m (tt_sem S T 0 0) 0).2.2.2) := by
  have hdl := (tt_reach (tt_mu T) T (Nat.le_refl _) hT).2.2.2 S 0 0
  have hgd := tt_gd S T 0 0
  by_cases h : ∀ b, (tv_rn m (tt_sem S T 0 0) 0).2.2.2 ≠ some (3, b)
  · obtain ⟨h1, h2, h3, h4⟩ := tv_dl_rn (m := m) (d := 0) (d' := 0) hdl hgd (Nat.le_refl _) (by omega) (Nat.le_refl _) h
    exact ⟨h4, fun _ => ⟨h1, h2, h3⟩⟩
  · refine ⟨?_, fun h2 => absurd h2 h⟩
    obtain ⟨-, h2⟩ := tv_gd_rn (m := m) (d := 0) hgd (Nat.le_refl _) (by omega)
    have h3 := (tv_rn_d (tt_sem S (tt_nf T) 0 0) m 0 (by omega)).2
    rcases h2 with e | ⟨-, e⟩ | ⟨a, b, e, e2⟩
    · exact absurd (fun b => by rw [e]; simp) h
    · rw [e]; exact h3
    · refine absurd (fun b' => ?_) h
      rw [e]
      intro e3
      cases e3
      rcases e2 with e2 | e2 <;> exact absurd e2 (by decide)
theorem tt_ok.T {T : tt_T} (h : tt_ok T) : tr_T T := ⟨h.1, h.2.1, h.2.2.1, h.2.2.2.2⟩
theorem tt_ok.nf {T : tt_T} (h : tt_ok T) : tt_ok (tt_nf T) := (tt_reach (tt_mu T) T (Nat.le_refl _) h).1
theorem tp_saves {T : tt_T} {S : tt_S} {m : Nat} {σ : sf_S} (h : tp_O T S σ) (hT : tt_ok T) (hm : m ≤ 40) : ∃ σ', dX11_saves (nI m) σ = some (nI ((tv_rn m (tt_sem S T 0 0) 0).2.2.1 - (tv_rn m (tt_sem S (tt_nf T) 0 0) 0).2.2.1), σ') ∧ tp_O T S σ' ∧ ∀ a b, a < 36 → σ' a b = σ a b := by
  have hn := (h.n ⟨hT.1, hT.2.2.2.2⟩).2
  have hm3 : tr_m false = 3 := rfl
  have hq : tr_q 55 36 51 := Or.inr (Or.inr ⟨rfl, rfl, rfl⟩)
  obtain ⟨s1, a1, a2, a3⟩ := tk_take (q := 36) (r1 := 1) (Or.inl (by omega)) hT.1 hT.2.2.2.1 hT.2.2.2.2 h.1.1
  have hSh1 : tr_Sh s1 := h.2.1.kept fun a b hab => a3 a b (by omega)
  have hS1 : tr_S s1 = S := (tr_S_congr fun a b hab => a3 a b (by omega)).trans h.2.2.1
  obtain ⟨s2, b1, b2, b3⟩ := tr_play hq hT.T hm a2 hSh1
  rw [hS1] at b2
  have hM2 : tk_M 36 T s2 := a2.kept fun a b hab => b3 a b (by omega)
  obtain ⟨s3, t, c1, c2, -, -, -, c3⟩ := tk_simp (q := 49) (Or.inr rfl) 0 hT (show tk_M (sf_pl 49) T s2 from hM2)
  have hpl : sf_pl 49 = 36 := rfl
  have hSh3 : tr_Sh s3 := (hSh1.kept fun a b hab => b3 a b (by omega)).kept fun a b hab => c3 a b (by omega) (by omega) (by omega)
  have hS3 : tr_S s3 = S := by
    rw [tr_S_congr (σ := s2) fun a b hab => c3 a b (by omega) (by omega) (by omega), tr_S_congr (σ := s1) fun a b hab => b3 a b (by omega)]; exact hS1
  obtain ⟨s4, d1, d2, d3⟩ := tr_play hq hT.nf.T hm (show tk_M 36 (tt_nf T) s3 from c2) hSh3
  rw [hS3] at d2
  have hF : ∀ a b, a < 36 → s4 a b = σ a b := fun a b hab => by
    rw [d3 a b (by omega), c3 a b (by omega) (by omega) (by omega), b3 a b (by omega), a3 a b (by omega)]
  refine ⟨s4, ?_, h.kept fun a b hab => hF a b (by omega), hF⟩
  unfold dX11_saves
  rw [if_neg (nI_pos (by omega)), if_neg (by rw [show (40 : Int32) = nI 40 from by decide +kernel]; exact nI_nlt hm (by omega)), if_pos hn, a1]
  simp only [Option.bind_some]
  rw [b1]
  simp only [Option.bind_some]
  rw [c1]
  simp only [Option.bind_some]
  rw [d1]
  simp only [Option.bind_some]
  rw [b2.2.2.1, d2.2.2.1, pk_sub (tp_less hT).1]
theorem tp_tidy {T : tt_T} {S : tt_S} {σ : sf_S} (h : tp_O T S σ) (hT : tt_ok T) (x : Int32) (hx : x = 0 ∨ x = 1) : ∃ σ' t, dX11_tidy x σ = some (nI t, σ') ∧ tp_O (tt_nf T) S σ' ∧ t ≤ 4000 ∧ (t = 0 ↔ tt_nm T) ∧ ∀ a b, 19 ≤ a → σ' a b = σ a b := by
  have hn := (h.n ⟨hT.1, hT.2.2.2.2⟩).2
  have hpl : sf_pl 13 = 1 := rfl
  obtain ⟨s, t, c1, c2, c3, c4, c5, c6⟩ := tk_simp (q := 13) (Or.inl rfl) x hT (show tk_M (sf_pl 13) T σ from h.1)
  have c2 : tk_M 1 (tt_nf T) s := c2
  have hl : (tt_fl (tt_nf T)).length ≤ 40 := by rw [tt_fl_len]; exact hT.nf.2.2.2.2
  have hpr := tp_print hl c2.1
  have h0 : sf_up s 11 2 0 11 2 = nI 0 := by rw [sc_upS, sc_0]
  have hne : ∀ a b, ¬ (a = 12 ∨ (a = 11 ∧ b = 2)) → tp_ps (tp_X (tt_nf T)) (sf_up s 11 2 0) a b = s a b := fun a b hab => by
    rw [tp_ps_ne _ _ hab]
    have : ¬ (a = 11 ∧ b = 2) := by omega
    exact if_neg this
  refine ⟨tp_ps (tp_X (tt_nf T)) (sf_up s 11 2 0), t, ?_, ⟨c2.kept fun a b hab => hne a b (by omega), h.2.1.kept fun a b hab => by rw [hne a b (by omega), c6 a b (by omega) (by omega) (by omega)], ?_, ?_, fun i y hi hy => ?_⟩, c4, c5, fun a b hab => by rw [hne a b (by omega), c6 a b (by omega) (by omega) (by omega)]⟩
  · unfold dX11_tidy
    rw [if_neg (by rcases hx with h | h <;> rw [h] <;> decide), if_pos (by rcases hx with h | h <;> rw [h] <;> decide), if_pos hn]
    rcases hx with rfl | rfl
    · rw [if_pos (by decide), c1]
      simp only [Option.bind_some]
      rw [hpr]
      simp only [Option.bind_some]
      rw [hne _ _ (by omega), c3]
    · rw [if_neg (by simp), c1]
      simp only [Option.bind_some]
      rw [hpr]
      simp only [Option.bind_some]
      rw [hne _ _ (by omega), c3]
  · rw [tr_S_congr (σ := σ) fun a b hab => by rw [hne a b (by omega), c6 a b (by omega) (by omega) (by omega)]]; exact h.2.2.1
  · rw [tp_ps_len _ _ 0 (by omega) h0, Nat.zero_add]
  · have := tp_ps_at (tp_X (tt_nf T)) (sf_up s 11 2 0) 0 i y (by omega) h0 hy
    rw [Nat.zero_add] at this
    exact this
