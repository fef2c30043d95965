/-! the law: behind the rules -/
theorem tt_ok.nfnf {T : tt_T} (h : tt_ok T) : tt_nf (tt_nf T) = tt_nf T := tt_nf_id _ (tt_nf_gd T h.1 h.2.1 h.2.2.1).1
abbrev tq_R (S : tt_S) (T : tt_T) (m : Nat) : tv_R := tv_rn m (tt_sem S T 0 0) 0
/-- the failure's number -/
def tq_f (R : tv_R) : Int32 := match R.2.2.2 with
  | none => 0
  | some z => z.1
theorem tq_f5 {R : tv_R} {σ : sf_S} (h : tr_res 19 R σ) : σ 19 5 = tq_f R := by
  have h4 := h.2.2.2.1
  unfold tq_f
  cases e : R.2.2.2 with
  | none => rw [e] at h4; exact h4.1
  | some z => rw [e] at h4; exact h4.1
theorem tq_591 {ns m : Nat} {x1 : Int32} {S : tt_S} {T : tt_T} {σ : sf_S} (hm : m ≤ 40) (hT : tt_ok T) (h0 : tp_O (tt_nf T) S (sf_sl 0 σ)) (h1 : tp_O (tt_nf T) S (sf_sl 59 σ)) (hr0 : tr_res 19 (tq_R S T m) (sf_sl 0 σ)) : ∀ (q i fuel : Nat), i + q = tt_sz (tt_nf T) → q < fuel →
    ∃ σ', dL_law_591 ns fuel x1 (nI m) (tq_f (tq_R S T m)) (nI (tq_R S T m).2.2.1) (nI ((tq_R S T m).2.2.1 - (tq_R S (tt_nf T) m).2.2.1)) (nI i) σ = some (x1, σ') := by
  have hz := hT.nf.2.2.2.2
  have hl := tq_len (S := S) hm hz
  have hlT := tq_len (S := S) hm hT.2.2.2.2
  have hless := tp_less (S := S) (m := m) hT
  intro q
  induction q with
  | zero =>
    intro i fuel hi hf
    obtain ⟨f, rfl⟩ : ∃ f, fuel = f + 1 := ⟨fuel - 1, by omega⟩
    simp only [dL_law_591]
    rw [tq_count0]
    simp only [Option.bind_some]
    rw [(h0.n ⟨hT.nf.1, hz⟩).1, if_pos (nI_le (by omega) (by omega)), tq_told0]
    simp only [Option.bind_some]
    rw [hr0.2.2.1, if_neg (by simp)]
    obtain ⟨σ1, a1, a2, a3, a4⟩ := tq_run1 h1 hT.nf.T hm
    rw [a1]
    simp only [Option.bind_some]
    rw [if_neg (nI_pos (by omega)), tq_told0]
    simp only [Option.bind_some]
    rw [a3.2.2.1, if_neg (by rw [pk_sub (Nat.sub_le _ _), Nat.sub_sub_self hless.1]; simp)]
    obtain ⟨σ2, c1⟩ := tq_692 (ns := ns) (x1 := x1) hm hT hT.nfnf (h0.oth a4 (by omega)) a3
    have hr01 := hr0.oth a4 (r' := 0) (by omega)
    by_cases h3 : tq_f (tq_R S T m) = 3
    · rw [if_pos h3]
      exact ⟨σ2, c1⟩
    · rw [if_neg h3]
      have hno : ∀ b, (tq_R S T m).2.2.2 ≠ some (3, b) := fun b e => h3 (by unfold tq_f; rw [e])
      obtain ⟨e1, e2, e3⟩ := hless.2 hno
      have hs : dL_same ns σ1 = some (1, σ1) := by
        exact tq_same2 hr01 a3 e1 e2 e3 hlT.1 hlT.2.1
      rw [hs]
      simp only [Option.bind_some]
      rw [if_pos (by decide)]
      exact ⟨σ2, c1⟩
  | succ q ih =>
    intro i fuel hi hf
    obtain ⟨f, rfl⟩ : ∃ f, fuel = f + 1 := ⟨fuel - 1, by omega⟩
    have hlt : i < tt_sz (tt_nf T) := by omega
    simp only [dL_law_591]
    rw [tq_count0]
    simp only [Option.bind_some]
    have n0 := tq_node5 (r := 0) (σ := σ) h0 hz hlt
    have n1 := tq_node5 (r := 59) (σ := σ) h1 hz hlt
    obtain ⟨p1, p2, -⟩ := tk_P_eq h0.1.2.1 h1.1.2.1 i (Nat.zero_le _) (by omega)
    rw [(h0.n ⟨hT.nf.1, hz⟩).1, if_neg (nI_ge (by omega) (by omega)), n0.1]
    simp only [Option.bind_some]
    rw [n1.1]
    simp only [Option.bind_some]
    rw [if_neg (by rw [p2]; simp), n0.2.1]
    simp only [Option.bind_some]
    rw [n1.2.1]
    simp only [Option.bind_some]
    rw [if_pos p1, nI_1]
    exact ih (i + 1) f (by omega) (by omega)
theorem tq_text {T : tt_T} {S : tt_S} {r : Nat} {σ : sf_S} (h : tp_O T S (sf_sl r σ)) (hT : tt_wf T ∧ tt_sz T ≤ 40) : dW_text r (-1) σ = some (nI (min 400 (tp_X T).length), σ) ∧ ∀ i, i < min 400 (tp_X T).length → ∀ x, (tp_X T)[i]? = some x → dW_text r (nI i) σ = some (tp_nar x, σ) := by
  have hn := (h.n hT).2
  have h11 := h.2.2.2.1
  refine ⟨tq_rd ?_, fun i hi x hx => tq_rd ?_⟩
  · unfold dX11_text
    rw [if_pos hn, if_neg (by simp), h11]
  · unfold dX11_text
    have hne : ¬ nI i = -1 := fun e => by
      have := congrArg Int32.toInt e
      rw [nI_toInt (by omega), show (-1 : Int32).toInt = -1 from by decide] at this
      omega
    rw [if_pos hn, if_pos hne, if_neg (nI_pos (by omega)), h11, if_neg (nI_ge hi (by omega)), if_pos (sc_inI (by omega) (by omega)), sc_cl (by omega), h.2.2.2.2 i x (by omega) hx]
theorem tq_558 {ns m : Nat} {x1 : Int32} {S : tt_S} {T : tt_T} {σ : sf_S} (hm : m ≤ 40) (hT : tt_ok T) (h0 : tp_O (tt_nf T) S (sf_sl 0 σ)) (h1 : tp_O (tt_nf T) S (sf_sl 59 σ)) (hr0 : tr_res 19 (tq_R S T m) (sf_sl 0 σ)) : ∀ (q i fuel : Nat), i + q = min 400 (tp_X (tt_nf T)).length → q < fuel →
    ∃ σ', dL_law_558 ns fuel x1 (nI m) (tq_f (tq_R S T m)) (nI (tq_R S T m).2.2.1) (nI ((tq_R S T m).2.2.1 - (tq_R S (tt_nf T) m).2.2.1)) (nI (min 400 (tp_X (tt_nf T)).length)) (nI i) σ = some (x1, σ') := by
  have hF := sf_F_le
  have hw : tt_wf (tt_nf T) ∧ tt_sz (tt_nf T) ≤ 40 := ⟨hT.nf.1, hT.nf.2.2.2.2⟩
  have t0 := tq_text (r := 0) (σ := σ) h0 hw
  have t1 := tq_text (r := 59) (σ := σ) h1 hw
  intro q
  induction q with
  | zero =>
    intro i fuel hi hf
    obtain ⟨f, rfl⟩ : ∃ f, fuel = f + 1 := ⟨fuel - 1, by omega⟩
    simp only [dL_law_558]
    rw [if_pos (nI_le (by omega) (by omega)), sc_0]
    exact tq_591 hm hT h0 h1 hr0 (tt_sz (tt_nf T)) 0 sf_F (Nat.zero_add _) (by omega)
  | succ q ih =>
    intro i fuel hi hf
    obtain ⟨f, rfl⟩ : ∃ f, fuel = f + 1 := ⟨fuel - 1, by omega⟩
    have hlt : i < (tp_X (tt_nf T)).length := by omega
    have hx : (tp_X (tt_nf T))[i]? = some (tp_X (tt_nf T))[i] := List.getElem?_eq_getElem hlt
    simp only [dL_law_558]
    rw [if_neg (nI_ge (by omega) (by omega)), t0.2 i (by omega) _ hx]
    simp only [Option.bind_some]
    rw [t1.2 i (by omega) _ hx]
    simp only [Option.bind_some]
    rw [if_pos trivial, nI_1]
    exact ih (i + 1) f (by omega) (by omega)
theorem tq_514 {ns m n : Nat} {x1 : Int32} {S : tt_S} {T : tt_T} {σ : sf_S} (hm : m ≤ 40) (hT : tt_ok T) (hn : tt_sz (tt_nf T) ≤ n) (hn2 : n ≤ 40) (h0 : tp_O (tt_nf T) S (sf_sl 0 σ)) (h1 : tp_O (tt_nf T) S (sf_sl 59 σ)) (hr0 : tr_res 19 (tq_R S T m) (sf_sl 0 σ)) (y : Int32) :
    ∃ σ', dL_law_514 ns x1 (nI n) (nI m) (tq_f (tq_R S T m)) (nI (tq_R S T m).2.2.1) (nI ((tq_R S T m).2.2.1 - (tq_R S (tt_nf T) m).2.2.1)) (nI (min 400 (tp_X (tt_nf T)).length)) y y σ = some (x1, σ') := by
  have hF := sf_F_le
  have hw : tt_wf (tt_nf T) ∧ tt_sz (tt_nf T) ≤ 40 := ⟨hT.nf.1, hT.nf.2.2.2.2⟩
  unfold dL_law_514
  rw [if_neg (by simp), (tq_text (r := 59) (σ := σ) h1 hw).1]
  simp only [Option.bind_some]
  rw [if_neg (by simp), tq_count0]
  simp only [Option.bind_some]
  rw [(h0.n hw).1, if_neg (nI_nlt hn (by omega))]
  obtain ⟨σ1, t, a1, a2, a3, a4, a5, a6⟩ := tq_tidy h0 hT.nf 1 (Or.inr rfl)
  rw [a1]
  simp only [Option.bind_some]
  rw [a4.mpr hT.nm.1, if_neg (by rw [← sc_0]; simp)]
  have h11 := h1.oth a6 (by omega)
  obtain ⟨σ2, t2, b1, b2, b3, b4, b5, b6⟩ := tq_tidy h11 hT.nf 0 (Or.inl rfl)
  rw [b1]
  simp only [Option.bind_some]
  rw [b4.mpr hT.nm.1, if_pos (by rw [← sc_0]), sc_0]
  rw [hT.nfnf] at a2 b2
  exact tq_558 hm hT (a2.oth b6 (by omega)) b2 ((a5 _ hr0).oth b6 (by omega)) (min 400 (tp_X (tt_nf T)).length) 0 sf_F (Nat.zero_add _) (by omega)
theorem tq_450 {ns m : Nat} {x1 : Int32} {S : tt_S} {T : tt_T} {σ : sf_S} (hm : m ≤ 40) (hT : tt_ok T) (h0 : tp_O T S (sf_sl 0 σ)) (h1 : tp_O T S (sf_sl 59 σ)) (hr0 : tr_res 19 (tq_R S T m) (sf_sl 0 σ)) :
    ∃ σ', dL_law_450 ns x1 (nI (tt_sz T)) (nI m) (tq_f (tq_R S T m)) (nI (tq_R S T m).2.2.1) σ = some (x1, σ') := by
  have hlT := tq_len (S := S) hm hT.2.2.2.2
  have hw : tt_wf (tt_nf T) ∧ tt_sz (tt_nf T) ≤ 40 := ⟨hT.nf.1, hT.nf.2.2.2.2⟩
  obtain ⟨σ1, a1, a2, a3, a4⟩ := tq_saves h0 hT hm
  obtain ⟨σ2, t, b1, b2, b3, b4, b5, b6⟩ := tq_tidy a2 hT 0 (Or.inl rfl)
  obtain ⟨σ3, t', c1, c2, c3, c4, c5, c6⟩ := tq_tidy ((h1.oth a4 (r' := 59) (by omega)).oth b6 (by omega)) hT 1 (Or.inr rfl)
  have h03 := b2.oth c6 (r' := 0) (by omega)
  have hr3 := (b5 _ (a3 _ hr0)).oth c6 (r' := 0) (by omega)
  unfold dL_law_450
  rw [a1]
  simp only [Option.bind_some]
  rw [b1]
  simp only [Option.bind_some]
  rw [c1]
  simp only [Option.bind_some]
  rw [(tq_text (r := 0) (σ := σ3) h03 hw).1]
  simp only [Option.bind_some]
  rw [if_neg (nI_pos (by omega)), if_neg (nI_pos (by omega)), if_neg (nI_pos (by omega)), sc_0]
  have hgo := fun y => tq_514 (ns := ns) (x1 := x1) hm hT hT.nm.2 hT.2.2.2.2 h03 c2 hr3 y
  by_cases ht : t = 0
  · have ht' : t' = 0 := c4.mpr (b4.mp ht)
    rw [ht, ht', if_pos (nI_le (Nat.le_refl _) (by omega)), if_pos (nI_le (Nat.le_refl _) (by omega))]
    exact hgo _
  · have ht' : ¬ t' = 0 := fun e => ht (b4.mpr (c4.mp e))
    rw [if_neg (nI_ge (by omega) (by omega)), if_neg (nI_ge (by omega) (by omega))]
    exact hgo _
