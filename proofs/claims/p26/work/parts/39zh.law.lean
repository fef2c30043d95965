/-! the law, from its end -/
def tq_oth (r : Nat) (σ σ' : sf_S) : Prop := ∀ r', (r + 59 ≤ r' ∨ r' + 59 ≤ r) → ∀ a b, a < 59 → sf_sl r' σ' a b = sf_sl r' σ a b
theorem tr_res.kept {R : tv_R} {σ σ' : sf_S} (h : tr_res 19 R σ) (h1 : ∀ a b, (19 ≤ a ∧ a ≤ 22) → σ' a b = σ a b) : tr_res 19 R σ' := by
  obtain ⟨a1, a2, a3, a4, a5, A, a6, a7⟩ := h
  refine ⟨by rw [h1 _ _ (by omega)]; exact a1, fun i v hv => by rw [h1 _ _ (by omega)]; exact a2 i v hv, by rw [h1 _ _ (by omega)]; exact a3, ?_, a5.kept fun a b hab => h1 a b (by omega), A, by rw [h1 _ _ (by omega)]; exact a6, a7⟩
  cases e : R.2.2.2 with
  | none => rw [e] at a4; exact tr_z_k a4 fun b hb => h1 _ _ (by omega)
  | some z => rw [e] at a4; exact ⟨by rw [h1 _ _ (by omega)]; exact a4.1, by rw [h1 _ _ (by omega)]; exact a4.2⟩
theorem tp_O.oth {T : tt_T} {S : tt_S} {r r' : Nat} {σ σ' : sf_S} (h : tp_O T S (sf_sl r' σ)) (ho : tq_oth r σ σ') (hr : r + 59 ≤ r' ∨ r' + 59 ≤ r) : tp_O T S (sf_sl r' σ') := h.kept fun a b hab => ho r' hr a b (by omega)
theorem tr_res.oth {R : tv_R} {r r' : Nat} {σ σ' : sf_S} (h : tr_res 19 R (sf_sl r' σ)) (ho : tq_oth r σ σ') (hr : r + 59 ≤ r' ∨ r' + 59 ≤ r) : tr_res 19 R (sf_sl r' σ') := h.kept fun a b hab => ho r' hr a b (by omega)
theorem tp_O.in {T : tt_T} {S : tt_S} {r : Nat} {σ τ : sf_S} (h : tp_O T S τ) : tp_O T S (sf_sl r (sf_pt r σ τ)) := h.kept fun a b hab => tq_in (by omega)
theorem tr_res.in {R : tv_R} {r : Nat} {σ τ : sf_S} (h : tr_res 19 R τ) : tr_res 19 R (sf_sl r (sf_pt r σ τ)) := h.kept fun a b hab => tq_in (by omega)
theorem tq_oth_pt {r : Nat} {σ τ : sf_S} : tq_oth r σ (sf_pt r σ τ) := fun r' hr a b ha => tq_out ha hr
theorem tq_run0 {T : tt_T} {S : tt_S} {m r : Nat} {σ : sf_S} (h : tp_O T S (sf_sl r σ)) (hT : tr_T T) (hm : m ≤ 40) : ∃ σ', dW_run r 0 (nI m) σ = some (nI (tv_rn m (tt_sem S T 0 0) 0).1.length, σ') ∧ tp_O T S (sf_sl r σ') ∧ tr_res 19 (tv_rn m (tt_sem S T 0 0) 0) (sf_sl r σ') ∧ tq_oth r σ σ' := by
  obtain ⟨τ, h1, h2, h3, -⟩ := tp_run0 h hT hm
  exact ⟨_, tq_on h1, h2.in, h3.in, tq_oth_pt⟩
theorem tq_run1 {T : tt_T} {S : tt_S} {m r : Nat} {σ : sf_S} (h : tp_O T S (sf_sl r σ)) (hT : tr_T T) (hm : m ≤ 40) : ∃ σ', dW_run r 1 (nI m) σ = some (nI (tv_rn m (tt_sem S T 0 0) 0).1.length, σ') ∧ tp_O T S (sf_sl r σ') ∧ tr_res 19 (tv_rn m (tt_sem S T 0 0) 0) (sf_sl r σ') ∧ tq_oth r σ σ' := by
  obtain ⟨τ, h1, h2, h3, -⟩ := tp_run1 h hT hm
  exact ⟨_, tq_on h1, h2.in, h3.in, tq_oth_pt⟩
theorem tq_saves {T : tt_T} {S : tt_S} {m r : Nat} {σ : sf_S} (h : tp_O T S (sf_sl r σ)) (hT : tt_ok T) (hm : m ≤ 40) : ∃ σ', dW_saves r (nI m) σ = some (nI ((tv_rn m (tt_sem S T 0 0) 0).2.2.1 - (tv_rn m (tt_sem S (tt_nf T) 0 0) 0).2.2.1), σ') ∧ tp_O T S (sf_sl r σ') ∧ (∀ R, tr_res 19 R (sf_sl r σ) → tr_res 19 R (sf_sl r σ')) ∧ tq_oth r σ σ' := by
  obtain ⟨τ, h1, h2, h3⟩ := tp_saves h hT hm
  exact ⟨_, tq_on h1, h2.in, fun R hR => (hR.kept fun a b hab => h3 a b (by omega)).in, tq_oth_pt⟩
theorem tq_tidy {T : tt_T} {S : tt_S} {r : Nat} {σ : sf_S} (h : tp_O T S (sf_sl r σ)) (hT : tt_ok T) (x : Int32) (hx : x = 0 ∨ x = 1) : ∃ σ' t, dW_tidy r x σ = some (nI t, σ') ∧ tp_O (tt_nf T) S (sf_sl r σ') ∧ t ≤ 4000 ∧ (t = 0 ↔ tt_nm T) ∧ (∀ R, tr_res 19 R (sf_sl r σ) → tr_res 19 R (sf_sl r σ')) ∧ tq_oth r σ σ' := by
  obtain ⟨τ, t, h1, h2, h3, h4, h5⟩ := tp_tidy h hT x hx
  exact ⟨_, t, tq_on h1, h2.in, h3, h4, fun R hR => (hR.kept fun a b hab => h5 a b (by omega)).in, tq_oth_pt⟩
theorem tt_ok.nm {T : tt_T} (h : tt_ok T) : tt_nm (tt_nf T) ∧ tt_sz (tt_nf T) ≤ tt_sz T := by
  obtain ⟨-, h1, h2, -⟩ := tt_reach (tt_mu T) T (Nat.le_refl _) h
  exact ⟨h1, h2⟩
theorem tq_len {S : tt_S} {T : tt_T} {m : Nat} (hm : m ≤ 40) (hT : tt_sz T ≤ 40) : (tv_rn m (tt_sem S T 0 0) 0).1.length ≤ 40 ∧ (tv_rn m (tt_sem S T 0 0) 0).2.1.length ≤ 100000 ∧ (tv_rn m (tt_sem S T 0 0) 0).2.2.1 ≤ 500 := by
  obtain ⟨-, h2, h3⟩ := tt_sem_rn (S := S) (m := m) hT
  have := tv_rn_len (tt_sem S T 0 0) m 0
  exact ⟨by omega, by omega, h3⟩
theorem tq_692 {ns m : Nat} {x1 : Int32} {S : tt_S} {T : tt_T} {σ : sf_S} (hm : m ≤ 40) (hT : tt_ok T) (hU : tt_nf (tt_nf T) = tt_nf T) (h0 : tp_O (tt_nf T) S (sf_sl 0 σ)) (h1 : tr_res 19 (tv_rn m (tt_sem S (tt_nf T) 0 0) 0) (sf_sl 59 σ)) :
    ∃ σ', dL_law_692 ns x1 (nI m) (nI (tv_rn m (tt_sem S T 0 0) 0).2.2.1) (nI ((tv_rn m (tt_sem S T 0 0) 0).2.2.1 - (tv_rn m (tt_sem S (tt_nf T) 0 0) 0).2.2.1)) σ = some (x1, σ') := by
  have hl := tq_len (S := S) hm hT.nf.2.2.2.2
  obtain ⟨σ1, a1, a2, a3, a4⟩ := tq_run0 h0 hT.nf.T hm
  have h11 := h1.oth a4 (by omega)
  obtain ⟨σ2, b1, -⟩ := tq_saves a2 hT.nf hm
  unfold dL_law_692
  rw [a1]
  simp only [Option.bind_some]
  rw [tq_count2]
  simp only [Option.bind_some]
  rw [h11.1, if_neg (by simp), tq_same a3 h11 hl.1 hl.2.1]
  simp only [Option.bind_some]
  rw [if_neg (by decide), tq_told0]
  simp only [Option.bind_some]
  have hless := (tp_less (S := S) (m := m) hT).1
  rw [a3.2.2.1, if_neg (by rw [pk_sub (by omega)]; simp only [Classical.not_not]; congr 1; omega), b1]
  simp only [Option.bind_some]
  rw [hU, Nat.sub_self, ← sc_0, if_pos rfl]
  exact ⟨σ2, rfl⟩
theorem tq_node5 {T : tt_T} {S : tt_S} {r i : Nat} {σ : sf_S} (h : tp_O T S (sf_sl r σ)) (hz : tt_sz T ≤ 40) (hi : i < tt_sz T) : dW_node r (nI i) 5 σ = some (if sf_sl r σ 10 i = 0 then 0 else 1, σ) ∧ dW_node r (nI i) 4 σ = some (sf_sl r σ 7 i, σ) ∧ dW_node r (nI i) 0 σ = some (sf_sl r σ 2 i, σ) := by
  have h4 : sf_sl r σ 1 4 = nI (tt_sz T) := by rw [h.1.1.1, tt_fl_len]
  have hh := tr_has2 hz h4 hi
  have hik : sf_in (nI i) 40 = true := sc_inI (by omega) (by omega)
  have hcl := sc_cl (show i < 2 ^ 31 by omega)
  refine ⟨tq_rd ?_, tq_rd ?_, tq_rd ?_⟩
  · unfold dX11_node
    rw [hh]
    simp only [Option.bind_some]
    rw [if_pos (by decide), if_neg (by decide), if_neg (by decide), if_neg (by decide), if_neg (by decide), if_neg (by decide), if_pos (by decide), if_pos hik, hcl]
    split <;> rfl
  · unfold dX11_node
    rw [hh]
    simp only [Option.bind_some]
    rw [if_pos (by decide), if_neg (by decide), if_neg (by decide), if_neg (by decide), if_neg (by decide), if_pos (by decide), if_pos hik, hcl]
  · unfold dX11_node
    rw [hh]
    simp only [Option.bind_some]
    rw [if_pos (by decide), if_pos (by decide), if_pos hik, hcl]
theorem tk_P_eq {σ τ : sf_S} : ∀ {T : tt_T} {k w : Nat} {o b : Int32}, tk_P 1 σ T k w o b → tk_P 1 τ T k w o b → ∀ i, k ≤ i → i < k + tt_sz T → σ 7 i = τ 7 i ∧ σ 10 i = τ 10 i ∧ σ 2 i = τ 2 i
  | .leaf, k, _, _, _, _, _, i, h1, h2 => by simp only [tt_sz] at h2; omega
  | .inner s c u P Q, k, w, o, b, ⟨⟨a1, _⟩, ⟨_, a6, _, _, a9⟩, aP, aQ⟩, ⟨⟨b1, _⟩, ⟨_, b6, _, _, b9⟩, bP, bQ⟩, i, h1, h2 => by
    simp only [tt_sz] at h2
    by_cases e : i = k
    · subst e
      exact ⟨a6.trans b6.symm, a9.trans b9.symm, a1.trans b1.symm⟩
    · by_cases e2 : i < k + 1 + tt_sz P
      · exact tk_P_eq aP bP i (by omega) (by omega)
      · exact tk_P_eq aQ bQ i (by omega) (by omega)
