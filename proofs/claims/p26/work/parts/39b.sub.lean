/-! a pipe within a pipe, by its place in the text -/
def tt_at : tt_T → Nat → tt_T
  | .leaf, _ => .leaf
  | .inner s c u P Q, 0 => .inner s c u P Q
  | .inner _ _ _ P Q, k + 1 => if k < tt_sz P then tt_at P k else tt_at Q (k - tt_sz P)
def tt_put : tt_T → Nat → tt_T → tt_T
  | .leaf, _, _ => .leaf
  | .inner _ _ _ _ _, 0, U => U
  | .inner _ c _ P Q, k + 1, U => if k < tt_sz P then tt_nd c (tt_put P k U) Q else tt_nd c P (tt_put Q (k - tt_sz P) U)
def tt_fl : tt_T → List tt_C
  | .leaf => []
  | .inner _ c _ P Q => c :: (tt_fl P ++ tt_fl Q)
theorem tt_fl_len : ∀ T : tt_T, (tt_fl T).length = tt_sz T
  | .leaf => rfl
  | .inner _ c _ P Q => by simp [tt_fl, tt_sz, tt_fl_len P, tt_fl_len Q]
theorem tt_at_sz : ∀ (T : tt_T) (k : Nat), k < tt_sz T → 1 ≤ tt_sz (tt_at T k) ∧ k + tt_sz (tt_at T k) ≤ tt_sz T
  | .leaf, k, h => absurd h (Nat.not_lt_zero k)
  | .inner s c u P Q, 0, h => by simp only [tt_at, tt_sz]; omega
  | .inner s c u P Q, k + 1, h => by
    simp only [tt_sz] at h
    simp only [tt_at]
    split
    · rename_i hk
      have := tt_at_sz P k hk
      simp only [tt_sz]; omega
    · have := tt_at_sz Q (k - tt_sz P) (by omega)
      simp only [tt_sz]; omega
theorem tt_put_fl : ∀ (T : tt_T) (k : Nat), k < tt_sz T → ∃ A B, tt_fl T = A ++ tt_fl (tt_at T k) ++ B ∧ A.length = k ∧ ∀ U, tt_fl (tt_put T k U) = A ++ tt_fl U ++ B
  | .leaf, k, h => absurd h (Nat.not_lt_zero k)
  | .inner s c u P Q, 0, h => ⟨[], [], by simp [tt_at], rfl, fun U => by simp [tt_put]⟩
  | .inner s c u P Q, k + 1, h => by
    simp only [tt_sz] at h
    by_cases hk : k < tt_sz P
    · obtain ⟨A, B, h1, h2, h3⟩ := tt_put_fl P k hk
      refine ⟨c :: A, B ++ tt_fl Q, ?_, by simp [h2], fun U => ?_⟩
      · simp only [tt_at, if_pos hk, tt_fl, h1]; simp
      · simp only [tt_put, if_pos hk, tt_fl, h3 U]; simp
    · obtain ⟨A, B, h1, h2, h3⟩ := tt_put_fl Q (k - tt_sz P) (by omega)
      refine ⟨c :: (tt_fl P ++ A), B, ?_, by simp [h2, tt_fl_len]; omega, fun U => ?_⟩
      · simp only [tt_at, if_neg hk, tt_fl, h1]; simp
      · simp only [tt_put, if_neg hk, tt_fl, h3 U]; simp
/-- children of a tree -/
theorem tt_wf_kid {s : Nat} {c : tt_C} {u : Unit} {P Q : tt_T} (h : tt_wf (.inner s c u P Q)) : (1 ≤ tt_sz P → tt_wf P) ∧ (1 ≤ tt_sz Q → tt_wf Q) ∧ (∀ U, 1 ≤ tt_sz P → tt_wf U → tt_wf (tt_nd c U Q)) ∧ (∀ U, 1 ≤ tt_sz Q → tt_wf U → tt_wf (tt_nd c P U)) := by
  obtain ⟨hs, hv, hil, w0, w1, w2⟩ := h
  have z : tt_sz .leaf = 0 := rfl
  refine ⟨fun q => ?_, fun q => ?_, fun U q hU => ⟨rfl, hv, hil, fun k => ?_, fun k => ⟨hU, (w1 k).2⟩, fun k => ⟨hU, (w2 k).2⟩⟩, fun U q hU => ⟨rfl, hv, hil, fun k => ?_, fun k => ?_, fun k => ⟨(w2 k).1, hU⟩⟩⟩
  · rcases sc_p3 c.1 with k | k | k
    · rw [(w0 k).1, z] at q; omega
    · exact (w1 k).1
    · exact (w2 k).1
  · rcases sc_p3 c.1 with k | k | k
    · rw [(w0 k).2, z] at q; omega
    · rw [(w1 k).2, z] at q; omega
    · exact (w2 k).2
  · rw [(w0 k).1, z] at q; omega
  · rw [(w0 k).2, z] at q; omega
  · rw [(w1 k).2, z] at q; omega
theorem tt_at_wf : ∀ (T : tt_T) (k : Nat), k < tt_sz T → tt_wf T → tt_wf (tt_at T k)
  | .leaf, k, h, _ => absurd h (Nat.not_lt_zero k)
  | .inner s c u P Q, 0, h, hw => hw
  | .inner s c u P Q, k + 1, h, hw => by
    simp only [tt_sz] at h
    obtain ⟨h1, h2, -⟩ := tt_wf_kid hw
    simp only [tt_at]
    split
    · rename_i hk
      exact tt_at_wf P k hk (h1 (by omega))
    · exact tt_at_wf Q _ (by omega) (h2 (by omega))
theorem tt_at_nw : ∀ (T : tt_T) (k : Nat), tt_nw T → tt_nw (tt_at T k) ∧ tt_dw (tt_at T k) ≤ tt_dw T
  | .leaf, _, _ => ⟨trivial, Nat.le_refl _⟩
  | .inner s c u P Q, 0, h => ⟨h, Nat.le_refl _⟩
  | .inner s c u P Q, k + 1, h => by
    simp only [tt_at]
    split
    · obtain ⟨a, b⟩ := tt_at_nw P k h.2.1
      exact ⟨a, by simp only [tt_dw]; omega⟩
    · obtain ⟨a, b⟩ := tt_at_nw Q (k - tt_sz P) h.2.2
      exact ⟨a, by simp only [tt_dw]; omega⟩
theorem tt_put_wf : ∀ (T : tt_T) (k : Nat) (U : tt_T), k < tt_sz T → tt_wf T → tt_wf U → tt_wf (tt_put T k U)
  | .leaf, k, _, h, _, _ => absurd h (Nat.not_lt_zero k)
  | .inner s c u P Q, 0, U, h, hw, hU => hU
  | .inner s c u P Q, k + 1, U, h, hw, hU => by
    simp only [tt_sz] at h
    obtain ⟨h1, h2, h3, h4⟩ := tt_wf_kid hw
    simp only [tt_put]
    split
    · rename_i hk
      exact h3 _ (by omega) (tt_put_wf P k U hk (h1 (by omega)) hU)
    · exact h4 _ (by omega) (tt_put_wf Q _ U (by omega) (h2 (by omega)) hU)
theorem tt_put_nw : ∀ (T : tt_T) (k : Nat) (U : tt_T), tt_nw T → tt_nw U → tt_nw (tt_put T k U)
  | .leaf, _, _, _, _ => trivial
  | .inner s c u P Q, 0, U, _, hU => hU
  | .inner s c u P Q, k + 1, U, h, hU => by
    simp only [tt_put]
    split
    · exact ⟨h.1, tt_put_nw P k U h.2.1 hU, h.2.2⟩
    · exact ⟨h.1, h.2.1, tt_put_nw Q _ U h.2.2 hU⟩
theorem tt_put_sums : ∀ (T : tt_T) (k : Nat) (U : tt_T), k < tt_sz T → tt_dw (tt_put T k U) + tt_dw (tt_at T k) = tt_dw T + tt_dw U ∧ tt_sz (tt_put T k U) + tt_sz (tt_at T k) = tt_sz T + tt_sz U ∧ tt_cp (tt_put T k U) + tt_cp (tt_at T k) = tt_cp T + tt_cp U ∧ tt_cq (tt_put T k U) + tt_cq (tt_at T k) = tt_cq T + tt_cq U ∧ tt_n0 (tt_put T k U) + tt_n0 (tt_at T k) = tt_n0 T + tt_n0 U
  | .leaf, k, _, h => absurd h (Nat.not_lt_zero k)
  | .inner s c u P Q, 0, U, h => by simp only [tt_put, tt_at]; omega
  | .inner s c u P Q, k + 1, U, h => by
    simp only [tt_sz] at h
    simp only [tt_put, tt_at]
    split
    · rename_i hk
      have := tt_put_sums P k U hk
      simp only [tt_dw, tt_sz, tt_cp, tt_cq, tt_n0]
      omega
    · have := tt_put_sums Q (k - tt_sz P) U (by omega)
      simp only [tt_dw, tt_sz, tt_cp, tt_cq, tt_n0]
      omega
theorem tt_put_iv : ∀ (T : tt_T) (k : Nat) (U : tt_T), k < tt_sz T → tt_cp U ≤ tt_cp (tt_at T k) → tt_cq U ≤ tt_cq (tt_at T k) → tt_iv (tt_put T k U) + tt_iv (tt_at T k) ≤ tt_iv T + tt_iv U
  | .leaf, k, _, h, _, _ => absurd h (Nat.not_lt_zero k)
  | .inner s c u P Q, 0, U, h, _, _ => by simp only [tt_put, tt_at]; omega
  | .inner s c u P Q, k + 1, U, h, h1, h2 => by
    simp only [tt_sz] at h
    simp only [tt_at] at h1 h2
    simp only [tt_put, tt_at]
    split
    · rename_i hk
      rw [if_pos hk] at h1 h2
      have := tt_put_iv P k U hk h1 h2
      have := tt_put_sums P k U hk
      simp only [tt_iv]
      split
      · omega
      split <;> omega
    · rename_i hk
      rw [if_neg hk] at h1 h2
      have := tt_put_iv Q (k - tt_sz P) U (by omega) h1 h2
      simp only [tt_iv]
      omega
theorem tt_put_kp {T U : tt_T} {k : Nat} (hk : k < tt_sz T) (hw : tt_wf T) (hn : tt_nw T) (h : tt_kp (tt_at T k) U) : tt_kp T (tt_put T k U) := by
  obtain ⟨h1, h2, h3, h4, h5, h6, h7⟩ := h
  obtain ⟨a1, a2, a3, a4, a5⟩ := tt_put_sums T k U hk
  have a6 := tt_put_iv T k U hk h5 h6
  refine ⟨tt_put_wf T k U hk hw h1, tt_put_nw T k U hn h2, by omega, by omega, by omega, by omega, ?_⟩
  simp only [tt_mu] at h7 ⊢
  omega
theorem tt_put_nf : ∀ (T : tt_T) (k : Nat) (U : tt_T), k < tt_sz T → tt_nf U = tt_nf (tt_at T k) → tt_nf (tt_put T k U) = tt_nf T
  | .leaf, k, _, h, _ => absurd h (Nat.not_lt_zero k)
  | .inner s c u P Q, 0, U, h, e => e
  | .inner s c u P Q, k + 1, U, h, e => by
    simp only [tt_sz] at h
    simp only [tt_at] at e
    simp only [tt_put]
    split
    · rename_i hk
      rw [if_pos hk] at e
      simp only [tt_nf, tt_put_nf P k U hk e]
    · rename_i hk
      rw [if_neg hk] at e
      simp only [tt_nf, tt_put_nf Q _ U (by omega) e]
theorem tt_sem_cong {S : tt_S} {s s' : Nat} {c : tt_C} {u u' : Unit} {P P' Q Q' : tt_T} (hP : ∀ o w, tv_dl (tt_sem S P o w) (tt_sem S P' o w)) (hQ : ∀ o w, tv_dl (tt_sem S Q o w) (tt_sem S Q' o w)) (o w : Int32) : tv_dl (tt_sem S (.inner s c u P Q) o w) (tt_sem S (.inner s' c u' P' Q') o w) := by
  simp only [tt_sem]
  split
  · exact tv_dl_bnd (fun v => hP _ _) (hQ _ _)
  split
  · exact tv_dl_app (hQ _ _) (hP _ _)
  split
  · exact tv_dl_zp (hP _ _) (hQ _ _)
  split
  · exact tv_dl_tk (hP _ _)
  split
  · exact tv_dl_dr (hP _ _)
  split
  · exact tv_dl_tw (hP _ _)
  split
  · exact tv_dl_rf _
  · exact tv_dl_bnd (fun v => tv_dl_rf _) (hP _ _)
theorem tt_put_dl {S : tt_S} : ∀ (T : tt_T) (k : Nat) (U : tt_T), (∀ o w, tv_dl (tt_sem S (tt_at T k) o w) (tt_sem S U o w)) → k < tt_sz T → ∀ o w, tv_dl (tt_sem S T o w) (tt_sem S (tt_put T k U) o w)
  | .leaf, k, _, _, h, _, _ => absurd h (Nat.not_lt_zero k)
  | .inner s c u P Q, 0, U, e, _, o, w => e o w
  | .inner s c u P Q, k + 1, U, e, h, o, w => by
    simp only [tt_sz] at h
    simp only [tt_at] at e
    simp only [tt_put]
    split
    · rename_i hk
      rw [if_pos hk] at e
      exact tt_sem_cong (tt_put_dl P k U e hk) (fun _ _ => tv_dl_rf _) o w
    · rename_i hk
      rw [if_neg hk] at e
      exact tt_sem_cong (fun _ _ => tv_dl_rf _) (tt_put_dl Q _ U e (by omega)) o w
theorem tt_nm_of : ∀ T : tt_T, (∀ k, k < tt_sz T → tt_ap (tt_at T k) = none) → tt_nm T
  | .leaf, _ => trivial
  | .inner s c u P Q, h => by
    refine ⟨h 0 (by simp only [tt_sz]; omega), tt_nm_of P (fun k hk => ?_), tt_nm_of Q (fun k hk => ?_)⟩
    · have := h (k + 1) (by simp only [tt_sz]; omega)
      simp only [tt_at, if_pos hk] at this
      exact this
    · have := h (tt_sz P + k + 1) (by simp only [tt_sz]; omega)
      simp only [tt_at] at this
      rw [if_neg (by omega), Nat.add_sub_cancel_left] at this
      exact this
theorem tt_nm_sub : ∀ (T : tt_T) (k : Nat), tt_nm T → tt_ap (tt_at T k) = none
  | .leaf, _, _ => rfl
  | .inner s c u P Q, 0, h => h.1
  | .inner s c u P Q, k + 1, h => by
    simp only [tt_at]
    split
    · exact tt_nm_sub P k h.2.1
    · exact tt_nm_sub Q _ h.2.2
/-- one rule, somewhere -/
theorem tt_stp {T U : tt_T} {k r : Nat} (hk : k < tt_sz T) (hw : tt_wf T) (hn : tt_nw T) (hd : tt_dw T ≤ 100000) (h : tt_ap (tt_at T k) = some (r, U)) : tt_kp T (tt_put T k U) ∧ tt_nf (tt_put T k U) = tt_nf T ∧ ∀ S o w, tv_dl (tt_sem S T o w) (tt_sem S (tt_put T k U) o w) := by
  have w1 := tt_at_wf T k hk hw
  obtain ⟨w2, w3⟩ := tt_at_nw T k hn
  exact ⟨tt_put_kp hk hw hn (tt_ap_kp w1 w2 (by omega) h), tt_put_nf T k U hk (tt_ap_nf w1 w2 (by omega) h), fun S => tt_put_dl T k U (fun o w => tt_ap_dl w1 w2 (by omega) h o w) hk⟩
