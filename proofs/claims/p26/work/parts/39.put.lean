/-! what a rule leaves of counts; a pipe within a pipe, by its place in the text -/
def tt_cp : tt_T → Nat
  | .leaf => 0
  | .inner _ c _ P Q => (if tt_pmd c.1 = true then 1 else 0) + tt_cp P + tt_cp Q
def tt_cq : tt_T → Nat
  | .leaf => 0
  | .inner _ c _ P Q => (if c.1 = 116 then 1 else 0) + tt_cq P + tt_cq Q
def tt_iv : tt_T → Nat
  | .leaf => 0
  | .inner _ c _ P Q => (if c.1 = 116 then tt_cp P else if c.1 = 100 then tt_cp P + tt_cq P else 0) + tt_iv P + tt_iv Q
def tt_n0 : tt_T → Nat
  | .leaf => 0
  | .inner _ c _ P Q => (if c.1 = 114 ∧ ¬ (c.2.2.1 = 0 ∧ c.2.2.2 = 0) then 1 else 0) + tt_n0 P + tt_n0 Q
def tt_mu (T : tt_T) : Nat := 2 * tt_sz T + tt_iv T + tt_n0 T
theorem tt_cp_le : ∀ T : tt_T, tt_cp T ≤ tt_sz T ∧ tt_cq T ≤ tt_sz T ∧ tt_n0 T ≤ tt_sz T
  | .leaf => ⟨Nat.le_refl _, Nat.le_refl _, Nat.le_refl _⟩
  | .inner _ c _ P Q => by
    obtain ⟨a1, a2, a3⟩ := tt_cp_le P
    obtain ⟨b1, b2, b3⟩ := tt_cp_le Q
    simp only [tt_cp, tt_cq, tt_n0, tt_sz]
    refine ⟨?_, ?_, ?_⟩ <;> split <;> omega
theorem tt_iv_le : ∀ T : tt_T, tt_iv T ≤ 2 * (tt_sz T * tt_sz T)
  | .leaf => Nat.le_refl _
  | .inner _ c _ P Q => by
    have a := tt_iv_le P
    have b := tt_iv_le Q
    obtain ⟨a1, a2, -⟩ := tt_cp_le P
    simp only [tt_iv, tt_sz]
    have e : (tt_sz P + tt_sz Q + 1) * (tt_sz P + tt_sz Q + 1) = tt_sz P * tt_sz P + tt_sz Q * tt_sz Q + 2 * (tt_sz P * tt_sz Q) + 2 * tt_sz P + 2 * tt_sz Q + 1 := by
      simp only [Nat.add_mul, Nat.mul_add, Nat.mul_one, Nat.one_mul, Nat.mul_comm (tt_sz Q) (tt_sz P)]; omega
    rw [e]
    split
    · omega
    split
    · omega
    · omega
theorem tt_mu_le {T : tt_T} (h : tt_sz T ≤ 40) : tt_mu T ≤ 4000 := by
  have a := tt_iv_le T
  obtain ⟨-, -, b⟩ := tt_cp_le T
  have : tt_sz T * tt_sz T ≤ 40 * 40 := Nat.mul_le_mul h h
  unfold tt_mu
  omega
/-- what a rule keeps -/
def tt_kp (T T' : tt_T) : Prop := tt_wf T' ∧ tt_nw T' ∧ tt_dw T' ≤ tt_dw T ∧ tt_sz T' ≤ tt_sz T ∧ tt_cp T' ≤ tt_cp T ∧ tt_cq T' ≤ tt_cq T ∧ tt_mu T' < tt_mu T
theorem tt_kp_nil {T : tt_T} (h : 2 ≤ tt_sz T) : tt_kp T tt_nil := by
  refine ⟨tt_nil_gd.1, tt_nil_gd.2.2, Nat.zero_le _, by show 1 ≤ _; omega, Nat.zero_le _, Nat.zero_le _, ?_⟩
  show 2 < _
  unfold tt_mu; omega
theorem tt_wf_sz {T : tt_T} (h : tt_wf T) : 1 ≤ tt_sz T := by
  cases T with
  | leaf => exact absurd h id
  | inner s c u P Q => simp only [tt_sz]; omega
theorem tt_mu_r (M A B : Int32) : tt_mu (tt_nd (114, M, A, B) .leaf .leaf) ≤ 3 := by
  have k := (tt_cp_le (tt_nd (114, M, A, B) .leaf .leaf)).2.2
  have k2 : tt_sz (tt_nd (114, M, A, B) .leaf .leaf) = 1 := rfl
  have k3 : tt_iv (tt_nd (114, M, A, B) .leaf .leaf) = 0 := rfl
  unfold tt_mu
  omega
theorem tt_mu_2 {T : tt_T} (h : 2 ≤ tt_sz T) : 3 < tt_mu T := by unfold tt_mu; omega
theorem tt_apt_kp {s : Nat} {c : tt_C} {u : Unit} {P T' : tt_T} {r : Nat} (hc : c.1 = 116) (hv : tt_vm c) (hn : tt_nwc c) (hP : tt_wf P) (kP : tt_nw P) (h : tt_apt c P = some (r, T')) : tt_kp (.inner s c u P .leaf) T' := by
  obtain ⟨n1, n2⟩ := hn.1 hc
  have hz := tt_wf_sz hP
  have hcp : ¬ tt_pmd c.1 = true := by rw [hc]; decide
  have hcd : ¬ c.1 = 100 := by rw [hc]; decide
  have hcr : ¬ c.1 = 114 := by rw [hc]; decide
  cases P with
  | leaf => exact absurd hP id
  | inner z e v X Y =>
    obtain ⟨L, M, A, B⟩ := e
    obtain ⟨hs, hv2, hil, w0, w1, w2⟩ := hP
    obtain ⟨hc2, kX, kY⟩ := kP
    simp only [tt_apt] at h
    split at h
    · rename_i hp
      cases h
      obtain ⟨q1, q2⟩ := w1 (tt_pmd_il (L := L) hp).1
      subst q2
      obtain ⟨d1, d2, d3, d4, d5, -⟩ := tt_pmd_il (L := L) hp
      refine ⟨⟨rfl, hv2, hil, fun q => absurd d1 (by have q : sc_p L = 0 := q; omega), fun _ => ⟨⟨rfl, hv, by rw [hc]; decide +kernel, fun q => absurd q (by rw [hc]; decide +kernel), fun _ => ⟨q1, rfl⟩, fun q => absurd q (by rw [hc]; decide +kernel)⟩, rfl⟩, fun q => absurd d1 (by have q : sc_p L = 2 := q; omega)⟩, ⟨hc2, ⟨hn, kX, trivial⟩, trivial⟩, ?_, ?_, ?_, ?_, ?_⟩
      · simp only [tt_dw]; omega
      · simp only [tt_sz]; omega
      · simp only [tt_cp]; omega
      · simp only [tt_cq]; omega
      · simp only [tt_mu, tt_sz, tt_iv, tt_n0, tt_cp, if_pos hc, if_pos hp, if_neg d4, if_neg d5]; omega
    split at h
    · rename_i hr
      cases h
      obtain ⟨a1, a2, a3, a4⟩ := hc2.2.2 hr
      have a1 : -100000 ≤ A.toInt := a1
      have a2 : A.toInt ≤ 100000 := a2
      have a3 : -100000 ≤ B.toInt := a3
      have a4 : B.toInt ≤ 100000 := a4
      have hr2 : L = 114 := hr
      obtain ⟨q1, q2⟩ := w0 (by show sc_p L = 0; rw [hr2]; decide +kernel)
      subst q1; subst q2; subst hr2
      have e1 : (A + c.2.2.1).toInt = A.toInt + c.2.2.1.toInt := tt_add (by omega) (by omega)
      refine ⟨⟨rfl, ⟨hv2.1, fun q => q.elim (fun q => absurd q (by decide : ¬ (114 : Int32) = 116)) (fun q => absurd q (by decide : ¬ (114 : Int32) = 100))⟩, hil, fun _ => ⟨rfl, rfl⟩, fun q => absurd q (by decide +kernel : ¬ sc_p 114 = 1), fun q => absurd q (by decide +kernel : ¬ sc_p 114 = 2)⟩, ⟨⟨fun q => absurd q (by decide : ¬ (114 : Int32) = 116), fun q => absurd q (by decide : ¬ (114 : Int32) = 100), fun _ => ⟨a1, a2, ?_, ?_⟩⟩, trivial, trivial⟩, ?_, ?_, ?_, ?_, ?_⟩
      · show _ ≤ (tt_mn (A + c.2.2.1) B).toInt
        rw [tt_mn_i]; omega
      · show (tt_mn (A + c.2.2.1) B).toInt ≤ _
        rw [tt_mn_i]; omega
      · simp only [tt_dw]; omega
      · simp only [tt_sz]; omega
      · simp only [tt_cp]; omega
      · simp only [tt_cq]; omega
      · exact Nat.lt_of_le_of_lt (tt_mu_r _ _ _) (tt_mu_2 (by simp only [tt_sz]; omega))
    split at h
    · rename_i ht
      cases h
      obtain ⟨b1, b2⟩ := hc2.1 ht
      have b1 : 0 ≤ A.toInt := b1
      have b2 : A.toInt ≤ 100000 := b2
      have ht2 : L = 116 := ht
      subst ht2
      obtain ⟨q1, q2⟩ := w1 (by decide +kernel : sc_p 116 = 1)
      subst q2
      refine ⟨⟨rfl, ⟨hv2.1, hv2.2⟩, hil, fun q => absurd q (by decide +kernel : ¬ sc_p 116 = 0), fun _ => ⟨q1, rfl⟩, fun q => absurd q (by decide +kernel : ¬ sc_p 116 = 2)⟩, ⟨⟨fun _ => ⟨?_, ?_⟩, fun q => absurd q (by decide : ¬ (116 : Int32) = 100), fun q => absurd q (by decide : ¬ (116 : Int32) = 114)⟩, kX, trivial⟩, ?_, ?_, ?_, ?_, ?_⟩
      · show _ ≤ (tt_mn A c.2.2.1).toInt
        rw [tt_mn_i]; omega
      · show (tt_mn A c.2.2.1).toInt ≤ _
        rw [tt_mn_i]; omega
      · simp only [tt_dw, if_neg hcd]; simp
      · simp only [tt_sz]; omega
      · simp only [tt_cp]; omega
      · simp only [tt_cq]; omega
      · simp only [tt_mu, tt_sz, tt_iv, tt_n0, tt_cp, if_pos hc]; simp; omega
    split at h
    · cases h
      exact tt_kp_nil (by simp only [tt_sz] at hz ⊢; omega)
    · cases h
theorem tt_apd_kp {s : Nat} {c : tt_C} {u : Unit} {P T' : tt_T} {r : Nat} (hc : c.1 = 100) (hv : tt_vm c) (hn : tt_nwc c) (hP : tt_wf P) (kP : tt_nw P) (hd : c.2.2.1.toInt.toNat + tt_dw P ≤ 100000) (h : tt_apd c P = some (r, T')) : tt_kp (.inner s c u P .leaf) T' := by
  have n1 := hn.2.1 hc
  have hz := tt_wf_sz hP
  have hcp : ¬ tt_pmd c.1 = true := by rw [hc]; decide
  have hcd : ¬ c.1 = 116 := by rw [hc]; decide
  have hcr : ¬ c.1 = 114 := by rw [hc]; decide
  cases P with
  | leaf => exact absurd hP id
  | inner z e v X Y =>
    obtain ⟨L, M, A, B⟩ := e
    obtain ⟨hs, hv2, hil, w0, w1, w2⟩ := id hP
    obtain ⟨hc2, kX, kY⟩ := id kP
    simp only [tt_dw] at hd
    simp only [tt_apd] at h
    split at h
    · rename_i hp
      cases h
      obtain ⟨q1, q2⟩ := w1 (tt_pmd_il (L := L) hp).1
      subst q2
      obtain ⟨d1, d2, d3, d4, d5, -⟩ := tt_pmd_il (L := L) hp
      refine ⟨⟨rfl, hv2, hil, fun q => absurd d1 (by have q : sc_p L = 0 := q; omega), fun _ => ⟨⟨rfl, hv, by rw [hc]; decide +kernel, fun q => absurd q (by rw [hc]; decide +kernel), fun _ => ⟨q1, rfl⟩, fun q => absurd q (by rw [hc]; decide +kernel)⟩, rfl⟩, fun q => absurd d1 (by have q : sc_p L = 2 := q; omega)⟩, ⟨hc2, ⟨hn, kX, trivial⟩, trivial⟩, ?_, ?_, ?_, ?_, ?_⟩
      · simp only [tt_dw]; omega
      · simp only [tt_sz]; omega
      · simp only [tt_cp]; omega
      · simp only [tt_cq]; omega
      · simp only [tt_mu, tt_sz, tt_iv, tt_n0, tt_cp, tt_cq, if_pos hc, if_neg hcd, if_pos hp, if_neg d4, if_neg d5]; omega
    split at h
    · rename_i ht
      cases h
      have b1 := hc2.2.1 ht
      have b1 : 0 ≤ A.toInt := b1
      rw [if_pos ht] at hd
      have hd : c.2.2.1.toInt.toNat + (A.toInt.toNat + tt_dw X + tt_dw Y) ≤ 100000 := hd
      have e1 : (c.2.2.1 + A).toInt = c.2.2.1.toInt + A.toInt := tt_add (by omega) (by omega)
      have ht2 : L = 100 := ht
      subst ht2
      obtain ⟨q1, q2⟩ := w1 (by decide +kernel : sc_p 100 = 1)
      subst q2
      refine ⟨⟨rfl, ⟨hv2.1, hv2.2⟩, hil, fun q => absurd q (by decide +kernel : ¬ sc_p 100 = 0), fun _ => ⟨q1, rfl⟩, fun q => absurd q (by decide +kernel : ¬ sc_p 100 = 2)⟩, ⟨⟨fun q => absurd q (by decide : ¬ (100 : Int32) = 116), fun _ => ?_, fun q => absurd q (by decide : ¬ (100 : Int32) = 114)⟩, kX, trivial⟩, ?_, ?_, ?_, ?_, ?_⟩
      · show 0 ≤ (c.2.2.1 + A).toInt
        omega
      · simp only [tt_dw, if_pos hc, if_true, e1]; omega
      · simp only [tt_sz]; omega
      · simp only [tt_cp]; omega
      · simp only [tt_cq]; omega
      · simp only [tt_mu, tt_sz, tt_iv, tt_n0, tt_cp, tt_cq, if_pos hc, if_neg hcd]; simp; omega
    split at h
    · rename_i hi
      cases h
      have hi2 : L = 105 := hi
      obtain ⟨q1, q2⟩ := w0 (by show sc_p L = 0; rw [hi2]; decide +kernel)
      subst q1; subst q2; subst hi2
      refine ⟨⟨rfl, ⟨fun q => absurd q (by decide : ¬ (105 : Int32) = 114), fun q => q.elim (fun q => absurd q (by decide : ¬ (105 : Int32) = 116)) (fun q => absurd q (by decide : ¬ (105 : Int32) = 100))⟩, hil, fun _ => ⟨rfl, rfl⟩, fun q => absurd q (by decide +kernel : ¬ sc_p 105 = 1), fun q => absurd q (by decide +kernel : ¬ sc_p 105 = 2)⟩, ⟨⟨fun q => absurd q (by decide : ¬ (105 : Int32) = 116), fun q => absurd q (by decide : ¬ (105 : Int32) = 100), fun q => absurd q (by decide : ¬ (105 : Int32) = 114)⟩, trivial, trivial⟩, ?_, ?_, ?_, ?_, ?_⟩
      · simp [tt_dw]
      · simp only [tt_sz]; omega
      · simp only [tt_cp]; omega
      · simp only [tt_cq]; omega
      · simp [tt_mu, tt_sz, tt_iv, tt_n0]
        omega
    split at h
    · rename_i hr
      cases h
      obtain ⟨a1, a2, a3, a4⟩ := hc2.2.2 hr
      have a1 : -100000 ≤ A.toInt := a1
      have a2 : A.toInt ≤ 100000 := a2
      have a3 : -100000 ≤ B.toInt := a3
      have a4 : B.toInt ≤ 100000 := a4
      have hr2 : L = 114 := hr
      obtain ⟨q1, q2⟩ := w0 (by show sc_p L = 0; rw [hr2]; decide +kernel)
      subst q1; subst q2; subst hr2
      have e1 : (A + c.2.2.1).toInt = A.toInt + c.2.2.1.toInt := tt_add (by omega) (by omega)
      refine ⟨⟨rfl, ⟨hv2.1, fun q => q.elim (fun q => absurd q (by decide : ¬ (114 : Int32) = 116)) (fun q => absurd q (by decide : ¬ (114 : Int32) = 100))⟩, hil, fun _ => ⟨rfl, rfl⟩, fun q => absurd q (by decide +kernel : ¬ sc_p 114 = 1), fun q => absurd q (by decide +kernel : ¬ sc_p 114 = 2)⟩, ⟨⟨fun q => absurd q (by decide : ¬ (114 : Int32) = 116), fun q => absurd q (by decide : ¬ (114 : Int32) = 100), fun _ => ⟨?_, ?_, a3, a4⟩⟩, trivial, trivial⟩, ?_, ?_, ?_, ?_, ?_⟩
      · show _ ≤ (tt_mn (A + c.2.2.1) B).toInt
        rw [tt_mn_i]; omega
      · show (tt_mn (A + c.2.2.1) B).toInt ≤ _
        rw [tt_mn_i]; omega
      · simp [tt_dw]
      · simp only [tt_sz]; omega
      · simp only [tt_cp]; omega
      · simp only [tt_cq]; omega
      · exact Nat.lt_of_le_of_lt (tt_mu_r _ _ _) (tt_mu_2 (by simp only [tt_sz]; omega))
    split at h
    · rename_i ht
      cases h
      obtain ⟨b1, b2⟩ := hc2.1 ht.1
      have b1 : 0 ≤ A.toInt := b1
      have b2 : A.toInt ≤ 100000 := b2
      have ht2 : L = 116 := ht.1
      subst ht2
      obtain ⟨q1, q2⟩ := w1 (by decide +kernel : sc_p 116 = 1)
      subst q2
      have e1 : (A - c.2.2.1).toInt = A.toInt - c.2.2.1.toInt := tt_sub (by omega) (by omega)
      refine ⟨⟨rfl, ⟨hv2.1, hv2.2⟩, hil, fun q => absurd q (by decide +kernel : ¬ sc_p 116 = 0), fun _ => ⟨⟨rfl, hv, by rw [hc]; decide +kernel, fun q => absurd q (by rw [hc]; decide +kernel), fun _ => ⟨q1, rfl⟩, fun q => absurd q (by rw [hc]; decide +kernel)⟩, rfl⟩, fun q => absurd q (by decide +kernel : ¬ sc_p 116 = 2)⟩, ⟨⟨fun _ => ⟨?_, ?_⟩, fun q => absurd q (by decide : ¬ (116 : Int32) = 100), fun q => absurd q (by decide : ¬ (116 : Int32) = 114)⟩, ⟨hn, kX, trivial⟩, trivial⟩, ?_, ?_, ?_, ?_, ?_⟩
      · show _ ≤ (tt_mz (A - c.2.2.1)).toInt
        rw [tt_mz_i]; omega
      · show (tt_mz (A - c.2.2.1)).toInt ≤ _
        rw [tt_mz_i]; omega
      · simp only [tt_dw]; simp
      · simp only [tt_sz]; omega
      · simp only [tt_cp]; omega
      · simp only [tt_cq]; omega
      · simp only [tt_mu, tt_sz, tt_iv, tt_n0, tt_cp, tt_cq, if_pos hc, if_neg hcd, if_neg hcp]; simp; omega
    split at h
    · cases h
      refine ⟨hP, kP, ?_, ?_, ?_, ?_, ?_⟩
      · simp only [tt_dw]; omega
      · simp only [tt_sz]; omega
      · simp only [tt_cp]; omega
      · simp only [tt_cq]; omega
      · simp only [tt_mu, tt_sz, tt_iv, tt_n0]; omega
    · cases h
theorem tt_ap_kp {T T' : tt_T} {r : Nat} (hw : tt_wf T) (hn : tt_nw T) (hd : tt_dw T ≤ 100000) (h : tt_ap T = some (r, T')) : tt_kp T T' := by
  cases T with
  | leaf => cases h
  | inner s c u P Q =>
    obtain ⟨hs, hv, hil, w0, w1, w2⟩ := id hw
    obtain ⟨n1, n2, n3⟩ := hn
    simp only [tt_dw] at hd
    simp only [tt_ap] at h
    split at h
    · rename_i hr
      split at h
      · rename_i q
        cases h
        refine ⟨tt_nil_gd.1, tt_nil_gd.2.2, Nat.zero_le _, by simp only [tt_sz, tt_nil]; omega, Nat.zero_le _, Nat.zero_le _, ?_⟩
        show 2 < _
        simp only [tt_mu, tt_sz, tt_n0, if_pos (And.intro hr q.2)]; omega
      · cases h
    split at h
    · rename_i hc
      obtain ⟨q1, q2⟩ := w1 (by rw [hc]; decide +kernel)
      subst q2
      exact tt_apt_kp hc hv n1 q1 n2 h
    split at h
    · rename_i hc
      obtain ⟨q1, q2⟩ := w1 (by rw [hc]; decide +kernel)
      subst q2
      rw [if_pos hc] at hd
      exact tt_apd_kp hc hv n1 q1 n2 (by omega) h
    split at h
    · rename_i hc
      obtain ⟨q1, q2⟩ := w2 (by rw [hc]; decide +kernel)
      have z1 := tt_wf_sz q1
      have z2 := tt_wf_sz q2
      split at h
      · cases h
        refine ⟨q2, n3, ?_, ?_, ?_, ?_, ?_⟩
        · simp only [tt_dw]; omega
        · simp only [tt_sz]; omega
        · simp only [tt_cp]; omega
        · simp only [tt_cq]; omega
        · simp only [tt_mu, tt_sz, tt_iv, tt_n0]; omega
      split at h
      · cases h
        refine ⟨q1, n2, ?_, ?_, ?_, ?_, ?_⟩
        · simp only [tt_dw]; omega
        · simp only [tt_sz]; omega
        · simp only [tt_cp]; omega
        · simp only [tt_cq]; omega
        · simp only [tt_mu, tt_sz, tt_iv, tt_n0]; omega
      · cases h
    split at h
    · cases h
    rename_i g1 g2 g3 g4 g5
    have hp0 : ¬ sc_p c.1 = 0 := fun q => by
      simp only [sc_il, decide_eq_true_eq] at hil
      simp only [not_or] at g5
      rcases hil with e1 | e1 | e1 | e1 | e1 | e1
      · exact g5.1 e1
      · exact g1 e1
      · exact g5.2.1 e1
      · exact g5.2.2.1 e1
      · exact g5.2.2.2 e1
      · exact e1 q
    have wP : tt_wf P := by
      rcases sc_p3 c.1 with k | k | k
      · exact absurd k hp0
      · exact (w1 k).1
      · exact (w2 k).1
    have hz := tt_wf_sz wP
    split at h
    · split at h
      · cases h
        exact tt_kp_nil (by simp only [tt_sz]; omega)
      · cases h
    · split at h
      · cases h
        exact tt_kp_nil (by simp only [tt_sz]; omega)
      · cases h
