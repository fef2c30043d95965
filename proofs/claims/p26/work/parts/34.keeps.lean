/-! each rule keeps what a pipe does, but for draws -/
theorem tt_cl (x : Int32) : x.toNatClampNeg = x.toInt.toNat := rfl
theorem tt_add {a b : Int32} (h1 : -2147483648 ≤ a.toInt + b.toInt) (h2 : a.toInt + b.toInt < 2147483648) : (a + b).toInt = a.toInt + b.toInt := by
  rw [Int32.toInt_add]
  exact Int.bmod_eq_of_le (by omega) (by omega)
theorem tt_sub {a b : Int32} (h1 : -2147483648 ≤ a.toInt - b.toInt) (h2 : a.toInt - b.toInt < 2147483648) : (a - b).toInt = a.toInt - b.toInt := by
  rw [Int32.toInt_sub]
  exact Int.bmod_eq_of_le (by omega) (by omega)
theorem tt_ofp {x : Int32} (h : 0 ≤ x.toInt) : x = nI x.toInt.toNat := Int32.toInt_inj.mp (by
  have := x.toInt_lt
  rw [nI_toInt (by omega)]; omega)
/-- a node that makes one number of each -/
theorem tt_op_pm {c : tt_C} {o : Int32} (h : tt_pmd c.1 = true) : ∃ g : Int32 → Int32, ∀ v, tt_op c o v = [.inl (g v)] := by
  simp only [tt_pmd, decide_eq_true_eq] at h
  rcases h with h | h | h
  · exact ⟨fun v => tt_md v c.2.2.1, fun v => by simp only [tt_op, if_pos h]⟩
  · exact ⟨fun v => v * c.2.2.1, fun v => by simp only [tt_op]; rw [if_neg (by rw [h]; decide), if_pos h]⟩
  · exact ⟨fun v => v + c.2.2.1, fun v => by simp only [tt_op]; rw [if_neg (by rw [h]; decide), if_neg (by rw [h]; decide), if_pos h]⟩
/-- what the rules see of a letter -/
theorem tt_sem_pm {S : tt_S} {s : Nat} {c : tt_C} {u : Unit} {P Q : tt_T} {o w : Int32} (h : tt_pmd c.1 = true) : tt_sem S (.inner s c u P Q) o w = tv_bnd (tt_op c o) (tt_sem S P o w) := by
  simp only [tt_pmd, decide_eq_true_eq] at h
  simp only [tt_sem]
  rcases h with h | h | h <;> rw [h] <;> rfl
theorem tt_sem_t {S : tt_S} {s : Nat} {c : tt_C} {u : Unit} {P Q : tt_T} {o w : Int32} (h : c.1 = 116) : tt_sem S (.inner s c u P Q) o w = tv_tk (tt_sem S P o w) c.2.2.1.toNatClampNeg := by
  simp only [tt_sem]; rw [h]; rfl
theorem tt_sem_d {S : tt_S} {s : Nat} {c : tt_C} {u : Unit} {P Q : tt_T} {o w : Int32} (h : c.1 = 100) : tt_sem S (.inner s c u P Q) o w = tv_dr (tt_sem S P o w) c.2.2.1.toNatClampNeg := by
  simp only [tt_sem]; rw [h]; rfl
theorem tt_sem_c {S : tt_S} {s : Nat} {c : tt_C} {u : Unit} {P Q : tt_T} {o w : Int32} (h : c.1 = 99) : tt_sem S (.inner s c u P Q) o w = tt_sem S P o w ++ tt_sem S Q o w := by
  simp only [tt_sem]; rw [h]; rfl
theorem tt_sem_r {S : tt_S} {s : Nat} {c : tt_C} {u : Unit} {P Q : tt_T} {o w : Int32} (h : c.1 = 114) : tt_sem S (.inner s c u P Q) o w = tv_pr (fun j => c.2.2.1 + nI j) 0 (c.2.2.2.toInt - c.2.2.1.toInt).toNat := by
  simp only [tt_sem]; rw [h]
  show tt_lf S c o w 0 = _
  simp only [tt_lf]; rw [h]; rfl
theorem tt_sem_i {S : tt_S} {s : Nat} {c : tt_C} {u : Unit} {P Q : tt_T} {o w : Int32} (h : c.1 = 105) : tt_sem S (.inner s c u P Q) o w = tv_pr (fun j => c.2.2.1 + nI j * c.2.2.2) 0 600 ++ [tv_c] := by
  simp only [tt_sem]; rw [h]
  show tt_lf S c o w 0 = _
  simp only [tt_lf]; rw [h]; rfl
theorem tt_sem_isnil {S : tt_S} {T : tt_T} {o w : Int32} (h : tt_isnil T = true) : tt_sem S T o w = [] := by
  cases T with
  | leaf => cases h
  | inner s c u P Q =>
    simp only [tt_isnil, decide_eq_true_eq] at h
    rw [tt_sem_r h.1, h.2.1, h.2.2]
    rfl
theorem tt_sem_nil {S : tt_S} {o w : Int32} : tt_sem S tt_nil o w = [] := tt_sem_isnil rfl
theorem tv_dg_prc (f : Nat → Int32) : ∀ (m i : Nat), tv_dg (tv_pr f i m ++ [tv_c])
  | 0, _ => rfl
  | m + 1, i => tv_dg_prc f m (i + 1)
/-- pure nodes -/
theorem tt_pu_dg {S : tt_S} : ∀ (T : tt_T) (o w : Int32), tt_pu T = true → tv_dg (tt_sem S T o w)
  | .leaf, _, _, _ => trivial
  | .inner _ c _ P Q, o, w, h => by
    simp only [tt_pu, Bool.and_eq_true, Bool.not_eq_true', sc_im, decide_eq_false_iff_not, not_or] at h
    obtain ⟨⟨⟨h1, h2, h3⟩, hP⟩, hQ⟩ := h
    have iP := tt_pu_dg (S := S) P
    have iQ := tt_pu_dg (S := S) Q
    simp only [tt_sem]
    split
    · exact tv_dg_bnd (fun v => iP _ _ hP) (iQ _ _ hQ)
    split
    · exact tv_dg_app (iP _ _ hP) (iQ _ _ hQ)
    split
    · exact tv_dg_zp (iP _ _ hP) (iQ _ _ hQ)
    split
    · exact tv_dg_tk (iP _ _ hP)
    split
    · exact tv_dg_dr (iP _ _ hP)
    split
    · exact tv_dg_tw (iP _ _ hP)
    split
    · unfold tt_lf
      repeat' split
      all_goals first | exact tv_dg_prc _ _ _ | exact tv_dg_pr _ _ _ | trivial | (exfalso; simp_all; done)
    · refine tv_dg_bnd (fun v => ?_) (iP _ _ hP)
      unfold tt_op
      repeat' split
      all_goals first | trivial | (exfalso; simp_all; done)
theorem tt_apt_dl {S : tt_S} {c : tt_C} {P T' : tt_T} {r : Nat} (hc : c.1 = 116) (hn : tt_nwc c) (hP : tt_nw P) (h : tt_apt c P = some (r, T')) (o w : Int32) : tv_dl (tv_tk (tt_sem S P o w) c.2.2.1.toNatClampNeg) (tt_sem S T' o w) := by
  obtain ⟨n1, n2⟩ := hn.1 hc
  cases P with
  | leaf => cases h
  | inner s e u P Q =>
    obtain ⟨L, M, A, B⟩ := e
    have he := hP.1
    simp only [tt_apt] at h
    simp only [tt_nwc] at he
    split at h
    · rename_i hp
      cases h
      obtain ⟨g, hg⟩ := tt_op_pm (c := (L, M, A, B)) (o := o) hp
      rw [tt_sem_pm (c := (L, M, A, B)) hp, tt_sem_pm (c := (L, M, A, B)) hp, tt_sem_t hc, tv_tk_map hg]
      exact tv_dl_rf _
    split at h
    · rename_i hr
      cases h
      obtain ⟨a1, a2, a3, a4⟩ := he.2.2 hr
      rw [tt_sem_r hr, tt_sem_r (c := (L, M, _, _)) hr, tv_tk_pr]
      have hadd : (A + c.2.2.1).toInt = A.toInt + c.2.2.1.toInt := tt_add (by omega) (by omega)
      have : min (B.toInt - A.toInt).toNat c.2.2.1.toNatClampNeg = ((if A + c.2.2.1 < B then A + c.2.2.1 else B).toInt - A.toInt).toNat := by
        rw [tt_cl]
        split
        · rename_i q
          rw [Int32.lt_iff_toInt_lt, hadd] at q
          rw [hadd]; omega
        · rename_i q
          rw [Int32.lt_iff_toInt_lt, hadd] at q
          omega
      rw [this]
      exact tv_dl_rf _
    split at h
    · rename_i ht
      cases h
      rw [tt_sem_t ht, tt_sem_t (c := (L, M, _, _)) ht, tv_tk_tk]
      have : min c.2.2.1.toNatClampNeg A.toNatClampNeg = (if A < c.2.2.1 then A else c.2.2.1).toNatClampNeg := by
        rw [tt_cl, tt_cl]
        split
        · rename_i q
          rw [Int32.lt_iff_toInt_lt] at q
          rw [tt_cl]; omega
        · rename_i q
          rw [Int32.lt_iff_toInt_lt] at q
          rw [tt_cl]; omega
      rw [this]
      exact tv_dl_rf _
    split at h
    · rename_i h0
      cases h
      rw [h0, tt_sem_nil]
      have : (0 : Int32).toNatClampNeg = 0 := by decide +kernel
      rw [this, tv_tk0]
      exact rfl
    · cases h
theorem tt_i_sum (a n b : Int32) (j : Nat) {k : Nat} (h : n = nI k) : a + nI (j + k) * b = a + n * b + nI j * b := by
  rw [h, ← nI_add, Int32.add_mul, Int32.add_comm (nI j * b), ← Int32.add_assoc]
theorem tt_apd_dl {S : tt_S} {c : tt_C} {P T' : tt_T} {r : Nat} (hc : c.1 = 100) (hn : tt_nwc c) (hP : tt_nw P) (hd : c.2.2.1.toInt.toNat + tt_dw P ≤ 100000) (h : tt_apd c P = some (r, T')) (o w : Int32) : tv_dl (tv_dr (tt_sem S P o w) c.2.2.1.toNatClampNeg) (tt_sem S T' o w) := by
  have n1 := hn.2.1 hc
  cases P with
  | leaf => cases h
  | inner s e u P Q =>
    obtain ⟨L, M, A, B⟩ := e
    have he := hP.1
    simp only [tt_apd] at h
    simp only [tt_nwc] at he
    split at h
    · rename_i hp
      cases h
      obtain ⟨g, hg⟩ := tt_op_pm (c := (L, M, A, B)) (o := o) hp
      rw [tt_sem_pm (c := (L, M, A, B)) hp, tt_sem_pm (c := (L, M, A, B)) hp, tt_sem_d hc, tv_dr_map hg]
      exact tv_dl_rf _
    split at h
    · rename_i hd2
      cases h
      have n2 := he.2.1 hd2
      simp only [tt_dw, if_pos hd2] at hd
      rw [tt_sem_d hd2, tt_sem_d (c := (L, M, _, _)) hd2, tv_dr_dr]
      have : A.toNatClampNeg + c.2.2.1.toNatClampNeg = (c.2.2.1 + A).toNatClampNeg := by
        rw [tt_cl, tt_cl, tt_cl, tt_add (by omega) (by omega)]; omega
      rw [this]
      exact tv_dl_rf _
    split at h
    · rename_i hi
      cases h
      rw [tt_sem_i hi, tt_sem_i (c := (L, M, _, _)) hi, tt_cl]
      have hcut : ∀ k, tv_dl (tv_dr [tv_c] k) [tv_c] := fun k => by cases k <;> exact Or.inl rfl
      have h1 := tv_dr_pr (fun j => A + nI j * B) [tv_c] hcut 600 0 c.2.2.1.toInt.toNat
      refine tv_dl_tr h1 ?_
      by_cases hle : c.2.2.1.toInt.toNat ≤ 600
      · rw [Nat.min_eq_right hle, Nat.zero_add]
        have h2 := tv_pr_cut (fun j => A + nI j * B) c.2.2.1.toInt.toNat (600 - c.2.2.1.toInt.toNat) c.2.2.1.toInt.toNat
        rw [show 600 - c.2.2.1.toInt.toNat + c.2.2.1.toInt.toNat = 600 by omega] at h2
        have e1 := tv_pr_sh (fun j => A + nI j * B) c.2.2.1.toInt.toNat 600 0
        rw [Nat.zero_add] at e1
        rw [e1, tv_pr_congr (g := fun j => A + c.2.2.1 * B + nI j * B) (fun j => tt_i_sum _ _ _ j (tt_ofp n1))] at h2
        exact h2
      · rw [show 600 - c.2.2.1.toInt.toNat = 0 by omega]
        exact Or.inl rfl
    split at h
    · rename_i hr
      cases h
      obtain ⟨a1, a2, a3, a4⟩ := he.2.2 hr
      rw [tt_sem_r hr, tt_sem_r (c := (L, M, _, _)) hr, tt_cl]
      have hadd : (A + c.2.2.1).toInt = A.toInt + c.2.2.1.toInt := tt_add (by omega) (by omega)
      have h1 := tv_dr_pr (fun j => A + nI j) [] (fun k => by rw [tv_dr_nil]; exact rfl) (B.toInt - A.toInt).toNat 0 c.2.2.1.toInt.toNat
      rw [List.append_nil, List.append_nil, Nat.zero_add] at h1
      refine tv_dl_tr h1 ?_
      have e1 := tv_pr_sh (fun j => A + nI j) (min (B.toInt - A.toInt).toNat c.2.2.1.toInt.toNat) ((B.toInt - A.toInt).toNat - c.2.2.1.toInt.toNat) 0
      rw [Nat.zero_add] at e1
      rw [e1]
      have key : (B.toInt - A.toInt).toNat - c.2.2.1.toInt.toNat = (B.toInt - (if A + c.2.2.1 < B then A + c.2.2.1 else B).toInt).toNat ∧ (0 < (B.toInt - A.toInt).toNat - c.2.2.1.toInt.toNat → A + nI (min (B.toInt - A.toInt).toNat c.2.2.1.toInt.toNat) = (if A + c.2.2.1 < B then A + c.2.2.1 else B)) := by
        split
        · rename_i q
          rw [Int32.lt_iff_toInt_lt, hadd] at q
          refine ⟨by rw [hadd]; omega, fun _ => ?_⟩
          rw [Nat.min_eq_right (by omega), ← tt_ofp n1]
        · rename_i q
          rw [Int32.lt_iff_toInt_lt, hadd] at q
          exact ⟨by omega, fun q2 => by omega⟩
      rw [← key.1]
      by_cases h0 : 0 < (B.toInt - A.toInt).toNat - c.2.2.1.toInt.toNat
      · rw [← key.2 h0, tv_pr_congr (g := fun j => A + nI (min (B.toInt - A.toInt).toNat c.2.2.1.toInt.toNat) + nI j) (fun j => by rw [← nI_add, Int32.add_comm (nI j), ← Int32.add_assoc])]
        exact tv_dl_rf _
      · rw [show (B.toInt - A.toInt).toNat - c.2.2.1.toInt.toNat = 0 by omega]
        exact rfl
    split at h
    · rename_i ht
      cases h
      obtain ⟨n3, n4⟩ := he.1 ht.1
      rw [tt_sem_t ht.1, tt_sem_t (c := (L, M, _, _)) ht.1, tt_sem_d hc]
      have hsub : (A - c.2.2.1).toInt = A.toInt - c.2.2.1.toInt := tt_sub (by omega) (by omega)
      have : (if 0 < A - c.2.2.1 then A - c.2.2.1 else 0).toNatClampNeg = A.toNatClampNeg - c.2.2.1.toNatClampNeg := by
        have z0 : (0 : Int32).toInt = 0 := by decide +kernel
        rw [tt_cl, tt_cl, tt_cl]
        split
        · rename_i q
          rw [Int32.lt_iff_toInt_lt, hsub, z0] at q
          rw [hsub]; omega
        · rename_i q
          rw [Int32.lt_iff_toInt_lt, hsub, z0] at q
          rw [z0]; omega
      rw [this]
      exact tv_dl_5 _ _ _ (tt_pu_dg P _ _ ht.2)
    split at h
    · rename_i h0
      cases h
      rw [h0, show (0 : Int32).toNatClampNeg = 0 from by decide +kernel, tv_dr0]
      exact tv_dl_rf _
    · cases h
/-- what an op of nothing is -/
theorem tt_sem_op {S : tt_S} {s : Nat} {c : tt_C} {u : Unit} {P Q : tt_T} {o w : Int32} (hx : ¬ c.1 = 120) (hc : ¬ c.1 = 99) (hp : ¬ sc_p c.1 = 0) (h : tt_sem S P o w = []) : tt_sem S (.inner s c u P Q) o w = [] := by
  simp only [tt_sem, h]
  rw [if_neg hx, if_neg hc]
  split
  · rfl
  split
  · exact tv_tk_nil _
  split
  · exact tv_dr_nil _
  split
  · rfl
  first | rfl | (rw [if_neg hp]; rfl)
theorem tt_ap_dl {S : tt_S} {T T' : tt_T} {r : Nat} (hw : tt_wf T) (hn : tt_nw T) (hd : tt_dw T ≤ 100000) (h : tt_ap T = some (r, T')) (o w : Int32) : tv_dl (tt_sem S T o w) (tt_sem S T' o w) := by
  cases T with
  | leaf => cases h
  | inner s c u P Q =>
    obtain ⟨hs, hm, hil, w0, w1, w2⟩ := hw
    obtain ⟨n1, n2, n3⟩ := hn
    simp only [tt_ap] at h
    split at h
    · rename_i hr
      split at h
      · rename_i q
        cases h
        rw [tt_sem_r hr, tt_sem_nil, show (c.2.2.2.toInt - c.2.2.1.toInt).toNat = 0 by have := Int32.le_iff_toInt_le.mp q.1; omega]
        exact rfl
      · cases h
    split at h
    · rename_i hc
      rw [tt_sem_t hc]
      exact tt_apt_dl hc n1 n2 h o w
    split at h
    · rename_i hc
      rw [tt_sem_d hc]
      simp only [tt_dw, if_pos hc] at hd
      exact tt_apd_dl hc n1 n2 (by omega) h o w
    split at h
    · rename_i hc
      rw [tt_sem_c hc]
      split at h
      · rename_i q
        cases h
        rw [tt_sem_isnil q]
        exact tv_dl_rf _
      split at h
      · rename_i q
        cases h
        rw [tt_sem_isnil (T := Q) q, List.append_nil]
        exact tv_dl_rf _
      · cases h
    rename_i g1 g2 g3 g4
    split at h
    · cases h
    rename_i g5
    split at h
    · rename_i hc
      split at h
      · rename_i q
        cases h
        rw [tt_sem_nil]
        simp only [tt_sem]
        rw [if_pos hc, tt_sem_isnil (T := Q) q]
        exact rfl
      · cases h
    rename_i g6
    split at h
    · rename_i q
      cases h
      have hp : ¬ sc_p c.1 = 0 := fun e => by
        simp only [sc_il, decide_eq_true_eq] at hil
        simp only [not_or] at g5
        rcases hil with e1 | e1 | e1 | e1 | e1 | e1
        · exact g5.1 e1
        · exact g1 e1
        · exact g5.2.1 e1
        · exact g5.2.2.1 e1
        · exact g5.2.2.2 e1
        · exact e1 e
      rw [tt_sem_nil, tt_sem_op g6 g4 hp (tt_sem_isnil q)]
      exact rfl
    · cases h
