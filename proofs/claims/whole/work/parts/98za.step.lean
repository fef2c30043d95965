/-! RUNS, way 1: what a step of a node comes to -/
theorem sc_r27 {X : sc_X} (hq : X.q = 27) : sf_pl X.q = 1 ∧ sf_rn X.q = 19 ∧ sf_vl X.q = 6 ∧ sf_op X.q = X.q + 3 := by
  rw [hq]; exact ⟨by decide, by decide, by decide, by decide⟩
def sc_N1 : sc_NT := fun c f s D us tu ke op he hc hk => ∃ u : Nat, u ≤ D ∧ us = nI u ∧ sc_Np c f s ke op he u ∧
  (c = 116 → ke = nI u ∧ (u : Int) ≤ f.toInt) ∧ (c = 100 → ∃ r : Nat, r ≤ D ∧ ke = f - nI r ∧ (u = r ∨ (f.toInt ≤ u ∧ f.toInt ≤ r))) ∧ (c = 99 ∨ c = 120 → ∃ t : Bool, tu = sc_b t ∧ ke = sc_b t) ∧ (c = 122 → ∃ t : Bool, tu = sc_b t ∧ ke = sc_b t ∧ (t = true → hc = hk))
theorem sc_N1_m {c f s : Int32} {d : Nat} {us tu ke op he op' he' hc hk : Int32} {d' : Nat} (hd : d ≤ d') (ho : c = 117 ∨ c = 118 → op' = op ∧ he' = he) (hN : sc_N1 c f s d us tu ke op he hc hk) : sc_N1 c f s d' us tu ke op' he' hc hk := by
  obtain ⟨u, h1, h2, ⟨n1, n2, n3, n4⟩, h4, h5, h6⟩ := hN
  refine ⟨u, by omega, h2, ⟨n1, n2, n3, fun q => ?_⟩, h4, fun q => ?_, h6⟩
  · rw [(ho q).1, (ho q).2]; exact n4 q
  · obtain ⟨r, r1, r2⟩ := h5 q
    exact ⟨r, by omega, r2⟩
theorem sc_k00 {c f : Int32} (h1 : c ≠ 114) (h2 : c ≠ 105) (h3 : c ≠ 100) : sc_k0 c f = sc_b false := by
  unfold sc_k0
  rw [if_neg h1, if_neg h2, if_neg h3]; rfl
theorem sc_N1_bg {D : Nat} {c mk f s op he hc hk : Int32} (hv : sc_vn c mk f s) (h : c = 117 ∨ c = 118 → op = he) : sc_N1 c f s D 0 0 (sc_k0 c f) op he hc hk := by
  obtain ⟨u, h1, h2, h3, h4, h5, -⟩ := sc_N0_bg (D := 0) (hc := hc) (hk := hk) hv h
  have hu : u = 0 := by omega
  subst hu
  refine ⟨0, by omega, h2, h3, h4, fun q => ⟨0, by omega, ?_, Or.inl rfl⟩, fun q => ⟨false, rfl, ?_⟩, fun q => ⟨false, rfl, ?_, fun q => absurd q (by decide)⟩⟩
  · exact (h5 q).2.1
  · rcases q with q | q <;> rw [q] <;> exact sc_k00 (by decide) (by decide) (by decide)
  · rw [q]; exact sc_k00 (by decide) (by decide) (by decide)
theorem sc_Lv.f1 {X : sc_X} {D D' a lo hi : Nat} {σ τ σ' τ' σc τc : sf_S} (h : sc_Lv X sc_N1 D σ τ a) (hC : sc_Cy X σc τc) (ha : a < X.n) (hD : D ≤ D') (ho : sc_Out X lo hi σ τ σ' τ') (hcl : ∀ x, lo ≤ x → x < hi → X.L x = 120 → X.E (x + 1) ≤ hi) (hd : X.E a ≤ lo ∨ hi ≤ a) : sc_Lv X sc_N1 D' σ' τ' a :=
  sc_Lv.far (N := sc_N1) (fun a b c => sc_N1_m a b c) hC ha h hD ho hcl hd
theorem sc_Lv.same1 {X : sc_X} {D a : Nat} {σ τ σ' τ' σc τc : sf_S} (h : sc_Lv X sc_N1 D σ τ a) (hC : sc_Cy X σc τc) (ha : a < X.n) (ho : sc_Out X 0 0 σ τ σ' τ') : sc_Lv X sc_N1 D σ' τ' a :=
  h.f1 hC ha (Nat.le_refl _) ho (fun x _ hx => absurd hx (Nat.not_lt_zero x)) (Or.inr (Nat.zero_le _))
theorem sc_Nat.t1 {X : sc_X} {D D' k lo hi : Nat} {σ τ σ' τ' : sf_S} (h : sc_Nat X sc_N1 D σ τ k) (hD : D ≤ D') (ho : sc_Out X lo hi σ τ σ' τ') (hk : ¬ (lo ≤ k ∧ k < hi)) (hu : 1 ≤ sc_p (X.L k)) : sc_Nat X sc_N1 D' σ' τ' k := by
  unfold sc_Nat at h ⊢
  obtain ⟨a1, a2, a3, a4, a5, a6⟩ := ho k hk
  rw [a1, a2, a3, a5, a6]
  refine sc_N1_m hD (fun q => ?_) h
  rcases q with q | q
  · rw [q] at hu; exact absurd hu (by decide +kernel)
  · rw [q] at hu; exact absurd hu (by decide +kernel)
/-- how many nodes can still turn -/
def sc_tb (X : sc_X) (σ : sf_S) (j : Nat) : Nat := if (X.L j = 99 ∧ σ (X.q + 2) j = 0) ∨ (X.L j = 120 ∧ ¬ σ (X.q + 2) j = 0) then 1 else 0
def sc_tm (X : sc_X) (σ : sf_S) : Nat → Nat
  | 0 => 0
  | m + 1 => sc_tm X σ m + sc_tb X σ m
theorem sc_tb_le {X : sc_X} {σ : sf_S} {j : Nat} : sc_tb X σ j ≤ 1 := by unfold sc_tb; split <;> omega
theorem sc_tm_le {X : sc_X} {σ : sf_S} : ∀ m, sc_tm X σ m ≤ m
  | 0 => Nat.le_refl _
  | m + 1 => by
    have := sc_tm_le (X := X) (σ := σ) m
    have := sc_tb_le (X := X) (σ := σ) (j := m)
    show sc_tm X σ m + sc_tb X σ m ≤ m + 1
    omega
theorem sc_tm_mono {X : sc_X} {σ σ' : sf_S} : ∀ m, (∀ j, j < m → sc_tb X σ' j ≤ sc_tb X σ j) → sc_tm X σ' m ≤ sc_tm X σ m
  | 0, _ => Nat.le_refl _
  | m + 1, h => by
    have := sc_tm_mono (X := X) (σ := σ) (σ' := σ') m (fun j hj => h j (by omega))
    have := h m (by omega)
    show sc_tm X σ' m + sc_tb X σ' m ≤ sc_tm X σ m + sc_tb X σ m
    omega
theorem sc_tm_same {X : sc_X} {σ σ' : sf_S} (m : Nat) (h : ∀ j, j < m → σ' (X.q + 2) j = σ (X.q + 2) j) : sc_tm X σ' m ≤ sc_tm X σ m := sc_tm_mono m (fun j hj => by unfold sc_tb; rw [h j hj]; exact Nat.le_refl _)
theorem sc_tm_dec {X : sc_X} {σ σ' : sf_S} {k : Nat} (h1 : sc_tb X σ k = 1) (h2 : sc_tb X σ' k = 0) : ∀ m, k < m → (∀ j, j < m → j ≠ k → sc_tb X σ' j ≤ sc_tb X σ j) → sc_tm X σ' m + 1 ≤ sc_tm X σ m
  | 0, hk, _ => absurd hk (Nat.not_lt_zero _)
  | m + 1, hk, h => by
    show sc_tm X σ' m + sc_tb X σ' m + 1 ≤ sc_tm X σ m + sc_tb X σ m
    by_cases q : k = m
    · subst q
      have := sc_tm_mono (X := X) (σ := σ) (σ' := σ') k (fun j hj => h j (by omega) (by omega))
      omega
    · have := sc_tm_dec h1 h2 m (by omega) (fun j hj q => h j (by omega) q)
      have := h m (by omega) (by omega)
      omega
def sc_sk (kd : Nat) : Nat := if kd = 1 then 1 else 0
def sc_P1 (X : sc_X) (k h D np g : Nat) (σ τ : sf_S) (x : Option (Int32 × sf_S)) : Prop := ∃ σ' τ' e np' j, sc_W X (D + e) np' g σ' τ' ∧ np' ≤ np + (X.E k - k) * e ∧ sc_fr (sc_RC X.q) σ σ' ∧ sc_fr sc_RM τ τ' ∧ sc_Out X k (X.E k) σ τ σ' τ' ∧ (∀ i, i < h → τ' 29 i = τ 29 i) ∧ j + k ≤ 40 ∧ σ' (sf_rn X.q) 3 = σ (sf_rn X.q) 3 ∧
  ((∃ kd, kd ≤ 2 ∧ x = some (nI (2 - kd), σ') ∧ σ' (sf_rn X.q) 5 = 0 ∧ (∀ N t, t ≤ k → 42 ≤ N + k → dX12_steps_21 N (nI k) (-1) (nI t) τ = dX12_steps_176 (sf_F - j) (nI kd) (nI h + -1) τ') ∧ (kd = 0 → 1 ≤ e ∧ σ' X.q (sf_vl X.q) = τ' 0 46) ∧ (kd ≤ 1 → sc_Lv X sc_N1 (D + e) σ' τ' k) ∧ (e = 0 → sc_tm X σ' X.n + sc_sk kd ≤ sc_tm X σ X.n)) ∨
   (x = some (3, σ') ∧ ¬ σ' (sf_rn X.q) 5 = 0 ∧ ∃ gv, ∀ N t, t ≤ k → 42 ≤ N + k → dX12_steps_21 N (nI k) (-1) (nI t) τ = some (gv, τ')))
def sc_I1 (X : sc_X) (a : Nat) : Prop := ∀ m lev h D np g σ τ, 41 ≤ m + a → lev ≤ a → h ≤ a → sc_W X D np g σ τ → sc_Lv X sc_N1 D σ τ a → σ (sf_rn X.q) 5 = 0 → τ 0 48 = nI h → sc_P1 X a h D np g σ τ (dX8_step_R m (nI a) (nI lev) σ)
/-- between a child's step and the node's own end -/
def sc_M1 (X : sc_X) (k h D np g e kd j : Nat) (σ0 τ0 σ τ : sf_S) : Prop := (∃ np', sc_W X (D + e) np' g σ τ ∧ np' ≤ np + (X.E k - (k + 1)) * e) ∧ sc_fr (sc_RC X.q) σ0 σ ∧ sc_fr sc_RM τ0 τ ∧ sc_Out X k (X.E k) σ0 τ0 σ τ ∧ (∀ i, i < h → τ 29 i = τ0 29 i) ∧ σ (sf_rn X.q) 5 = 0 ∧ τ 29 h = nI k ∧ j + k ≤ 39 ∧ σ (sf_rn X.q) 3 = σ0 (sf_rn X.q) 3 ∧
  (∀ N t, t ≤ k → 42 ≤ N + k → dX12_steps_21 N (nI k) (-1) (nI t) τ0 = dX12_steps_176 (sf_F - j) (nI kd) (nI h) τ)
theorem sc_idx (h : Nat) : nI (h + 1) + -1 = nI h := by
  rw [← nI_pred h, Int32.sub_eq_add_neg]
theorem sc_idx' (h : Nat) : nI h - 1 = nI h + -1 := by
  rw [Int32.sub_eq_add_neg]
/-- the reference goes down -/
theorem sc_dn1 {X : sc_X} {σ τ : sf_S} {k h a N t : Nat} (hC : sc_Cy X σ τ) (hk : k < X.n) (hp : 1 ≤ sc_p (X.L k)) (ht : t ≤ k) (h48 : τ 0 48 = nI h) (hh : h ≤ k) (h116 : X.L k = 116 → ¬ τ 24 k = X.f k)
    (ha : a = (if (X.L k = 99 ∨ X.L k = 120 ∨ X.L k = 122) ∧ τ 24 k = 1 then sc_qs X.L X.E k else sc_ps X.L X.E k)) : dX12_steps_21 (N + 1) (nI k) (-1) (nI t) τ = dX12_steps_21 N (nI a) (-1) (nI (t + 1)) (sf_up (sf_up τ 29 h (nI k)) 0 48 (nI (h + 1))) := by
  obtain ⟨r1, r2, r3, r4⟩ := hC.r1 k hk
  obtain ⟨r5, r6, r7, r8, r9⟩ := hC.r5 k hk
  have hn4 := hC.n40
  have hp4 := sc_p_le (X.L k)
  have e96 : dX12_steps_96 (dX12_steps_21 N) (nI k) (-1) (nI t) (X.L k) τ = dX12_steps_21 N (nI a) (-1) (nI (t + 1)) (sf_up (sf_up τ 29 h (nI k)) 0 48 (nI (h + 1))) := by
    have e137 : ∀ a', a' = (if τ 24 k = 1 then sc_qs X.L X.E k else sc_ps X.L X.E k) → dX12_steps_137 (dX12_steps_21 N) (nI k) (-1) (nI t) (sf_up (sf_up τ 29 h (nI k)) 0 48 (nI (h + 1))) = dX12_steps_21 N (nI a') (-1) (nI (t + 1)) (sf_up (sf_up τ 29 h (nI k)) 0 48 (nI (h + 1))) := fun a' ha' => by
      unfold dX12_steps_137
      simp only [hC.nin hk, if_true, hC.ncl hk]
      rw [sc_upK (by decide), sc_upK (by decide), sc_upK (by decide), sc_upK (by decide), sc_upK (by decide), sc_upK (by decide), r6, r7, nI_1, ha']
      by_cases q : τ 24 k = 1
      · rw [if_neg (fun z => z q), if_pos q]
      · rw [if_pos q, if_neg q]
    unfold dX12_steps_96
    simp only [h48, sc_inI (show h < 41 by omega) (show 41 ≤ 10000 by omega), if_true, sc_cl (show h < 2 ^ 31 by omega)]
    rw [show sf_up τ 29 h (nI k) 0 48 = nI h by rw [sc_upK (by decide)]; exact h48, nI_1]
    by_cases q1 : X.L k = 99
    · rw [if_pos q1]
      exact e137 a (by rw [ha]; simp only [q1, true_or, true_and])
    · rw [if_neg q1]
      by_cases q2 : X.L k = 120
      · rw [if_pos q2]
        exact e137 a (by rw [ha]; simp only [q2, true_or, or_true, true_and])
      · rw [if_neg q2]
        by_cases q3 : X.L k = 122
        · rw [if_neg (fun z => z q3)]
          exact e137 a (by rw [ha]; simp only [q3, or_true, true_and])
        · rw [if_pos q3]
          simp only [hC.nin hk, if_true, hC.ncl hk]
          rw [sc_upK (by decide), sc_upK (by decide), r6, nI_1, ha, if_neg (fun z => by
            rcases z.1 with z | z | z
            · exact q1 z
            · exact q2 z
            · exact q3 z)]
  conv => lhs; unfold dX12_steps_21
  rw [if_neg (show ¬ (41 : Int32) ≤ nI t from nI_ge (b := 41) (by omega) (by decide)), if_neg (show ¬ ¬ (-1 : Int32) = -1 by decide)]
  simp only [hC.nin hk, if_true, hC.ncl hk]
  rw [r1, sc_partsM, if_pos (hC.vn k hk).1]
  simp only [Option.bind_some]
  rw [if_pos (nI_ne0 (by omega) (by omega)), e96]
  by_cases q : X.L k = 116
  · rw [if_neg (fun z => z q), r3, if_pos (h116 q)]
  · rw [if_pos q]
