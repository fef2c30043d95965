/-! the rules lead to the normal form -/
theorem tt_uv_mono : ∀ (T : tt_T) (a b : Nat), a ≤ b → tt_uv T a → tt_uv T b
  | .leaf, _, _, _, _ => trivial
  | .inner _ c _ P Q, a, b, h, ⟨h1, h2, h3⟩ => by
    refine ⟨fun q => h1 ⟨q.1, by omega⟩, ?_, tt_uv_mono Q a b h h3⟩
    split
    · rename_i e; rw [if_pos e] at h2; exact tt_uv_mono P _ _ (by omega) h2
    · rename_i e; rw [if_neg e] at h2; exact tt_uv_mono P _ _ h h2
theorem tt_nil_uv (a : Nat) : tt_uv tt_nil a := ⟨fun q => absurd q.1 (by decide +kernel), trivial, trivial⟩
theorem tt_uv_un {c : tt_C} {a : Nat} {P : tt_T} (h : sc_p c.1 = 1) (hP : tt_uv P a) : tt_uv (tt_nd c P .leaf) a := by
  have hx : ¬ c.1 = 120 := fun e => by rw [e] at h; exact absurd h (by decide +kernel)
  have hu : sc_uv c.1 = false := by
    simp only [sc_uv, decide_eq_false_iff_not, not_or]
    constructor <;> intro e <;> rw [e] at h <;> exact absurd h (by decide +kernel)
  refine ⟨fun q => by rw [hu] at q; exact absurd q.1 (by decide), ?_, trivial⟩
  rw [if_neg hx]; exact hP
theorem tt_uv_un' {s : Nat} {c : tt_C} {u : Unit} {a : Nat} {P Q : tt_T} (h : sc_p c.1 = 1) (hP : tt_uv (.inner s c u P Q) a) : tt_uv P a := by
  have hx : ¬ c.1 = 120 := fun e => by rw [e] at h; exact absurd h (by decide +kernel)
  have := hP.2.1
  rw [if_neg hx] at this
  exact this
theorem tt_apt_uv {c : tt_C} {P U : tt_T} {r a : Nat} (hc : c.1 = 116) (hw : tt_wf P) (hP : tt_uv P a) (h : tt_apt c P = some (r, U)) : tt_uv U a := by
  have hc1 : sc_p c.1 = 1 := by rw [hc]; decide +kernel
  cases P with
  | leaf => exact absurd hw id
  | inner s e v X Y =>
    obtain ⟨L, M, A, B⟩ := e
    obtain ⟨-, -, -, w0, w1, -⟩ := hw
    simp only [tt_apt] at h
    split at h
    · rename_i hp
      cases h
      have h1 := (tt_pmd_il (L := L) hp).1
      obtain ⟨q1, q2⟩ := w1 h1
      subst q2
      exact tt_uv_un h1 (tt_uv_un hc1 (tt_uv_un' h1 hP))
    split at h
    · cases h; exact hP
    split at h
    · cases h; exact hP
    split at h
    · cases h; exact tt_nil_uv a
    · cases h
theorem tt_apd_uv {c : tt_C} {P U : tt_T} {r a : Nat} (hc : c.1 = 100) (hw : tt_wf P) (hP : tt_uv P a) (h : tt_apd c P = some (r, U)) : tt_uv U a := by
  have hc1 : sc_p c.1 = 1 := by rw [hc]; decide +kernel
  cases P with
  | leaf => exact absurd hw id
  | inner s e v X Y =>
    obtain ⟨L, M, A, B⟩ := e
    obtain ⟨-, -, -, w0, w1, -⟩ := hw
    simp only [tt_apd] at h
    split at h
    · rename_i hp
      cases h
      have h1 := (tt_pmd_il (L := L) hp).1
      obtain ⟨q1, q2⟩ := w1 h1
      subst q2
      exact tt_uv_un h1 (tt_uv_un hc1 (tt_uv_un' h1 hP))
    split at h
    · cases h; exact hP
    split at h
    · cases h; exact hP
    split at h
    · cases h; exact hP
    split at h
    · rename_i ht
      cases h
      have h1 : sc_p L = 1 := by rw [ht.1]; decide +kernel
      obtain ⟨q1, q2⟩ := w1 h1
      subst q2
      exact tt_uv_un (c := (L, M, _, _)) h1 (tt_uv_un hc1 (tt_uv_un' (c := (L, M, A, B)) h1 hP))
    split at h
    · cases h; exact hP
    · cases h
theorem tt_ap_uv {T U : tt_T} {r a : Nat} (hw : tt_wf T) (hu : tt_uv T a) (h : tt_ap T = some (r, U)) : tt_uv U a := by
  cases T with
  | leaf => cases h
  | inner s c u P Q =>
    obtain ⟨-, -, -, w0, w1, w2⟩ := id hw
    simp only [tt_ap] at h
    split at h
    · split at h
      · cases h; exact tt_nil_uv a
      · cases h
    split at h
    · rename_i hc
      have h1 : sc_p c.1 = 1 := by rw [hc]; decide +kernel
      exact tt_apt_uv hc (w1 h1).1 (tt_uv_un' h1 hu) h
    split at h
    · rename_i hc
      have h1 : sc_p c.1 = 1 := by rw [hc]; decide +kernel
      exact tt_apd_uv hc (w1 h1).1 (tt_uv_un' h1 hu) h
    split at h
    · rename_i hc
      split at h
      · cases h; exact hu.2.2
      split at h
      · cases h
        have := hu.2.1
        rw [if_neg (by rw [hc]; decide)] at this
        exact this
      · cases h
    split at h
    · cases h
    split at h
    · split at h
      · cases h; exact tt_nil_uv a
      · cases h
    · split at h
      · cases h; exact tt_nil_uv a
      · cases h
theorem tt_put_uv : ∀ (T : tt_T) (k a : Nat) (U : tt_T), k < tt_sz T → (∀ b, tt_uv (tt_at T k) b → tt_uv U b) → tt_uv T a → tt_uv (tt_put T k U) a
  | .leaf, k, _, _, h, _, _ => absurd h (Nat.not_lt_zero k)
  | .inner s c u P Q, 0, a, U, _, e, h => e a h
  | .inner s c u P Q, k + 1, a, U, hk, e, h => by
    simp only [tt_sz] at hk
    simp only [tt_at] at e
    simp only [tt_put]
    split
    · rename_i hp
      rw [if_pos hp] at e
      exact ⟨h.1, tt_put_uv P k _ U hp e h.2.1, h.2.2⟩
    · rename_i hp
      rw [if_neg hp] at e
      exact ⟨h.1, h.2.1, tt_put_uv Q _ a U (by omega) e h.2.2⟩
/-- plans -/
def tt_ok (T : tt_T) : Prop := tt_wf T ∧ tt_nw T ∧ tt_dw T ≤ 100000 ∧ tt_uv T 0 ∧ tt_sz T ≤ 40
theorem tt_ok_step {T U : tt_T} {k r : Nat} (h : tt_ok T) (hk : k < tt_sz T) (ha : tt_ap (tt_at T k) = some (r, U)) : tt_ok (tt_put T k U) ∧ tt_mu (tt_put T k U) < tt_mu T ∧ tt_sz (tt_put T k U) ≤ tt_sz T ∧ tt_nf (tt_put T k U) = tt_nf T ∧ ∀ S o w, tv_dl (tt_sem S T o w) (tt_sem S (tt_put T k U) o w) := by
  obtain ⟨h1, h2, h3, h4, h5⟩ := h
  obtain ⟨⟨a1, a2, a3, a4, -, -, a7⟩, a8, a9⟩ := tt_stp hk h1 h2 h3 ha
  exact ⟨⟨a1, a2, by omega, tt_put_uv T k 0 U hk (fun b hb => tt_ap_uv (tt_at_wf T k hk h1) hb ha) h4, by omega⟩, a7, a4, a8, a9⟩
theorem tt_nm_dec {T : tt_T} : (∀ k, k < tt_sz T → tt_ap (tt_at T k) = none) ∨ ∃ k r U, k < tt_sz T ∧ tt_ap (tt_at T k) = some (r, U) := by
  by_cases h : ∃ k r U, k < tt_sz T ∧ tt_ap (tt_at T k) = some (r, U)
  · exact Or.inr h
  · refine Or.inl fun k hk => ?_
    cases e : tt_ap (tt_at T k) with
    | none => rfl
    | some z => exact absurd ⟨k, z.1, z.2, hk, e⟩ h
theorem tt_reach : ∀ (n : Nat) (T : tt_T), tt_mu T ≤ n → tt_ok T → tt_ok (tt_nf T) ∧ tt_nm (tt_nf T) ∧ tt_sz (tt_nf T) ≤ tt_sz T ∧ ∀ S o w, tv_dl (tt_sem S T o w) (tt_sem S (tt_nf T) o w)
  | n, T, hn, h => by
    rcases tt_nm_dec (T := T) with hm | ⟨k, r, U, hk, ha⟩
    · have hnm := tt_nm_of T hm
      have := tt_nf_id T ⟨h.1, hnm, h.2.1⟩
      rw [this]
      exact ⟨h, hnm, Nat.le_refl _, fun _ _ _ => tv_dl_rf _⟩
    · obtain ⟨a1, a2, a3, a4, a5⟩ := tt_ok_step h hk ha
      cases n with
      | zero => omega
      | succ n =>
        obtain ⟨b1, b2, b3, b4⟩ := tt_reach n (tt_put T k U) (by omega) a1
        rw [a4] at b1 b2 b3 b4
        exact ⟨b1, b2, by omega, fun S o w => tv_dl_tr (a5 S o w) (b4 S o w)⟩
theorem sc_nm1 {n : Nat} (h : n < 2 ^ 31) : nI n ≠ -1 := fun e => by
  have := congrArg Int32.toInt e
  rw [nI_toInt h, show (-1 : Int32).toInt = -1 from by decide] at this
  omega
/-- the numbers of rules -/
theorem tt_ap_13 {T U : tt_T} {r : Nat} (h : tt_ap T = some (r, U)) : r < 13 := by
  cases T with
  | leaf => cases h
  | inner s c u P Q =>
    simp only [tt_ap] at h
    split at h
    · split at h <;> cases h; omega
    split at h
    · cases P with
      | leaf => cases h
      | inner z e v X Y =>
        simp only [tt_apt] at h
        repeat' split at h
        all_goals (cases h; try omega)
    split at h
    · cases P with
      | leaf => cases h
      | inner z e v X Y =>
        simp only [tt_apd] at h
        repeat' split at h
        all_goals (cases h; try omega)
    split at h
    · repeat' split at h
      all_goals (cases h; try omega)
    split at h
    · cases h
    split at h
    · split at h <;> cases h; omega
    · split at h <;> cases h; omega
theorem tt_rn_none {T : tt_T} (h : tt_rn T = -1) : tt_ap T = none := by
  unfold tt_rn at h
  split at h
  · rename_i e; exact e
  · rename_i r U e
    have := tt_ap_13 e
    exact absurd h (sc_nm1 (by omega))
theorem tt_rn_some {T : tt_T} (h : ¬ tt_rn T = -1) : ∃ r U, tt_ap T = some (r, U) ∧ tt_rn T = nI r := by
  cases e : tt_ap T with
  | none => exact absurd (by unfold tt_rn; rw [e]) h
  | some z => exact ⟨z.1, z.2, rfl, by unfold tt_rn; rw [e]⟩
/-- the place of the next rule -/
def tk_ix (x1 : Int32) (n i : Nat) : Nat := if x1 = 0 then i else n - 1 - i
theorem tk_placeL {q : Nat} {x1 : Int32} {T : tt_T} {σ : sf_S} (hz : tt_sz T ≤ 40) (hw : tt_wf T) (hM : tk_M (sf_pl q) T σ) : ∀ (m i fuel : Nat), i + m = tt_sz T → m < fuel → (∀ j, j < i → tt_rn (tt_at T (tk_ix x1 (tt_sz T) j)) = -1) →
    ∃ v, dX5_place_10 q fuel x1 (nI (tt_sz T)) (nI i) σ = some (v, σ) ∧ ((v = -1 ∧ ∀ k, k < tt_sz T → tt_rn (tt_at T k) = -1) ∨ ∃ k, k < tt_sz T ∧ v = nI k ∧ ¬ tt_rn (tt_at T k) = -1) := by
  intro m
  induction m with
  | zero =>
    intro i fuel hi hf hv
    obtain ⟨f, rfl⟩ : ∃ f, fuel = f + 1 := ⟨fuel - 1, by omega⟩
    have hin : i = tt_sz T := by omega
    subst hin
    refine ⟨-1, ?_, Or.inl ⟨rfl, fun k hk => ?_⟩⟩
    · simp only [dX5_place_10]
      rw [if_pos (nI_le (Nat.le_refl _) (by omega))]
    · have := hv (tk_ix x1 (tt_sz T) k) (by unfold tk_ix; split <;> omega)
      rw [show tk_ix x1 (tt_sz T) (tk_ix x1 (tt_sz T) k) = k by unfold tk_ix; split <;> omega] at this
      exact this
  | succ m ih =>
    intro i fuel hi hf hv
    obtain ⟨f, rfl⟩ : ∃ f, fuel = f + 1 := ⟨fuel - 1, by omega⟩
    have hkn : tk_ix x1 (tt_sz T) i < tt_sz T := by unfold tk_ix; split <;> omega
    obtain ⟨hR, hP, -⟩ := hM
    obtain ⟨w', o', b', hS⟩ := hP.at T 0 0 0 (-1) _ hkn
    rw [Nat.zero_add] at hS
    have h4 := hR.1
    rw [tt_fl_len] at h4
    have hrule := tk_rule (q := q) hz h4 (tt_at_sz T _ hkn).2 hS (tt_at_wf T _ hkn hw)
    have hstep : dX5_place_10 q (f + 1) x1 (nI (tt_sz T)) (nI i) σ = if tt_rn (tt_at T (tk_ix x1 (tt_sz T) i)) = -1 then dX5_place_10 q f x1 (nI (tt_sz T)) (nI (i + 1)) σ else some (nI (tk_ix x1 (tt_sz T) i), σ) := by
      simp only [dX5_place_10]
      rw [if_neg (nI_ge (by omega) (by omega))]
      by_cases hx : x1 = 0
      · rw [if_pos hx]
        simp only [dX5_place_28]
        have e : tk_ix x1 (tt_sz T) i = i := if_pos hx
        rw [e] at hrule ⊢
        rw [hrule]
        simp only [Option.bind_some, nI_1]
      · rw [if_neg hx]
        have e : tk_ix x1 (tt_sz T) i = tt_sz T - 1 - i := if_neg hx
        have e2 : nI (tt_sz T) - 1 - nI i = nI (tt_sz T - 1 - i) := by rw [sc_1, pk_sub (by omega), pk_sub (by omega)]
        rw [e2]
        simp only [dX5_place_28]
        rw [e] at hrule ⊢
        rw [hrule]
        simp only [Option.bind_some, nI_1]
    rw [hstep]
    by_cases hr : tt_rn (tt_at T (tk_ix x1 (tt_sz T) i)) = -1
    · rw [if_pos hr]
      refine ih (i + 1) f (by omega) (by omega) (fun j hj => ?_)
      by_cases hji : j = i
      · rw [hji]; exact hr
      · exact hv j (by omega)
    · rw [if_neg hr]
      exact ⟨_, rfl, Or.inr ⟨_, hkn, rfl, hr⟩⟩
theorem tk_place {q : Nat} {x1 : Int32} {T : tt_T} {σ : sf_S} (hz : tt_sz T ≤ 40) (hw : tt_wf T) (hM : tk_M (sf_pl q) T σ) : ∃ v, dX5_place q x1 σ = some (v, σ) ∧ ((v = -1 ∧ ∀ k, k < tt_sz T → tt_rn (tt_at T k) = -1) ∨ ∃ k, k < tt_sz T ∧ v = nI k ∧ ¬ tt_rn (tt_at T k) = -1) := by
  have hF := sf_F_le
  have h4 := hM.1.1
  rw [tt_fl_len] at h4
  unfold dX5_place
  simp only [h4]
  exact tk_placeL hz hw hM (tt_sz T) 0 sf_F (by omega) (by omega) (fun j hj => absurd hj (Nat.not_lt_zero j))
