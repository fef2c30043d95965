/-! WHAT A NODE HAS LEFT, in the class's ways 0 and 1 (wy: way 1) -/
def tr_R (S : tt_S) (q : Nat) (wy : Bool) (σ : sf_S) : tt_T → Nat → Int32 → Int32 → tv_L
  | .leaf, _, _, _ => []
  | .inner _ c _ P Q, k, o, w =>
    if c.1 = 120 then (if σ (q + 2) k = 0 then [] else tr_R S q wy σ P (k + 1) (o + 1) (σ (q + 3) k)) ++ tv_bnd (fun v => tt_sem S P (o + 1) v) (tr_R S q wy σ Q (k + 1 + tt_sz P) o w)
    else if c.1 = 99 then (if σ (q + 2) k = 0 then tr_R S q wy σ P (k + 1) o w else []) ++ tr_R S q wy σ Q (k + 1 + tt_sz P) o w
    else if c.1 = 122 then (if wy = true ∧ ¬ σ (q + 2) k = 0 then tv_zh (tt_jn c) (σ (q + 4) k) (tr_R S q wy σ P (k + 1) o w) (tr_R S q wy σ Q (k + 1 + tt_sz P) o w) else tv_zp (tt_jn c) (tr_R S q wy σ P (k + 1) o w) (tr_R S q wy σ Q (k + 1 + tt_sz P) o w))
    else if c.1 = 116 then tv_tk (tr_R S q wy σ P (k + 1) o w) (c.2.2.1.toNatClampNeg - (σ (q + 1) k).toNatClampNeg)
    else if c.1 = 100 then (if σ (q + 2) k = 0 then tv_dr (tr_R S q wy σ P (k + 1) o w) (c.2.2.1.toNatClampNeg - (σ (q + 1) k).toNatClampNeg) else [])
    else if c.1 = 119 then (if σ (q + 2) k = 0 then tv_tw (tt_ps c) (tr_R S q wy σ P (k + 1) o w) else [])
    else if sc_p c.1 = 0 then tt_lf S c o w (σ (q + 1) k).toNatClampNeg
    else tv_bnd (tt_op c o) (tr_R S q wy σ P (k + 1) o w)
def tr_m (wy : Bool) : Nat := match wy with
  | true => 4
  | false => 3
theorem tr_R_congr {S : tt_S} {q : Nat} {wy : Bool} {σ σ' : sf_S} : ∀ (T : tt_T) (k : Nat) (o w : Int32), (∀ a b, q + 1 ≤ a → a ≤ q + tr_m wy → k ≤ b → b < k + tt_sz T → σ' a b = σ a b) → tr_R S q wy σ' T k o w = tr_R S q wy σ T k o w
  | .leaf, _, _, _, _ => rfl
  | .inner s c u P Q, k, o, w, h => by
    simp only [tt_sz] at h
    have hm : 3 ≤ tr_m wy ∧ (wy = true → tr_m wy = 4) := by cases wy <;> simp [tr_m]
    have e1 := h (q + 1) k (by omega) (by omega) (by omega) (by omega)
    have e2 := h (q + 2) k (by omega) (by omega) (by omega) (by omega)
    have e3 := h (q + 3) k (by omega) (by omega) (by omega) (by omega)
    have iP : ∀ o w, tr_R S q wy σ' P (k + 1) o w = tr_R S q wy σ P (k + 1) o w := fun o w => tr_R_congr P (k + 1) o w (fun a b h1 h2 h3 h4 => h a b h1 h2 (by omega) (by omega))
    have iQ : ∀ o w, tr_R S q wy σ' Q (k + 1 + tt_sz P) o w = tr_R S q wy σ Q (k + 1 + tt_sz P) o w := fun o w => tr_R_congr Q _ o w (fun a b h1 h2 h3 h4 => h a b h1 h2 (by omega) (by omega))
    simp only [tr_R, e1, e2, e3, iP, iQ]
    cases wy with
    | true => rw [h (q + 4) k (by omega) (by have := hm.2 rfl; omega) (by omega) (by omega)]
    | false => simp only [Bool.false_eq_true, false_and, if_false]
theorem tr_R_fresh {S : tt_S} {q : Nat} {wy : Bool} {σ : sf_S} : ∀ (T : tt_T) (k : Nat) (o w : Int32), (∀ b, k ≤ b → b < k + tt_sz T → σ (q + 1) b = 0 ∧ σ (q + 2) b = 0) → tr_R S q wy σ T k o w = tt_sem S T o w
  | .leaf, _, _, _, _ => rfl
  | .inner s c u P Q, k, o, w, h => by
    simp only [tt_sz] at h
    obtain ⟨e1, e2⟩ := h k (by omega) (by omega)
    have iP : ∀ o w, tr_R S q wy σ P (k + 1) o w = tt_sem S P o w := fun o w => tr_R_fresh P (k + 1) o w (fun b h3 h4 => h b (by omega) (by omega))
    have iQ : ∀ o w, tr_R S q wy σ Q (k + 1 + tt_sz P) o w = tt_sem S Q o w := fun o w => tr_R_fresh Q _ o w (fun b h3 h4 => h b (by omega) (by omega))
    have z : (0 : Int32).toNatClampNeg = 0 := by decide +kernel
    simp only [tr_R, tt_sem, e1, e2, iP, iQ, if_true, z, Nat.sub_zero, not_true_eq_false, and_false, if_false, List.nil_append]
/-- what asking (stepping) writes to -/
def tr_fr (q rn : Nat) (wy : Bool) (k e : Nat) (σ σ' : sf_S) : Prop := ∀ a b, ¬ ((a = q ∧ b = 6) ∨ (q + 1 ≤ a ∧ a ≤ q + tr_m wy ∧ k ≤ b ∧ b < e) ∨ (a = rn ∧ (b = 2 ∨ b = 3 ∨ b = 5 ∨ b = 6 ∨ b = 9)) ∨ a = rn + 2 ∨ a = rn + 3) → σ' a b = σ a b
theorem tr_fr_rf {q rn : Nat} {wy : Bool} {k e : Nat} {σ : sf_S} : tr_fr q rn wy k e σ σ := fun _ _ _ => rfl
theorem tr_fr_tr {q rn : Nat} {wy : Bool} {k e : Nat} {a b c : sf_S} (h1 : tr_fr q rn wy k e a b) (h2 : tr_fr q rn wy k e b c) : tr_fr q rn wy k e a c := fun x y h => (h2 x y h).trans (h1 x y h)
theorem tr_fr_wk {q rn : Nat} {wy : Bool} {k e k' e' : Nat} {σ σ' : sf_S} (h : tr_fr q rn wy k' e' σ σ') (h1 : k ≤ k') (h2 : e' ≤ e) : tr_fr q rn wy k e σ σ' := fun x y hxy => h x y (by omega)
/-- how often a producer, a t gave, a d dropped -/
def tr_ub (q k e d : Nat) (σ : sf_S) : Prop := ∀ b, k ≤ b → b < e → ∃ u, σ (q + 1) b = nI u ∧ u ≤ 300000 + d
/-- nothing has failed -/
def tr_z (rn : Nat) (σ : sf_S) : Prop := σ rn 5 = 0 ∧ σ rn 6 = 0
theorem tr_z_up {rn a b : Nat} {x : Int32} {σ : sf_S} (h : rn ≠ a) (hz : tr_z rn σ) : tr_z rn (sf_up σ a b x) := ⟨by rw [sc_upK h]; exact hz.1, by rw [sc_upK h]; exact hz.2⟩
theorem tr_z_k {rn : Nat} {σ σ' : sf_S} (hz : tr_z rn σ) (h : ∀ b, (b = 5 ∨ b = 6) → σ' rn b = σ rn b) : tr_z rn σ' := ⟨by rw [h 5 (Or.inl rfl)]; exact hz.1, by rw [h 6 (Or.inr rfl)]; exact hz.2⟩
/-- what asking wants -/
def tr_pre (q pl rn : Nat) (T : tt_T) (k lv : Nat) (o w : Int32) (n d : Nat) (N : List (Int32 × Int32)) (σ : sf_S) : Prop :=
  (n ≤ 40 ∧ σ pl 4 = nI n ∧ k + tt_sz T ≤ n ∧ lv + tt_sz T ≤ 41) ∧ (tt_wf T ∧ tt_nw T ∧ tt_dw T ≤ 100000) ∧ (∃ wi b, tk_P pl σ T k wi o b ∧ tr_ow (q + 3) k b w σ) ∧ tr_Sh σ ∧ tr_ub q k (k + tt_sz T) d σ ∧ (σ rn 2 = nI d ∧ d ≤ 500) ∧ tr_z rn σ ∧ tr_N rn N σ
theorem tr_sep {q pl rn : Nat} (h : tr_q q pl rn) : rn + 3 < q ∧ pl + 9 < rn ∧ (pl + 9 < 15 ∨ 18 < pl) ∧ 18 < rn ∧ 1 ≤ pl := by
  rcases h with ⟨rfl, rfl, rfl⟩ | ⟨rfl, rfl, rfl⟩ | ⟨rfl, rfl, rfl⟩ <;> omega
theorem tr_m_le (wy : Bool) : 3 ≤ tr_m wy ∧ tr_m wy ≤ 4 := by cases wy <;> simp [tr_m]
theorem tr_ow.kept {op k : Nat} {b w : Int32} {σ σ' : sf_S} (h : tr_ow op k b w σ) (h1 : ∀ x, x < k → σ' op x = σ op x) : tr_ow op k b w σ' := by
  rcases h with h | ⟨x, h2, h3, h4⟩
  · exact Or.inl h
  · exact Or.inr ⟨x, h2, h3, by rw [h1 x h2]; exact h4⟩
theorem tr_ow.wk {op k k' : Nat} {b w : Int32} {σ : sf_S} (h : tr_ow op k b w σ) (hk : k ≤ k') : tr_ow op k' b w σ := by
  rcases h with h | ⟨x, h2, h3, h4⟩
  · exact Or.inl h
  · exact Or.inr ⟨x, by omega, h3, h4⟩
/-- the work of asking: at most so much for so many draws -/
def tt_al : tt_T → Nat
  | .leaf => 0
  | .inner _ _ _ P Q => tt_al P + tt_al Q + tt_sz P + tt_sz Q
def tr_wk (T : tt_T) (dd : Nat) (x y : Int32) : Prop := ∃ a, y = x + nI a ∧ 1 ≤ a ∧ a ≤ tt_al T * dd + tt_sz T
/-- what asking gives -/
def tr_out (S : tt_S) (q rn : Nat) (wy : Bool) (T : tt_T) (k : Nat) (o w : Int32) (d : Nat) (σ' : sf_S) (res : Int32) (r : tv_A) : Prop := match r.2.2 with
  | .inl (v, E) => res = 1 ∧ σ' q 6 = v ∧ tr_R S q wy σ' T k o w = E ∧ tr_z rn σ' ∧ d < r.2.1
  | .inr none => res = 0 ∧ tr_z rn σ'
  | .inr (some (a, b)) => res = 0 ∧ σ' rn 5 = a ∧ σ' rn 6 = b
def tr_post (q rn : Nat) (T : tt_T) (k : Nat) (o w : Int32) (d : Nat) (N : List (Int32 × Int32)) (σ σ' : sf_S) (res : Int32) (r : tv_A) : Prop :=
  tr_fr q rn false k (k + tt_sz T) σ σ' ∧ (σ' rn 2 = nI r.2.1 ∧ d ≤ r.2.1 ∧ r.2.1 ≤ 500) ∧ tr_N rn (N ++ r.1) σ' ∧ tr_ub q k (k + tt_sz T) r.2.1 σ' ∧ tr_wk T (r.2.1 - d) (σ rn 3) (σ' rn 3) ∧ tr_out (tr_S σ) q rn false T k o w d σ' res r
def tr_nc (r : tv_A) : Prop := ∀ b, r.2.2 ≠ .inr (some (0, b))
def tr_sp (G : Nat → Int32 → Int32 → sf_S → Option (Int32 × sf_S)) (q pl rn : Nat) (T : tt_T) : Prop := ∀ (k lv : Nat) (o w : Int32) (n d : Nat) (N : List (Int32 × Int32)) (σ : sf_S) (r : tv_A), tr_pre q pl rn T k lv o w n d N σ → r = tv_ak (tr_R (tr_S σ) q false σ T k o w) d → tr_nc r → N.length + r.1.length ≤ 100000 → ∃ res σ', G q (nI k) (nI lv) σ = some (res, σ') ∧ tr_post q rn T k o w d N σ σ' res r
/-- a state that differs in nothing that asking wants -/
theorem tr_pre.same {q pl rn : Nat} {T : tt_T} {k lv : Nat} {o w : Int32} {n d d' : Nat} {N N' : List (Int32 × Int32)} {σ σ' : sf_S} (hq : tr_q q pl rn) (h : tr_pre q pl rn T k lv o w n d N σ) (hf : ∀ a b, ¬ ((a = q ∧ b = 6) ∨ (q + 1 ≤ a ∧ a ≤ q + 4 ∧ ¬ (a = q + 3 ∧ b < k)) ∨ (a = rn ∧ (b = 2 ∨ b = 3 ∨ b = 5 ∨ b = 6 ∨ b = 9)) ∨ a = rn + 2 ∨ a = rn + 3) → σ' a b = σ a b) (hu : tr_ub q k (k + tt_sz T) d' σ') (h2 : σ' rn 2 = nI d' ∧ d' ≤ 500) (h5 : tr_z rn σ') (hN : tr_N rn N' σ') : tr_pre q pl rn T k lv o w n d' N' σ' := by
  have hs := tr_sep hq
  obtain ⟨⟨a1, a2, a3, a4⟩, a5, ⟨wi, b, a6, a7⟩, a8, -⟩ := h
  exact ⟨⟨a1, by rw [hf _ _ (by omega)]; exact a2, a3, a4⟩, a5, ⟨wi, b, a6.kept fun x y h1 h2 => hf x y (by omega), a7.kept fun x hx => hf _ _ (by omega)⟩, a8.kept fun x y hx => hf x y (by omega), hu, h2, h5, hN⟩
theorem tr_S_fr {q pl rn : Nat} {wy : Bool} {k e : Nat} {σ σ' : sf_S} (hq : tr_q q pl rn) (h : tr_fr q rn wy k e σ σ') : tr_S σ' = tr_S σ := by
  have hs := tr_sep hq
  have := tr_m_le wy
  exact tr_S_congr fun a b hab => h a b (by omega)
/-! opening -/
def tr_rs (q a b : Nat) (σ : sf_S) : sf_S := fun x y => if (x = q + 1 ∨ x = q + 2) ∧ a ≤ y ∧ y < b then 0 else σ x y
theorem tr_restartL {q n b : Nat} (hn : n ≤ 40) (hb : b ≤ n) (hs : sf_pl q ≠ q + 1 ∧ sf_pl q ≠ q + 2) : ∀ (m a fuel : Nat) (σ : sf_S), a + m = b → m < fuel → σ (sf_pl q) 4 = nI n → dX9_restart_6 q fuel (nI b) (nI a) σ = some (tr_rs q a b σ) := by
  have nar : vp_nar .boolean (0 : Int32) = 0 := by decide +kernel
  intro m
  induction m with
  | zero =>
    intro a fuel σ ha hf h4
    obtain ⟨f, rfl⟩ : ∃ f, fuel = f + 1 := ⟨fuel - 1, by omega⟩
    simp only [dX9_restart_6]
    rw [if_pos (nI_le (by omega) (by omega))]
    congr 1
    funext x y
    unfold tr_rs
    rw [if_neg (by omega)]
  | succ m ih =>
    intro a fuel σ ha hf h4
    obtain ⟨f, rfl⟩ : ∃ f, fuel = f + 1 := ⟨fuel - 1, by omega⟩
    simp only [dX9_restart_6]
    rw [if_neg (nI_ge (by omega) (by omega)), h4, if_neg (nI_ge (by omega) (by omega)), if_pos (sc_inI (by omega) (by omega)), if_pos (sc_inI (by omega) (by omega)), sc_cl (by omega), nI_1, nar, ih (a + 1) f _ (by omega) (by omega) (by rw [sc_upK hs.2, sc_upK hs.1]; exact h4)]
    congr 1
    funext x y
    unfold tr_rs
    by_cases hx : (x = q + 1 ∨ x = q + 2) ∧ a ≤ y ∧ y < b
    · rw [if_pos hx]
      by_cases hy : y = a
      · rw [if_neg (by omega)]
        simp only [sf_up]
        split
        · rfl
        · rw [if_pos (by omega)]
      · rw [if_pos ⟨hx.1, by omega, hx.2.2⟩]
    · rw [if_neg hx, if_neg (by omega)]
      simp only [sf_up]
      rw [if_neg (by omega), if_neg (by omega)]
theorem tr_restart {q n a b : Nat} {σ : sf_S} (hn : n ≤ 40) (hb : b ≤ n) (hab : a ≤ b) (hs : sf_pl q ≠ q + 1 ∧ sf_pl q ≠ q + 2) (h4 : σ (sf_pl q) 4 = nI n) : dX9_restart q (nI a) (nI b) σ = some (tr_rs q a b σ) := by
  have hF := sf_F_le
  unfold dX9_restart
  rw [if_neg (nI_pos (by omega))]
  exact tr_restartL hn hb hs (b - a) a sf_F σ (by omega) (by omega) h4
theorem tr_open {q n k e : Nat} {c : tt_C} {o : Int32} {σ : sf_S} (hs : sf_pl q + 9 < q) (h : tr_nd (sf_pl q) n k c o σ) (he : σ (sf_pl q + 5) (k + 1) = nI e) (hk : k + 1 < n) (he2 : k + 1 ≤ e ∧ e ≤ n) (hop : sf_op q = q + 3) (v : Int32) : dX9_open q (nI k) v σ = some (tr_rs q (k + 1) e (sf_up (sf_up σ (q + 3) k v) (q + 2) k 1)) := by
  obtain ⟨h0, h4, -⟩ := id h
  have hik : sf_in (nI k) 40 = true := sc_inI (by omega) (by omega)
  have nar : vp_nar .boolean (1 : Int32) = 1 := by decide +kernel
  unfold dX9_open
  rw [tr_has h]
  simp only [Option.bind_some]
  rw [if_pos (by decide)]
  simp only [hik, if_true, sc_cl (show k < 2 ^ 31 by omega), hop, nar]
  have h4' : sf_up (sf_up σ (q + 3) k v) (q + 2) k 1 (sf_pl q) 4 = nI n := by rw [sc_upK (by omega), sc_upK (by omega)]; exact h4
  rw [tk_2nd h0 h4' hk]
  simp only [Option.bind_some]
  rw [sc_upK (by omega), sc_upK (by omega), he, nI_1, tr_restart h0 he2.2 he2.1 ⟨by omega, by omega⟩ h4']
  rfl
