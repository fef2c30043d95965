/-! producers, in the class's ways 0 and 1 -/
def tr_q (q pl rn : Nat) : Prop := (q = 23 ∧ pl = 1 ∧ rn = 19) ∨ (q = 27 ∧ pl = 1 ∧ rn = 19) ∨ (q = 55 ∧ pl = 36 ∧ rn = 51)
theorem tr_q.eqs {q pl rn : Nat} (h : tr_q q pl rn) : sf_pl q = pl ∧ sf_rn q = rn ∧ sf_vl q = 6 ∧ sf_op q = q + 3 := by
  rcases h with ⟨rfl, rfl, rfl⟩ | ⟨rfl, rfl, rfl⟩ | ⟨rfl, rfl, rfl⟩ <;> exact ⟨rfl, rfl, rfl, rfl⟩
/-- the number that the innermost Q around a node is opened for -/
def tr_ow (op n : Nat) (b w : Int32) (σ : sf_S) : Prop := (b = -1 ∧ w = 0) ∨ ∃ x, x < n ∧ b = nI x ∧ w = σ op x
theorem tr_opened {q n k : Nat} {c : tt_C} {o b w : Int32} {σ : sf_S} (h : tr_nd (sf_pl q) n k c o σ) (hb : σ (sf_pl q + 8) k = b) (hw : tr_ow (sf_op q) n b w σ) : dX10_openedFor q (nI k) σ = some (w, σ) := by
  obtain ⟨h0, h4, hk, -⟩ := id h
  unfold dX10_openedFor
  rw [if_neg (nI_pos (by omega)), h4, if_neg (nI_ge hk (by omega)), if_pos (sc_inI (by omega) (by omega)), sc_cl (by omega), hb]
  unfold dX10_openedFor_28
  rcases hw with ⟨rfl, rfl⟩ | ⟨x, hx, rfl, rfl⟩
  · rw [if_pos (by decide)]
  · rw [if_neg (nI_pos (by omega)), h4, if_neg (nI_ge hx (by omega)), if_pos (sc_inI (by omega) (by omega)), sc_cl (by omega)]
/-- how many numbers a producer has, and which -/
def tt_cn (S : tt_S) (c : tt_C) (w : Int32) : Nat := if c.1 = 114 then (c.2.2.2.toInt - c.2.2.1.toInt).toNat else if c.1 = 115 then (match S c.2.1 with
  | none => 0
  | some (n, _) => n) else if c.1 = 117 then w.toInt.toNat else if c.1 = 118 then 1 else 0
def tt_fn (S : tt_S) (c : tt_C) (w : Int32) (j : Nat) : Int32 := if c.1 = 105 then c.2.2.1 + nI j * c.2.2.2 else if c.1 = 114 then c.2.2.1 + nI j else if c.1 = 115 then (match S c.2.1 with
  | none => 0
  | some (_, f) => f j) else if c.1 = 117 then nI j else w
theorem tt_lf_i {S : tt_S} {c : tt_C} {o w : Int32} (h : c.1 = 105) (i : Nat) : tt_lf S c o w i = tv_pr (tt_fn S c w) i (600 - i) ++ [tv_c] := by
  unfold tt_lf
  rw [if_pos h]
  have : tt_fn S c w = fun j => c.2.2.1 + nI j * c.2.2.2 := by funext j; unfold tt_fn; rw [if_pos h]
  rw [this]
theorem tt_lf_p {S : tt_S} {c : tt_C} {o w : Int32} (hi : ¬ c.1 = 105) (hs : c.1 = 115 → ¬ S c.2.1 = none) (i : Nat) : tt_lf S c o w i = tv_pr (tt_fn S c w) i (tt_cn S c w - i) := by
  unfold tt_lf
  rw [if_neg hi]
  by_cases h1 : c.1 = 114
  · have : tt_fn S c w = fun j => c.2.2.1 + nI j := by funext j; unfold tt_fn; rw [if_neg hi, if_pos h1]
    rw [if_pos h1, this]; unfold tt_cn; rw [if_pos h1]
  rw [if_neg h1]
  by_cases h2 : c.1 = 115
  · rw [if_pos h2]
    cases e : S c.2.1 with
    | none => exact absurd e (hs h2)
    | some z =>
      obtain ⟨n, f⟩ := z
      have : tt_fn S c w = f := by funext j; unfold tt_fn; rw [if_neg hi, if_neg h1, if_pos h2, e]
      rw [this]; unfold tt_cn; rw [if_neg h1, if_pos h2, e]
  rw [if_neg h2]
  by_cases h3 : c.1 = 117
  · have : tt_fn S c w = fun j => nI j := by funext j; unfold tt_fn; rw [if_neg hi, if_neg h1, if_neg h2, if_pos h3]
    rw [if_pos h3, this]; unfold tt_cn; rw [if_neg h1, if_neg h2, if_pos h3]
  rw [if_neg h3]
  have : tt_fn S c w = fun _ => w := by funext j; unfold tt_fn; rw [if_neg hi, if_neg h1, if_neg h2, if_neg h3]
  by_cases h4 : c.1 = 118
  · rw [if_pos h4, this]; unfold tt_cn; rw [if_neg h1, if_neg h2, if_neg h3, if_pos h4]
  · rw [if_neg h4]; unfold tt_cn; rw [if_neg h1, if_neg h2, if_neg h3, if_neg h4, Nat.zero_sub]; rfl
def tt_pd (c : tt_C) : Prop := c.1 = 105 ∨ c.1 = 114 ∨ c.1 = 115 ∨ c.1 = 117 ∨ c.1 = 118
theorem tr_l64 {u : Nat} (h : u < 2 ^ 31) : (nI u).toInt64.toInt = u := by rw [Int32.toInt_toInt64, nI_toInt h]
theorem tr_supply {q n k : Nat} {c : tt_C} {o b w : Int32} {σ : sf_S} (h : tr_nd (sf_pl q) n k c o σ) (hb : σ (sf_pl q + 8) k = b) (hw : tr_ow (sf_op q) n b w σ) (hS : tr_Sh σ) (hc : tt_pd c) (hs : c.1 = 115 → ¬ tr_S σ c.2.1 = none) :
    ∃ sp : Int64, (dX10_supply q (nI k) σ = some (sp, σ) ∧ ∀ u : Nat, u < 1000000 → (0 ≤ lg_cmp (nI u).toInt64 sp ↔ (¬ c.1 = 105 ∧ tt_cn (tr_S σ) c w ≤ u))) ∧ 0 ≤ sp.toInt := by
  obtain ⟨h0, h4, hk, h1, h2, h3, h5, h7⟩ := id h
  have hik : sf_in (nI k) 40 = true := sc_inI (by omega) (by omega)
  have hcl := sc_cl (show k < 2 ^ 31 by omega)
  have z0 : (0 : Int64).toInt = 0 := by decide
  unfold dX10_supply
  rw [tr_has h]
  simp only [Option.bind_some]
  rw [if_pos (by decide)]
  simp only [hik, if_true, hcl, h1, h2, h3, h5]
  rcases hc with hc | hc | hc | hc | hc
  · refine ⟨9223372036854775807, ⟨by rw [hc]; rfl, fun u hu => ?_⟩, by decide⟩
    rw [lg_cmp_ge, Int64.le_iff_toInt_le, tr_l64 (by omega), show (9223372036854775807 : Int64).toInt = 9223372036854775807 from by decide]
    exact ⟨fun q2 => by omega, fun q2 => absurd hc q2.1⟩
  · refine ⟨if (c.2.2.2.toInt64 - c.2.2.1.toInt64) < (0 : Int64) then (0 : Int64) else (c.2.2.2.toInt64 - c.2.2.1.toInt64), ⟨by rw [hc]; rfl, fun u hu => ?_⟩, by
      split
      · rw [z0]; exact Int.le_refl 0
      · rename_i g
        rw [Int64.lt_iff_toInt_lt, z0] at g; omega⟩
    have a1 := c.2.2.2.toInt_lt
    have a2 := c.2.2.2.le_toInt
    have a3 := c.2.2.1.toInt_lt
    have a4 := c.2.2.1.le_toInt
    have e : (c.2.2.2.toInt64 - c.2.2.1.toInt64).toInt = c.2.2.2.toInt - c.2.2.1.toInt := by
      rw [Int64.toInt_sub, Int32.toInt_toInt64, Int32.toInt_toInt64]
      exact Int.bmod_eq_of_le (by omega) (by omega)
    have hcn : tt_cn (tr_S σ) c w = (c.2.2.2.toInt - c.2.2.1.toInt).toNat := by unfold tt_cn; rw [if_pos hc]
    rw [lg_cmp_ge, Int64.le_iff_toInt_le, tr_l64 (by omega), hcn]
    split
    · rename_i g
      rw [Int64.lt_iff_toInt_lt, e, z0] at g
      rw [z0]
      exact ⟨fun _ => ⟨by rw [hc]; decide, by omega⟩, fun _ => by omega⟩
    · rename_i g
      rw [Int64.lt_iff_toInt_lt, e, z0] at g
      rw [e]
      exact ⟨fun _ => ⟨by rw [hc]; decide, by omega⟩, fun _ => by omega⟩
  · cases e : tr_S σ c.2.1 with
    | none => exact absurd e (hs hc)
    | some z =>
      obtain ⟨N, f⟩ := z
      obtain ⟨j, hj, hm, hN, h17, -⟩ := tr_S_some hS e
      refine ⟨(nI N).toInt64, ⟨?_, fun u hu => ?_⟩, by rw [tr_l64 (by omega)]; omega⟩
      · simp only [hc, h2, hm, sc_sheetC, Option.bind_some, nI_toInt (show j < 2 ^ 31 by omega), sc_inI hj (by omega : 4 ≤ 10000), if_true, sc_cl (show j < 2 ^ 31 by omega), h17]
        rw [decide_eq_true (show 0 ≤ (j : Int) ∧ (j : Int) < 4 by omega)]
        rfl
      · have hcn : tt_cn (tr_S σ) c w = N := by unfold tt_cn; rw [if_neg (by rw [hc]; decide), if_pos hc, e]
        rw [lg_cmp_ge, Int64.le_iff_toInt_le, tr_l64 (by omega), tr_l64 (by omega), hcn]
        exact ⟨fun _ => ⟨by rw [hc]; decide, by omega⟩, fun _ => by omega⟩
  · refine ⟨(if (0 : Int32) < w then w else (0 : Int32)).toInt64, ⟨?_, fun u hu => ?_⟩, by
      rw [Int32.toInt_toInt64]
      split
      · rename_i g
        rw [Int32.lt_iff_toInt_lt, tt_z] at g; omega
      · rw [tt_z]; exact Int.le_refl 0⟩
    · rw [hc]
      show (dX10_openedFor q (nI k) σ).bind _ = _
      rw [tr_opened h hb hw]; rfl
    · have hcn : tt_cn (tr_S σ) c w = w.toInt.toNat := by unfold tt_cn; rw [if_neg (by rw [hc]; decide), if_neg (by rw [hc]; decide), if_pos hc]
      rw [lg_cmp_ge, Int64.le_iff_toInt_le, tr_l64 (by omega), hcn, Int32.toInt_toInt64]
      split
      · rename_i g
        rw [Int32.lt_iff_toInt_lt, tt_z] at g
        exact ⟨fun _ => ⟨by rw [hc]; decide, by omega⟩, fun _ => by omega⟩
      · rename_i g
        rw [Int32.lt_iff_toInt_lt, tt_z] at g
        rw [tt_z]
        exact ⟨fun _ => ⟨by rw [hc]; decide, by omega⟩, fun _ => by omega⟩
  · refine ⟨1, ⟨by rw [hc]; rfl, fun u hu => ?_⟩, by decide⟩
    have hcn : tt_cn (tr_S σ) c w = 1 := by unfold tt_cn; rw [if_neg (by rw [hc]; decide), if_neg (by rw [hc]; decide), if_neg (by rw [hc]; decide), if_pos hc]
    rw [lg_cmp_ge, Int64.le_iff_toInt_le, tr_l64 (by omega), hcn, show (1 : Int64).toInt = 1 from by decide]
    exact ⟨fun _ => ⟨by rw [hc]; decide, by omega⟩, fun _ => by omega⟩
theorem tr_supplied {q n k u : Nat} {c : tt_C} {o b w : Int32} {σ : sf_S} (h : tr_nd (sf_pl q) n k c o σ) (hb : σ (sf_pl q + 8) k = b) (hw : tr_ow (sf_op q) n b w σ) (hS : tr_Sh σ) (hc : tt_pd c) (hs : c.1 = 115 → ¬ tr_S σ c.2.1 = none) (hu : u < 1000000) (hcn : ¬ c.1 = 105 → u < tt_cn (tr_S σ) c w) : dX10_supplied q (nI k) (nI u) σ = some (tt_fn (tr_S σ) c w u, σ) := by
  obtain ⟨h0, h4, hk, h1, h2, h3, h5, h7⟩ := id h
  have hik : sf_in (nI k) 40 = true := sc_inI (by omega) (by omega)
  have hcl := sc_cl (show k < 2 ^ 31 by omega)
  unfold dX10_supplied
  rw [tr_has h]
  simp only [Option.bind_some]
  rw [if_pos (by decide)]
  simp only [hik, if_true, hcl, h1, h2, h3, h5]
  unfold tt_fn
  rcases hc with hc | hc | hc | hc | hc
  · rw [if_pos hc, if_pos hc]
  · rw [if_neg (by rw [hc]; decide), if_pos hc, if_neg (by rw [hc]; decide), if_pos hc]
  · rw [if_neg (by rw [hc]; decide), if_neg (by rw [hc]; decide), if_pos hc, if_neg (by rw [hc]; decide), if_neg (by rw [hc]; decide), if_pos hc]
    cases e : tr_S σ c.2.1 with
    | none => exact absurd e (hs hc)
    | some z =>
      obtain ⟨N, f⟩ := z
      obtain ⟨j, hj, hm, hN, h17, hf⟩ := tr_S_some hS e
      have hu2 : u < N := by
        have := hcn (by rw [hc]; decide)
        unfold tt_cn at this
        rw [if_neg (by rw [hc]; decide), if_pos hc, e] at this
        exact this
      unfold dX7_at
      rw [hm, if_neg (nI_pos (by omega)), show (4 : Int32) = nI 4 from by decide +kernel, if_neg (nI_ge hj (by omega)), if_neg (nI_pos (by omega)), if_pos (sc_inI hj (by omega)), sc_cl (by omega), h17, if_pos (nI_lt hu2 (by omega))]
      simp only [sc_idx1]
      rw [if_pos (sc_inI (show 60 * j + u < 240 by omega) (by omega)), sc_cl (by omega), hf]
      rfl
  · rw [if_neg (by rw [hc]; decide), if_neg (by rw [hc]; decide), if_neg (by rw [hc]; decide), if_neg (by rw [hc]; decide), if_neg (by rw [hc]; decide), if_neg (by rw [hc]; decide), if_neg (by rw [hc]; decide), if_pos hc]
  · rw [if_neg (by rw [hc]; decide), if_neg (by rw [hc]; decide), if_neg (by rw [hc]; decide), if_pos hc, if_neg (by rw [hc]; decide), if_neg (by rw [hc]; decide), if_neg (by rw [hc]; decide), if_neg (by rw [hc]; decide), tr_opened h hb hw]
    rfl
/-- a producer's answer -/
def tr_prs (q rn k u d : Nat) (S : tt_S) (c : tt_C) (o w : Int32) (σ σ' : sf_S) (res : Int32) : Prop :=
  let r := tv_ak (tt_lf S c o w u) d
  r.1 = [] ∧ σ' rn 2 = nI r.2.1 ∧ (∀ a b, ¬ ((a = q ∧ b = 6) ∨ (a = q + 1 ∧ b = k) ∨ (a = rn ∧ (b = 2 ∨ b = 5 ∨ b = 6))) → σ' a b = σ a b) ∧
  match r.2.2 with
  | .inl (v, E) => res = 1 ∧ σ' q 6 = v ∧ σ' (q + 1) k = nI (u + 1) ∧ E = tt_lf S c o w (u + 1) ∧ (σ' rn 5 = σ rn 5 ∧ σ' rn 6 = σ rn 6) ∧ r.2.1 = d + 1
  | .inr none => res = 0 ∧ (σ' rn 5 = σ rn 5 ∧ σ' rn 6 = σ rn 6) ∧ σ' (q + 1) k = σ (q + 1) k ∧ r.2.1 = d
  | .inr (some (a, b)) => res = 0 ∧ σ' rn 5 = a ∧ σ' rn 6 = b ∧ σ' (q + 1) k = σ (q + 1) k
theorem tr_produce {q pl rn n k u d : Nat} {c : tt_C} {o b w : Int32} {σ : sf_S} (hq : tr_q q pl rn) (h : tr_nd pl n k c o σ) (hb : σ (pl + 8) k = b) (hw : tr_ow (q + 3) n b w σ) (hS : tr_Sh σ) (hc : tt_pd c) (hu : σ (q + 1) k = nI u) (hu2 : u < 900000) (hd : σ rn 2 = nI d) (hd2 : d ≤ 500) (hcut : tv_ak (tt_lf (tr_S σ) c o w u) d ≠ ([], d, .inr (some (0, 0)))) :
    ∃ res σ', dX9_produce q (nI k) σ = some (res, σ') ∧ tr_prs q rn k u d (tr_S σ) c o w σ σ' res := by
  obtain ⟨e1, e2, e3, e4⟩ := hq.eqs
  obtain ⟨h0, h4, hk, h1, h2, h3, h5, h7⟩ := id h
  have hik : sf_in (nI k) 40 = true := sc_inI (by omega) (by omega)
  have hcl := sc_cl (show k < 2 ^ 31 by omega)
  have hq2 : rn + 3 < q ∧ pl + 9 < rn ∧ (pl + 9 < 15 ∨ 18 < pl) ∧ 18 < rn := by rcases hq with ⟨rfl, rfl, rfl⟩ | ⟨rfl, rfl, rfl⟩ | ⟨rfl, rfl, rfl⟩ <;> omega
  have c500 : (500 : Int32) = nI 500 := by decide +kernel
  -- lost
  have hready : dX10_isReady q (nI k) σ = if c.1 = 115 ∧ tr_S σ c.2.1 = none then some (0, sf_up (sf_up σ rn 5 2) rn 6 o) else some (1, σ) := by
    unfold dX10_isReady
    rw [e1, tk_lat h0 h4 hk, h1]
    simp only [Option.bind_some]
    by_cases hs : c.1 = 115
    · rw [if_neg (by simp [hs]), if_pos hik, hcl, h2, tr_lost]
      simp only [Option.bind_some, hcl, h7, e2]
      by_cases g : tr_S σ c.2.1 = none
      · rw [decide_eq_true g, if_neg (by decide), if_pos hik, if_pos (And.intro hs g)]; rfl
      · rw [decide_eq_false g, if_pos (by decide), if_neg (fun z => g z.2)]
    · rw [if_pos hs, if_neg (fun z => hs z.1)]
  by_cases hlost : c.1 = 115 ∧ tr_S σ c.2.1 = none
  · rw [if_pos hlost] at hready
    refine ⟨0, sf_up (sf_up σ rn 5 2) rn 6 o, ?_, ?_⟩
    · unfold dX9_produce
      rw [e1, tr_has h]
      simp only [Option.bind_some]
      rw [if_neg (by decide), hready]
      simp only [Option.bind_some]
      rw [if_neg (by decide)]
    · have hl : tt_lf (tr_S σ) c o w u = [tv_s 2 o] := by
        unfold tt_lf
        rw [if_neg (by rw [hlost.1]; decide), if_neg (by rw [hlost.1]; decide), if_pos hlost.1, hlost.2]
      unfold tr_prs
      rw [hl]
      refine ⟨rfl, ?_, fun x y hxy => ?_, rfl, ?_, sc_upS, ?_⟩
      · rw [sc_upJ (by omega), sc_upJ (by omega)]; exact hd
      · have g1 : ¬ (x = rn ∧ y = 6) := by omega
        have g2 : ¬ (x = rn ∧ y = 5) := by omega
        exact (if_neg g1).trans (if_neg g2)
      · rw [sc_upJ (by omega), sc_upS]
      · rw [sc_upK (by omega), sc_upK (by omega)]
  · rw [if_neg hlost] at hready
    have hs : c.1 = 115 → ¬ tr_S σ c.2.1 = none := fun a b => hlost ⟨a, b⟩
    obtain ⟨sp, ⟨s1, s2⟩, -⟩ := tr_supply (q := q) (b := b) (w := w) (by rw [e1]; exact h) (by rw [e1]; exact hb) (by rw [e4]; exact hw) hS hc hs
    have hstart : dX9_produce q (nI k) σ = if 0 ≤ lg_cmp (nI u).toInt64 sp then some ((0 : Int32), σ) else (dX6_draw rn (1 : Int32) σ).bind fun u4 => if ¬ u4.1 = 0 then if sf_in (nI k) 40 then (dX10_supplied q (nI k) (u4.2 (q + 1) k) u4.2).bind fun u5 => let s6 := sf_up u5.2 q 6 u5.1; if sf_in (nI k) 40 then if sf_in (nI k) 40 then let s7 := sf_up s6 (q + 1) k ((s6 (q + 1) k) + (1 : Int32)); some ((1 : Int32), s7) else none else none else none else some ((0 : Int32), u4.2) := by
      unfold dX9_produce
      rw [e1, tr_has h]
      simp only [Option.bind_some]
      rw [if_neg (by decide), hready]
      simp only [Option.bind_some]
      rw [if_pos (by decide), if_pos hik, s1]
      simp only [Option.bind_some, hcl, hu, e2, e3]
    rw [hstart]
    by_cases hmore : ¬ c.1 = 105 ∧ tt_cn (tr_S σ) c w ≤ u
    · rw [if_pos ((s2 u (by omega)).mpr hmore)]
      refine ⟨_, _, rfl, ?_⟩
      have hl : tt_lf (tr_S σ) c o w u = [] := by
        rw [tt_lf_p hmore.1 hs, Nat.sub_eq_zero_of_le hmore.2]; rfl
      unfold tr_prs
      rw [hl]
      exact ⟨rfl, hd, fun _ _ _ => rfl, rfl, ⟨rfl, rfl⟩, rfl, rfl⟩
    · rw [if_neg (fun z => hmore ((s2 u (by omega)).mp z))]
      -- the list goes on
      have hl : (c.1 = 105 → 600 ≤ u → False) → tt_lf (tr_S σ) c o w u = tv_d :: tv_g (tt_fn (tr_S σ) c w u) :: tt_lf (tr_S σ) c o w (u + 1) := fun hi => by
        by_cases h105 : c.1 = 105
        · have : ¬ 600 ≤ u := hi h105
          rw [tt_lf_i h105, tt_lf_i h105, show 600 - u = (600 - (u + 1)) + 1 by omega]; rfl
        · have : ¬ tt_cn (tr_S σ) c w ≤ u := fun z => hmore ⟨h105, z⟩
          rw [tt_lf_p h105 hs, tt_lf_p h105 hs, show tt_cn (tr_S σ) c w - u = (tt_cn (tr_S σ) c w - (u + 1)) + 1 by omega]; rfl
      have hi : c.1 = 105 → 600 ≤ u → False := fun h105 hu6 => by
        apply hcut
        rw [tt_lf_i h105, Nat.sub_eq_zero_of_le hu6]; rfl
      have hl := hl hi
      unfold dX6_draw
      rw [hd, c500]
      by_cases h5 : d < 500
      · have e6 : (1 : Int32) ≤ nI 500 - nI d := by
          rw [pk_sub (by omega), sc_1]; exact nI_le (by omega) (by omega)
        rw [if_pos e6]
        simp only [Option.bind_some]
        rw [if_pos (by decide), if_pos hik, sc_upK (by omega), hu]
        have hsup := tr_supplied (q := q) (u := u) (σ := sf_up σ rn 2 (nI d + 1)) (by rw [e1]; exact h.kept fun a b hab => sc_upK (by omega)) (b := b) (by rw [e1, sc_upK (by omega)]; exact hb) (w := w) (by rw [e4]; rcases hw with z | ⟨x, z1, z2, z3⟩; exact Or.inl z; exact Or.inr ⟨x, z1, z2, by rw [sc_upK (by omega)]; exact z3⟩) (hS.kept fun a b hab => sc_upK (by omega)) hc (by rw [tr_S_congr (σ := σ) fun a b hab => sc_upK (by omega)]; exact hs) (by omega) (by rw [tr_S_congr (σ := σ) fun a b hab => sc_upK (by omega)]; intro z; have : ¬ tt_cn (tr_S σ) c w ≤ u := fun y => hmore ⟨z, y⟩; omega)
        rw [tr_S_congr (σ := σ) fun a b hab => sc_upK (by omega)] at hsup
        rw [hsup]
        simp only [Option.bind_some, hik, if_true]
        refine ⟨_, _, rfl, ?_⟩
        unfold tr_prs
        rw [hl]
        have er : tv_ak (tv_d :: tv_g (tt_fn (tr_S σ) c w u) :: tt_lf (tr_S σ) c o w (u + 1)) d = ([], d + 1, .inl (tt_fn (tr_S σ) c w u, tt_lf (tr_S σ) c o w (u + 1))) := by
          simp only [tv_ak, if_pos h5]
        rw [er]
        refine ⟨rfl, ?_, fun x y hxy => ?_, rfl, ?_, ?_, rfl, ?_, rfl⟩
        · rw [sc_upK (by omega), sc_upK (by omega), sc_upS, nI_1]
        · have g1 : ¬ (x = q + 1 ∧ y = k) := by omega
          have g2 : ¬ (x = q ∧ y = 6) := by omega
          have g3 : ¬ (x = rn ∧ y = 2) := by omega
          exact (if_neg g1).trans ((if_neg g2).trans (if_neg g3))
        · rw [sc_upK (by omega), sc_upS]
        · rw [sc_upS, sc_upK (by omega), sc_upK (by omega), hu, nI_1]
        · exact ⟨by rw [sc_upK (by omega), sc_upK (by omega), sc_upJ (by omega)], by rw [sc_upK (by omega), sc_upK (by omega), sc_upJ (by omega)]⟩
      · have e6 : ¬ (1 : Int32) ≤ nI 500 - nI d := by
          rw [pk_sub (by omega), sc_1]; exact nI_ge (by omega) (by omega)
        rw [if_neg e6]
        unfold dX6_fail
        simp only [Option.bind_some]
        rw [if_neg (by decide)]
        refine ⟨_, _, rfl, ?_⟩
        unfold tr_prs
        rw [hl]
        have er : tv_ak (tv_d :: tv_g (tt_fn (tr_S σ) c w u) :: tt_lf (tr_S σ) c o w (u + 1)) d = ([], 500, .inr (some (3, 0))) := by
          simp only [tv_ak, if_neg h5]
        rw [er]
        refine ⟨rfl, ?_, fun x y hxy => ?_, rfl, ?_, sc_upS, ?_⟩
        · rw [sc_upJ (by omega), sc_upJ (by omega), sc_upS]
        · have g1 : ¬ (x = rn ∧ y = 6) := by omega
          have g2 : ¬ (x = rn ∧ y = 5) := by omega
          have g3 : ¬ (x = rn ∧ y = 2) := by omega
          exact (if_neg g1).trans ((if_neg g2).trans (if_neg g3))
        · rw [sc_upJ (by omega), sc_upS]
        · rw [sc_upK (by omega), sc_upK (by omega), sc_upK (by omega)]
