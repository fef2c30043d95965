/-! asking: between calls; nodes that change, let pass -/
def tr_B (q rn : Nat) (T : tt_T) (k d : Nat) (N : List (Int32 × Int32)) (σ : sf_S) (d' : Nat) (N' : List (Int32 × Int32)) (a : Nat) (σ' : sf_S) : Prop :=
  tr_fr q rn false k (k + tt_sz T) σ σ' ∧ (σ' rn 2 = nI d' ∧ d ≤ d' ∧ d' ≤ 500) ∧ tr_N rn (N ++ N') σ' ∧ tr_ub q k (k + tt_sz T) d' σ' ∧ σ' rn 3 = σ rn 3 + nI a
theorem tr_post_of {q rn : Nat} {T : tt_T} {k : Nat} {o w : Int32} {d : Nat} {N : List (Int32 × Int32)} {σ σ' : sf_S} {res : Int32} {r : tv_A} {a : Nat} (h : tr_B q rn T k d N σ r.2.1 r.1 a σ') (h1 : 1 ≤ a) (h2 : a ≤ tt_al T * (r.2.1 - d) + tt_sz T) (ho : tr_out (tr_S σ) q rn false T k o w d σ' res r) : tr_post q rn T k o w d N σ σ' res r :=
  ⟨h.1, h.2.1, h.2.2.1, h.2.2.2.1, ⟨a, h.2.2.2.2, h1, h2⟩, ho⟩
theorem tr_pre_B {q pl rn : Nat} {T : tt_T} {k lv : Nat} {o w : Int32} {n d d' a : Nat} {N N' : List (Int32 × Int32)} {σ σ' : sf_S} (hq : tr_q q pl rn) (h : tr_pre q pl rn T k lv o w n d N σ) (hB : tr_B q rn T k d N σ d' N' a σ') (h5 : tr_z rn σ') : tr_pre q pl rn T k lv o w n d' (N ++ N') σ' := by
  have hs := tr_sep hq
  have hm := tr_m_le false
  obtain ⟨b1, b2, b3, b4, b5⟩ := hB
  exact h.same hq (fun x y hxy => b1 x y (by omega)) b4 ⟨b2.1, b2.2.2⟩ h5 b3
/-- the node itself, and its pipes -/
theorem tr_pre.nd {q pl rn : Nat} {s : Nat} {c : tt_C} {u : Unit} {P Q : tt_T} {k lv : Nat} {o w : Int32} {n d : Nat} {N : List (Int32 × Int32)} {σ : sf_S} (h : tr_pre q pl rn (.inner s c u P Q) k lv o w n d N σ) : tr_nd pl n k c o σ := by
  obtain ⟨⟨a1, a2, a3, a4⟩, -, ⟨wi, b, ⟨⟨e1, e2, e3, e4⟩, ⟨-, -, e7, -⟩, -⟩, -⟩, -⟩ := h
  simp only [tt_sz] at a3
  exact ⟨a1, a2, by omega, e1, e2, e3, e4, e7⟩
theorem tr_pre.kidP {q pl rn : Nat} {s : Nat} {c : tt_C} {u : Unit} {P Q : tt_T} {k lv : Nat} {o w : Int32} {n d : Nat} {N : List (Int32 × Int32)} {σ : sf_S} (h : tr_pre q pl rn (.inner s c u P Q) k lv o w n d N σ) (hP : 1 ≤ tt_sz P) (hx : ¬ c.1 = 120) : tr_pre q pl rn P (k + 1) (lv + 1) o w n d N σ := by
  obtain ⟨⟨a1, a2, a3, a4⟩, ⟨b1, b2, b3⟩, ⟨wi, b, ⟨-, -, hPP, -⟩, hw⟩, hS, hu, hd, h5, hN⟩ := h
  simp only [tt_sz] at a3 a4 hu
  simp only [tt_dw] at b3
  rw [if_neg hx, if_neg hx] at hPP
  exact ⟨⟨a1, a2, by omega, by omega⟩, ⟨(tt_wf_kid b1).1 hP, b2.2.1, by omega⟩, ⟨_, _, hPP, hw.wk (by omega)⟩, hS, fun x h1 h2 => hu x (by omega) (by omega), hd, h5, hN⟩
theorem tr_pre.kidX {q pl rn : Nat} {s : Nat} {c : tt_C} {u : Unit} {P Q : tt_T} {k lv : Nat} {o w : Int32} {n d : Nat} {N : List (Int32 × Int32)} {σ : sf_S} (h : tr_pre q pl rn (.inner s c u P Q) k lv o w n d N σ) (hP : 1 ≤ tt_sz P) (hx : c.1 = 120) : tr_pre q pl rn P (k + 1) (lv + 1) (o + 1) (σ (q + 3) k) n d N σ := by
  obtain ⟨⟨a1, a2, a3, a4⟩, ⟨b1, b2, b3⟩, ⟨wi, b, ⟨-, -, hPP, -⟩, hw⟩, hS, hu, hd, h5, hN⟩ := h
  simp only [tt_sz] at a3 a4 hu
  simp only [tt_dw] at b3
  rw [if_pos hx, if_pos hx] at hPP
  exact ⟨⟨a1, a2, by omega, by omega⟩, ⟨(tt_wf_kid b1).1 hP, b2.2.1, by omega⟩, ⟨_, _, hPP, Or.inr ⟨k, by omega, rfl, rfl⟩⟩, hS, fun x h1 h2 => hu x (by omega) (by omega), hd, h5, hN⟩
theorem tr_pre.kidQ {q pl rn : Nat} {s : Nat} {c : tt_C} {u : Unit} {P Q : tt_T} {k lv : Nat} {o w : Int32} {n d : Nat} {N : List (Int32 × Int32)} {σ : sf_S} (h : tr_pre q pl rn (.inner s c u P Q) k lv o w n d N σ) (hQ : 1 ≤ tt_sz Q) : tr_pre q pl rn Q (k + 1 + tt_sz P) (lv + 1) o w n d N σ := by
  obtain ⟨⟨a1, a2, a3, a4⟩, ⟨b1, b2, b3⟩, ⟨wi, b, ⟨-, -, -, hQQ⟩, hw⟩, hS, hu, hd, h5, hN⟩ := h
  simp only [tt_sz] at a3 a4 hu
  simp only [tt_dw] at b3
  exact ⟨⟨a1, a2, by omega, by omega⟩, ⟨(tt_wf_kid b1).2.1 hQ, b2.2.2, by omega⟩, ⟨_, _, hQQ, hw.wk (by omega)⟩, hS, fun x h1 h2 => hu x (by omega) (by omega), hd, h5, hN⟩
/-- a call -/
theorem tr_call {G : Nat → Int32 → Int32 → sf_S → Option (Int32 × sf_S)} {q pl rn : Nat} {T X : tt_T} {k kx lvx : Nat} {ox wx : Int32} {n d d1 a : Nat} {N N1 : List (Int32 × Int32)} {σ σm : sf_S} {rX : tv_A} (hq : tr_q q pl rn) (hG : tr_sp G q pl rn X) (hB : tr_B q rn T k d N σ d1 N1 a σm) (hpX : tr_pre q pl rn X kx lvx ox wx n d1 (N ++ N1) σm) (hkx : k + 1 ≤ kx ∧ kx + tt_sz X ≤ k + tt_sz T) (hrX : rX = tv_ak (tr_R (tr_S σm) q false σm X kx ox wx) d1) (hnc : tr_nc rX) (hlen : (N ++ N1).length + rX.1.length ≤ 100000) :
    ∃ res σ' a', G q (nI kx) (nI lvx) σm = some (res, σ') ∧ tr_B q rn T k d N σ rX.2.1 (N1 ++ rX.1) (a + a') σ' ∧ d1 ≤ rX.2.1 ∧ (1 ≤ a' ∧ a' ≤ tt_al X * (rX.2.1 - d1) + tt_sz X) ∧ tr_fr q rn false kx (kx + tt_sz X) σm σ' ∧ tr_out (tr_S σm) q rn false X kx ox wx d1 σ' res rX := by
  obtain ⟨res, σ', e, ⟨f1, f2, f3, f4, ⟨a', f5, f6, f7⟩, f8⟩⟩ := hG kx lvx ox wx n d1 (N ++ N1) σm rX hpX hrX hnc hlen
  obtain ⟨b1, b2, b3, b4, b5⟩ := hB
  have hm := tr_m_le false
  refine ⟨res, σ', a', e, ⟨tr_fr_tr b1 (tr_fr_wk f1 (by omega) (by omega)), ⟨f2.1, by omega, f2.2.2⟩, by rw [← List.append_assoc]; exact f3, fun b h1 h2 => ?_, ?_⟩, f2.2.1, ⟨f6, f7⟩, f1, f8⟩
  · by_cases hin : kx ≤ b ∧ b < kx + tt_sz X
    · exact f4 b hin.1 hin.2
    · obtain ⟨y, y1, y2⟩ := b4 b h1 h2
      have hs := tr_sep hq
      exact ⟨y, by rw [f1 _ _ (by omega)]; exact y1, by omega⟩
  · rw [f5, b5, Int32.add_assoc, nI_add]
/-- a state that differs a little -/
theorem tr_B.step {q pl rn : Nat} {T : tt_T} {k d d1 a : Nat} {N N1 N2 : List (Int32 × Int32)} {σ σ1 σ2 : sf_S} (hq : tr_q q pl rn) (hB : tr_B q rn T k d N σ d1 N1 a σ1) (hf : tr_fr q rn false k (k + tt_sz T) σ1 σ2) (h2 : σ2 rn 2 = σ1 rn 2) (h3 : σ2 rn 3 = σ1 rn 3) (hN : tr_N rn (N ++ N2) σ2) (hu : tr_ub q k (k + tt_sz T) d1 σ2) : tr_B q rn T k d N σ d1 N2 a σ2 := by
  obtain ⟨b1, b2, b3, b4, b5⟩ := hB
  exact ⟨tr_fr_tr b1 hf, ⟨by rw [h2]; exact b2.1, b2.2⟩, hN, hu, by rw [h3]; exact b5⟩
/-- the beginning of asking -/
theorem tr_B0 {q pl rn : Nat} {T : tt_T} {k lv : Nat} {o w : Int32} {n d : Nat} {N : List (Int32 × Int32)} {σ : sf_S} (hq : tr_q q pl rn) (h : tr_pre q pl rn T k lv o w n d N σ) : tr_B q rn T k d N σ d [] 1 (sf_up σ rn 3 (σ rn 3 + 1)) ∧ tr_z rn (sf_up σ rn 3 (σ rn 3 + 1)) := by
  have hs := tr_sep hq
  obtain ⟨-, -, -, -, hu, hd, h5, hN⟩ := h
  refine ⟨⟨fun x y hxy => ?_, ⟨by rw [sc_upJ (by omega)]; exact hd.1, Nat.le_refl _, hd.2⟩, ?_, fun b h1 h2 => ?_, ?_⟩, ⟨by rw [sc_upJ (by omega)]; exact h5.1, by rw [sc_upJ (by omega)]; exact h5.2⟩⟩
  · have : ¬ (x = rn ∧ y = 3) := by omega
    exact if_neg this
  · rw [List.append_nil]
    refine hN.kept fun x y hxy => ?_
    have : ¬ (x = rn ∧ y = 3) := by omega
    exact if_neg this
  · obtain ⟨y, y1, y2⟩ := hu b h1 h2
    exact ⟨y, by rw [sc_upK (by omega)]; exact y1, y2⟩
  · rw [sc_upS]; rfl
theorem tr_S_B {q pl rn : Nat} {T : tt_T} {k d d1 a : Nat} {N N1 : List (Int32 × Int32)} {σ σ1 : sf_S} (hq : tr_q q pl rn) (hB : tr_B q rn T k d N σ d1 N1 a σ1) : tr_S σ1 = tr_S σ := tr_S_fr hq hB.1
theorem tr_R_out {q pl rn : Nat} {S : tt_S} {X : tt_T} {k e kx : Nat} {o w : Int32} {σ σ' : sf_S} (hq : tr_q q pl rn) (hf : tr_fr q rn false k e σ σ') (hd : e ≤ kx ∨ kx + tt_sz X ≤ k) : tr_R S q false σ' X kx o w = tr_R S q false σ X kx o w := by
  have hs := tr_sep hq
  have hm : tr_m false = 3 := rfl
  exact tr_R_congr X kx o w fun a b h1 h2 h3 h4 => hf a b (by omega)
theorem tr_wk1 {P Q : tt_T} {s : Nat} {c : tt_C} {u : Unit} {a dd : Nat} (h : a ≤ tt_al P * dd + tt_sz P) : 1 + a ≤ tt_al (.inner s c u P Q) * dd + tt_sz (.inner s c u P Q) := by
  simp only [tt_al, tt_sz, Nat.add_mul]; omega
/-- the way into a node -/
theorem tr_in {G : Nat → Int32 → Int32 → sf_S → Option (Int32 × sf_S)} {q pl rn n k lv : Nat} {c : tt_C} {o : Int32} {σ : sf_S} (hq : tr_q q pl rn) (h : tr_nd pl n k c o σ) (hlv : lv ≤ 40) : dX0_ask G q (nI k) (nI lv) σ = (let s2 := sf_up σ rn 3 (σ rn 3 + 1)
    if c.1 = 37 ∨ c.1 = 42 ∨ c.1 = 43 ∨ c.1 = 47 ∨ c.1 = 108 then (G q (nI (k + 1)) (nI (lv + 1)) s2).bind fun u4 => if u4.1 = 0 then some ((0 : Int32), u4.2) else (dX10_change q (nI k) (u4.2 q 6) u4.2).bind fun u5 => if u5.1 = 0 then some ((0 : Int32), u5.2) else some ((1 : Int32), u5.2)
    else if c.1 = 63 ∨ c.1 = 107 then (dX0_askFilter G q (nI k) (nI lv) s2).bind fun u => if sf_01 u.1 then some (u.1, u.2) else none
    else if c.1 = 99 then (dX0_askChain G q (nI k) (nI lv) s2).bind fun u => if sf_01 u.1 then some (u.1, u.2) else none
    else if c.1 = 100 then (dX0_askDrop G q (nI k) (nI lv) s2).bind fun u => if sf_01 u.1 then some (u.1, u.2) else none
    else if c.1 = 116 then (dX0_askTake G q (nI k) (nI lv) s2).bind fun u => if sf_01 u.1 then some (u.1, u.2) else none
    else if c.1 = 119 then (dX0_askWhile G q (nI k) (nI lv) s2).bind fun u => if sf_01 u.1 then some (u.1, u.2) else none
    else if c.1 = 120 then (dX0_askOpener G q (nI k) (nI lv) s2).bind fun u => if sf_01 u.1 then some (u.1, u.2) else none
    else if c.1 = 122 then (dX0_askZip G q (nI k) (nI lv) s2).bind fun u => if sf_01 u.1 then some (u.1, u.2) else none
    else (dX9_produce q (nI k) s2).bind fun u => if sf_01 u.1 then some (u.1, u.2) else none) := by
  obtain ⟨e1, e2, e3, e4⟩ := hq.eqs
  have hs := tr_sep hq
  obtain ⟨h0, h4, hk, h1, -⟩ := id h
  have hik : sf_in (nI k) 40 = true := sc_inI (by omega) (by omega)
  have hle : nI lv ≤ (40 : Int32) := by rw [show (40 : Int32) = nI 40 from by decide +kernel]; exact nI_le hlv (by omega)
  unfold dX0_ask
  rw [e1, tr_has h]
  simp only [Option.bind_some]
  rw [if_neg (by decide), if_pos hle]
  simp only [e2, hik, if_true, sc_cl (show k < 2 ^ 31 by omega), nI_1, e3]
  rw [sc_upK (show pl + 1 ≠ rn by omega), h1]
  generalize c.1 = L
  by_cases a1 : L = 37
  · subst a1; rfl
  by_cases a2 : L = 42
  · subst a2; rfl
  by_cases a3 : L = 43
  · subst a3; rfl
  by_cases a4 : L = 47
  · subst a4; rfl
  by_cases a5 : L = 108
  · subst a5; rfl
  by_cases a6 : L = 63
  · subst a6; rfl
  by_cases a7 : L = 107
  · subst a7; rfl
  by_cases a8 : L = 99
  · subst a8; rfl
  by_cases a9 : L = 100
  · subst a9; rfl
  by_cases b1 : L = 116
  · subst b1; rfl
  by_cases b2 : L = 119
  · subst b2; rfl
  by_cases b3 : L = 120
  · subst b3; rfl
  by_cases b4 : L = 122
  · subst b4; rfl
  simp only [a1, a2, a3, a4, a5, a6, a7, a8, a9, b1, b2, b3, b4, if_false, or_self]
theorem tr_01 (x : Option (Int32 × sf_S)) (h : ∀ u, x = some u → sf_01 u.1 = true) : (x.bind fun u => if sf_01 u.1 then some (u.1, u.2) else none) = x := by
  cases x with
  | none => rfl
  | some u => simp only [Option.bind_some]; rw [if_pos (h u rfl)]
theorem tr_out01 {S : tt_S} {q rn : Nat} {wy : Bool} {T : tt_T} {k : Nat} {o w : Int32} {d : Nat} {σ' : sf_S} {res : Int32} {r : tv_A} (h : tr_out S q rn wy T k o w d σ' res r) : sf_01 res = true := by
  unfold tr_out at h
  split at h
  · rw [h.1]; rfl
  · rw [h.1]; rfl
  · rw [h.1]; rfl
theorem tr_nc_app {N : List (Int32 × Int32)} {r : tv_A} (h : tr_nc (tv_pre N r)) : tr_nc r := h
theorem tr_R_un {S : tt_S} {q : Nat} {σ : sf_S} {s : Nat} {c : tt_C} {u : Unit} {P Q : tt_T} {k : Nat} {o w : Int32} (hc : c.1 = 37 ∨ c.1 = 42 ∨ c.1 = 43 ∨ c.1 = 47 ∨ c.1 = 108 ∨ c.1 = 63 ∨ c.1 = 107) : tr_R S q false σ (.inner s c u P Q) k o w = tv_bnd (tt_op c o) (tr_R S q false σ P (k + 1) o w) := by
  simp only [tr_R]
  rcases hc with h | h | h | h | h | h | h <;> rw [h] <;> rfl
theorem tr_ask_un {G : Nat → Int32 → Int32 → sf_S → Option (Int32 × sf_S)} {q pl rn : Nat} {s : Nat} {c : tt_C} {u : Unit} {P Q : tt_T} (hq : tr_q q pl rn) (hG : tr_sp G q pl rn P) (hP : 1 ≤ tt_sz P) (hc : c.1 = 37 ∨ c.1 = 42 ∨ c.1 = 43 ∨ c.1 = 47 ∨ c.1 = 108) : tr_sp (dX0_ask G) q pl rn (.inner s c u P Q) := by
  intro k lv o w n d N σ r hpre hr hnc hNl
  have hs := tr_sep hq
  obtain ⟨e1, e2, e3, e4⟩ := hq.eqs
  have hx : ¬ c.1 = 120 := by rcases hc with h | h | h | h | h <;> rw [h] <;> decide
  have hlv : lv ≤ 40 := by have := hpre.1.2.2.2; simp only [tt_sz] at this; omega
  rw [tr_in hq hpre.nd hlv, if_pos hc]
  obtain ⟨hB0, h50⟩ := tr_B0 hq hpre
  have hpre0 := tr_pre_B hq hpre hB0 h50
  have hS0 := tr_S_B hq hB0
  have hR0 : tr_R (tr_S σ) q false (sf_up σ rn 3 (σ rn 3 + 1)) P (k + 1) o w = tr_R (tr_S σ) q false σ P (k + 1) o w := tr_R_congr P _ o w fun a b h1 h2 h3 h4 => sc_upK (by omega)
  rw [tr_R_un (by rcases hc with h | h | h | h | h <;> simp [h]), tv_ak_bnd, ← hR0, ← hS0] at hr
  generalize hrP : tv_ak (tr_R (tr_S (sf_up σ rn 3 (σ rn 3 + 1))) q false (sf_up σ rn 3 (σ rn 3 + 1)) P (k + 1) o w) d = rP at hr
  obtain ⟨N1, d1, o1⟩ := rP
  have hncP : tr_nc (N1, d1, o1) ∧ N.length + N1.length ≤ 100000 := by
    rcases o1 with ⟨v, l⟩ | z
    · refine ⟨fun b h => (by cases h), ?_⟩
      rw [hr] at hNl
      simp only [tv_kk, tv_pre, List.length_append] at hNl; omega
    · rw [hr] at hnc hNl
      exact ⟨hnc, hNl⟩
  obtain ⟨res, σ1, a1, g1, g2, g3, g4, g5, g6⟩ := tr_call hq hG hB0 (hpre0.kidP hP hx) ⟨by omega, by simp only [tt_sz]; omega⟩ hrP.symm hncP.1 (by rw [List.append_nil]; exact hncP.2)
  rw [g1]
  simp only [Option.bind_some]
  have hwk := fun (z : Nat) (hz : z = d1 - d) => tr_wk1 (Q := Q) (s := s) (c := c) (u := u) (hz ▸ g4.2 : a1 ≤ tt_al P * z + tt_sz P)
  rcases o1 with ⟨v, l⟩ | (_ | ⟨x, y⟩)
  · obtain ⟨f1, f2, f3, f4, f5⟩ := g6
    subst f1
    rw [if_neg (by decide), f2]
    have hnd1 : tr_nd (sf_pl q) n k c o σ1 := by
      rw [e1]
      refine hpre0.nd.kept fun a b hab => g5 a b ?_
      have := hpre.nd.2.2.1
      have hm : tr_m false = 3 := rfl
      omega
    obtain ⟨res2, σ2, k1, k2⟩ := tr_change (rn := rn) e2 (by rw [e1]; omega) hnd1 hc g2.2.2.1 (by simp only [List.length_append, List.nil_append]; omega) v
    rw [k1]
    simp only [Option.bind_some]
    have hub : ∀ σ2 : sf_S, (∀ b, σ2 (q + 1) b = σ1 (q + 1) b) → tr_ub q k (k + tt_sz (.inner s c u P Q)) d1 σ2 := fun σ2 hh b h1 h2 => by
      obtain ⟨y, y1, y2⟩ := g2.2.2.2.1 b h1 h2
      exact ⟨y, by rw [hh]; exact y1, y2⟩
    have hRk : ∀ σ2 : sf_S, (∀ a b, q + 1 ≤ a → σ2 a b = σ1 a b) → tr_R (tr_S σ) q false σ2 (.inner s c u P Q) k o w = tv_bnd (tt_op c o) l := fun σ2 hh => by
      rw [tr_R_un (by rcases hc with h | h | h | h | h <;> simp [h]), tr_R_congr P (k + 1) o w (σ := σ1) (fun a b h1 h2 h3 h4 => hh a b h1), ← hS0, f3]
    rcases k2 with ⟨v2, m1, rfl, m3, m4⟩ | ⟨x, m1, rfl, m3, m4, m5⟩ | ⟨m1, rfl, m3, m4, m5⟩
    · rw [e3] at m3 m4
      rw [if_neg (by decide)]
      have er : r = (N1, d1, .inl (v2, tv_bnd (tt_op c o) l)) := by
        rw [hr]; simp [tv_kk, m1, tv_ak, tv_pre]
      rw [er]
      refine ⟨1, σ2, rfl, tr_post_of (a := 1 + a1) (g2.step hq (fun a b hab => m4 a b (by omega)) (m4 _ _ (by omega)) (m4 _ _ (by omega)) (g2.2.2.1.kept fun a b hab => m4 a b (by omega)) (hub σ2 fun b => m4 _ _ (by omega))) (by omega) (hwk _ rfl) ⟨rfl, m3, hRk σ2 fun a b hh => m4 a b (by omega), tr_z_k f4 (fun b hb => m4 _ _ (by omega)), f5⟩⟩
    · rw [e3] at m3 m5
      rw [if_neg (by decide)]
      have er : r = (N1 ++ [(x, v)], d1, .inl (v, tv_bnd (tt_op c o) l)) := by
        rw [hr]; simp [tv_kk, m1, tv_ak, tv_pre]
      rw [er]
      have m4' : tr_N rn (N ++ (N1 ++ [(x, v)])) σ2 := by rw [← List.append_assoc]; exact m4
      refine ⟨1, σ2, rfl, tr_post_of (a := 1 + a1) (g2.step hq (fun a b hab => m5 a b (by omega)) (m5 _ _ (by omega)) (m5 _ _ (by omega)) m4' (hub σ2 fun b => m5 _ _ (by omega))) (by omega) (hwk _ rfl) ⟨rfl, m3, hRk σ2 fun a b hh => m5 a b (by omega), tr_z_k f4 (fun b hb => m5 _ _ (by omega)), f5⟩⟩
    · rw [e3] at m5
      rw [if_pos rfl]
      have er : r = (N1, d1, .inr (some (1, o))) := by
        rw [hr]; simp [tv_kk, m1, tv_ak, tv_pre]
      rw [er]
      refine ⟨0, σ2, rfl, tr_post_of (a := 1 + a1) (g2.step hq (fun a b hab => m5 a b (by omega)) (m5 _ _ (by omega)) (m5 _ _ (by omega)) (g2.2.2.1.kept fun a b hab => m5 a b (by omega)) (hub σ2 fun b => m5 _ _ (by omega))) (by omega) (hwk _ rfl) ⟨rfl, m3, m4⟩⟩
  · obtain ⟨f1, f2⟩ := g6
    subst f1
    rw [if_pos rfl]
    have er : r = (N1, d1, .inr none) := hr
    rw [er]
    exact ⟨0, σ1, rfl, tr_post_of (a := 1 + a1) g2 (by omega) (hwk _ rfl) ⟨rfl, f2⟩⟩
  · obtain ⟨f1, f2, f3⟩ := g6
    subst f1
    rw [if_pos rfl]
    have er : r = (N1, d1, .inr (some (x, y))) := hr
    rw [er]
    exact ⟨0, σ1, rfl, tr_post_of (a := 1 + a1) g2 (by omega) (hwk _ rfl) ⟨rfl, f2, f3⟩⟩
