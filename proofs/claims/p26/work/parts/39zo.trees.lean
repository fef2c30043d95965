/-! the tree of a text; its print is as long as the text -/
theorem tg_nvI : ∀ (s : Bool) (v : Fin 10), -9 ≤ (tg_nv s v.1).toInt ∧ (tg_nv s v.1).toInt ≤ 9 ∧ (s = false → 0 ≤ (tg_nv s v.1).toInt) := by decide +kernel
theorem tg_nb.int {c x : Int32} {l : List Int32} (h : tg_nb c x l) : -9 ≤ x.toInt ∧ x.toInt ≤ 9 ∧ (sc_sm c = true → 0 ≤ x.toInt) := by
  obtain ⟨s, v, hv, hs, -, rfl, -⟩ := h
  obtain ⟨h1, h2, h3⟩ := tg_nvI s ⟨v, by omega⟩
  refine ⟨h1, h2, fun e => h3 ?_⟩
  cases s
  · rfl
  · have := (hs rfl).2.1
    rw [e] at this; cases this
theorem tg_N.node {c : tt_C} {l : List Int32} (h : tg_N c l) : tt_vm c ∧ sc_il c.1 = true ∧ tt_nwc c ∧ (if c.1 = 100 then c.2.2.1.toInt.toNat else 0) ≤ 9 := by
  obtain ⟨hil, lm, l1, l2, -, hm, h1, h2⟩ := h
  have hm0 : sc_mk c.1 = 0 → c.2.1 = -1 := fun e => by
    rcases hm with ⟨-, e1, -⟩ | ⟨e1, -⟩
    · exact e1
    · exact absurd e e1
  have hn1 : ∀ q : Int32, c.1 = q → 0 < sc_nn q → tg_nb q c.2.2.1 l1 := fun q e h => by
    subst e
    rw [if_pos h] at h1; exact h1
  have hn2 : ∀ q : Int32, c.1 = q → 1 < sc_nn q → tg_nb q c.2.2.2 l2 := fun q e h => by
    subst e
    rw [if_pos h] at h2; exact h2
  have hz2 : ∀ q : Int32, c.1 = q → ¬ 1 < sc_nn q → c.2.2.2 = 0 := fun q e h => by
    subst e
    rw [if_neg h] at h2; exact h2.1
  refine ⟨⟨fun e => hm0 (by rw [e]; decide +kernel), fun e => ?_⟩, hil, ⟨fun e => ?_, fun e => ?_, fun e => ?_⟩, ?_⟩
  · rcases e with e | e
    · exact ⟨hm0 (by rw [e]; decide +kernel), hz2 _ e (by decide +kernel)⟩
    · exact ⟨hm0 (by rw [e]; decide +kernel), hz2 _ e (by decide +kernel)⟩
  · have := (hn1 _ e (by decide +kernel)).int
    have h3 := this.2.2 (by decide +kernel)
    omega
  · have := (hn1 _ e (by decide +kernel)).int
    exact this.2.2 (by decide +kernel)
  · have h3 := (hn1 _ e (by decide +kernel)).int
    have h4 := (hn2 _ e (by decide +kernel)).int
    omega
  · split
    · rename_i e
      have := (hn1 _ e (by decide +kernel)).int
      omega
    · omega
def tg_Ts : List tt_T → List Nat → Prop
  | [], X => X = []
  | T :: Ts, X => ∃ a X', X = a :: X' ∧ (tt_wf T ∧ tt_uv T a ∧ tt_nw T ∧ tt_dw T ≤ 9 * tt_sz T) ∧ tg_Ts Ts X'
def tg_fls : List tt_T → List tt_C
  | [] => []
  | T :: Ts => tt_fl T ++ tg_fls Ts
theorem tg_Ts.inv {Ts : List tt_T} {a : Nat} {X : List Nat} (h : tg_Ts Ts (a :: X)) : ∃ T Ts', Ts = T :: Ts' ∧ (tt_wf T ∧ tt_uv T a ∧ tt_nw T ∧ tt_dw T ≤ 9 * tt_sz T) ∧ tg_Ts Ts' X := by
  cases Ts with
  | nil => cases h
  | cons T Ts' =>
    obtain ⟨a', X', e, h1, h2⟩ := h
    cases e
    exact ⟨T, Ts', rfl, h1, h2⟩
theorem tg_tree : ∀ (Ns : List tt_C) (bs : List Int32) (X : List Nat), tg_run Ns bs X → ∃ Ts, tg_Ts Ts X ∧ tg_fls Ts = Ns
  | [], bs, X, ⟨_, e2⟩ => ⟨[], e2, rfl⟩
  | c :: Ns, bs, X, ⟨b1, b2, a, X', e1, e2, hN, huv, hrun⟩ => by
    subst e2
    obtain ⟨Ts, t1, t2⟩ := tg_tree Ns b2 _ hrun
    obtain ⟨n1, n2, n3, n4⟩ := hN.node
    rcases sc_p3 c.1 with q | q | q
    · simp only [sc_push, q] at t1
      refine ⟨tt_nd c .leaf .leaf :: Ts, ⟨a, X', rfl, ⟨⟨rfl, n1, n2, fun _ => ⟨rfl, rfl⟩, fun e => absurd (q.symm.trans e) (by decide), fun e => absurd (q.symm.trans e) (by decide)⟩, ⟨huv, trivial, trivial⟩, ⟨n3, trivial, trivial⟩, ?_⟩, t1⟩, ?_⟩
      · simp only [tt_dw, tt_sz]; omega
      · simp only [tg_fls, tt_fl, t2, List.append_nil]; rfl
    · have hx : ¬ c.1 = 120 := sc_p2n (by omega)
      simp only [sc_push, q] at t1
      obtain ⟨P, Ts', rfl, ⟨p1, p2, p3, p4⟩, t3⟩ := t1.inv
      refine ⟨tt_nd c P .leaf :: Ts', ⟨a, X', rfl, ⟨⟨rfl, n1, n2, fun e => absurd (q.symm.trans e) (by decide), fun _ => ⟨p1, rfl⟩, fun e => absurd (q.symm.trans e) (by decide)⟩, ⟨huv, by rw [if_neg hx]; exact p2, trivial⟩, ⟨n3, p3, trivial⟩, ?_⟩, t3⟩, ?_⟩
      · simp only [tt_dw, tt_sz]; omega
      · rw [← t2]; simp only [tg_fls, tt_fl, List.append_nil]; rfl
    · simp only [sc_push, q] at t1
      obtain ⟨P, Ts', rfl, ⟨p1, p2, p3, p4⟩, t3⟩ := t1.inv
      obtain ⟨Q, Ts', rfl, ⟨q1, q2, q3, q4⟩, t4⟩ := t3.inv
      refine ⟨tt_nd c P Q :: Ts', ⟨a, X', rfl, ⟨⟨rfl, n1, n2, fun e => absurd (q.symm.trans e) (by decide), fun e => absurd (q.symm.trans e) (by decide), fun _ => ⟨p1, q1⟩⟩, ⟨huv, p2, q2⟩, ⟨n3, p3, q3⟩, ?_⟩, t4⟩, ?_⟩
      · simp only [tt_dw, tt_sz]; omega
      · rw [← t2]; simp only [tg_fls, tt_fl, List.append_assoc, List.cons_append]
theorem tg_ok {Ns : List tt_C} {bs : List Int32} (h : tg_run Ns bs [0]) (hl : bs.length ≤ 40) : ∃ T, tt_ok T ∧ tt_fl T = Ns := by
  obtain ⟨Ts, t1, t2⟩ := tg_tree Ns bs _ h
  obtain ⟨T, Ts', rfl, ⟨p1, p2, p3, p4⟩, t3⟩ := t1.inv
  have hlen := h.len
  cases Ts' with
  | cons T' Ts' =>
    obtain ⟨_, _, e, _⟩ := t3
    cases e
  | nil =>
    have e : tt_fl T = Ns := by rw [← t2]; simp only [tg_fls, List.append_nil]
    have hz : tt_sz T ≤ 40 := by rw [← tt_fl_len, e]; omega
    exact ⟨T, ⟨p1, p3, by omega, p2, hz⟩, e⟩
/-! the print's length -/
theorem tg_57 (A : Int64) {σ : sf_S} (h : tp_L σ) : ∃ d, dX3_putNumber_57 sf_F A 1 0 σ = some (tp_ps [d, 59] σ) := by
  obtain ⟨f, hf⟩ : ∃ f, sf_F = f + 1 + 1 := ⟨sf_F - 2, by have := sf_F_le; omega⟩
  refine ⟨(48 : Int32) + ((A / 1 - A / 1 / (10 : Int64) * (10 : Int64))).toInt32, ?_⟩
  rw [hf]
  simp only [dX3_putNumber_57]
  rw [if_neg (by decide), if_neg (by decide +kernel), if_neg (by decide), if_neg (by decide), tp_put_ok h]
  simp only [Option.bind_some]
  rw [if_neg (by decide), if_neg (by decide), if_pos (by decide +kernel), tp_put_ok (tp_put_L h)]
  rfl
theorem tg_nvA : ∀ (s : Bool) (v : Fin 10), 0 < lg_cmp ((1 : Int64) * 10) (if 0 < (tg_nv s v.1).toInt64 then (tg_nv s v.1).toInt64 else -(tg_nv s v.1).toInt64) ∧ (s = false → 0 ≤ tg_nv s v.1) ∧ (s = true → 1 ≤ v.1 → ¬ 0 ≤ tg_nv s v.1) := by decide +kernel
theorem tg_put (s : Bool) (v : Nat) (hv : v ≤ 9) (hs : s = true → 1 ≤ v) {σ : sf_S} (h : tp_L σ) : ∃ ds : List Int32, ds.length = (tg_nt s v).length ∧ dX3_putNumber (tg_nv s v) σ = some (tp_ps ds σ) := by
  obtain ⟨f, hf⟩ : ∃ f, sf_F = f + 1 := ⟨sf_F - 1, by have := sf_F_le; omega⟩
  obtain ⟨h1, h2, h3⟩ := tg_nvA s ⟨v, by omega⟩
  simp only [] at h1 h2 h3
  have e : dX3_putNumber (tg_nv s v) σ = dX3_putNumber_44 (tg_nv s v) (if 0 < (tg_nv s v).toInt64 then (tg_nv s v).toInt64 else -(tg_nv s v).toInt64) 1 σ := by
    unfold dX3_putNumber
    rw [hf]
    simp only [dX3_putNumber_12]
    rw [if_neg (by decide), if_pos h1]
  rw [e]
  unfold dX3_putNumber_44
  cases s
  · obtain ⟨d, hd⟩ := tg_57 (if 0 < (tg_nv false v).toInt64 then (tg_nv false v).toInt64 else -(tg_nv false v).toInt64) h
    exact ⟨[d, 59], rfl, by rw [if_pos (h2 rfl)]; exact hd⟩
  · obtain ⟨d, hd⟩ := tg_57 (if 0 < (tg_nv true v).toInt64 then (tg_nv true v).toInt64 else -(tg_nv true v).toInt64) (tp_put_L (x := 45) h)
    exact ⟨[45, d, 59], rfl, by rw [if_neg (h3 rfl (hs rfl)), tp_put_ok h]; exact hd⟩
theorem tg_nb.len {c x : Int32} {l : List Int32} (h : tg_nb c x l) : (tp_nt x).length = l.length := by
  obtain ⟨s, v, hv, hs, -, rfl, rfl⟩ := h
  have hL : tp_L (fun _ _ => 0) := ⟨0, by omega, sc_0⟩
  obtain ⟨ds, e1, e2⟩ := tg_put s v hv (fun e => (hs e).1) hL
  have e3 := tp_nt_ok (tg_nv s v) hL
  rw [e2] at e3
  have e4 : tp_ps ds (fun _ _ => 0) 11 2 = tp_ps (tp_nt (tg_nv s v)) (fun _ _ => 0) 11 2 := congrArg (fun s : sf_S => s 11 2) (Option.some.inj e3)
  have hl : (tg_nt s v).length ≤ 3 := by
    cases s
    · exact (show 2 ≤ 3 by omega)
    · exact (show 3 ≤ 3 by omega)
  rw [tp_ps_len ds _ 0 (by omega) sc_0, tp_ps_len (tp_nt (tg_nv s v)) _ 0 (by omega) sc_0, nI_eq (by omega) (by omega)] at e4
  omega
theorem tg_N.plen {c : tt_C} {l : List Int32} (h : tg_N c l) : (tp_nd c).length = l.length := by
  obtain ⟨hil, lm, l1, l2, rfl, hm, h1, h2⟩ := h
  have hlm : (if c.1 = 115 ∨ c.1 = 108 then [48 + c.2.1] else if sc_mk c.1 ≠ 0 then [c.2.1] else []).length = lm.length := by
    rcases hm with ⟨e, -, rfl⟩ | ⟨e, b, -, rfl, -⟩
    · rw [if_neg (by rintro (g | g) <;> rw [g] at e <;> exact absurd e (by decide +kernel)), if_neg (by simp [e])]
    · split
      · rfl
      · rfl
  have hl1 : (if 0 < sc_nn c.1 then tp_nt c.2.2.1 else []).length = l1.length := by
    split
    · rename_i g
      rw [if_pos g] at h1; exact h1.len
    · rename_i g
      rw [if_neg g] at h1; rw [h1.2]
  have hl2 : (if 1 < sc_nn c.1 then tp_nt c.2.2.2 else []).length = l2.length := by
    split
    · rename_i g
      rw [if_pos g] at h2; exact h2.len
    · rename_i g
      rw [if_neg g] at h2; rw [h2.2]
  unfold tp_nd tp_nu
  simp only [List.length_cons, List.length_append, hlm, hl1, hl2]
theorem tg_run.plen : ∀ {Ns : List tt_C} {bs : List Int32} {X : List Nat}, tg_run Ns bs X → (tp_tx Ns).length = bs.length
  | [], bs, X, ⟨e1, _⟩ => by subst e1; rfl
  | c :: Ns, bs, X, ⟨b1, b2, a, X', e1, _, hN, _, h⟩ => by
    subst e1
    rw [tp_tx, List.length_append, List.length_append, hN.plen, h.plen]
