/-! a node that the law types, its text, and the reader -/
def tg_nv (s : Bool) (v : Nat) : Int32 := if s = true then -nI v else nI v
def tg_nt (s : Bool) (v : Nat) : List Int32 := if s = true then [45, nI (48 + v), 59] else [nI (48 + v), 59]
def tg_nb (c x : Int32) (l : List Int32) : Prop := ∃ s v, v ≤ 9 ∧ (s = true → 1 ≤ v ∧ sc_sm c = false ∧ sc_wh c = false) ∧ (sc_wh c = true → 1 ≤ v) ∧ x = tg_nv s v ∧ l = tg_nt s v
def tg_mb (c x : Int32) (l : List Int32) : Prop := (sc_mk c = 0 ∧ x = -1 ∧ l = []) ∨ (sc_mk c ≠ 0 ∧ ∃ b, sc_fm (sc_mk c) b = true ∧ l = [b] ∧ x = if c = 115 ∨ c = 108 then b - 48 else b)
def tg_N (c : tt_C) (l : List Int32) : Prop := sc_il c.1 = true ∧ ∃ lm l1 l2, l = c.1 :: (lm ++ (l1 ++ l2)) ∧ tg_mb c.1 c.2.1 lm ∧ (if 0 < sc_nn c.1 then tg_nb c.1 c.2.2.1 l1 else c.2.2.1 = 0 ∧ l1 = []) ∧ (if 1 < sc_nn c.1 then tg_nb c.1 c.2.2.2 l2 else c.2.2.2 = 0 ∧ l2 = [])
def tg_at (B : List Int32) (p : Nat) (l : List Int32) : Prop := ∀ i x, l[i]? = some x → B[p + i]? = some x
theorem tg_at_app {B : List Int32} {p : Nat} {l m : List Int32} (h : tg_at B p (l ++ m)) : tg_at B p l ∧ tg_at B (p + l.length) m := by
  refine ⟨fun i x hi => h i x ?_, fun i x hi => ?_⟩
  · rw [List.getElem?_append_left (List.getElem?_eq_some_iff.mp hi).1]; exact hi
  · have := h (l.length + i) x (by rw [List.getElem?_append_right (Nat.le_add_right _ _), Nat.add_sub_cancel_left]; exact hi)
    rw [← Nat.add_assoc] at this
    exact this
theorem tg_at_cons {B : List Int32} {p : Nat} {x : Int32} {l : List Int32} (h : tg_at B p (x :: l)) : B[p]? = some x ∧ tg_at B (p + 1) l := ⟨h 0 x rfl, fun i y hi => by
  have := h (i + 1) y (by rw [List.getElem?_cons_succ]; exact hi)
  rw [show p + 1 + i = p + (i + 1) by omega]; exact this⟩
/-- the reader stands before byte p of the text B -/
def tg_B (B : List Int32) (p : Nat) (σ : sf_S) : Prop := B.length ≤ 40 ∧ p ≤ B.length ∧ σ 46 2 = nI B.length ∧ (∀ j x, B[j]? = some x → σ 47 j = x) ∧ σ 46 5 = nI p ∧ σ 46 6 = -1
theorem tg_B.kept {B : List Int32} {p : Nat} {σ σ' : sf_S} (h : tg_B B p σ) (h1 : ∀ b, (b = 2 ∨ b = 5 ∨ b = 6) → σ' 46 b = σ 46 b) (h2 : ∀ j, σ' 47 j = σ 47 j) : tg_B B p σ' := by
  obtain ⟨a1, a2, a3, a4, a5, a6⟩ := h
  exact ⟨a1, a2, by rw [h1 _ (by omega)]; exact a3, fun j x hj => by rw [h2]; exact a4 j x hj, by rw [h1 _ (by omega)]; exact a5, by rw [h1 _ (by omega)]; exact a6⟩
def tg_mv (p : Nat) (σ : sf_S) : sf_S := sf_up σ 46 5 (nI p)
theorem tg_mv_ne {p : Nat} {σ : sf_S} {a b : Nat} (h : ¬ (a = 46 ∧ b = 5)) : tg_mv p σ a b = σ a b := if_neg h
theorem tg_mv_mv {p q : Nat} {σ : sf_S} : tg_mv q (tg_mv p σ) = tg_mv q σ := by
  funext a b
  by_cases h : a = 46 ∧ b = 5
  · exact (if_pos h).trans (if_pos h).symm
  · rw [tg_mv_ne h, tg_mv_ne h, tg_mv_ne h]
theorem tg_mv_id {B : List Int32} {p : Nat} {σ : sf_S} (hB : tg_B B p σ) : tg_mv p σ = σ := by
  funext a b
  by_cases h : a = 46 ∧ b = 5
  · refine (if_pos h).trans ?_
    rw [h.1, h.2]; exact hB.2.2.2.2.1.symm
  · rw [tg_mv_ne h]
theorem tg_B.mv {B : List Int32} {p q : Nat} {σ : sf_S} (h : tg_B B p σ) (hq : q ≤ B.length) : tg_B B q (tg_mv q σ) := by
  obtain ⟨a1, a2, a3, a4, a5, a6⟩ := h
  exact ⟨a1, hq, by rw [tg_mv_ne (by omega)]; exact a3, fun j x hj => by rw [tg_mv_ne (by omega)]; exact a4 j x hj, sc_upS, by rw [tg_mv_ne (by omega)]; exact a6⟩
theorem tg_peek {B : List Int32} {p : Nat} {x : Int32} {σ : sf_S} (h : tg_B B p σ) (hx : B[p]? = some x) : dX4_peek σ = some (x, σ) := by
  obtain ⟨a1, a2, a3, a4, a5, a6⟩ := h
  have hp := (List.getElem?_eq_some_iff.mp hx).1
  unfold dX4_peek
  rw [a5, a3, if_neg (nI_pos (by omega)), if_neg (nI_ge hp (by omega))]
  simp only []
  rw [if_pos (sc_inI (by omega) (by omega)), sc_cl (by omega), a4 p x hx]
theorem tg_acc {B : List Int32} {p : Nat} {σ : sf_S} (h : tg_B B p σ) (hp : p < B.length) : dX4_accept 1 σ = some (tg_mv (p + 1) σ) := by
  obtain ⟨a1, a2, a3, a4, a5, a6⟩ := h
  unfold dX4_accept
  rw [if_pos a6, if_neg (by decide), a5, a3, if_neg (nI_ge hp (by omega)), nI_1]
  rfl
theorem tg_dig {v : Nat} (hv : v ≤ 9) (σ : sf_S) : dX4_isDigit (nI (48 + v)) σ = some (1, σ) := by
  rw [sc_digC, decide_eq_true (by rw [nI_toInt (by omega)]; omega)]; rfl
theorem tg_dig59 (σ : sf_S) : dX4_isDigit 59 σ = some (0, σ) := by
  rw [sc_digC, decide_eq_false (by decide)]; rfl
theorem tg_199 {B : List Int32} {p : Nat} {σ : sf_S} (h : tg_B B p σ) (hx : B[p]? = some 59) (s : Bool) (v : Nat) : dX4_readNumber_199 (sc_b s) (nI v) σ = some (tg_nv s v, tg_mv (p + 1) σ) := by
  unfold dX4_readNumber_199
  rw [tg_peek h hx]
  simp only [Option.bind_some]
  rw [if_neg (by simp), tg_acc h (List.getElem?_eq_some_iff.mp hx).1]
  simp only [Option.bind_some]
  cases s
  · rw [if_pos (by decide)]; rfl
  · rw [if_neg (by decide)]; rfl
theorem tg_129 {B : List Int32} {p : Nat} {σ : sf_S} (h : tg_B B p σ) (hx : B[p]? = some 59) (s : Bool) (v : Nat) (x6 : Int32) : dX4_readNumber_129 sf_F (sc_b s) (nI v) x6 0 σ = some (tg_nv s v, tg_mv (p + 1) σ) := by
  obtain ⟨f, hf⟩ : ∃ f, sf_F = f + 1 := ⟨sf_F - 1, by have := sf_F_le; omega⟩
  rw [hf]
  simp only [dX4_readNumber_129]
  rw [if_neg (by decide), if_neg (by rw [h.2.2.2.2.2]; simp), tg_peek h hx]
  simp only [Option.bind_some]
  rw [tg_dig59]
  simp only [Option.bind_some]
  rw [if_pos (by decide)]
  exact tg_199 h hx s v
theorem tg_70 {B : List Int32} {p v : Nat} {σ : sf_S} (h : tg_B B p σ) (hv : v ≤ 9) (hx : B[p]? = some (nI (48 + v))) (hy : B[p + 1]? = some 59) (s : Bool) (hs : s = true → 1 ≤ v) (x2 x3 : Int32) (h3 : ¬ x3 = 0 → 1 ≤ v) : dX4_readNumber_70 x2 x3 (sc_b s) σ = some (tg_nv s v, tg_mv (p + 2) σ) := by
  have hsub : nI (48 + v) - 48 = nI v := by rw [sc_c48, pk_sub (by omega)]; congr 1; omega
  have hp := (List.getElem?_eq_some_iff.mp hx).1
  have hp2 := (List.getElem?_eq_some_iff.mp hy).1
  have h109 : dX4_readNumber_109 x2 (sc_b s) (nI v) 1 σ = some (tg_nv s v, tg_mv (p + 2) σ) := by
    unfold dX4_readNumber_109
    rw [tg_acc h hp]
    simp only [Option.bind_some]
    have hB := h.mv (q := p + 1) (by omega)
    rw [tg_129 hB hy s v 9999, tg_129 hB hy s v 99, tg_mv_mv, ite_self]
  unfold dX4_readNumber_70
  rw [tg_peek h hx]
  simp only [Option.bind_some]
  rw [tg_peek h hx]
  simp only [Option.bind_some]
  rw [tg_dig hv]
  simp only [Option.bind_some]
  rw [if_neg (by decide), hsub]
  by_cases h0 : 1 ≤ v
  · rw [if_pos (by rw [sc_0, nI_ltI (by omega) (by omega)]; omega)]; exact h109
  · have hs2 : s = false := by
      cases s
      · rfl
      · exact absurd (hs rfl) h0
    have hx3 : x3 = 0 := Classical.byContradiction fun e => h0 (h3 e)
    rw [if_neg (by rw [sc_0, nI_ltI (by omega) (by omega)]; omega), if_neg (by rw [hs2]; decide), if_neg (by rw [hx3]; decide)]
    exact h109
theorem tg_num {c x : Int32} {l B : List Int32} {p : Nat} {σ : sf_S} (hn : tg_nb c x l) (h : tg_B B p σ) (hl : tg_at B p l) : dX4_readNumber c σ = some (x, tg_mv (p + l.length) σ) := by
  obtain ⟨s, v, hv, hs, hw, rfl, rfl⟩ := hn
  rw [sc_rn]
  cases s
  · have hl' : tg_at B p [nI (48 + v), 59] := hl
    obtain ⟨h1, h2⟩ := tg_at_cons hl'
    have h2 := (tg_at_cons h2).1
    have h45 : ¬ nI (48 + v) = 45 := by
      rw [show (45 : Int32) = nI 45 from by decide +kernel, nI_eq (by omega) (by omega)]; omega
    have hgo := fun x2 x3 h3 => tg_70 h hv h1 h2 false (fun e => by cases e) x2 x3 h3
    have key : ∀ sm wh : Bool, (wh = true → 1 ≤ v) → dX4_readNumber_35 (sc_b sm) (sc_b wh) σ = some (tg_nv false v, tg_mv (p + 2) σ) := by
      intro sm wh hw
      unfold dX4_readNumber_35
      cases sm
      · rw [if_neg (by decide)]
        cases wh
        · rw [if_neg (by decide), tg_peek h h1]
          simp only [Option.bind_some]
          rw [if_pos h45, if_pos (by decide)]
          exact hgo _ _ (fun e => absurd rfl e)
        · rw [if_pos (by decide), if_pos (by decide)]
          exact hgo _ _ (fun _ => hw rfl)
      · rw [if_pos (by decide), if_pos (by decide)]
        refine hgo _ _ (fun e => hw ?_)
        cases wh
        · exact absurd rfl e
        · rfl
    exact key _ _ hw
  · obtain ⟨hv1, hsm, hwh⟩ := hs rfl
    have hl' : tg_at B p [45, nI (48 + v), 59] := hl
    obtain ⟨h0, h1⟩ := tg_at_cons hl'
    obtain ⟨h1, h2⟩ := tg_at_cons h1
    have h2 := (tg_at_cons h2).1
    have hp2 := (List.getElem?_eq_some_iff.mp h1).1
    rw [hsm, hwh]
    unfold dX4_readNumber_35
    rw [if_neg (by decide), if_neg (by decide), tg_peek h h0]
    simp only [Option.bind_some]
    rw [if_neg (by simp), if_neg (by decide), tg_acc h (by omega)]
    simp only [Option.bind_some]
    have hB := h.mv (q := p + 1) (by omega)
    have := tg_70 hB hv h1 h2 true (fun _ => hv1) (sc_b false) (sc_b false) (fun e => absurd rfl e)
    rw [tg_mv_mv] at this
    exact this
theorem tg_mark {c x : Int32} {l B : List Int32} {p : Nat} {σ : sf_S} (hm : sc_mk c ≠ 0) (hn : tg_mb c x l) (h : tg_B B p σ) (hl : tg_at B p l) : dX4_readMark c σ = some (x, tg_mv (p + l.length) σ) := by
  rcases hn with ⟨e, -⟩ | ⟨-, b, hb, rfl, rfl⟩
  · exact absurd e hm
  · have hx := (tg_at_cons hl).1
    unfold dX4_readMark
    rw [tg_peek h hx]
    simp only [Option.bind_some]
    rw [sc_fmC hm, hb]
    simp only [Option.bind_some]
    rw [show sc_b true = 1 from rfl, tg_acc h (List.getElem?_eq_some_iff.mp hx).1]
    simp only [Option.bind_some]
    rw [sc_hdC]
    simp only [Option.bind_some]
    by_cases hd : c = 115 ∨ c = 108
    · rw [decide_eq_true hd, if_neg (by decide), if_pos hd]; rfl
    · rw [decide_eq_false hd, if_pos (by decide), if_neg hd]; rfl
theorem tg_58 {c : tt_C} {l1 l2 B : List Int32} {p : Nat} {a mk : Int32} {σ : sf_S} (h : tg_B B p σ) (hl : tg_at B p (l1 ++ l2)) (hle : p + (l1 ++ l2).length ≤ B.length) (h1 : if 0 < sc_nn c.1 then tg_nb c.1 c.2.2.1 l1 else c.2.2.1 = 0 ∧ l1 = []) (h2 : if 1 < sc_nn c.1 then tg_nb c.1 c.2.2.2 l2 else c.2.2.2 = 0 ∧ l2 = []) : dX4_readNode_58 a c.1 mk σ = dX4_readNode_96 a c.1 mk c.2.2.1 c.2.2.2 (tg_mv (p + (l1 ++ l2).length) σ) := by
  obtain ⟨hl1, hl2⟩ := tg_at_app hl
  rw [List.length_append] at hle
  have hn2 : sc_nn c.1 ≤ 2 := by
    unfold sc_nn
    repeat' split
    all_goals omega
  unfold dX4_readNode_58
  rw [sc_numsC]
  simp only [Option.bind_some]
  by_cases h0 : 0 < sc_nn c.1
  · rw [if_pos h0] at h1
    rw [if_neg (by rw [sc_0, nI_leI (by omega) (by omega)]; omega), tg_num h1 h hl1]
    simp only [Option.bind_some]
    unfold dX4_readNode_79
    by_cases h3 : 1 < sc_nn c.1
    · rw [if_pos h3] at h2
      rw [if_neg (by rw [sc_1, nI_leI (by omega) (by omega)]; omega), tg_num h2 (h.mv (by omega)) hl2]
      simp only [Option.bind_some]
      rw [tg_mv_mv, List.length_append, Nat.add_assoc]
    · rw [if_neg h3] at h2
      obtain ⟨e1, rfl⟩ := h2
      rw [if_pos (by rw [sc_1, nI_leI (by omega) (by omega)]; omega), e1, List.append_nil]
  · rw [if_neg h0] at h1
    rw [if_neg (by omega)] at h2
    obtain ⟨e1, rfl⟩ := h1
    obtain ⟨e2, rfl⟩ := h2
    rw [if_pos (by rw [sc_0, nI_leI (by omega) (by omega)]; omega)]
    unfold dX4_readNode_79
    rw [if_pos (by rw [sc_1, nI_leI (by omega) (by omega)]; omega), e1, e2]
    show _ = dX4_readNode_96 a c.1 mk 0 0 (tg_mv (p + 0) σ)
    rw [Nat.add_zero, tg_mv_id h]
theorem tg_node {c : tt_C} {l B : List Int32} {p a : Nat} {S : List Nat} {D : List tt_C} {σ : sf_S} (hc : tg_N c l) (huv : ¬ (sc_uv c.1 = true ∧ a = 0)) (ha : a ≤ 40) (hB : tg_B B p σ) (hl : tg_at B p l) (hle : p + l.length ≤ B.length) (hD : tk_R 36 D σ) (hD2 : D.length < 40) (hS : S.length + 2 ≤ 41) (h4 : σ 46 4 = nI (S.length + 1)) (hdue : sc_due (σ 48) (a :: S)) :
    ∃ σ', dX4_readNode σ = some σ' ∧ tg_B B (p + l.length) σ' ∧ tk_R 36 (D ++ [c]) σ' ∧ σ' 46 4 = nI (sc_push c.1 a S).length ∧ sc_due (σ' 48) (sc_push c.1 a S) ∧ ∀ x y, ¬ ((36 ≤ x ∧ x ≤ 40) ∨ (x = 46 ∧ y ≠ 2) ∨ x = 48) → σ' x y = σ x y := by
  obtain ⟨hil, lm, l1, l2, rfl, hm, h1, h2⟩ := hc
  obtain ⟨hx, hl⟩ := tg_at_cons hl
  obtain ⟨hlm, hl⟩ := tg_at_app hl
  simp only [List.length_cons, List.length_append] at hle
  have hpB := (List.getElem?_eq_some_iff.mp hx).1
  have hb : (sc_il c.1 && !(sc_uv c.1 && decide (a = 0))) = true := by
    rw [hil]
    cases e : sc_uv c.1
    · rfl
    · have : ¬ a = 0 := fun e2 => huv ⟨e, e2⟩
      rw [decide_eq_false this]; rfl
  have hpred : nI (S.length + 1) - 1 = nI S.length := by rw [sc_1, pk_sub (by omega), Nat.add_sub_cancel]
  have hne : ∀ x y, ¬ (x = 46 ∧ y = 4) → sf_up σ 46 4 (nI S.length) x y = σ x y := fun x y h => if_neg h
  have hB1 : tg_B B p (sf_up σ 46 4 (nI S.length)) := hB.kept (fun b hb => hne _ _ (by omega)) (fun j => hne _ _ (by omega))
  have hB2 := hB1.mv (q := p + 1) (by omega)
  have hM : (if sc_b (decide (sc_mk c.1 ≠ 0)) = 0 then dX4_readNode_58 (nI a) c.1 (-1) (tg_mv (p + 1) (sf_up σ 46 4 (nI S.length))) else (dX4_readMark c.1 (tg_mv (p + 1) (sf_up σ 46 4 (nI S.length)))).bind fun u8 => dX4_readNode_58 (nI a) c.1 u8.1 u8.2) = dX4_readNode_58 (nI a) c.1 c.2.1 (tg_mv (p + 1 + lm.length) (sf_up σ 46 4 (nI S.length))) := by
    by_cases hk : sc_mk c.1 = 0
    · rcases hm with ⟨-, e1, rfl⟩ | ⟨e, -⟩
      · rw [decide_eq_false (by simp [hk]), if_pos (by decide), e1]; rfl
      · exact absurd hk e
    · rw [decide_eq_true hk, if_neg (by decide), tg_mark hk hm hB2 hlm]
      simp only [Option.bind_some]
      rw [tg_mv_mv]
  have hB3 := hB1.mv (q := p + 1 + lm.length) (by omega)
  have hN := tg_58 (c := c) (a := nI a) (mk := c.2.1) hB3 hl (by rw [List.length_append]; omega) h1 h2
  rw [tg_mv_mv] at hN
  have hB4 := hB1.mv (q := p + 1 + lm.length + (l1 ++ l2).length) (by rw [List.length_append]; omega)
  generalize hq : p + 1 + lm.length + (l1 ++ l2).length = q at hN hB4
  generalize hs : tg_mv q (sf_up σ 46 4 (nI S.length)) = s at hN hB4
  have hsn : ∀ x y, ¬ (x = 46 ∧ (y = 4 ∨ y = 5)) → s x y = σ x y := fun x y h => by
    rw [← hs, tg_mv_ne (by omega), hne _ _ (by omega)]
  obtain ⟨u, u1, u2, u3, u4, u5, u6, u7⟩ := sc_add (q := 36) (m := D.length) (σ := s) (by rw [hsn _ _ (by omega)]; exact hD.1) hD2 c.1 c.2.1 c.2.2.1 c.2.2.2
  have hu4 : u 46 4 = nI S.length := by
    rw [u7 _ _ (by omega), ← hs, tg_mv_ne (by omega)]; exact sc_upS
  obtain ⟨v, v1, v2, v3, v4⟩ := sc_expParts (σ := u) (c := c.1) (a := a) (S := S) hS hu4 (sc_due_congr (fun j hj => by rw [u7 _ _ (by omega), hsn _ _ (by omega)]) hdue.2)
  refine ⟨v, ?_, ?_, ?_, v2, v3, fun x y hxy => by rw [v4 x y (by omega), u7 x y (by omega), hsn x y (by omega)]⟩
  · unfold dX4_readNode
    rw [h4, if_pos (by rw [sc_0, nI_ltI (by omega) (by omega)]; omega)]
    simp only [hpred, sc_upS]
    rw [if_pos (sc_inI (by omega) (by omega)), sc_cl (by omega), hne 48 _ (by omega), hdue.1, tg_peek hB1 hx]
    simp only [Option.bind_some]
    rw [sc_ilC (by omega), hb]
    simp only [Option.bind_some]
    rw [show sc_b true = 1 from rfl, tg_acc hB1 hpB]
    simp only [Option.bind_some]
    rw [sc_hmC]
    simp only [Option.bind_some]
    rw [hM, hN]
    unfold dX4_readNode_96
    rw [if_pos hB4.2.2.2.2.2, u1]
    simp only [Option.bind_some]
    rw [v1]
    rfl
  · have : p + (c.1 :: (lm ++ (l1 ++ l2))).length = q := by
      rw [← hq]; simp only [List.length_cons, List.length_append]; omega
    rw [this]
    exact hB4.kept (fun b hb => by rw [v4 _ _ (by omega), u7 _ _ (by omega)]) (fun j => by rw [v4 _ _ (by omega), u7 _ _ (by omega)])
  · refine ⟨by rw [v4 _ _ (by omega), u2, List.length_append]; rfl, fun j e hj => ?_⟩
    rw [v4 _ _ (by omega), v4 _ _ (by omega), v4 _ _ (by omega), v4 _ _ (by omega)]
    by_cases hjD : j < D.length
    · rw [List.getElem?_append_left hjD] at hj
      rw [u7 _ _ (by omega), u7 _ _ (by omega), u7 _ _ (by omega), u7 _ _ (by omega), hsn _ _ (by omega), hsn _ _ (by omega), hsn _ _ (by omega), hsn _ _ (by omega)]
      exact hD.2 j e hj
    · have hlt := (List.getElem?_eq_some_iff.mp hj).1
      rw [List.length_append] at hlt
      have hjD : j = D.length := by simp only [List.length_cons, List.length_nil] at hlt; omega
      subst hjD
      rw [List.getElem?_append_right (Nat.le_refl _), Nat.sub_self] at hj
      cases hj
      exact ⟨u3, u4, u5, u6⟩
