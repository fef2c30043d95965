/-! reading: what stands behind a letter -/
def sc_kd (c : Int32) : Nat := if sc_sm c = true then 5 else if sc_wh c = true then 4 else 2
def sc_xn (c : Int32) : List Nat := if sc_nn c = 2 then [3, 2] else if sc_nn c = 1 then [sc_kd c] else []
theorem sc_let {c : Int32} (h : sc_il c = true) : sc_xw c = sc_xn c ++ (if sc_mk c = 0 then [] else [sc_mk c]) ∧ (sc_sm c = true ↔ sc_kd c = 5) ∧ (sc_wh c = true ↔ sc_kd c = 4) ∧ sc_nn c ≤ 2 ∧ (sc_nn c = 2 → sc_sm c = false ∧ sc_wh c = false) ∧ (c = 116 → sc_nn c = 1 ∧ sc_kd c = 5) ∧ (sc_wh c = true → sc_nn c = 1 ∧ sc_kd c = 4) ∧ 2 ≤ sc_kd c ∧ sc_kd c ≤ 5 ∧ sc_kd c ≠ 3 := by
  rcases sc_il_cases h with q | q | q | q | q | q | q | q | q | q | q | q | q | q | q | q | q | q <;> subst q <;> decide +kernel
def sc_vn (c mk f s : Int32) : Prop := sc_il c = true ∧ (if sc_mk c = 0 then mk = -1 else sc_mv (sc_mk c) mk) ∧ (sc_nn c = 0 → f = 0) ∧ (sc_nn c ≠ 2 → s = 0) ∧ (c = 116 → 0 ≤ f.toInt) ∧ (sc_wh c = true → 1 ≤ f.toInt)
def sc_vr (c mk f s : Int32) : Prop := sc_vn c mk f s ∧ (c = 100 → 0 ≤ f.toInt ∧ f.toInt < 10000)
theorem sc_let100 {c : Int32} (h : c = 100) : sc_nn c = 1 ∧ sc_kd c = 5 := by subst h; decide +kernel
theorem sc_96D {σ : sf_S} (h6 : σ 46 6 ≠ -1) (a b c d e : Int32) : dX4_readNode_96 a b c d e σ = some σ := by
  unfold dX4_readNode_96
  rw [if_neg h6]
theorem sc_79D {σ : sf_S} {t i : Nat} (ht : t ≤ 40) (h2 : σ 46 2 = nI t) (h5 : σ 46 5 = nI i) (hi : i ≤ t) (h6 : σ 46 6 ≠ -1) (a b c d e : Int32) : dX4_readNode_79 a b c d e σ = some σ := by
  obtain ⟨v, hv⟩ := sc_numD ht h2 h5 hi h6 b
  unfold dX4_readNode_79
  rw [hv]
  simp only [Option.bind_some, sc_96D h6]
  split <;> rfl
theorem sc_58D {σ : sf_S} {t i : Nat} (ht : t ≤ 40) (h2 : σ 46 2 = nI t) (h5 : σ 46 5 = nI i) (hi : i ≤ t) (h6 : σ 46 6 ≠ -1) (a b c : Int32) : dX4_readNode_58 a b c σ = some σ := by
  obtain ⟨v, hv⟩ := sc_numD ht h2 h5 hi h6 b
  unfold dX4_readNode_58
  rw [sc_numsC]
  simp only [Option.bind_some, hv, sc_79D ht h2 h5 hi h6]
  split <;> rfl
/-- at most so many bytes are printed of a node (of a t: of what it can become) -/
def sc_ph (c : Int32) : Nat := if c = 116 then 25 else 1 + (if sc_mk c = 0 then 0 else 1) + 12 * sc_nn c
def sc_ws (L : Nat → Int32) : Nat → Nat
  | 0 => 0
  | k + 1 => sc_ws L k + sc_ph (L k)
theorem sc_ws_congr {L L' : Nat → Int32} : ∀ {n : Nat}, (∀ j, j < n → L' j = L j) → sc_ws L' n = sc_ws L n
  | 0, _ => rfl
  | n + 1, h => by simp only [sc_ws]; rw [sc_ws_congr (n := n) (fun j hj => h j (by omega)), h n (by omega)]
def sc_be (c : Int32) : Nat := 2 * sc_nn c + (if sc_mk c = 0 then 0 else 1)
theorem sc_ph_be {c : Int32} (h : sc_il c = true) : 3 * sc_ph c ≤ 25 * (1 + sc_be c) := by
  rcases sc_il_cases h with q | q | q | q | q | q | q | q | q | q | q | q | q | q | q | q | q | q <;> subst q <;> decide +kernel
def sc_tok (e : Nat) (v3 c : Int32) (i w0 m t : Nat) (σ τ : sf_S) (rc : Option sf_S) (rm : Option (Int32 × sf_S)) : Prop :=
  ∃ i' mk f s σ' τ', i + e ≤ i' ∧ i' ≤ t ∧ sc_vr c mk f s ∧ rc = dX4_readNode_96 v3 c mk f s σ' ∧ sc_kC σ σ' ∧ σ' 46 5 = nI i' ∧ σ' 46 6 = -1 ∧ rm = sc_fl i' τ' ∧ sc_kM m τ τ' ∧ τ' 0 8 = nI w0 ∧ τ' 0 9 = 0 ∧ τ' 0 10 = 0 ∧ τ' 0 11 = 0 ∧ τ' 8 m = mk ∧ τ' 9 m = f ∧ τ' 10 m = s
def sc_tbad (t : Nat) (σ τ : sf_S) (rc : Option sf_S) (rm : Option (Int32 × sf_S)) : Prop :=
  ∃ f i' σ' τ', f ≤ t ∧ i' ≤ t ∧ rc = some σ' ∧ sc_kC σ σ' ∧ σ' 46 6 = nI f ∧ σ' 46 5 = nI i' ∧ rm = some (nI f, τ') ∧ sc_kF τ τ'
theorem sc_By_k {σ τ σ' τ' : sf_S} {t : Nat} {B : Nat → Nat} (h : sc_By σ τ t B) (h1 : sc_kC σ σ') (h2 : sc_kF τ τ') : sc_By σ' τ' t B :=
  h.kept (fun a b hab => h1 a b (by omega)) (fun a b hab => h2 a b (by omega))
/-- the numbers -/
theorem sc_tailN {t m w0 i : Nat} {B : Nat → Nat} {v3 c mk : Int32} {σ τ : sf_S} (hm : m < 40) (hw : w0 + 4 < 160) (hc : sc_il c = true) (hBy : sc_By σ τ t B) (hi : i ≤ t) (h5 : σ 46 5 = nI i) (h6 : σ 46 6 = -1) (g8 : τ 0 8 = nI (w0 + (sc_xn c).length)) (gk : ∀ j x, (sc_xn c)[j]? = some x → τ 6 (w0 + j) = nI x) (g9 : τ 0 9 = 0) (g10 : τ 0 10 = 0) (g11 : τ 0 11 = 0) (g16 : τ 0 16 = nI (m + 1)) (hmk : if sc_mk c = 0 then mk = -1 else sc_mv (sc_mk c) mk) (e8 : τ 8 m = mk) (e9 : τ 9 m = 0) (e10 : τ 10 m = 0) :
    sc_tok (2 * sc_nn c) v3 c i w0 m t σ τ (dX4_readNode_58 v3 c mk σ) (sc_fl i τ) ∨ sc_tbad t σ τ (dX4_readNode_58 v3 c mk σ) (sc_fl i τ) := by
  obtain ⟨-, l2, l3, l4, l5, l6, l7, l8, l9, l10⟩ := sc_let hc
  have ht := hBy.1
  have hnle : ∀ n : Nat, n < 10 → ∀ k : Nat, k < 10 → (nI n ≤ nI k ↔ n ≤ k) := fun n hn k hk => nI_leI (by omega) (by omega)
  unfold dX4_readNode_58
  rw [sc_numsC]
  simp only [Option.bind_some, sc_nle0 (show sc_nn c < 2 ^ 31 by omega)]
  have h79 : ∀ f s, sc_nn c ≤ 1 → dX4_readNode_79 v3 c mk (nI (sc_nn c)) f s = dX4_readNode_96 v3 c mk f 0 s := fun f s h => by
    unfold dX4_readNode_79
    rw [sc_1, if_pos ((hnle _ (by omega) 1 (by omega)).mpr h)]
  rcases (by omega : sc_nn c = 0 ∨ sc_nn c = 1 ∨ sc_nn c = 2) with hn | hn | hn
  · have hx : sc_xn c = [] := by unfold sc_xn; rw [if_neg (by omega), if_neg (by omega)]
    rw [if_pos hn, h79 _ _ (by omega)]
    rw [hx] at g8
    exact Or.inl ⟨i, mk, 0, 0, σ, τ, by omega, hi, ⟨⟨hc, hmk, fun _ => rfl, fun _ => rfl, fun q => by have := l6 q; omega, fun q => by have := l7 q; omega⟩, fun q => by have := sc_let100 q; omega⟩, rfl, fun _ _ _ => rfl, h5, h6, rfl, fun _ _ _ => rfl, g8, g9, g10, g11, e8, e9, e10⟩
  · have hx : sc_xn c = [sc_kd c] := by unfold sc_xn; rw [if_neg (by omega), if_pos hn]
    rw [hx] at g8 gk
    rw [if_neg (by omega)]
    rcases sc_number (c := c) hm (by omega) l8 l9 l2 l3 hBy hi h5 h6 g8 (gk 0 _ rfl) g9 g10 g11 g16 with ⟨i', v, σ', τ', f1, f2, f3, f4, f5, f6, f7, f8, f9, a1, a2, a3, a4, a5, a6, a7⟩ | ⟨f, i', v, σ', τ', f1, f2, f3, f4, f5, f6, f7, f8⟩
    · rw [f4]
      simp only [Option.bind_some]
      rw [h79 _ _ (by omega)]
      rw [if_pos (by omega)] at a5
      rw [if_neg (by omega)] at a6 a7
      have ek : (if sc_kd c < 6 then 2 else 1) = 2 := if_pos (by omega)
      exact Or.inl ⟨i', mk, v, 0, σ', τ', by omega, f2, ⟨⟨hc, hmk, fun q => by omega, fun _ => rfl, fun q => (f3.1 (l6 q).2).1, fun q => f3.2 (l7 q).2⟩, fun q => f3.1 (sc_let100 q).2⟩, rfl, f5, f6, f7, f8, f9, a1, a2, a3, a4, a5.trans e8, a6, a7.trans e10⟩
    · rw [f3]
      simp only [Option.bind_some]
      have d6 : σ' 46 6 ≠ -1 := by rw [f5]; exact sc_nm1 (by omega)
      rw [sc_79D ht ((f4 46 2 (by omega)).trans hBy.2.1) f6 f2 d6]
      exact Or.inr ⟨f, i', σ', τ', f1, f2, rfl, f4, f5, f6, f7, f8⟩
  · have hx : sc_xn c = [3, 2] := by unfold sc_xn; rw [if_pos hn]
    rw [hx] at g8 gk
    rw [if_neg (by omega)]
    obtain ⟨n5, n6⟩ := l5 hn
    have h79' : ∀ f s, dX4_readNode_79 v3 c mk (nI (sc_nn c)) f s = (dX4_readNumber c s).bind fun u => dX4_readNode_96 v3 c mk f u.1 u.2 := fun f s => by
      unfold dX4_readNode_79
      rw [sc_1, if_neg (by rw [hnle _ (by omega) 1 (by omega)]; omega)]
    rcases sc_number (k := 2) (w := w0 + 1) (c := c) hm (by omega) (by omega) (by omega) (by rw [n5]; simp) (by rw [n6]; simp) hBy hi h5 h6 g8 (gk 1 _ rfl) g9 g10 g11 g16 with ⟨i', v, σ', τ', f1, f2, f3, f4, f5, f6, f7, f8, f9, a1, a2, a3, a4, a5, a6, a7⟩ | ⟨f, i', v, σ', τ', f1, f2, f3, f4, f5, f6, f7, f8⟩
    · rw [f4]
      simp only [Option.bind_some]
      rw [h79']
      rw [if_pos (by omega)] at a5
      rw [if_neg (by omega)] at a6 a7
      have hBy2 := sc_By_k hBy f5 (sc_kM_F f9)
      rcases sc_number (k := 3) (w := w0) (c := c) hm (by omega) (by omega) (by omega) (by rw [n5]; simp) (by rw [n6]; simp) hBy2 f2 f6 f7 a1 ((f9 6 w0 (by omega)).trans (gk 0 _ rfl)) a2 a3 a4 ((f9 0 16 (by omega)).trans g16) with ⟨i2, v2, σ2, τ2, k1, k2, k3, k4, k5, k6, k7, k8, k9, b1, b2, b3, b4, b5, b6, b7⟩ | ⟨f, i2, v2, σ2, τ2, k1, k2, k3, k4, k5, k6, k7, k8⟩
      · rw [k4]
        simp only [Option.bind_some]
        rw [if_pos (by omega)] at b5 b6 b7
        have ek2 : (if 2 < 6 then 2 else 1) = 2 := if_pos (by omega)
        have ek3 : (if 3 < 6 then 2 else 1) = 2 := if_pos (by omega)
        exact Or.inl ⟨i2, mk, v, v2, σ2, τ2, by omega, k2, ⟨⟨hc, hmk, fun q => by omega, fun q => absurd hn q, fun q => by have := l6 q; omega, fun q => by have := l7 q; omega⟩, fun q => by have := sc_let100 q; omega⟩, rfl, sc_kC_tr f5 k5, k6, k7, f8.trans k8, sc_kM_tr f9 k9, b1, b2, b3, b4, (b5.trans a5).trans e8, b6.trans a6, b7⟩
      · rw [k3]
        simp only [Option.bind_some]
        have d6 : σ2 46 6 ≠ -1 := by rw [k5]; exact sc_nm1 (by omega)
        rw [sc_96D d6]
        exact Or.inr ⟨f, i2, σ2, τ2, k1, k2, rfl, sc_kC_tr f5 k4, k5, k6, f8.trans k7, sc_kF_tr (sc_kM_F f9) k8⟩
    · rw [f3]
      simp only [Option.bind_some]
      have d6 : σ' 46 6 ≠ -1 := by rw [f5]; exact sc_nm1 (by omega)
      rw [sc_79D ht ((f4 46 2 (by omega)).trans hBy.2.1) f6 f2 d6]
      exact Or.inr ⟨f, i', σ', τ', f1, f2, rfl, f4, f5, f6, f7, f8⟩
/-- the mark and the numbers -/
noncomputable def sc_Tn (v3 c : Int32) (σ : sf_S) : Option sf_S := (dX4_hasMark c σ).bind fun u7 => if u7.1 = 0 then dX4_readNode_58 v3 c (-1) u7.2 else (dX4_readMark c u7.2).bind fun u8 => dX4_readNode_58 v3 c u8.1 u8.2
theorem sc_TnD {σ : sf_S} {t i : Nat} (ht : t ≤ 40) (h2 : σ 46 2 = nI t) (h5 : σ 46 5 = nI i) (hi : i ≤ t) (h6 : σ 46 6 ≠ -1) (v3 c : Int32) : sc_Tn v3 c σ = some σ := by
  unfold sc_Tn
  rw [sc_hmC]
  simp only [Option.bind_some, sc_b0, decide_eq_false_iff_not]
  by_cases h : sc_mk c = 0
  · rw [if_pos (by simp [h]), sc_58D ht h2 h5 hi h6]
  · obtain ⟨v, hv⟩ := sc_markD ht h2 h5 hi h6 h
    rw [if_neg (by simpa using h), hv]
    simp only [Option.bind_some]
    rw [sc_58D ht h2 h5 hi h6]
theorem sc_tail {t m w0 i : Nat} {B : Nat → Nat} {v3 c : Int32} {σ τ : sf_S} (hm : m < 40) (hw : w0 + 4 < 160) (hc : sc_il c = true) (hBy : sc_By σ τ t B) (hi : i ≤ t) (h5 : σ 46 5 = nI i) (h6 : σ 46 6 = -1) (g8 : τ 0 8 = nI (w0 + (sc_xw c).length)) (gk : ∀ j x, (sc_xw c)[j]? = some x → τ 6 (w0 + j) = nI x) (g9 : τ 0 9 = 0) (g10 : τ 0 10 = 0) (g11 : τ 0 11 = 0) (g16 : τ 0 16 = nI (m + 1)) (e8 : τ 8 m = -1) (e9 : τ 9 m = 0) (e10 : τ 10 m = 0) :
    sc_tok (sc_be c) v3 c i w0 m t σ τ (sc_Tn v3 c σ) (sc_fl i τ) ∨ sc_tbad t σ τ (sc_Tn v3 c σ) (sc_fl i τ) := by
  obtain ⟨l1, -⟩ := sc_let hc
  have hxl : (sc_xn c).length ≤ 2 := by
    unfold sc_xn
    repeat' split
    all_goals simp
  unfold sc_Tn
  rw [sc_hmC]
  simp only [Option.bind_some, sc_b0, decide_eq_false_iff_not]
  by_cases h : sc_mk c = 0
  · rw [if_pos h, List.append_nil] at l1
    rw [l1] at g8 gk
    rw [if_pos (by simp [h])]
    have ebe : sc_be c = 2 * sc_nn c := by unfold sc_be; rw [if_pos h]; rfl
    rw [ebe]
    exact sc_tailN hm hw hc hBy hi h5 h6 g8 gk g9 g10 g11 g16 (by rw [if_pos h]) e8 e9 e10
  · rw [if_neg h] at l1
    rw [l1] at g8 gk
    rw [if_neg (by simpa using h)]
    rw [List.length_append, List.length_singleton, ← Nat.add_assoc] at g8
    have gm : τ 6 (w0 + (sc_xn c).length) = nI (sc_mk c) := gk _ _ (by rw [List.getElem?_append_right (Nat.le_refl _), Nat.sub_self]; rfl)
    rcases sc_mark hm (by omega) h hBy hi h5 h6 g8 gm g9 g10 g11 g16 with ⟨i', v, σ', τ', f1, f2, f3, f4, f5, f6, f7, f8, f9, a1, a2, a3, a4, a5, a6, a7⟩ | ⟨f, i', v, σ', τ', f1, f2, f3, f4, f5, f6, f7, f8⟩
    · obtain ⟨k6, k10, -⟩ := sc_mk_v h
      rw [if_neg (by omega)] at a5
      rw [if_pos (Or.inr k6)] at a6
      rw [if_neg (by omega)] at a7
      rw [f4]
      simp only [Option.bind_some]
      have hrun := sc_tailN (v3 := v3) (mk := v) hm hw hc (sc_By_k hBy f5 (sc_kM_F f9)) f2 f6 f7 a1 (fun j x hj => (f9 6 _ (by omega)).trans (gk j x (by rw [List.getElem?_append_left (List.getElem?_eq_some_iff.mp hj).1]; exact hj))) a2 a3 a4 ((f9 0 16 (by omega)).trans g16) (by rw [if_neg h]; exact f3) a5 (a6.trans e9) (a7.trans e10)
      rcases hrun with ⟨i2, mk, f, s, σ2, τ2, b1, b2, b3, b4, b5, b6, b7, b8, b9, c1, c2, c3, c4, c5, c6, c7⟩ | ⟨f, i2, σ2, τ2, b1, b2, b3, b4, b5, b6, b7, b8⟩
      · have ek : (if sc_mk c < 6 then 2 else 1) = 1 := if_neg (by omega)
        have ebe : sc_be c = 2 * sc_nn c + 1 := by unfold sc_be; rw [if_neg h]
        exact Or.inl ⟨i2, mk, f, s, σ2, τ2, by omega, b2, b3, b4, sc_kC_tr f5 b5, b6, b7, f8.trans b8, sc_kM_tr f9 b9, c1, c2, c3, c4, c5, c6, c7⟩
      · exact Or.inr ⟨f, i2, σ2, τ2, b1, b2, b3, sc_kC_tr f5 b4, b5, b6, f8.trans b7, sc_kF_tr (sc_kM_F f9) b8⟩
    · rw [f3]
      simp only [Option.bind_some]
      have d6 : σ' 46 6 ≠ -1 := by rw [f5]; exact sc_nm1 (by have := hBy.1; omega)
      rw [sc_58D hBy.1 ((f4 46 2 (by omega)).trans hBy.2.1) f6 f2 d6]
      exact Or.inr ⟨f, i', σ', τ', f1, f2, rfl, f4, f5, f6, f7, f8⟩
