/-! THE SMALL MACHINE IS SOUND: what it says of a method's code, the machine does -/
def sf_v (ad : Nat → Nat) : Value → Value
  | .ref q => .ref (ad q)
  | v => v
def sf_fv (ad : Nat → Nat) (x : Int32) : Option Nat → Value
  | some q => .ref (ad q)
  | none => .int x
def sf_ce (ad : Nat → Nat) (cy : Nat → ClassId) (σ : sf_S) (k : Nat) : (Nat × List (Option Nat)) ⊕ (Nat × Nat) → va_E
  | .inl (ci, fs) => .inr (ci, fs.mapIdx fun j f => sf_fv ad (σ k j) f)
  | .inr (t, n) => .inl (cy t, n, .inl (σ k))
def sf_wd (lay : sf_Lay) (ad : Nat → Nat) (cy : Nat → ClassId) (σ : sf_S) : va_W := lay.mapIdx fun k sh => (ad k, sf_ce ad cy σ k sh)
def sf_ty (cy : Nat → ClassId) : List (ClassId × FieldType) := [(cy 0, .int), (cy 1, .boolean), (cy 2, .byte)]
def sf_A (lay : sf_Lay) (ad : Nat → Nat) (sz : Nat) : Nat → Prop := fun q => (∃ k, k < lay.length ∧ q = ad k) ∨ sz ≤ q
def sf_inj (lay : sf_Lay) (ad : Nat → Nat) : Prop := ∀ i j, i < lay.length → j < lay.length → ad i = ad j → i = j
def sf_LV (ls : Array Slot) (nL : Nat) (ad : Nat → Nat) (L : sf_L) : Prop := ls.size = nL ∧ lv_wf ls ∧ ∀ i v, sf_get L i = some v → ls[i]? = some (.val (sf_v ad v))
theorem sf_v_cat (ad : Nat → Nat) (v : Value) : (sf_v ad v).category = v.category := by cases v <;> rfl
theorem sf_nl_some {o : Option Value} {w : Value} (h : sf_nl o = some w) : o = some w ∧ w.category = 1 := by
  unfold sf_nl at h
  split at h
  · cases h
  · cases h
  · rename_i h1 h2
    refine ⟨h, ?_⟩
    subst h
    cases w with
    | long x => exact absurd rfl (h1 x)
    | double x => exact absurd rfl (h2 x)
    | _ => rfl
theorem sf_get_put {L : sf_L} {i : Nat} {o : Option Value} {j : Nat} {w : Value} (h : sf_get ((i, o) :: L) j = some w) : (j = i ∧ o = some w) ∨ (j ≠ i ∧ sf_get L j = some w ∧ ¬ (j + 1 = i ∧ w.category = 2)) := by
  simp only [sf_get] at h
  split at h
  · rename_i hk
    exact Or.inl ⟨(Nat.eq_of_beq_eq_true hk).symm, h⟩
  · rename_i hk
    have hne : j ≠ i := fun e => by rw [e, Nat.beq_refl] at hk; cases hk
    split at h
    · obtain ⟨h1, h2⟩ := sf_nl_some h
      exact Or.inr ⟨hne, h1, fun q => by omega⟩
    · rename_i hk2
      exact Or.inr ⟨hne, h, fun q => by rw [q.1, Nat.beq_refl] at hk2; cases hk2⟩
def sf_prs (ad : Nat → Nat) (nL : Nat) (L : sf_L) : List (Nat × Value) := (List.range nL).filterMap fun i => (sf_get L i).map fun v => (i, sf_v ad v)
theorem sf_mem_prs {ad : Nat → Nat} {nL : Nat} {L : sf_L} {i : Nat} {v : Value} (hi : i < nL) (h : sf_get L i = some v) : (i, sf_v ad v) ∈ sf_prs ad nL L :=
  List.mem_filterMap.mpr ⟨i, List.mem_range.mpr hi, by simp [h]⟩
theorem sf_LV.has {ls : Array Slot} {nL : Nat} {ad : Nat → Nat} {L : sf_L} (h : sf_LV ls nL ad L) : lv_has ls nL (sf_prs ad nL L) := by
  refine ⟨h.1, h.2.1, fun q hq => ?_⟩
  obtain ⟨i, -, hi⟩ := List.mem_filterMap.mp hq
  cases hg : sf_get L i with
  | none => simp [hg] at hi
  | some v =>
    simp [hg] at hi
    rw [← hi]
    exact h.2.2 i v hg
theorem sf_LV.lt {ls : Array Slot} {nL : Nat} {ad : Nat → Nat} {L : sf_L} (h : sf_LV ls nL ad L) {i : Nat} {v : Value} (hg : sf_get L i = some v) : i < nL := by
  have := lv_lt (h.2.2 i v hg)
  rw [h.1] at this
  exact this
theorem sf_LV.st1 {ls ls' : Array Slot} {nL : Nat} {ad : Nat → Nat} {L : sf_L} {i : Nat} {v w : Value} (h : sf_LV ls nL ad L) (hw : sf_v ad v = w) (h' : lv_has ls' nL ((i, w) :: (sf_prs ad nL L).filter (fun q => !(q.1 == i) && !(q.1 + 1 == i && q.2.category == 2)))) : sf_LV ls' nL ad (sf_st1 L i v) := by
  refine ⟨h'.1, h'.2.1, fun j x hg => ?_⟩
  rcases sf_get_put hg with ⟨h1, h2⟩ | ⟨h1, h2⟩
  · cases h2
    subst h1
    rw [hw]
    exact h'.2.2 (j, w) List.mem_cons_self
  · obtain ⟨h3, h4⟩ := h2
    refine h'.2.2 (j, sf_v ad x) (List.mem_cons_of_mem _ (List.mem_filter.mpr ⟨sf_mem_prs (h.lt h3) h3, ?_⟩))
    simp only [Bool.and_eq_true, Bool.not_eq_true', beq_eq_false_iff_ne, ne_eq, Bool.and_eq_false_iff, sf_v_cat]
    refine ⟨h1, ?_⟩
    by_cases hc : j + 1 = i
    · exact Or.inr fun hx => h4 ⟨hc, hx⟩
    · exact Or.inl hc
theorem sf_LV.st2 {ls ls' : Array Slot} {nL : Nat} {ad : Nat → Nat} {L : sf_L} {i : Nat} {v w : Value} (h : sf_LV ls nL ad L) (hw : sf_v ad v = w) (h' : lv_has ls' nL ((i, w) :: (sf_prs ad nL L).filter (fun q => !(q.1 == i) && (!(q.1 == i + 1) && !(q.1 + 1 == i && q.2.category == 2))))) : sf_LV ls' nL ad (sf_st2 L i v) := by
  refine ⟨h'.1, h'.2.1, fun j x hg => ?_⟩
  rcases sf_get_put hg with ⟨h1, h2⟩ | ⟨h1, hg, h4⟩
  · cases h2
    subst h1
    rw [hw]
    exact h'.2.2 (j, w) List.mem_cons_self
  rcases sf_get_put hg with ⟨-, h2⟩ | ⟨h0, h3, -⟩
  · cases h2
  · refine h'.2.2 (j, sf_v ad x) (List.mem_cons_of_mem _ (List.mem_filter.mpr ⟨sf_mem_prs (h.lt h3) h3, ?_⟩))
    simp only [Bool.and_eq_true, Bool.not_eq_true', beq_eq_false_iff_ne, ne_eq, Bool.and_eq_false_iff, sf_v_cat]
    refine ⟨h1, h0, ?_⟩
    by_cases hc : j + 1 = i
    · exact Or.inr fun hx => h4 ⟨hc, hx⟩
    · exact Or.inl hc
theorem sf_LV.mono {ls : Array Slot} {nL : Nat} {ad : Nat → Nat} {L L0 : sf_L} (h : sf_LV ls nL ad L) (hm : ∀ i v, sf_get L0 i = some v → sf_get L i = some v) : sf_LV ls nL ad L0 := ⟨h.1, h.2.1, fun i v hg => h.2.2 i v (hm i v hg)⟩
/-! the world's cells -/
theorem sf_wd_at {lay : sf_Lay} {ad : Nat → Nat} {cy : Nat → ClassId} {σ : sf_S} {k : Nat} {sh : (Nat × List (Option Nat)) ⊕ (Nat × Nat)} (h : lay[k]? = some sh) : (sf_wd lay ad cy σ)[k]? = some (ad k, sf_ce ad cy σ k sh) := by
  simp [sf_wd, List.getElem?_mapIdx, h]
theorem sf_wd_inv {lay : sf_Lay} {ad : Nat → Nat} {cy : Nat → ClassId} {σ : sf_S} {k : Nat} {q : Nat × va_E} (h : (sf_wd lay ad cy σ)[k]? = some q) : k < lay.length ∧ q.1 = ad k := by
  simp only [sf_wd, List.getElem?_mapIdx, Option.map_eq_some_iff] at h
  obtain ⟨sh, h1, h2⟩ := h
  exact ⟨(List.getElem?_eq_some_iff.mp h1).1, by rw [← h2]⟩
theorem sf_wd_D {lay : sf_Lay} {ad : Nat → Nat} (cy : Nat → ClassId) (σ : sf_S) (hi : sf_inj lay ad) {A : Nat → Prop} (hA : ∀ k, k < lay.length → A (ad k)) : va_D A (sf_wd lay ad cy σ) := by
  refine ⟨fun i j x y hx hy hxy => ?_, fun k q hq => ?_⟩
  · obtain ⟨h1, h2⟩ := sf_wd_inv hx
    obtain ⟨h3, h4⟩ := sf_wd_inv hy
    exact hi i j h1 h3 (by rw [← h2, ← h4]; exact hxy)
  · obtain ⟨h1, h2⟩ := sf_wd_inv hq
    rw [h2]
    exact hA k h1
theorem sf_wd_put {lay : sf_Lay} {ad : Nat → Nat} {cy : Nat → ClassId} {σ : sf_S} {q ci k : Nat} {fs : List (Option Nat)} {x : Int32} (h : lay[q]? = some (.inl (ci, fs))) (hk : fs[k]? = some none) : (sf_wd lay ad cy σ).set q (ad q, .inr (ci, (fs.mapIdx fun j f => sf_fv ad (σ q j) f).set k (.int x))) = sf_wd lay ad cy (sf_up σ q k x) := by
  have hq : q < lay.length := (List.getElem?_eq_some_iff.mp h).1
  have hkl : k < fs.length := (List.getElem?_eq_some_iff.mp hk).1
  apply List.ext_getElem?
  intro i
  by_cases hi : i = q
  · subst hi
    rw [sf_wd_at h, List.getElem?_set_self (by simp [sf_wd, hq])]
    simp only [sf_ce, Option.some.injEq, Prod.mk.injEq, Sum.inr.injEq, true_and]
    apply List.ext_getElem?
    intro j
    by_cases hj : j = k
    · subst hj
      rw [List.getElem?_set_self (by simp [hkl])]
      simp [List.getElem?_mapIdx, hk, sf_fv, sf_up]
    · rw [List.getElem?_set_ne (Ne.symm hj)]
      simp [List.getElem?_mapIdx, sf_up, hj]
  · rw [List.getElem?_set_ne (Ne.symm hi)]
    simp only [sf_wd, List.getElem?_mapIdx]
    congr 1
    funext sh
    cases sh with
    | inl o => simp [sf_ce, sf_up, hi]
    | inr o =>
      simp only [sf_ce, Prod.mk.injEq, Sum.inl.injEq, true_and]
      funext b
      simp [sf_up, hi]
theorem sf_wd_row {lay : sf_Lay} {ad : Nat → Nat} {cy : Nat → ClassId} {σ σ2 : sf_S} {q t n : Nat} {f : Nat → Int32} (h : lay[q]? = some (.inr (t, n))) (h1 : σ2 q = f) (h2 : ∀ a, a ≠ q → σ2 a = σ a) : (sf_wd lay ad cy σ).set q (ad q, .inl (cy t, n, .inl f)) = sf_wd lay ad cy σ2 := by
  have hq : q < lay.length := (List.getElem?_eq_some_iff.mp h).1
  apply List.ext_getElem?
  intro i
  by_cases hi : i = q
  · subst hi
    rw [sf_wd_at h, List.getElem?_set_self (by simp [sf_wd, hq])]
    simp [sf_ce, h1]
  · rw [List.getElem?_set_ne (Ne.symm hi)]
    simp only [sf_wd, List.getElem?_mapIdx]
    congr 1
    funext sh
    cases sh with
    | inl o => simp [sf_ce, h2 i hi]
    | inr o => simp [sf_ce, h2 i hi]
theorem sf_up_row (σ : sf_S) (q j : Nat) (x : Int32) : sf_up σ q j x q = upd (σ q) j x := by
  funext b
  simp [sf_up, upd]
theorem sf_up_else (σ : sf_S) (q j : Nat) (x : Int32) (a : Nat) (h : a ≠ q) : sf_up σ q j x a = σ a := by
  funext b
  simp [sf_up, h]
theorem sf_in_iff {i : Int32} {n : Nat} (h : sf_in i n = true) : vp_in i n := by
  simp only [sf_in, Bool.and_eq_true, Bool.not_eq_true', decide_eq_false_iff_not, decide_eq_true_eq] at h
  rintro (q | q)
  · exact h.1 q
  · omega
