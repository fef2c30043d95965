/-! from the world that was made to the layout -/
def sd_startC : sd_D := [.inl (9, [.null, .null, .null, .null, .null, .null, .null, .null, .null, .null, .null, .null, .null, .int 0])]
def sd_pmC : List Nat := [0, 1, 2, 3, 4, 5, 6, 7, 8, 9, 10, 11, 12, 13, 14, 15, 16, 17, 18, 19, 20, 21, 22, 23, 25, 26, 24, 27, 29, 30, 28, 31, 32, 33, 34, 35, 36, 37, 38, 39, 40, 41, 42, 43, 44, 45, 46, 47, 48, 49, 50, 51, 52, 53, 54, 55, 57, 58, 56]
/-- the address of a cell of the layout, out of those of the world that was made -/
def sd_ad (pm : List Nat) (as : Nat → Nat) : Nat → Nat := fun k => as (pm.getD k 0)
/-- a made cell is as the layout's cell in a state says -/
def sd_like (pm : List Nat) (σ : sf_S) (k : Nat) (sh : (Nat × List (Option Nat)) ⊕ (Nat × Nat)) (x : sd_C) : Prop := match sh, x with
  | .inl (ci, fs), .inl (cj, vs) => ci = cj ∧ vs = fs.mapIdx fun j f => match f with
    | some q => .ref (pm.getD q 0)
    | none => .int (σ k j)
  | .inr (t, n), .inr (t2, n2, f) => t = t2 ∧ n = n2 ∧ ∀ j, σ k j = f j
  | _, _ => False
theorem sd_like_ce {pm : List Nat} {σ : sf_S} {k : Nat} {sh : (Nat × List (Option Nat)) ⊕ (Nat × Nat)} {x : sd_C} (as : Nat → Nat) (cy : Nat → ClassId) (h : sd_like pm σ k sh x) : sf_ce (sd_ad pm as) cy σ k sh = sd_ce as cy x := by
  cases sh with
  | inl o =>
    obtain ⟨ci, fs⟩ := o
    cases x with
    | inl y =>
      obtain ⟨cj, vs⟩ := y
      obtain ⟨h1, h2⟩ := h
      subst h1; subst h2
      simp only [sf_ce, sd_ce, Sum.inr.injEq, Prod.mk.injEq, true_and]
      apply List.ext_getElem?
      intro i
      simp only [List.getElem?_mapIdx, List.getElem?_map, Option.map_map]
      congr 1
      funext f
      cases f <;> rfl
    | inr y => exact h.elim
  | inr o =>
    obtain ⟨t, n⟩ := o
    cases x with
    | inl y => exact h.elim
    | inr y =>
      obtain ⟨t2, n2, f⟩ := y
      obtain ⟨h1, h2, h3⟩ := h
      subst h1; subst h2
      simp only [sf_ce, sd_ce, Sum.inl.injEq, Prod.mk.injEq, true_and]
      exact funext h3
theorem sd_to_sf {lay : sf_Lay} {pm : List Nat} {σ : sf_S} {Δ : sd_D} {as : Nat → Nat} {cy : Nat → ClassId} {D : va_G} {H : Heap} {A : Nat → Prop} (hlen : pm.length = lay.length) (hnd : ∀ i j, i < pm.length → j < pm.length → pm.getD i 0 = pm.getD j 0 → i = j) (hl : ∀ k sh, lay[k]? = some sh → ∃ x, Δ[pm.getD k 0]? = some x ∧ sd_like pm σ k sh x) (hP : va_P D vwCl (sd_wd as cy Δ) H) (hD : va_D A (sd_wd as cy Δ)) :
    va_P D vwCl (sf_wd lay (sd_ad pm as) cy σ) H ∧ sf_inj lay (sd_ad pm as) ∧ ∀ k, k < lay.length → A (sd_ad pm as k) := by
  have key : ∀ k, k < lay.length → ∃ x sh, lay[k]? = some sh ∧ Δ[pm.getD k 0]? = some x ∧ sd_like pm σ k sh x := fun k hk => by
    obtain ⟨x, h1, h2⟩ := hl k _ (List.getElem?_eq_getElem hk)
    exact ⟨x, _, List.getElem?_eq_getElem hk, h1, h2⟩
  refine ⟨fun k q hq => ?_, fun i j hi hj hij => ?_, fun k hk => ?_⟩
  · obtain ⟨hk, -⟩ := sf_wd_inv hq
    obtain ⟨x, sh, h1, h2, h3⟩ := key k hk
    rw [sf_wd_at h1] at hq
    cases hq
    have := hP _ _ (sd_wd_at (as := as) (cy := cy) h2)
    rw [← sd_like_ce as cy h3] at this
    exact this
  · obtain ⟨x, sh, h1, h2, h3⟩ := key i hi
    obtain ⟨y, sh2, g1, g2, g3⟩ := key j hj
    exact hnd i j (by omega) (by omega) (hD.1 _ _ _ _ (sd_wd_at (as := as) (cy := cy) h2) (sd_wd_at (as := as) (cy := cy) g2) hij)
  · obtain ⟨x, sh, h1, h2, h3⟩ := key k hk
    exact hD.2 _ _ (sd_wd_at (as := as) (cy := cy) h2)
theorem sd_nd {pm : List Nat} (h : (List.range pm.length).all (fun i => (List.range pm.length).all fun j => decide (pm.getD i 0 = pm.getD j 0 → i = j)) = true) : ∀ i j, i < pm.length → j < pm.length → pm.getD i 0 = pm.getD j 0 → i = j := fun i j hi hj => by
  have h1 := List.all_eq_true.mp h i (List.mem_range.mpr hi)
  have h2 := List.all_eq_true.mp h1 j (List.mem_range.mpr hj)
  exact of_decide_eq_true h2
