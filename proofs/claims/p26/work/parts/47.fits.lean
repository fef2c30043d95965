/-! what the constructors make, by the kernel -/
/-- the state that the made world has, in the layout's numbers -/
def sd_st (pm : List Nat) (Δ : sd_D) : sf_S := fun k j => match Δ[pm.getD k 0]? with
  | some (.inr (_, _, f)) => f j
  | some (.inl (_, vs)) => match vs[j]? with
    | some (.int v) => v
    | _ => 0
  | none => 0
def sd_fv (pm : List Nat) : List (Option Nat) → List Value → Bool
  | [], [] => true
  | some q :: fs, .ref r :: vs => Nat.beq (pm.getD q 0) r && sd_fv pm fs vs
  | none :: fs, .int _ :: vs => sd_fv pm fs vs
  | _, _ => false
def sd_fit (pm : List Nat) (sh : (Nat × List (Option Nat)) ⊕ (Nat × Nat)) (x : sd_C) : Bool := match sh, x with
  | .inl (ci, fs), .inl (cj, vs) => Nat.beq ci cj && sd_fv pm fs vs
  | .inr (t, n), .inr (t2, n2, _) => Nat.beq t t2 && Nat.beq n n2
  | _, _ => false
def sd_fits (pm : List Nat) (Δ : sd_D) : Nat → sf_Lay → Bool
  | _, [] => true
  | k, sh :: r => (match Δ[pm.getD k 0]? with
    | some x => sd_fit pm sh x
    | none => false) && sd_fits pm Δ (k + 1) r
theorem sd_fv_eq (pm : List Nat) (g : Nat → Int32) : ∀ (fs : List (Option Nat)) (vs : List Value) (o : Nat), sd_fv pm fs vs = true → (∀ j v, vs[j]? = some (.int v) → g (o + j) = v) → vs = fs.mapIdx fun j f => match f with
    | some q => .ref (pm.getD q 0)
    | none => .int (g (o + j))
  | [], [], _, _, _ => rfl
  | [], _ :: _, _, h, _ => by cases h
  | some _ :: _, [], _, h, _ => by cases h
  | none :: _, [], _, h, _ => by cases h
  | some q :: fs, v :: vs, o, h, hg => by
    cases v with
    | ref r =>
      rw [sd_fv, Bool.and_eq_true] at h
      have hq := Nat.eq_of_beq_eq_true h.1
      have := sd_fv_eq pm g fs vs (o + 1) h.2 (fun j v hv => by have := hg (j + 1) v (by simpa using hv); rwa [show o + 1 + j = o + (j + 1) by omega])
      rw [List.mapIdx_cons, ← hq]
      congr 1
      refine this.trans ?_
      congr 1
      funext j f
      cases f with
      | some _ => rfl
      | none => show Value.int _ = Value.int _; rw [show o + 1 + j = o + (j + 1) by omega]
    | _ => cases h
  | none :: fs, v :: vs, o, h, hg => by
    cases v with
    | int r =>
      have h : sd_fv pm fs vs = true := h
      have := sd_fv_eq pm g fs vs (o + 1) h (fun j v hv => by have := hg (j + 1) v (by simpa using hv); rwa [show o + 1 + j = o + (j + 1) by omega])
      have h0 := hg 0 r rfl
      rw [List.mapIdx_cons]
      have e : (Value.int r) = Value.int (g (o + 0)) := by rw [h0]
      rw [e]
      congr 1
      refine this.trans ?_
      congr 1
      funext j f
      cases f with
      | some _ => rfl
      | none => show Value.int _ = Value.int _; rw [show o + 1 + j = o + (j + 1) by omega]
    | _ => cases h
theorem sd_fit_like {pm : List Nat} {Δ : sd_D} {k : Nat} {sh : (Nat × List (Option Nat)) ⊕ (Nat × Nat)} {x : sd_C} (hx : Δ[pm.getD k 0]? = some x) (h : sd_fit pm sh x = true) : sd_like pm (sd_st pm Δ) k sh x := by
  rcases sh with ⟨ci, fs⟩ | ⟨t, n⟩ <;> rcases x with ⟨cj, vs⟩ | ⟨t2, n2, f⟩
  · have h : (Nat.beq ci cj && sd_fv pm fs vs) = true := h
    rw [Bool.and_eq_true] at h
    refine ⟨Nat.eq_of_beq_eq_true h.1, ?_⟩
    refine (sd_fv_eq pm (sd_st pm Δ k) fs vs 0 h.2 (fun j v hv => ?_)).trans ?_
    · show sd_st pm Δ k (0 + j) = v
      rw [Nat.zero_add, sd_st, hx]; show (match vs[j]? with | some (.int v) => v | _ => 0) = v; rw [hv]
    · congr 1
      funext j f
      rw [Nat.zero_add]
      cases f <;> rfl
  · cases h
  · cases h
  · have h : (Nat.beq t t2 && Nat.beq n n2) = true := h
    rw [Bool.and_eq_true] at h
    refine ⟨Nat.eq_of_beq_eq_true h.1, Nat.eq_of_beq_eq_true h.2, fun j => ?_⟩
    rw [sd_st, hx]
theorem sd_fits_at {pm : List Nat} {Δ : sd_D} : ∀ (lay : sf_Lay) (o : Nat), sd_fits pm Δ o lay = true → ∀ k sh, lay[k]? = some sh → ∃ x, Δ[pm.getD (o + k) 0]? = some x ∧ sd_like pm (sd_st pm Δ) (o + k) sh x
  | [], _, _, _, _, h => by cases h
  | s :: r, o, h, k, sh, hk => by
    rw [sd_fits, Bool.and_eq_true] at h
    cases k with
    | zero =>
      cases hk
      have h1 := h.1
      show ∃ x, Δ[pm.getD o 0]? = some x ∧ sd_like pm (sd_st pm Δ) o s x
      cases e : Δ[pm.getD o 0]? with
      | none => rw [e] at h1; cases h1
      | some x => rw [e] at h1; exact ⟨x, rfl, sd_fit_like e h1⟩
    | succ k =>
      have := sd_fits_at r (o + 1) h.2 k sh (by simpa using hk)
      rwa [show o + 1 + k = o + (k + 1) by omega] at this
def sd_good (lay : sf_Lay) (pm : List Nat) (c s : Nat) : Option sd_R → Bool
  | some (Δ, c2, s2) => Nat.beq c2 c && Nat.beq s2 s && sd_fits pm Δ 0 lay
  | none => false
theorem sd_good_ok {lay : sf_Lay} {pm : List Nat} {c s : Nat} {x : Option sd_R} (h : sd_good lay pm c s x = true) : ∃ Δ, x = some (Δ, c, s) ∧ ∀ k sh, lay[k]? = some sh → ∃ y, Δ[pm.getD k 0]? = some y ∧ sd_like pm (sd_st pm Δ) k sh y := by
  rcases x with _ | ⟨Δ, c2, s2⟩
  · cases h
  · rw [sd_good, Bool.and_eq_true, Bool.and_eq_true] at h
    have e1 := Nat.eq_of_beq_eq_true h.1.1
    have e2 := Nat.eq_of_beq_eq_true h.1.2
    subst e1; subst e2
    refine ⟨Δ, rfl, fun k sh hk => ?_⟩
    have := sd_fits_at lay 0 h.2 k sh hk
    rwa [Nat.zero_add] at this
