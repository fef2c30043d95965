/-! rooms; receivers -/
def sf_rm (f o : Nat) : Room := { frames := f, cells := 0, slots := 0, locals := o }
theorem sf_RM_of {f o f2 o2 nL2 : Nat} (h1 : f2 + 1 ≤ f) (h2 : 8 + (nL2 + 11) + o2 ≤ o) : sf_RM (sf_rm f o) (sf_rm f2 o2) nL2 := ⟨h1, h2, rfl, rfl⟩
theorem sf_RB_of {f o : Nat} (h1 : 1 ≤ f) (h2 : 63 ≤ o) : sf_RB (sf_rm f o) := ⟨h1, h2, rfl, rfl⟩
abbrev sf_rv (l : List Nat) (q : Nat) : Bool := l.any fun x => Nat.beq x q
theorem sf_rv_mem {l : List Nat} {q : Nat} (h : sf_rv l q = true) : q ∈ l := by
  obtain ⟨x, h1, h2⟩ := List.any_eq_true.mp h
  rw [← Nat.eq_of_beq_eq_true h2]
  exact h1
abbrev sf_rv2 (l : List (Nat × Nat)) (q r : Nat) : Bool := l.any fun x => Nat.beq x.1 q && Nat.beq x.2 r
theorem sf_rv2_mem {l : List (Nat × Nat)} {q r : Nat} (h : sf_rv2 l q r = true) : (q, r) ∈ l := by
  obtain ⟨⟨x, y⟩, h1, h2⟩ := List.any_eq_true.mp h
  simp only [Bool.and_eq_true] at h2
  have e1 : x = q := Nat.eq_of_beq_eq_true h2.1
  have e2 : y = r := Nat.eq_of_beq_eq_true h2.2
  subst e1; subst e2
  exact h1
/-- a call whose answer is a number, a long, nothing -/
theorem sf_jI_eq {ρ : Type} (lay : sf_Lay) (cs : List Nat) (n : Nat) (g : List Value → sf_S → Option (Int32 × sf_S)) : (sf_jI lay cs n g : sf_J ρ) = sf_jG lay cs n g sf_vI := rfl
theorem sf_jL_eq {ρ : Type} (lay : sf_Lay) (cs : List Nat) (n : Nat) (g : List Value → sf_S → Option (Int64 × sf_S)) : (sf_jL lay cs n g : sf_J ρ) = sf_jG lay cs n g sf_vL := rfl
theorem sf_jV_eq {ρ : Type} (lay : sf_Lay) (cs : List Nat) (n : Nat) (g : List Value → sf_S → Option sf_S) : (sf_jV lay cs n g : sf_J ρ) = sf_jG lay cs n g sf_vV := rfl
theorem sf_C_none {l : Launch} {lay : sf_Lay} {y : MethodName} {cc : ByteArray} {nL : Nat} {ret : Option FieldType} {f o : Nat} {F : List Value → sf_S → Option sf_Q} (h : ∀ av σ, F av σ = none) : sf_C l lay y cc nL ret (sf_rm f o) F := ⟨rfl, rfl, fun D cy ad sz av σ r _ hr => by rw [h av σ] at hr; cases hr⟩
