/-! what the constructors make, by the kernel -/
def sd_eqv : Value → Value → Bool
  | .ref a, .ref b => Nat.beq a b
  | .int a, .int b => decide (a = b)
  | _, _ => false
def sd_eql : List Value → List Value → Bool
  | [], [] => true
  | a :: r, b :: w => sd_eqv a b && sd_eql r w
  | _, _ => false
def sd_cmp (pm : List Nat) (σ : sf_S) (k : Nat) (sh : (Nat × List (Option Nat)) ⊕ (Nat × Nat)) (x : Option sd_C) : Bool := match sh, x with
  | .inl (ci, fs), some (.inl (cj, vs)) => Nat.beq ci cj && sd_eql vs (fs.mapIdx fun j f => match f with
    | some q => .ref (pm.getD q 0)
    | none => .int (σ k j))
  | .inr (t, n), some (.inr (t2, n2, _)) => Nat.beq t t2 && Nat.beq n n2
  | _, _ => false
set_option maxRecDepth 100000 in
theorem zz_plan : ((fX2_init [.ref 0] [.inl (2, [.null, .null, .null, .null, .int 0, .null, .null, .null, .null, .null, .int 0, .int 0])]).map fun r => (r.1.length, r.2.1, r.2.2)) = some (10, 9, 360) := by decide +kernel
