/-! what the fresh states hold -/
def sd_sm (Δ : sd_D) (pm : List Nat) (ex : Nat → Nat → Int32) : Nat → sf_Lay → Bool
  | _, [] => true
  | k, .inr (_, n) :: r => (List.range n).all (fun j => decide (sd_st pm Δ k j = ex k j)) && sd_sm Δ pm ex (k + 1) r
  | k, .inl (_, fs) :: r => (List.range fs.length).all (fun j => decide (sd_st pm Δ k j = ex k j)) && sd_sm Δ pm ex (k + 1) r
def sf_xC (a b : Nat) : Int32 := if a = 1 ∧ b = 10 then -1 else if a = 36 ∧ b = 10 then -1 else if a = 17 ∧ b < 4 then -1 else 0
def sf_xM (a b : Nat) : Int32 := if a = 1 ∧ b < 4 then -1 else 0
def sd_smO (pm : List Nat) (ex : Nat → Nat → Int32) (lay : sf_Lay) : Option sd_R → Bool
  | some (Δ, _, _) => sd_sm Δ pm ex 0 lay
  | none => false
set_option maxRecDepth 100000 in
theorem sd_freshM : sd_smO sd_pmM sf_xM sf_layM (fX12_init [.ref 0] sd_startM) = true := by decide +kernel
