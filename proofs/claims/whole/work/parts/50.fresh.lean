/-! what the fresh states hold -/
def sd_sm (Δ : sd_D) (pm : List Nat) (ex : Nat → Nat → Int32) : Nat → sf_Lay → Bool
  | _, [] => true
  | k, .inr (_, n) :: r => (List.range n).all (fun j => decide (sd_st pm Δ k j = ex k j)) && sd_sm Δ pm ex (k + 1) r
  | k, .inl (_, fs) :: r => (List.range fs.length).all (fun j => decide (sd_st pm Δ k j = ex k j)) && sd_sm Δ pm ex (k + 1) r
def sf_xC (a b : Nat) : Int32 := if a = 1 ∧ b = 10 then -1 else if a = 36 ∧ b = 10 then -1 else if a = 17 ∧ b < 4 then -1 else 0
def sf_xM (a b : Nat) : Int32 := if a = 1 ∧ b < 4 then -1 else 0
def sd_smO (pm : List Nat) (ex : Nat → Nat → Int32) (lay : sf_Lay) : Option sd_R → Bool
  | some (Δ, _, _) => sd_sm Δ pm ex 0 lay
  | none => false
set_option maxRecDepth 100000 in
theorem sd_freshM : sd_smO sd_pmM sf_xM sf_layM (fX12_init [.ref 0] sd_startM) = true := by decide +kernel
set_option maxRecDepth 100000 in
theorem sd_freshC : sd_smO sd_pmC sf_xC sf_layC (fX11_init [.ref 0] sd_startC) = true := by decide +kernel
def sd_size : (Nat × List (Option Nat)) ⊕ (Nat × Nat) → Nat
  | .inl (_, fs) => fs.length
  | .inr (_, n) => n
theorem sd_sm_at {Δ : sd_D} {pm : List Nat} {ex : Nat → Nat → Int32} : ∀ (lay : sf_Lay) (o : Nat), sd_sm Δ pm ex o lay = true → ∀ k sh, lay[k]? = some sh → ∀ j, j < sd_size sh → sd_st pm Δ (o + k) j = ex (o + k) j
  | [], _, _, _, _, h => by cases h
  | s :: r, o, h, k, sh, hk => by
    have h2 : (∀ j, j < sd_size s → sd_st pm Δ o j = ex o j) ∧ sd_sm Δ pm ex (o + 1) r = true := by
      rcases s with ⟨ci, fs⟩ | ⟨t, n⟩ <;> rw [sd_sm, Bool.and_eq_true] at h <;>
        exact ⟨fun j hj => of_decide_eq_true (List.all_eq_true.mp h.1 j (List.mem_range.mpr hj)), h.2⟩
    cases k with
    | zero => cases hk; exact h2.1
    | succ k =>
      have := sd_sm_at r (o + 1) h2.2 k sh (by simpa using hk)
      rwa [show o + 1 + k = o + (k + 1) by omega] at this
theorem sd_smO_at {pm : List Nat} {ex : Nat → Nat → Int32} {lay : sf_Lay} {x : Option sd_R} (h : sd_smO pm ex lay x = true) : ∀ k sh, lay[k]? = some sh → ∀ j, j < sd_size sh → sd_st pm (sd_dc x) k j = ex k j := by
  rcases x with _ | ⟨Δ, c, s⟩
  · cases h
  · intro k sh hk j hj
    have := sd_sm_at lay 0 h k sh hk j hj
    rwa [Nat.zero_add] at this
/-- the fresh object: every place of every cell -/
theorem sf_freshC (k : Nat) (sh : (Nat × List (Option Nat)) ⊕ (Nat × Nat)) (hk : sf_layC[k]? = some sh) (j : Nat) (hj : j < sd_size sh) : sf_s0C k j = sf_xC k j := by
  have := sd_smO_at sd_freshC k sh hk j hj
  rw [sf_s0C, sf_DC_def]; exact this
theorem sf_freshM (k : Nat) (sh : (Nat × List (Option Nat)) ⊕ (Nat × Nat)) (hk : sf_layM[k]? = some sh) (j : Nat) (hj : j < sd_size sh) : sf_s0M k j = sf_xM k j := by
  have := sd_smO_at sd_freshM k sh hk j hj
  rw [sf_s0M, sf_DM_def]; exact this
