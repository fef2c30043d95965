/-! both constructors, one after the other, in one world: so the law makes them -/
def sd_pmM2 : List Nat := sd_pmM.map (· + 59)
def sd_go2 : Option sd_R → Option sd_R
  | some (Δ, _, _) => fX12_init [.ref 59] (Δ ++ sd_startM)
  | none => none
def sd_both (x : Option sd_R) : Bool := sd_good sf_layC sd_pmC 38 5341 x && sd_good sf_layM sd_pmM2 38 5341 x && sd_smO sd_pmC sf_xC sf_layC x && sd_smO sd_pmM2 sf_xM sf_layM x
set_option maxRecDepth 100000 in
theorem sd_bothOK : sd_both (sd_go2 (fX11_init [.ref 0] sd_startC)) = true := by decide +kernel
def sf_bD : sd_D := sd_dc (sd_go2 (fX11_init [.ref 0] sd_startC))
theorem sf_bD_def : sf_bD = sd_dc (sd_go2 (fX11_init [.ref 0] sd_startC)) := by unfold sf_bD; exact Eq.refl _
def sf_t0C : sf_S := sd_st sd_pmC sf_bD
def sf_t0M : sf_S := sd_st sd_pmM2 sf_bD
theorem sd_go2_some (Δ : sd_D) (c s : Nat) : sd_go2 (some (Δ, c, s)) = fX12_init [.ref 59] (Δ ++ sd_startM) := rfl
theorem sf_jointRun : fX12_init [.ref 59] (sf_DC ++ sd_startM) = some (sf_bD, 38, 5341) := by
  have h := sd_bothOK
  rw [sd_both, Bool.and_eq_true, Bool.and_eq_true, Bool.and_eq_true] at h
  obtain ⟨Δ, h1, -⟩ := sd_good_ok h.1.1.1
  have e : sf_bD = Δ := (sf_bD_def.trans (congrArg sd_dc h1)).trans (sd_dc_some Δ _ _)
  have h2 : sd_go2 (fX11_init [.ref 0] sd_startC) = fX12_init [.ref 59] (sf_DC ++ sd_startM) := (congrArg sd_go2 sf_endC.1).trans (sd_go2_some _ _ _)
  rw [e, ← h2]; exact h1
theorem sf_jointC : ∀ k sh, sf_layC[k]? = some sh → ∃ y, sf_bD[sd_pmC.getD k 0]? = some y ∧ sd_like sd_pmC sf_t0C k sh y := by
  have h := sd_bothOK
  rw [sd_both, Bool.and_eq_true, Bool.and_eq_true, Bool.and_eq_true] at h
  obtain ⟨Δ, h1, h2⟩ := sd_good_ok h.1.1.1
  have e : sf_bD = Δ := (sf_bD_def.trans (congrArg sd_dc h1)).trans (sd_dc_some Δ _ _)
  rw [sf_t0C, e]; exact h2
theorem sf_jointM : ∀ k sh, sf_layM[k]? = some sh → ∃ y, sf_bD[sd_pmM2.getD k 0]? = some y ∧ sd_like sd_pmM2 sf_t0M k sh y := by
  have h := sd_bothOK
  rw [sd_both, Bool.and_eq_true, Bool.and_eq_true, Bool.and_eq_true] at h
  obtain ⟨Δ, h1, h2⟩ := sd_good_ok h.1.1.2
  have e : sf_bD = Δ := (sf_bD_def.trans (congrArg sd_dc h1)).trans (sd_dc_some Δ _ _)
  rw [sf_t0M, e]; exact h2
/-- the fresh states, place by place -/
theorem sf_t0C_at (k : Nat) (sh : (Nat × List (Option Nat)) ⊕ (Nat × Nat)) (hk : sf_layC[k]? = some sh) (j : Nat) (hj : j < sd_size sh) : sf_t0C k j = sf_xC k j := by
  have h := sd_bothOK
  rw [sd_both, Bool.and_eq_true, Bool.and_eq_true, Bool.and_eq_true] at h
  have := sd_smO_at h.1.2 k sh hk j hj
  rw [sf_t0C, sf_bD_def]; exact this
theorem sf_t0M_at (k : Nat) (sh : (Nat × List (Option Nat)) ⊕ (Nat × Nat)) (hk : sf_layM[k]? = some sh) (j : Nat) (hj : j < sd_size sh) : sf_t0M k j = sf_xM k j := by
  have h := sd_bothOK
  rw [sd_both, Bool.and_eq_true, Bool.and_eq_true, Bool.and_eq_true] at h
  have := sd_smO_at h.2 k sh hk j hj
  rw [sf_t0M, sf_bD_def]; exact this
