/-! the worlds that the constructors leave: one object, then two -/
def sd_dc : Option sd_R → sd_D
  | some (Δ, _, _) => Δ
  | none => []
def sf_DC : sd_D := sd_dc (fX11_init [.ref 0] sd_startC)
theorem sf_DC_def : sf_DC = sd_dc (fX11_init [.ref 0] sd_startC) := by unfold sf_DC; exact Eq.refl _
theorem sd_dc_some (Δ : sd_D) (c s : Nat) : sd_dc (some (Δ, c, s)) = Δ := rfl
def sf_s0C : sf_S := sd_st sd_pmC sf_DC
theorem sf_endC : fX11_init [.ref 0] sd_startC = some (sf_DC, 58, 4687) ∧ ∀ k sh, sf_layC[k]? = some sh → ∃ y, sf_DC[sd_pmC.getD k 0]? = some y ∧ sd_like sd_pmC sf_s0C k sh y := by
  obtain ⟨Δ, h1, h2⟩ := sd_good_ok sd_goodC
  have e : sf_DC = Δ := (sf_DC_def.trans (congrArg sd_dc h1)).trans (sd_dc_some Δ _ _)
  rw [sf_s0C, e]
  exact ⟨h1, h2⟩
def sd_sm (Δ : sd_D) (pm : List Nat) (ex : Nat → Nat → Int32) : Nat → sf_Lay → Bool
  | _, [] => true
  | k, .inr (_, n) :: r => (List.range n).all (fun j => decide (sd_st pm Δ k j = ex k j)) && sd_sm Δ pm ex (k + 1) r
  | k, .inl (_, fs) :: r => (List.range fs.length).all (fun j => decide (sd_st pm Δ k j = ex k j)) && sd_sm Δ pm ex (k + 1) r
def sf_xC (a b : Nat) : Int32 := if a = 1 ∧ b = 10 then -1 else if a = 36 ∧ b = 10 then -1 else if a = 17 ∧ b < 4 then -1 else 0
def sd_smO (pm : List Nat) (ex : Nat → Nat → Int32) (lay : sf_Lay) : Option sd_R → Bool
  | some (Δ, _, _) => sd_sm Δ pm ex 0 lay
  | none => false
def sd_size : (Nat × List (Option Nat)) ⊕ (Nat × Nat) → Nat
  | .inl (_, fs) => fs.length
  | .inr (_, n) => n
theorem sd_sm_at {Δ : sd_D} {pm : List Nat} {ex : Nat → Nat → Int32} : ∀ (lay : sf_Lay) (o : Nat), sd_sm Δ pm ex o lay = true → ∀ k sh, lay[k]? = some sh → ∀ j, j < sd_size sh → sd_st pm Δ (o + k) j = ex (o + k) j
  | [], _, _, _, _, h => by cases h
  | s :: r, o, h, k, sh, hk => by
    have h2 : (∀ j, j < sd_size s → sd_st pm Δ o j = ex o j) ∧ sd_sm Δ pm ex (o + 1) r = true := by
      rcases s with ⟨ci, fs⟩ | ⟨t, n⟩ <;> rw [sd_sm, Bool.and_eq_true] at h <;>
        exact ⟨fun j hj => of_decide_eq_true (List.all_eq_true.mp h.1 j (List.mem_range.mpr hj)), h.2⟩
    cases k with
    | zero => cases hk; exact h2.1
    | succ k =>
      have := sd_sm_at r (o + 1) h2.2 k sh (by simpa using hk)
      rwa [show o + 1 + k = o + (k + 1) by omega] at this
theorem sd_smO_at {pm : List Nat} {ex : Nat → Nat → Int32} {lay : sf_Lay} {x : Option sd_R} (h : sd_smO pm ex lay x = true) : ∀ k sh, lay[k]? = some sh → ∀ j, j < sd_size sh → sd_st pm (sd_dc x) k j = ex k j := by
  rcases x with _ | ⟨Δ, c, s⟩
  · cases h
  · intro k sh hk j hj
    have := sd_sm_at lay 0 h k sh hk j hj
    rwa [Nat.zero_add] at this
/-- both objects in one world, o at 0, p at 59 -/
def sd_lay2 : sf_Lay := sf_layC.map (sf_shl 0) ++ sf_layC.map (sf_shl 59)
def sd_pm2 : List Nat := sd_pmC ++ sd_pmC.map (· + 59)
def sf_x2 (a b : Nat) : Int32 := if a < 59 then sf_xC a b else sf_xC (a - 59) b
def sd_go2 : Option sd_R → Option sd_R
  | some (Δ, _, _) => fX11_init [.ref 59] (Δ ++ sd_startC)
  | none => none
def sd_both (x : Option sd_R) : Bool := sd_good sd_lay2 sd_pm2 58 4687 x && sd_smO sd_pm2 sf_x2 sd_lay2 x
set_option maxRecDepth 100000 in
theorem sd_bothOK : sd_both (sd_go2 (fX11_init [.ref 0] sd_startC)) = true := by decide +kernel
def sf_bD : sd_D := sd_dc (sd_go2 (fX11_init [.ref 0] sd_startC))
theorem sf_bD_def : sf_bD = sd_dc (sd_go2 (fX11_init [.ref 0] sd_startC)) := by unfold sf_bD; exact Eq.refl _
theorem sd_go2_some (Δ : sd_D) (c s : Nat) : sd_go2 (some (Δ, c, s)) = fX11_init [.ref 59] (Δ ++ sd_startC) := rfl
theorem sf_jointRun : fX11_init [.ref 59] (sf_DC ++ sd_startC) = some (sf_bD, 58, 4687) := by
  have h := sd_bothOK
  rw [sd_both, Bool.and_eq_true] at h
  obtain ⟨Δ, h1, -⟩ := sd_good_ok h.1
  have e : sf_bD = Δ := (sf_bD_def.trans (congrArg sd_dc h1)).trans (sd_dc_some Δ _ _)
  have h2 : sd_go2 (fX11_init [.ref 0] sd_startC) = fX11_init [.ref 59] (sf_DC ++ sd_startC) := (congrArg sd_go2 sf_endC.1).trans (sd_go2_some _ _ _)
  rw [e, ← h2]; exact h1
theorem sf_jointW : ∀ k sh, sd_lay2[k]? = some sh → ∃ y, sf_bD[sd_pm2.getD k 0]? = some y ∧ sd_like sd_pm2 (sd_st sd_pm2 sf_bD) k sh y := by
  have h := sd_bothOK
  rw [sd_both, Bool.and_eq_true] at h
  obtain ⟨Δ, h1, h2⟩ := sd_good_ok h.1
  have e : sf_bD = Δ := (sf_bD_def.trans (congrArg sd_dc h1)).trans (sd_dc_some Δ _ _)
  rw [e]; exact h2
/-- the fresh states, place by place -/
theorem sf_joint_at (k : Nat) (sh : (Nat × List (Option Nat)) ⊕ (Nat × Nat)) (hk : sd_lay2[k]? = some sh) (j : Nat) (hj : j < sd_size sh) : sd_st sd_pm2 sf_bD k j = sf_x2 k j := by
  have h := sd_bothOK
  rw [sd_both, Bool.and_eq_true] at h
  have := sd_smO_at h.2 k sh hk j hj
  rw [sf_bD_def]; exact this
theorem sl_len : sf_DC.length = 59 := by decide +kernel
theorem sl_b1 : sd_b [] [] sf_DC = true := by decide +kernel
theorem sl_b2 : sd_b [] [.ref 59, .ref 59] (sf_DC ++ sd_startC) = true := by decide +kernel
