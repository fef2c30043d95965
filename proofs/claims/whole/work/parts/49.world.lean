/-! the two worlds that the constructors leave -/
def sd_dc : Option sd_R → sd_D
  | some (Δ, _, _) => Δ
  | none => []
def sf_DC : sd_D := sd_dc (fX11_init [.ref 0] sd_startC)
def sf_DM : sd_D := sd_dc (fX12_init [.ref 0] sd_startM)
theorem sf_DC_def : sf_DC = sd_dc (fX11_init [.ref 0] sd_startC) := by unfold sf_DC; exact Eq.refl _
theorem sf_DM_def : sf_DM = sd_dc (fX12_init [.ref 0] sd_startM) := by unfold sf_DM; exact Eq.refl _
theorem sd_dc_some (Δ : sd_D) (c s : Nat) : sd_dc (some (Δ, c, s)) = Δ := rfl
/-- the states behind the constructors -/
def sf_s0C : sf_S := sd_st sd_pmC sf_DC
def sf_s0M : sf_S := sd_st sd_pmM sf_DM
theorem sf_endC : fX11_init [.ref 0] sd_startC = some (sf_DC, 58, 4687) ∧ ∀ k sh, sf_layC[k]? = some sh → ∃ y, sf_DC[sd_pmC.getD k 0]? = some y ∧ sd_like sd_pmC sf_s0C k sh y := by
  obtain ⟨Δ, h1, h2⟩ := sd_good_ok sd_goodC
  have e : sf_DC = Δ := (sf_DC_def.trans (congrArg sd_dc h1)).trans (sd_dc_some Δ _ _)
  rw [sf_s0C, e]
  exact ⟨h1, h2⟩
theorem sf_endM : fX12_init [.ref 0] sd_startM = some (sf_DM, 38, 5341) ∧ ∀ k sh, sf_layM[k]? = some sh → ∃ y, sf_DM[sd_pmM.getD k 0]? = some y ∧ sd_like sd_pmM sf_s0M k sh y := by
  obtain ⟨Δ, h1, h2⟩ := sd_good_ok sd_goodM
  have e : sf_DM = Δ := (sf_DM_def.trans (congrArg sd_dc h1)).trans (sd_dc_some Δ _ _)
  rw [sf_s0M, e]
  exact ⟨h1, h2⟩
theorem sf_wdC {as : Nat → Nat} {cy : Nat → ClassId} {D : va_G} {H : Heap} {A : Nat → Prop} (hP : va_P D vwCl (sd_wd as cy sf_DC) H) (hD : va_D A (sd_wd as cy sf_DC)) :
    va_P D vwCl (sf_wd sf_layC (sd_ad sd_pmC as) cy sf_s0C) H ∧ sf_inj sf_layC (sd_ad sd_pmC as) ∧ ∀ k, k < sf_layC.length → A (sd_ad sd_pmC as k) :=
  sd_to_sf (by decide +kernel) (sd_nd (by decide +kernel)) sf_endC.2 hP hD
theorem sf_wdM {as : Nat → Nat} {cy : Nat → ClassId} {D : va_G} {H : Heap} {A : Nat → Prop} (hP : va_P D vwCl (sd_wd as cy sf_DM) H) (hD : va_D A (sd_wd as cy sf_DM)) :
    va_P D vwCl (sf_wd sf_layM (sd_ad sd_pmM as) cy sf_s0M) H ∧ sf_inj sf_layM (sd_ad sd_pmM as) ∧ ∀ k, k < sf_layM.length → A (sd_ad sd_pmM as k) :=
  sd_to_sf (by decide +kernel) (sd_nd (by decide +kernel)) sf_endM.2 hP hD
