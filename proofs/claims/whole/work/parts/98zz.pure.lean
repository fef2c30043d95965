/-! THE PURE PART: all calls keep one relation -/
def sc_Inv (σ τ : sf_S) : Prop := sc_Sh σ τ ∧ sc_Fi σ τ ∧ sc_Tx σ τ ∧ sc_Ru σ τ ∧ sc_Pm σ τ ∧ sc_Rw σ τ ∧ sc_Dd τ
theorem sc_Fi.kept {σ τ σ' τ' : sf_S} (h : sc_Fi σ τ) (h1 : σ' 0 13 = σ 0 13) (h2 : τ' 0 4 = τ 0 4) : sc_Fi σ' τ' := by
  unfold sc_Fi at h ⊢
  rw [h1, h2]; exact h
theorem sc_v_type {σ τ : sf_S} (h : sc_Inv σ τ) (x1 : Int32) : sl_prI sc_Inv (dX11_type x1 σ) (dX12_type x1 τ) := by
  obtain ⟨hS, hF, hT, hR, hP, hW, hD⟩ := h
  obtain ⟨v, σ', τ', e1, e2, f1, f2, r⟩ := sc_type hT x1
  refine ⟨v, σ', τ', e1, e2, ?_, ?_, ?_, ?_, ?_, ?_, ?_⟩
  · exact hS.kept (fun a b q => f1 a b (by simp only [sc_TC, sc_no, sc_XC, sc_XM, sc_WM, sc_VC, sc_VM, Bool.or_eq_false_iff, Bool.and_eq_false_iff, beq_eq_false_iff_ne, ne_eq, decide_eq_false_iff_not, not_or, not_and]; omega)) (fun a b q => f2 a b (by simp only [sc_TM, sc_no, sc_XC, sc_XM, sc_WM, sc_VC, sc_VM, Bool.or_eq_false_iff, Bool.and_eq_false_iff, beq_eq_false_iff_ne, ne_eq, decide_eq_false_iff_not, not_or, not_and]; omega))
  · exact hF.kept (f1 0 13 (by simp only [sc_TC, sc_no, sc_XC, sc_XM, sc_WM, sc_VC, sc_VM, Bool.or_eq_false_iff, Bool.and_eq_false_iff, beq_eq_false_iff_ne, ne_eq, decide_eq_false_iff_not, not_or, not_and]; omega)) (f2 0 4 (by simp only [sc_TM, sc_no, sc_XC, sc_XM, sc_WM, sc_VC, sc_VM, Bool.or_eq_false_iff, Bool.and_eq_false_iff, beq_eq_false_iff_ne, ne_eq, decide_eq_false_iff_not, not_or, not_and]; omega))
  · exact r
  · exact hR.kept (fun a b q => f1 a b (by simp only [sc_TC, sc_no, sc_XC, sc_XM, sc_WM, sc_VC, sc_VM, Bool.or_eq_false_iff, Bool.and_eq_false_iff, beq_eq_false_iff_ne, ne_eq, decide_eq_false_iff_not, not_or, not_and]; omega)) (fun a b q => f2 a b (by simp only [sc_TM, sc_no, sc_XC, sc_XM, sc_WM, sc_VC, sc_VM, Bool.or_eq_false_iff, Bool.and_eq_false_iff, beq_eq_false_iff_ne, ne_eq, decide_eq_false_iff_not, not_or, not_and]; omega))
  · exact hP.kept (fun a b q1 q2 => f1 a b (by simp only [sc_TC, sc_no, sc_XC, sc_XM, sc_WM, sc_VC, sc_VM, Bool.or_eq_false_iff, Bool.and_eq_false_iff, beq_eq_false_iff_ne, ne_eq, decide_eq_false_iff_not, not_or, not_and]; omega)) (fun a b q => f2 a b (by simp only [sc_TM, sc_no, sc_XC, sc_XM, sc_WM, sc_VC, sc_VM, Bool.or_eq_false_iff, Bool.and_eq_false_iff, beq_eq_false_iff_ne, ne_eq, decide_eq_false_iff_not, not_or, not_and]; omega))
  · exact hW.kept (fun a b q => f1 a b (by simp only [sc_TC, sc_no, sc_XC, sc_XM, sc_WM, sc_VC, sc_VM, Bool.or_eq_false_iff, Bool.and_eq_false_iff, beq_eq_false_iff_ne, ne_eq, decide_eq_false_iff_not, not_or, not_and]; omega)) (fun a b q => f2 a b (by simp only [sc_TM, sc_no, sc_XC, sc_XM, sc_WM, sc_VC, sc_VM, Bool.or_eq_false_iff, Bool.and_eq_false_iff, beq_eq_false_iff_ne, ne_eq, decide_eq_false_iff_not, not_or, not_and]; omega))
  · exact hD.kept (fun a b q => f2 a b (by simp only [sc_TM, sc_no, sc_XC, sc_XM, sc_WM, sc_VC, sc_VM, Bool.or_eq_false_iff, Bool.and_eq_false_iff, beq_eq_false_iff_ne, ne_eq, decide_eq_false_iff_not, not_or, not_and]; omega))
theorem sc_v_wipe {σ τ : sf_S} (h : sc_Inv σ τ) : sl_prI sc_Inv (dX11_wipe σ) (dX12_wipe τ) := by
  obtain ⟨hS, hF, hT, hR, hP, hW, hD⟩ := h
  obtain ⟨v, σ', τ', e1, e2, f1, f2, r⟩ := sc_wipe hT
  refine ⟨v, σ', τ', e1, e2, ?_, ?_, ?_, ?_, ?_, ?_, ?_⟩
  · exact hS.kept (fun a b q => f1 a b (by simp only [sc_TC, sc_no, sc_XC, sc_XM, sc_WM, sc_VC, sc_VM, Bool.or_eq_false_iff, Bool.and_eq_false_iff, beq_eq_false_iff_ne, ne_eq, decide_eq_false_iff_not, not_or, not_and]; omega)) (fun a b q => f2 a b (by simp only [sc_TM, sc_no, sc_XC, sc_XM, sc_WM, sc_VC, sc_VM, Bool.or_eq_false_iff, Bool.and_eq_false_iff, beq_eq_false_iff_ne, ne_eq, decide_eq_false_iff_not, not_or, not_and]; omega))
  · exact hF.kept (f1 0 13 (by simp only [sc_TC, sc_no, sc_XC, sc_XM, sc_WM, sc_VC, sc_VM, Bool.or_eq_false_iff, Bool.and_eq_false_iff, beq_eq_false_iff_ne, ne_eq, decide_eq_false_iff_not, not_or, not_and]; omega)) (f2 0 4 (by simp only [sc_TM, sc_no, sc_XC, sc_XM, sc_WM, sc_VC, sc_VM, Bool.or_eq_false_iff, Bool.and_eq_false_iff, beq_eq_false_iff_ne, ne_eq, decide_eq_false_iff_not, not_or, not_and]; omega))
  · exact r
  · exact hR.kept (fun a b q => f1 a b (by simp only [sc_TC, sc_no, sc_XC, sc_XM, sc_WM, sc_VC, sc_VM, Bool.or_eq_false_iff, Bool.and_eq_false_iff, beq_eq_false_iff_ne, ne_eq, decide_eq_false_iff_not, not_or, not_and]; omega)) (fun a b q => f2 a b (by simp only [sc_TM, sc_no, sc_XC, sc_XM, sc_WM, sc_VC, sc_VM, Bool.or_eq_false_iff, Bool.and_eq_false_iff, beq_eq_false_iff_ne, ne_eq, decide_eq_false_iff_not, not_or, not_and]; omega))
  · exact hP.kept (fun a b q1 q2 => f1 a b (by simp only [sc_TC, sc_no, sc_XC, sc_XM, sc_WM, sc_VC, sc_VM, Bool.or_eq_false_iff, Bool.and_eq_false_iff, beq_eq_false_iff_ne, ne_eq, decide_eq_false_iff_not, not_or, not_and]; omega)) (fun a b q => f2 a b (by simp only [sc_TM, sc_no, sc_XC, sc_XM, sc_WM, sc_VC, sc_VM, Bool.or_eq_false_iff, Bool.and_eq_false_iff, beq_eq_false_iff_ne, ne_eq, decide_eq_false_iff_not, not_or, not_and]; omega))
  · exact hW.kept (fun a b q => f1 a b (by simp only [sc_TC, sc_no, sc_XC, sc_XM, sc_WM, sc_VC, sc_VM, Bool.or_eq_false_iff, Bool.and_eq_false_iff, beq_eq_false_iff_ne, ne_eq, decide_eq_false_iff_not, not_or, not_and]; omega)) (fun a b q => f2 a b (by simp only [sc_TM, sc_no, sc_XC, sc_XM, sc_WM, sc_VC, sc_VM, Bool.or_eq_false_iff, Bool.and_eq_false_iff, beq_eq_false_iff_ne, ne_eq, decide_eq_false_iff_not, not_or, not_and]; omega))
  · exact hD.kept (fun a b q => f2 a b (by simp only [sc_TM, sc_no, sc_XC, sc_XM, sc_WM, sc_VC, sc_VM, Bool.or_eq_false_iff, Bool.and_eq_false_iff, beq_eq_false_iff_ne, ne_eq, decide_eq_false_iff_not, not_or, not_and]; omega))
theorem sc_v_fault {σ τ : sf_S} (h : sc_Inv σ τ) : sl_prI sc_Inv (dX11_fault σ) (dX12_fault τ) := by
  obtain ⟨hS, hF, hT, hR, hP, hW, hD⟩ := h
  obtain ⟨v, σ', τ', e1, e2, f1, f2, r⟩ := sc_fault hT
  refine ⟨v, σ', τ', e1, e2, ?_, ?_, ?_, ?_, ?_, ?_, ?_⟩
  · exact hS.kept (fun a b q => f1 a b (by simp only [sc_XC, sc_no, sc_XC, sc_XM, sc_WM, sc_VC, sc_VM, Bool.or_eq_false_iff, Bool.and_eq_false_iff, beq_eq_false_iff_ne, ne_eq, decide_eq_false_iff_not, not_or, not_and]; omega)) (fun a b q => f2 a b (by simp only [sc_XM, sc_no, sc_XC, sc_XM, sc_WM, sc_VC, sc_VM, Bool.or_eq_false_iff, Bool.and_eq_false_iff, beq_eq_false_iff_ne, ne_eq, decide_eq_false_iff_not, not_or, not_and]; omega))
  · exact hF.kept (f1 0 13 (by simp only [sc_XC, sc_no, sc_XC, sc_XM, sc_WM, sc_VC, sc_VM, Bool.or_eq_false_iff, Bool.and_eq_false_iff, beq_eq_false_iff_ne, ne_eq, decide_eq_false_iff_not, not_or, not_and]; omega)) (f2 0 4 (by simp only [sc_XM, sc_no, sc_XC, sc_XM, sc_WM, sc_VC, sc_VM, Bool.or_eq_false_iff, Bool.and_eq_false_iff, beq_eq_false_iff_ne, ne_eq, decide_eq_false_iff_not, not_or, not_and]; omega))
  · exact hT.kept (fun a b q => f1 a b (by simp only [sc_XC, sc_no, sc_XC, sc_XM, sc_WM, sc_VC, sc_VM, Bool.or_eq_false_iff, Bool.and_eq_false_iff, beq_eq_false_iff_ne, ne_eq, decide_eq_false_iff_not, not_or, not_and]; omega)) (fun a b q => f2 a b (by simp only [sc_XM, sc_no, sc_XC, sc_XM, sc_WM, sc_VC, sc_VM, Bool.or_eq_false_iff, Bool.and_eq_false_iff, beq_eq_false_iff_ne, ne_eq, decide_eq_false_iff_not, not_or, not_and]; omega))
  · exact hR.kept (fun a b q => f1 a b (by simp only [sc_XC, sc_no, sc_XC, sc_XM, sc_WM, sc_VC, sc_VM, Bool.or_eq_false_iff, Bool.and_eq_false_iff, beq_eq_false_iff_ne, ne_eq, decide_eq_false_iff_not, not_or, not_and]; omega)) (fun a b q => f2 a b (by simp only [sc_XM, sc_no, sc_XC, sc_XM, sc_WM, sc_VC, sc_VM, Bool.or_eq_false_iff, Bool.and_eq_false_iff, beq_eq_false_iff_ne, ne_eq, decide_eq_false_iff_not, not_or, not_and]; omega))
  · exact hP.kept (fun a b q1 q2 => f1 a b (by simp only [sc_XC, sc_no, sc_XC, sc_XM, sc_WM, sc_VC, sc_VM, Bool.or_eq_false_iff, Bool.and_eq_false_iff, beq_eq_false_iff_ne, ne_eq, decide_eq_false_iff_not, not_or, not_and]; omega)) (fun a b q => f2 a b (by simp only [sc_XM, sc_no, sc_XC, sc_XM, sc_WM, sc_VC, sc_VM, Bool.or_eq_false_iff, Bool.and_eq_false_iff, beq_eq_false_iff_ne, ne_eq, decide_eq_false_iff_not, not_or, not_and]; omega))
  · exact hW.kept (fun a b q => f1 a b (by simp only [sc_XC, sc_no, sc_XC, sc_XM, sc_WM, sc_VC, sc_VM, Bool.or_eq_false_iff, Bool.and_eq_false_iff, beq_eq_false_iff_ne, ne_eq, decide_eq_false_iff_not, not_or, not_and]; omega)) (fun a b q => f2 a b (by simp only [sc_XM, sc_no, sc_XC, sc_XM, sc_WM, sc_VC, sc_VM, Bool.or_eq_false_iff, Bool.and_eq_false_iff, beq_eq_false_iff_ne, ne_eq, decide_eq_false_iff_not, not_or, not_and]; omega))
  · exact hD.kept (fun a b q => f2 a b (by simp only [sc_XM, sc_no, sc_XC, sc_XM, sc_WM, sc_VC, sc_VM, Bool.or_eq_false_iff, Bool.and_eq_false_iff, beq_eq_false_iff_ne, ne_eq, decide_eq_false_iff_not, not_or, not_and]; omega))
theorem sc_v_plan {σ τ : sf_S} (h : sc_Inv σ τ) : sl_prI sc_Inv (dX11_plan σ) (dX12_plan τ) := by
  obtain ⟨hS, hF, hT, hR, hP, hW, hD⟩ := h
  obtain ⟨v, σ', τ', e1, e2, f1, f2, r⟩ := sc_plan hT hP
  refine ⟨v, σ', τ', e1, e2, ?_, ?_, ?_, ?_, ?_, ?_, ?_⟩
  · exact hS.kept (fun a b q => f1 a b (by simp only [sc_PC, sc_no, sc_XC, sc_XM, sc_WM, sc_VC, sc_VM, Bool.or_eq_false_iff, Bool.and_eq_false_iff, beq_eq_false_iff_ne, ne_eq, decide_eq_false_iff_not, not_or, not_and]; omega)) (fun a b q => f2 a b (by simp only [sc_PM, sc_no, sc_XC, sc_XM, sc_WM, sc_VC, sc_VM, Bool.or_eq_false_iff, Bool.and_eq_false_iff, beq_eq_false_iff_ne, ne_eq, decide_eq_false_iff_not, not_or, not_and]; omega))
  · exact hF.kept (f1 0 13 (by simp only [sc_PC, sc_no, sc_XC, sc_XM, sc_WM, sc_VC, sc_VM, Bool.or_eq_false_iff, Bool.and_eq_false_iff, beq_eq_false_iff_ne, ne_eq, decide_eq_false_iff_not, not_or, not_and]; omega)) (f2 0 4 (by simp only [sc_PM, sc_no, sc_XC, sc_XM, sc_WM, sc_VC, sc_VM, Bool.or_eq_false_iff, Bool.and_eq_false_iff, beq_eq_false_iff_ne, ne_eq, decide_eq_false_iff_not, not_or, not_and]; omega))
  · exact hT.kept (fun a b q => f1 a b (by simp only [sc_PC, sc_no, sc_XC, sc_XM, sc_WM, sc_VC, sc_VM, Bool.or_eq_false_iff, Bool.and_eq_false_iff, beq_eq_false_iff_ne, ne_eq, decide_eq_false_iff_not, not_or, not_and]; omega)) (fun a b q => f2 a b (by simp only [sc_PM, sc_no, sc_XC, sc_XM, sc_WM, sc_VC, sc_VM, Bool.or_eq_false_iff, Bool.and_eq_false_iff, beq_eq_false_iff_ne, ne_eq, decide_eq_false_iff_not, not_or, not_and]; omega))
  · exact hR.kept (fun a b q => f1 a b (by simp only [sc_PC, sc_no, sc_XC, sc_XM, sc_WM, sc_VC, sc_VM, Bool.or_eq_false_iff, Bool.and_eq_false_iff, beq_eq_false_iff_ne, ne_eq, decide_eq_false_iff_not, not_or, not_and]; omega)) (fun a b q => f2 a b (by simp only [sc_PM, sc_no, sc_XC, sc_XM, sc_WM, sc_VC, sc_VM, Bool.or_eq_false_iff, Bool.and_eq_false_iff, beq_eq_false_iff_ne, ne_eq, decide_eq_false_iff_not, not_or, not_and]; omega))
  · exact r.1
  · exact hW.kept (fun a b q => f1 a b (by simp only [sc_PC, sc_no, sc_XC, sc_XM, sc_WM, sc_VC, sc_VM, Bool.or_eq_false_iff, Bool.and_eq_false_iff, beq_eq_false_iff_ne, ne_eq, decide_eq_false_iff_not, not_or, not_and]; omega)) (fun a b q => f2 a b (by simp only [sc_PM, sc_no, sc_XC, sc_XM, sc_WM, sc_VC, sc_VM, Bool.or_eq_false_iff, Bool.and_eq_false_iff, beq_eq_false_iff_ne, ne_eq, decide_eq_false_iff_not, not_or, not_and]; omega))
  · exact r.2 hD
theorem sc_v_node {σ τ : sf_S} (h : sc_Inv σ τ) (x1 x2 : Int32) : sl_prI sc_Inv (dX11_node x1 x2 σ) (dX12_node x1 x2 τ) := by
  obtain ⟨hS, hF, hT, hR, hP, hW, hD⟩ := h
  obtain ⟨v, σ', τ', e1, e2, f1, f2, r⟩ := sc_nodeCall hP x1 x2
  refine ⟨v, σ', τ', e1, e2, ?_, ?_, ?_, ?_, ?_, ?_, ?_⟩
  · exact hS.kept (fun a b q => f1 a b rfl) (fun a b q => f2 a b rfl)
  · exact hF.kept (f1 0 13 rfl) (f2 0 4 rfl)
  · exact hT.kept (fun a b q => f1 a b rfl) (fun a b q => f2 a b rfl)
  · exact hR.kept (fun a b q => f1 a b rfl) (fun a b q => f2 a b rfl)
  · exact hP.kept (fun a b q1 q2 => f1 a b rfl) (fun a b q => f2 a b rfl)
  · exact hW.kept (fun a b q => f1 a b rfl) (fun a b q => f2 a b rfl)
  · exact hD.kept (fun a b q => f2 a b rfl)
theorem sc_v_text {σ τ : sf_S} (h : sc_Inv σ τ) (x1 : Int32) : sl_prI sc_Inv (dX11_text x1 σ) (dX12_text x1 τ) := by
  obtain ⟨hS, hF, hT, hR, hP, hW, hD⟩ := h
  obtain ⟨v, σ', τ', e1, e2, f1, f2, r⟩ := sc_text hP x1
  refine ⟨v, σ', τ', e1, e2, ?_, ?_, ?_, ?_, ?_, ?_, ?_⟩
  · exact hS.kept (fun a b q => f1 a b rfl) (fun a b q => f2 a b (by simp only [sc_WM, sc_no, sc_XC, sc_XM, sc_WM, sc_VC, sc_VM, Bool.or_eq_false_iff, Bool.and_eq_false_iff, beq_eq_false_iff_ne, ne_eq, decide_eq_false_iff_not, not_or, not_and]; omega))
  · exact hF.kept (f1 0 13 rfl) (f2 0 4 (by simp only [sc_WM, sc_no, sc_XC, sc_XM, sc_WM, sc_VC, sc_VM, Bool.or_eq_false_iff, Bool.and_eq_false_iff, beq_eq_false_iff_ne, ne_eq, decide_eq_false_iff_not, not_or, not_and]; omega))
  · exact hT.kept (fun a b q => f1 a b rfl) (fun a b q => f2 a b (by simp only [sc_WM, sc_no, sc_XC, sc_XM, sc_WM, sc_VC, sc_VM, Bool.or_eq_false_iff, Bool.and_eq_false_iff, beq_eq_false_iff_ne, ne_eq, decide_eq_false_iff_not, not_or, not_and]; omega))
  · exact hR.kept (fun a b q => f1 a b rfl) (fun a b q => f2 a b (by simp only [sc_WM, sc_no, sc_XC, sc_XM, sc_WM, sc_VC, sc_VM, Bool.or_eq_false_iff, Bool.and_eq_false_iff, beq_eq_false_iff_ne, ne_eq, decide_eq_false_iff_not, not_or, not_and]; omega))
  · exact hP.kept (fun a b q1 q2 => f1 a b rfl) (fun a b q => f2 a b (by simp only [sc_WM, sc_no, sc_XC, sc_XM, sc_WM, sc_VC, sc_VM, Bool.or_eq_false_iff, Bool.and_eq_false_iff, beq_eq_false_iff_ne, ne_eq, decide_eq_false_iff_not, not_or, not_and]; omega))
  · exact hW.kept (fun a b q => f1 a b rfl) (fun a b q => f2 a b (by simp only [sc_WM, sc_no, sc_XC, sc_XM, sc_WM, sc_VC, sc_VM, Bool.or_eq_false_iff, Bool.and_eq_false_iff, beq_eq_false_iff_ne, ne_eq, decide_eq_false_iff_not, not_or, not_and]; omega))
  · exact hD.kept (fun a b q => f2 a b (by simp only [sc_WM, sc_no, sc_XC, sc_XM, sc_WM, sc_VC, sc_VM, Bool.or_eq_false_iff, Bool.and_eq_false_iff, beq_eq_false_iff_ne, ne_eq, decide_eq_false_iff_not, not_or, not_and]; omega))
theorem sc_v_tidy {σ τ : sf_S} (h : sc_Inv σ τ) (x1 : Int32) : sl_prI sc_Inv (dX11_tidy x1 σ) (dX12_tidy x1 τ) := by
  obtain ⟨hS, hF, hT, hR, hP, hW, hD⟩ := h
  obtain ⟨v, σ', τ', e1, e2, f1, f2, r⟩ := sc_tidy hP hW x1
  refine ⟨v, σ', τ', e1, e2, ?_, ?_, ?_, ?_, ?_, ?_, ?_⟩
  · exact hS.kept (fun a b q => f1 a b (by simp only [sc_YC, sc_no, sc_XC, sc_XM, sc_WM, sc_VC, sc_VM, Bool.or_eq_false_iff, Bool.and_eq_false_iff, beq_eq_false_iff_ne, ne_eq, decide_eq_false_iff_not, not_or, not_and]; omega)) (fun a b q => f2 a b (by simp only [sc_YM, sc_no, sc_XC, sc_XM, sc_WM, sc_VC, sc_VM, Bool.or_eq_false_iff, Bool.and_eq_false_iff, beq_eq_false_iff_ne, ne_eq, decide_eq_false_iff_not, not_or, not_and]; omega))
  · exact hF.kept (f1 0 13 (by simp only [sc_YC, sc_no, sc_XC, sc_XM, sc_WM, sc_VC, sc_VM, Bool.or_eq_false_iff, Bool.and_eq_false_iff, beq_eq_false_iff_ne, ne_eq, decide_eq_false_iff_not, not_or, not_and]; omega)) (f2 0 4 (by simp only [sc_YM, sc_no, sc_XC, sc_XM, sc_WM, sc_VC, sc_VM, Bool.or_eq_false_iff, Bool.and_eq_false_iff, beq_eq_false_iff_ne, ne_eq, decide_eq_false_iff_not, not_or, not_and]; omega))
  · exact hT.kept (fun a b q => f1 a b (by simp only [sc_YC, sc_no, sc_XC, sc_XM, sc_WM, sc_VC, sc_VM, Bool.or_eq_false_iff, Bool.and_eq_false_iff, beq_eq_false_iff_ne, ne_eq, decide_eq_false_iff_not, not_or, not_and]; omega)) (fun a b q => f2 a b (by simp only [sc_YM, sc_no, sc_XC, sc_XM, sc_WM, sc_VC, sc_VM, Bool.or_eq_false_iff, Bool.and_eq_false_iff, beq_eq_false_iff_ne, ne_eq, decide_eq_false_iff_not, not_or, not_and]; omega))
  · exact hR.kept (fun a b q => f1 a b (by simp only [sc_YC, sc_no, sc_XC, sc_XM, sc_WM, sc_VC, sc_VM, Bool.or_eq_false_iff, Bool.and_eq_false_iff, beq_eq_false_iff_ne, ne_eq, decide_eq_false_iff_not, not_or, not_and]; omega)) (fun a b q => f2 a b (by simp only [sc_YM, sc_no, sc_XC, sc_XM, sc_WM, sc_VC, sc_VM, Bool.or_eq_false_iff, Bool.and_eq_false_iff, beq_eq_false_iff_ne, ne_eq, decide_eq_false_iff_not, not_or, not_and]; omega))
  · exact r.1
  · exact r.2.1
  · exact r.2.2 hD
theorem sc_v_rules {σ τ : sf_S} (h : sc_Inv σ τ) (x1 : Int32) : sl_prI sc_Inv (dX11_rules x1 σ) (dX12_rules x1 τ) := by
  obtain ⟨hS, hF, hT, hR, hP, hW, hD⟩ := h
  obtain ⟨v, σ', τ', e1, e2, f1, f2, r⟩ := sc_rules hW x1
  refine ⟨v, σ', τ', e1, e2, ?_, ?_, ?_, ?_, ?_, ?_, ?_⟩
  · exact hS.kept (fun a b q => f1 a b rfl) (fun a b q => f2 a b rfl)
  · exact hF.kept (f1 0 13 rfl) (f2 0 4 rfl)
  · exact hT.kept (fun a b q => f1 a b rfl) (fun a b q => f2 a b rfl)
  · exact hR.kept (fun a b q => f1 a b rfl) (fun a b q => f2 a b rfl)
  · exact hP.kept (fun a b q1 q2 => f1 a b rfl) (fun a b q => f2 a b rfl)
  · exact hW.kept (fun a b q => f1 a b rfl) (fun a b q => f2 a b rfl)
  · exact hD.kept (fun a b q => f2 a b rfl)
theorem sc_v_saves {σ τ : sf_S} (h : sc_Inv σ τ) (x1 : Int32) : sl_prI sc_Inv (dX11_saves x1 σ) (dX12_saves x1 τ) := by
  obtain ⟨hS, hF, hT, hR, hP, hW, hD⟩ := h
  obtain ⟨v, σ', τ', e1, e2, f1, f2, r⟩ := sc_saves hS hP hD x1
  refine ⟨v, σ', τ', e1, e2, ?_, ?_, ?_, ?_, ?_, ?_, ?_⟩
  · exact hS.kept (fun a b q => f1 a b (by simp only [sc_VC, sc_no, sc_XC, sc_XM, sc_WM, sc_VC, sc_VM, Bool.or_eq_false_iff, Bool.and_eq_false_iff, beq_eq_false_iff_ne, ne_eq, decide_eq_false_iff_not, not_or, not_and]; omega)) (fun a b q => f2 a b (by simp only [sc_VM, sc_no, sc_XC, sc_XM, sc_WM, sc_VC, sc_VM, Bool.or_eq_false_iff, Bool.and_eq_false_iff, beq_eq_false_iff_ne, ne_eq, decide_eq_false_iff_not, not_or, not_and]; omega))
  · exact hF.kept (f1 0 13 (by simp only [sc_VC, sc_no, sc_XC, sc_XM, sc_WM, sc_VC, sc_VM, Bool.or_eq_false_iff, Bool.and_eq_false_iff, beq_eq_false_iff_ne, ne_eq, decide_eq_false_iff_not, not_or, not_and]; omega)) (f2 0 4 (by simp only [sc_VM, sc_no, sc_XC, sc_XM, sc_WM, sc_VC, sc_VM, Bool.or_eq_false_iff, Bool.and_eq_false_iff, beq_eq_false_iff_ne, ne_eq, decide_eq_false_iff_not, not_or, not_and]; omega))
  · exact hT.kept (fun a b q => f1 a b (by simp only [sc_VC, sc_no, sc_XC, sc_XM, sc_WM, sc_VC, sc_VM, Bool.or_eq_false_iff, Bool.and_eq_false_iff, beq_eq_false_iff_ne, ne_eq, decide_eq_false_iff_not, not_or, not_and]; omega)) (fun a b q => f2 a b (by simp only [sc_VM, sc_no, sc_XC, sc_XM, sc_WM, sc_VC, sc_VM, Bool.or_eq_false_iff, Bool.and_eq_false_iff, beq_eq_false_iff_ne, ne_eq, decide_eq_false_iff_not, not_or, not_and]; omega))
  · exact hR.kept (fun a b q => f1 a b (by simp only [sc_VC, sc_no, sc_XC, sc_XM, sc_WM, sc_VC, sc_VM, Bool.or_eq_false_iff, Bool.and_eq_false_iff, beq_eq_false_iff_ne, ne_eq, decide_eq_false_iff_not, not_or, not_and]; omega)) (fun a b q => f2 a b (by simp only [sc_VM, sc_no, sc_XC, sc_XM, sc_WM, sc_VC, sc_VM, Bool.or_eq_false_iff, Bool.and_eq_false_iff, beq_eq_false_iff_ne, ne_eq, decide_eq_false_iff_not, not_or, not_and]; omega))
  · exact r.1
  · exact hW.kept (fun a b q => f1 a b (by simp only [sc_VC, sc_no, sc_XC, sc_XM, sc_WM, sc_VC, sc_VM, Bool.or_eq_false_iff, Bool.and_eq_false_iff, beq_eq_false_iff_ne, ne_eq, decide_eq_false_iff_not, not_or, not_and]; omega)) (fun a b q => f2 a b (by simp only [sc_VM, sc_no, sc_XC, sc_XM, sc_WM, sc_VC, sc_VM, Bool.or_eq_false_iff, Bool.and_eq_false_iff, beq_eq_false_iff_ne, ne_eq, decide_eq_false_iff_not, not_or, not_and]; omega))
  · exact r.2
theorem sc_v_run {σ τ : sf_S} (h : sc_Inv σ τ) (x1 x2 : Int32) : sl_prI sc_Inv (dX11_run x1 x2 σ) (dX12_run x1 x2 τ) := by
  obtain ⟨hS, hF, hT, hR, hP, hW, hD⟩ := h
  obtain ⟨v, σ', τ', e1, e2, f1, f2, r⟩ := sc_run hS hP hR hD x1 x2
  refine ⟨v, σ', τ', e1, e2, ?_, ?_, ?_, ?_, ?_, ?_, ?_⟩
  · exact hS.kept (fun a b q => f1 a b (by simp only [sc_ZC, sc_no, sc_XC, sc_XM, sc_WM, sc_VC, sc_VM, Bool.or_eq_false_iff, Bool.and_eq_false_iff, beq_eq_false_iff_ne, ne_eq, decide_eq_false_iff_not, not_or, not_and]; omega)) (fun a b q => f2 a b (by simp only [sc_ZM, sc_no, sc_XC, sc_XM, sc_WM, sc_VC, sc_VM, Bool.or_eq_false_iff, Bool.and_eq_false_iff, beq_eq_false_iff_ne, ne_eq, decide_eq_false_iff_not, not_or, not_and]; omega))
  · exact hF.kept (f1 0 13 (by simp only [sc_ZC, sc_no, sc_XC, sc_XM, sc_WM, sc_VC, sc_VM, Bool.or_eq_false_iff, Bool.and_eq_false_iff, beq_eq_false_iff_ne, ne_eq, decide_eq_false_iff_not, not_or, not_and]; omega)) (f2 0 4 (by simp only [sc_ZM, sc_no, sc_XC, sc_XM, sc_WM, sc_VC, sc_VM, Bool.or_eq_false_iff, Bool.and_eq_false_iff, beq_eq_false_iff_ne, ne_eq, decide_eq_false_iff_not, not_or, not_and]; omega))
  · exact hT.kept (fun a b q => f1 a b (by simp only [sc_ZC, sc_no, sc_XC, sc_XM, sc_WM, sc_VC, sc_VM, Bool.or_eq_false_iff, Bool.and_eq_false_iff, beq_eq_false_iff_ne, ne_eq, decide_eq_false_iff_not, not_or, not_and]; omega)) (fun a b q => f2 a b (by simp only [sc_ZM, sc_no, sc_XC, sc_XM, sc_WM, sc_VC, sc_VM, Bool.or_eq_false_iff, Bool.and_eq_false_iff, beq_eq_false_iff_ne, ne_eq, decide_eq_false_iff_not, not_or, not_and]; omega))
  · exact r
  · exact hP.kept (fun a b q1 q2 => f1 a b (by simp only [sc_ZC, sc_no, sc_XC, sc_XM, sc_WM, sc_VC, sc_VM, Bool.or_eq_false_iff, Bool.and_eq_false_iff, beq_eq_false_iff_ne, ne_eq, decide_eq_false_iff_not, not_or, not_and]; omega)) (fun a b q => f2 a b (by simp only [sc_ZM, sc_no, sc_XC, sc_XM, sc_WM, sc_VC, sc_VM, Bool.or_eq_false_iff, Bool.and_eq_false_iff, beq_eq_false_iff_ne, ne_eq, decide_eq_false_iff_not, not_or, not_and]; omega))
  · exact hW.kept (fun a b q => f1 a b (by simp only [sc_ZC, sc_no, sc_XC, sc_XM, sc_WM, sc_VC, sc_VM, Bool.or_eq_false_iff, Bool.and_eq_false_iff, beq_eq_false_iff_ne, ne_eq, decide_eq_false_iff_not, not_or, not_and]; omega)) (fun a b q => f2 a b (by simp only [sc_ZM, sc_no, sc_XC, sc_XM, sc_WM, sc_VC, sc_VM, Bool.or_eq_false_iff, Bool.and_eq_false_iff, beq_eq_false_iff_ne, ne_eq, decide_eq_false_iff_not, not_or, not_and]; omega))
  · exact hD.kept (fun a b q => f2 a b (by simp only [sc_ZM, sc_no, sc_XC, sc_XM, sc_WM, sc_VC, sc_VM, Bool.or_eq_false_iff, Bool.and_eq_false_iff, beq_eq_false_iff_ne, ne_eq, decide_eq_false_iff_not, not_or, not_and]; omega))
theorem sc_v_result {σ τ : sf_S} (h : sc_Inv σ τ) (x1 : Int32) : sl_prJ sc_Inv (dX11_result x1 σ) (dX12_result x1 τ) := by
  obtain ⟨hS, hF, hT, hR, hP, hW, hD⟩ := h
  obtain ⟨v, σ', τ', e1, e2, f1, f2, r⟩ := sc_result hR x1
  refine ⟨v, σ', τ', e1, e2, ?_, ?_, ?_, ?_, ?_, ?_, ?_⟩
  · exact hS.kept (fun a b q => f1 a b rfl) (fun a b q => f2 a b rfl)
  · exact hF.kept (f1 0 13 rfl) (f2 0 4 rfl)
  · exact hT.kept (fun a b q => f1 a b rfl) (fun a b q => f2 a b rfl)
  · exact hR.kept (fun a b q => f1 a b rfl) (fun a b q => f2 a b rfl)
  · exact hP.kept (fun a b q1 q2 => f1 a b rfl) (fun a b q => f2 a b rfl)
  · exact hW.kept (fun a b q => f1 a b rfl) (fun a b q => f2 a b rfl)
  · exact hD.kept (fun a b q => f2 a b rfl)
theorem sc_v_fold {σ τ : sf_S} (h : sc_Inv σ τ) (x1 : Int32) : sl_prJ sc_Inv (dX11_fold x1 σ) (dX12_fold x1 τ) := by
  obtain ⟨hS, hF, hT, hR, hP, hW, hD⟩ := h
  obtain ⟨v, σ', τ', e1, e2, f1, f2, r⟩ := sc_fold hR x1
  refine ⟨v, σ', τ', e1, e2, ?_, ?_, ?_, ?_, ?_, ?_, ?_⟩
  · exact hS.kept (fun a b q => f1 a b rfl) (fun a b q => f2 a b rfl)
  · exact hF.kept (f1 0 13 rfl) (f2 0 4 rfl)
  · exact hT.kept (fun a b q => f1 a b rfl) (fun a b q => f2 a b rfl)
  · exact hR.kept (fun a b q => f1 a b rfl) (fun a b q => f2 a b rfl)
  · exact hP.kept (fun a b q1 q2 => f1 a b rfl) (fun a b q => f2 a b rfl)
  · exact hW.kept (fun a b q => f1 a b rfl) (fun a b q => f2 a b rfl)
  · exact hD.kept (fun a b q => f2 a b rfl)
theorem sc_v_failure {σ τ : sf_S} (h : sc_Inv σ τ) (x1 : Int32) : sl_prI sc_Inv (dX11_failure x1 σ) (dX12_failure x1 τ) := by
  obtain ⟨hS, hF, hT, hR, hP, hW, hD⟩ := h
  obtain ⟨v, σ', τ', e1, e2, f1, f2, r⟩ := sc_failure hR x1
  refine ⟨v, σ', τ', e1, e2, ?_, ?_, ?_, ?_, ?_, ?_, ?_⟩
  · exact hS.kept (fun a b q => f1 a b rfl) (fun a b q => f2 a b rfl)
  · exact hF.kept (f1 0 13 rfl) (f2 0 4 rfl)
  · exact hT.kept (fun a b q => f1 a b rfl) (fun a b q => f2 a b rfl)
  · exact hR.kept (fun a b q => f1 a b rfl) (fun a b q => f2 a b rfl)
  · exact hP.kept (fun a b q1 q2 => f1 a b rfl) (fun a b q => f2 a b rfl)
  · exact hW.kept (fun a b q => f1 a b rfl) (fun a b q => f2 a b rfl)
  · exact hD.kept (fun a b q => f2 a b rfl)
theorem sc_v_told {σ τ : sf_S} (h : sc_Inv σ τ) (x1 : Int32) : sl_prI sc_Inv (dX11_told x1 σ) (dX12_told x1 τ) := by
  obtain ⟨hS, hF, hT, hR, hP, hW, hD⟩ := h
  obtain ⟨v, σ', τ', e1, e2, f1, f2, r⟩ := sc_told hR x1
  refine ⟨v, σ', τ', e1, e2, ?_, ?_, ?_, ?_, ?_, ?_, ?_⟩
  · exact hS.kept (fun a b q => f1 a b rfl) (fun a b q => f2 a b rfl)
  · exact hF.kept (f1 0 13 rfl) (f2 0 4 rfl)
  · exact hT.kept (fun a b q => f1 a b rfl) (fun a b q => f2 a b rfl)
  · exact hR.kept (fun a b q => f1 a b rfl) (fun a b q => f2 a b rfl)
  · exact hP.kept (fun a b q1 q2 => f1 a b rfl) (fun a b q => f2 a b rfl)
  · exact hW.kept (fun a b q => f1 a b rfl) (fun a b q => f2 a b rfl)
  · exact hD.kept (fun a b q => f2 a b rfl)
theorem sc_v_written {σ τ : sf_S} (h : sc_Inv σ τ) (x1 x2 : Int32) : sl_prJ sc_Inv (dX11_written x1 x2 σ) (dX12_written x1 x2 τ) := by
  obtain ⟨hS, hF, hT, hR, hP, hW, hD⟩ := h
  obtain ⟨v, σ', τ', e1, e2, f1, f2, r⟩ := sc_written hR x1 x2
  refine ⟨v, σ', τ', e1, e2, ?_, ?_, ?_, ?_, ?_, ?_, ?_⟩
  · exact hS.kept (fun a b q => f1 a b rfl) (fun a b q => f2 a b rfl)
  · exact hF.kept (f1 0 13 rfl) (f2 0 4 rfl)
  · exact hT.kept (fun a b q => f1 a b rfl) (fun a b q => f2 a b rfl)
  · exact hR.kept (fun a b q => f1 a b rfl) (fun a b q => f2 a b rfl)
  · exact hP.kept (fun a b q1 q2 => f1 a b rfl) (fun a b q => f2 a b rfl)
  · exact hW.kept (fun a b q => f1 a b rfl) (fun a b q => f2 a b rfl)
  · exact hD.kept (fun a b q => f2 a b rfl)
theorem sc_v_sheet {σ τ : sf_S} (h : sc_Inv σ τ) (x1 x2 x3 : Int32) : sl_prI sc_Inv (dX11_sheet x1 x2 x3 σ) (dX12_sheet x1 x2 x3 τ) := by
  obtain ⟨hS, hF, hT, hR, hP, hW, hD⟩ := h
  obtain ⟨v, σ', τ', e1, e2, f1, f2, r⟩ := sc_sheet hS hF x1 x2 x3
  refine ⟨v, σ', τ', e1, e2, ?_, ?_, ?_, ?_, ?_, ?_, ?_⟩
  · exact r.1
  · exact r.2
  · exact hT.kept (fun a b q => f1 a b (by simp only [sc_SC, sc_no, sc_XC, sc_XM, sc_WM, sc_VC, sc_VM, Bool.or_eq_false_iff, Bool.and_eq_false_iff, beq_eq_false_iff_ne, ne_eq, decide_eq_false_iff_not, not_or, not_and]; omega)) (fun a b q => f2 a b (by simp only [sc_SM, sc_no, sc_XC, sc_XM, sc_WM, sc_VC, sc_VM, Bool.or_eq_false_iff, Bool.and_eq_false_iff, beq_eq_false_iff_ne, ne_eq, decide_eq_false_iff_not, not_or, not_and]; omega))
  · exact hR.kept (fun a b q => f1 a b (by simp only [sc_SC, sc_no, sc_XC, sc_XM, sc_WM, sc_VC, sc_VM, Bool.or_eq_false_iff, Bool.and_eq_false_iff, beq_eq_false_iff_ne, ne_eq, decide_eq_false_iff_not, not_or, not_and]; omega)) (fun a b q => f2 a b (by simp only [sc_SM, sc_no, sc_XC, sc_XM, sc_WM, sc_VC, sc_VM, Bool.or_eq_false_iff, Bool.and_eq_false_iff, beq_eq_false_iff_ne, ne_eq, decide_eq_false_iff_not, not_or, not_and]; omega))
  · exact hP.kept (fun a b q1 q2 => f1 a b (by simp only [sc_SC, sc_no, sc_XC, sc_XM, sc_WM, sc_VC, sc_VM, Bool.or_eq_false_iff, Bool.and_eq_false_iff, beq_eq_false_iff_ne, ne_eq, decide_eq_false_iff_not, not_or, not_and]; omega)) (fun a b q => f2 a b (by simp only [sc_SM, sc_no, sc_XC, sc_XM, sc_WM, sc_VC, sc_VM, Bool.or_eq_false_iff, Bool.and_eq_false_iff, beq_eq_false_iff_ne, ne_eq, decide_eq_false_iff_not, not_or, not_and]; omega))
  · exact hW.kept (fun a b q => f1 a b (by simp only [sc_SC, sc_no, sc_XC, sc_XM, sc_WM, sc_VC, sc_VM, Bool.or_eq_false_iff, Bool.and_eq_false_iff, beq_eq_false_iff_ne, ne_eq, decide_eq_false_iff_not, not_or, not_and]; omega)) (fun a b q => f2 a b (by simp only [sc_SM, sc_no, sc_XC, sc_XM, sc_WM, sc_VC, sc_VM, Bool.or_eq_false_iff, Bool.and_eq_false_iff, beq_eq_false_iff_ne, ne_eq, decide_eq_false_iff_not, not_or, not_and]; omega))
  · exact hD.kept (fun a b q => f2 a b (by simp only [sc_SM, sc_no, sc_XC, sc_XM, sc_WM, sc_VC, sc_VM, Bool.or_eq_false_iff, Bool.and_eq_false_iff, beq_eq_false_iff_ne, ne_eq, decide_eq_false_iff_not, not_or, not_and]; omega))
theorem sc_v_lose {σ τ : sf_S} (h : sc_Inv σ τ) (x1 : Int32) : sl_prI sc_Inv (dX11_lose x1 σ) (dX12_lose x1 τ) := by
  obtain ⟨hS, hF, hT, hR, hP, hW, hD⟩ := h
  obtain ⟨v, σ', τ', e1, e2, f1, f2, r⟩ := sc_lose hS hF x1
  refine ⟨v, σ', τ', e1, e2, ?_, ?_, ?_, ?_, ?_, ?_, ?_⟩
  · exact r.1
  · exact r.2
  · exact hT.kept (fun a b q => f1 a b (by simp only [sc_SC, sc_no, sc_XC, sc_XM, sc_WM, sc_VC, sc_VM, Bool.or_eq_false_iff, Bool.and_eq_false_iff, beq_eq_false_iff_ne, ne_eq, decide_eq_false_iff_not, not_or, not_and]; omega)) (fun a b q => f2 a b (by simp only [sc_SM, sc_no, sc_XC, sc_XM, sc_WM, sc_VC, sc_VM, Bool.or_eq_false_iff, Bool.and_eq_false_iff, beq_eq_false_iff_ne, ne_eq, decide_eq_false_iff_not, not_or, not_and]; omega))
  · exact hR.kept (fun a b q => f1 a b (by simp only [sc_SC, sc_no, sc_XC, sc_XM, sc_WM, sc_VC, sc_VM, Bool.or_eq_false_iff, Bool.and_eq_false_iff, beq_eq_false_iff_ne, ne_eq, decide_eq_false_iff_not, not_or, not_and]; omega)) (fun a b q => f2 a b (by simp only [sc_SM, sc_no, sc_XC, sc_XM, sc_WM, sc_VC, sc_VM, Bool.or_eq_false_iff, Bool.and_eq_false_iff, beq_eq_false_iff_ne, ne_eq, decide_eq_false_iff_not, not_or, not_and]; omega))
  · exact hP.kept (fun a b q1 q2 => f1 a b (by simp only [sc_SC, sc_no, sc_XC, sc_XM, sc_WM, sc_VC, sc_VM, Bool.or_eq_false_iff, Bool.and_eq_false_iff, beq_eq_false_iff_ne, ne_eq, decide_eq_false_iff_not, not_or, not_and]; omega)) (fun a b q => f2 a b (by simp only [sc_SM, sc_no, sc_XC, sc_XM, sc_WM, sc_VC, sc_VM, Bool.or_eq_false_iff, Bool.and_eq_false_iff, beq_eq_false_iff_ne, ne_eq, decide_eq_false_iff_not, not_or, not_and]; omega))
  · exact hW.kept (fun a b q => f1 a b (by simp only [sc_SC, sc_no, sc_XC, sc_XM, sc_WM, sc_VC, sc_VM, Bool.or_eq_false_iff, Bool.and_eq_false_iff, beq_eq_false_iff_ne, ne_eq, decide_eq_false_iff_not, not_or, not_and]; omega)) (fun a b q => f2 a b (by simp only [sc_SM, sc_no, sc_XC, sc_XM, sc_WM, sc_VC, sc_VM, Bool.or_eq_false_iff, Bool.and_eq_false_iff, beq_eq_false_iff_ne, ne_eq, decide_eq_false_iff_not, not_or, not_and]; omega))
  · exact hD.kept (fun a b q => f2 a b (by simp only [sc_SM, sc_no, sc_XC, sc_XM, sc_WM, sc_VC, sc_VM, Bool.or_eq_false_iff, Bool.and_eq_false_iff, beq_eq_false_iff_ne, ne_eq, decide_eq_false_iff_not, not_or, not_and]; omega))
theorem sc_v_lay {σ τ : sf_S} (h : sc_Inv σ τ) (x1 x2 x3 x4 : Int32) : sl_prI sc_Inv (dX11_lay x1 x2 x3 x4 σ) (dX12_lay x1 x2 x3 x4 τ) := by
  obtain ⟨hS, hF, hT, hR, hP, hW, hD⟩ := h
  obtain ⟨v, σ', τ', e1, e2, f1, f2, r⟩ := sc_lay hS hF x1 x2 x3 x4
  refine ⟨v, σ', τ', e1, e2, ?_, ?_, ?_, ?_, ?_, ?_, ?_⟩
  · exact r.1
  · exact r.2
  · exact hT.kept (fun a b q => f1 a b (by simp only [sc_SC, sc_no, sc_XC, sc_XM, sc_WM, sc_VC, sc_VM, Bool.or_eq_false_iff, Bool.and_eq_false_iff, beq_eq_false_iff_ne, ne_eq, decide_eq_false_iff_not, not_or, not_and]; omega)) (fun a b q => f2 a b (by simp only [sc_SM, sc_no, sc_XC, sc_XM, sc_WM, sc_VC, sc_VM, Bool.or_eq_false_iff, Bool.and_eq_false_iff, beq_eq_false_iff_ne, ne_eq, decide_eq_false_iff_not, not_or, not_and]; omega))
  · exact hR.kept (fun a b q => f1 a b (by simp only [sc_SC, sc_no, sc_XC, sc_XM, sc_WM, sc_VC, sc_VM, Bool.or_eq_false_iff, Bool.and_eq_false_iff, beq_eq_false_iff_ne, ne_eq, decide_eq_false_iff_not, not_or, not_and]; omega)) (fun a b q => f2 a b (by simp only [sc_SM, sc_no, sc_XC, sc_XM, sc_WM, sc_VC, sc_VM, Bool.or_eq_false_iff, Bool.and_eq_false_iff, beq_eq_false_iff_ne, ne_eq, decide_eq_false_iff_not, not_or, not_and]; omega))
  · exact hP.kept (fun a b q1 q2 => f1 a b (by simp only [sc_SC, sc_no, sc_XC, sc_XM, sc_WM, sc_VC, sc_VM, Bool.or_eq_false_iff, Bool.and_eq_false_iff, beq_eq_false_iff_ne, ne_eq, decide_eq_false_iff_not, not_or, not_and]; omega)) (fun a b q => f2 a b (by simp only [sc_SM, sc_no, sc_XC, sc_XM, sc_WM, sc_VC, sc_VM, Bool.or_eq_false_iff, Bool.and_eq_false_iff, beq_eq_false_iff_ne, ne_eq, decide_eq_false_iff_not, not_or, not_and]; omega))
  · exact hW.kept (fun a b q => f1 a b (by simp only [sc_SC, sc_no, sc_XC, sc_XM, sc_WM, sc_VC, sc_VM, Bool.or_eq_false_iff, Bool.and_eq_false_iff, beq_eq_false_iff_ne, ne_eq, decide_eq_false_iff_not, not_or, not_and]; omega)) (fun a b q => f2 a b (by simp only [sc_SM, sc_no, sc_XC, sc_XM, sc_WM, sc_VC, sc_VM, Bool.or_eq_false_iff, Bool.and_eq_false_iff, beq_eq_false_iff_ne, ne_eq, decide_eq_false_iff_not, not_or, not_and]; omega))
  · exact hD.kept (fun a b q => f2 a b (by simp only [sc_SM, sc_no, sc_XC, sc_XM, sc_WM, sc_VC, sc_VM, Bool.or_eq_false_iff, Bool.and_eq_false_iff, beq_eq_false_iff_ne, ne_eq, decide_eq_false_iff_not, not_or, not_and]; omega))
theorem sc_v_get {σ τ : sf_S} (h : sc_Inv σ τ) (x1 x2 x3 : Int32) : sl_prI sc_Inv (dX11_get x1 x2 x3 σ) (dX12_get x1 x2 x3 τ) := by
  obtain ⟨hS, hF, hT, hR, hP, hW, hD⟩ := h
  obtain ⟨v, σ', τ', e1, e2, f1, f2, r⟩ := sc_get hS hF x1 x2 x3
  refine ⟨v, σ', τ', e1, e2, ?_, ?_, ?_, ?_, ?_, ?_, ?_⟩
  · exact r.1
  · exact r.2
  · exact hT.kept (fun a b q => f1 a b (by simp only [sc_SC, sc_no, sc_XC, sc_XM, sc_WM, sc_VC, sc_VM, Bool.or_eq_false_iff, Bool.and_eq_false_iff, beq_eq_false_iff_ne, ne_eq, decide_eq_false_iff_not, not_or, not_and]; omega)) (fun a b q => f2 a b (by simp only [sc_SM, sc_no, sc_XC, sc_XM, sc_WM, sc_VC, sc_VM, Bool.or_eq_false_iff, Bool.and_eq_false_iff, beq_eq_false_iff_ne, ne_eq, decide_eq_false_iff_not, not_or, not_and]; omega))
  · exact hR.kept (fun a b q => f1 a b (by simp only [sc_SC, sc_no, sc_XC, sc_XM, sc_WM, sc_VC, sc_VM, Bool.or_eq_false_iff, Bool.and_eq_false_iff, beq_eq_false_iff_ne, ne_eq, decide_eq_false_iff_not, not_or, not_and]; omega)) (fun a b q => f2 a b (by simp only [sc_SM, sc_no, sc_XC, sc_XM, sc_WM, sc_VC, sc_VM, Bool.or_eq_false_iff, Bool.and_eq_false_iff, beq_eq_false_iff_ne, ne_eq, decide_eq_false_iff_not, not_or, not_and]; omega))
  · exact hP.kept (fun a b q1 q2 => f1 a b (by simp only [sc_SC, sc_no, sc_XC, sc_XM, sc_WM, sc_VC, sc_VM, Bool.or_eq_false_iff, Bool.and_eq_false_iff, beq_eq_false_iff_ne, ne_eq, decide_eq_false_iff_not, not_or, not_and]; omega)) (fun a b q => f2 a b (by simp only [sc_SM, sc_no, sc_XC, sc_XM, sc_WM, sc_VC, sc_VM, Bool.or_eq_false_iff, Bool.and_eq_false_iff, beq_eq_false_iff_ne, ne_eq, decide_eq_false_iff_not, not_or, not_and]; omega))
  · exact hW.kept (fun a b q => f1 a b (by simp only [sc_SC, sc_no, sc_XC, sc_XM, sc_WM, sc_VC, sc_VM, Bool.or_eq_false_iff, Bool.and_eq_false_iff, beq_eq_false_iff_ne, ne_eq, decide_eq_false_iff_not, not_or, not_and]; omega)) (fun a b q => f2 a b (by simp only [sc_SM, sc_no, sc_XC, sc_XM, sc_WM, sc_VC, sc_VM, Bool.or_eq_false_iff, Bool.and_eq_false_iff, beq_eq_false_iff_ne, ne_eq, decide_eq_false_iff_not, not_or, not_and]; omega))
  · exact hD.kept (fun a b q => f2 a b (by simp only [sc_SM, sc_no, sc_XC, sc_XM, sc_WM, sc_VC, sc_VM, Bool.or_eq_false_iff, Bool.and_eq_false_iff, beq_eq_false_iff_ne, ne_eq, decide_eq_false_iff_not, not_or, not_and]; omega))
theorem sc_v_copy {σ τ : sf_S} (h : sc_Inv σ τ) (x1 x2 x3 x4 x5 : Int32) : sl_prI sc_Inv (dX11_copy x1 x2 x3 x4 x5 σ) (dX12_copy x1 x2 x3 x4 x5 τ) := by
  obtain ⟨hS, hF, hT, hR, hP, hW, hD⟩ := h
  obtain ⟨v, σ', τ', e1, e2, f1, f2, r⟩ := sc_copy hS hF x1 x2 x3 x4 x5
  refine ⟨v, σ', τ', e1, e2, ?_, ?_, ?_, ?_, ?_, ?_, ?_⟩
  · exact r.1
  · exact r.2
  · exact hT.kept (fun a b q => f1 a b (by simp only [sc_SC, sc_no, sc_XC, sc_XM, sc_WM, sc_VC, sc_VM, Bool.or_eq_false_iff, Bool.and_eq_false_iff, beq_eq_false_iff_ne, ne_eq, decide_eq_false_iff_not, not_or, not_and]; omega)) (fun a b q => f2 a b (by simp only [sc_SM, sc_no, sc_XC, sc_XM, sc_WM, sc_VC, sc_VM, Bool.or_eq_false_iff, Bool.and_eq_false_iff, beq_eq_false_iff_ne, ne_eq, decide_eq_false_iff_not, not_or, not_and]; omega))
  · exact hR.kept (fun a b q => f1 a b (by simp only [sc_SC, sc_no, sc_XC, sc_XM, sc_WM, sc_VC, sc_VM, Bool.or_eq_false_iff, Bool.and_eq_false_iff, beq_eq_false_iff_ne, ne_eq, decide_eq_false_iff_not, not_or, not_and]; omega)) (fun a b q => f2 a b (by simp only [sc_SM, sc_no, sc_XC, sc_XM, sc_WM, sc_VC, sc_VM, Bool.or_eq_false_iff, Bool.and_eq_false_iff, beq_eq_false_iff_ne, ne_eq, decide_eq_false_iff_not, not_or, not_and]; omega))
  · exact hP.kept (fun a b q1 q2 => f1 a b (by simp only [sc_SC, sc_no, sc_XC, sc_XM, sc_WM, sc_VC, sc_VM, Bool.or_eq_false_iff, Bool.and_eq_false_iff, beq_eq_false_iff_ne, ne_eq, decide_eq_false_iff_not, not_or, not_and]; omega)) (fun a b q => f2 a b (by simp only [sc_SM, sc_no, sc_XC, sc_XM, sc_WM, sc_VC, sc_VM, Bool.or_eq_false_iff, Bool.and_eq_false_iff, beq_eq_false_iff_ne, ne_eq, decide_eq_false_iff_not, not_or, not_and]; omega))
  · exact hW.kept (fun a b q => f1 a b (by simp only [sc_SC, sc_no, sc_XC, sc_XM, sc_WM, sc_VC, sc_VM, Bool.or_eq_false_iff, Bool.and_eq_false_iff, beq_eq_false_iff_ne, ne_eq, decide_eq_false_iff_not, not_or, not_and]; omega)) (fun a b q => f2 a b (by simp only [sc_SM, sc_no, sc_XC, sc_XM, sc_WM, sc_VC, sc_VM, Bool.or_eq_false_iff, Bool.and_eq_false_iff, beq_eq_false_iff_ne, ne_eq, decide_eq_false_iff_not, not_or, not_and]; omega))
  · exact hD.kept (fun a b q => f2 a b (by simp only [sc_SM, sc_no, sc_XC, sc_XM, sc_WM, sc_VC, sc_VM, Bool.or_eq_false_iff, Bool.and_eq_false_iff, beq_eq_false_iff_ne, ne_eq, decide_eq_false_iff_not, not_or, not_and]; omega))
theorem sc_v_write {σ τ : sf_S} (h : sc_Inv σ τ) (x1 : Int32) : sl_prI sc_Inv (dX11_write x1 σ) (dX12_write x1 τ) := by
  obtain ⟨hS, hF, hT, hR, hP, hW, hD⟩ := h
  obtain ⟨v, σ', τ', e1, e2, f1, f2, r⟩ := sc_write hS hF hR x1
  refine ⟨v, σ', τ', e1, e2, ?_, ?_, ?_, ?_, ?_, ?_, ?_⟩
  · exact r.1
  · exact r.2
  · exact hT.kept (fun a b q => f1 a b (by simp only [sc_SC, sc_no, sc_XC, sc_XM, sc_WM, sc_VC, sc_VM, Bool.or_eq_false_iff, Bool.and_eq_false_iff, beq_eq_false_iff_ne, ne_eq, decide_eq_false_iff_not, not_or, not_and]; omega)) (fun a b q => f2 a b (by simp only [sc_SM, sc_no, sc_XC, sc_XM, sc_WM, sc_VC, sc_VM, Bool.or_eq_false_iff, Bool.and_eq_false_iff, beq_eq_false_iff_ne, ne_eq, decide_eq_false_iff_not, not_or, not_and]; omega))
  · exact hR.kept (fun a b q => f1 a b (by simp only [sc_SC, sc_no, sc_XC, sc_XM, sc_WM, sc_VC, sc_VM, Bool.or_eq_false_iff, Bool.and_eq_false_iff, beq_eq_false_iff_ne, ne_eq, decide_eq_false_iff_not, not_or, not_and]; omega)) (fun a b q => f2 a b (by simp only [sc_SM, sc_no, sc_XC, sc_XM, sc_WM, sc_VC, sc_VM, Bool.or_eq_false_iff, Bool.and_eq_false_iff, beq_eq_false_iff_ne, ne_eq, decide_eq_false_iff_not, not_or, not_and]; omega))
  · exact hP.kept (fun a b q1 q2 => f1 a b (by simp only [sc_SC, sc_no, sc_XC, sc_XM, sc_WM, sc_VC, sc_VM, Bool.or_eq_false_iff, Bool.and_eq_false_iff, beq_eq_false_iff_ne, ne_eq, decide_eq_false_iff_not, not_or, not_and]; omega)) (fun a b q => f2 a b (by simp only [sc_SM, sc_no, sc_XC, sc_XM, sc_WM, sc_VC, sc_VM, Bool.or_eq_false_iff, Bool.and_eq_false_iff, beq_eq_false_iff_ne, ne_eq, decide_eq_false_iff_not, not_or, not_and]; omega))
  · exact hW.kept (fun a b q => f1 a b (by simp only [sc_SC, sc_no, sc_XC, sc_XM, sc_WM, sc_VC, sc_VM, Bool.or_eq_false_iff, Bool.and_eq_false_iff, beq_eq_false_iff_ne, ne_eq, decide_eq_false_iff_not, not_or, not_and]; omega)) (fun a b q => f2 a b (by simp only [sc_SM, sc_no, sc_XC, sc_XM, sc_WM, sc_VC, sc_VM, Bool.or_eq_false_iff, Bool.and_eq_false_iff, beq_eq_false_iff_ne, ne_eq, decide_eq_false_iff_not, not_or, not_and]; omega))
  · exact hD.kept (fun a b q => f2 a b (by simp only [sc_SM, sc_no, sc_XC, sc_XM, sc_WM, sc_VC, sc_VM, Bool.or_eq_false_iff, Bool.and_eq_false_iff, beq_eq_false_iff_ne, ne_eq, decide_eq_false_iff_not, not_or, not_and]; omega))
theorem sc_v_digest {σ τ : sf_S} (h : sc_Inv σ τ) : sl_prJ sc_Inv (dX11_digest σ) (dX12_digest τ) := by
  obtain ⟨hS, hF, hT, hR, hP, hW, hD⟩ := h
  obtain ⟨v, σ', τ', e1, e2, f1, f2, r⟩ := sc_digest hS hF hT hR hP hW hD
  refine ⟨v, σ', τ', e1, e2, ?_, ?_, ?_, ?_, ?_, ?_, ?_⟩
  · exact hS.kept (fun a b q => f1 a b (by simp only [sc_GC, sc_no, sc_XC, sc_XM, sc_WM, sc_VC, sc_VM, Bool.or_eq_false_iff, Bool.and_eq_false_iff, beq_eq_false_iff_ne, ne_eq, decide_eq_false_iff_not, not_or, not_and]; omega)) (fun a b q => f2 a b (by simp only [sc_GM, sc_no, sc_XC, sc_XM, sc_WM, sc_VC, sc_VM, Bool.or_eq_false_iff, Bool.and_eq_false_iff, beq_eq_false_iff_ne, ne_eq, decide_eq_false_iff_not, not_or, not_and]; omega))
  · exact hF.kept (f1 0 13 (by simp only [sc_GC, sc_no, sc_XC, sc_XM, sc_WM, sc_VC, sc_VM, Bool.or_eq_false_iff, Bool.and_eq_false_iff, beq_eq_false_iff_ne, ne_eq, decide_eq_false_iff_not, not_or, not_and]; omega)) (f2 0 4 (by simp only [sc_GM, sc_no, sc_XC, sc_XM, sc_WM, sc_VC, sc_VM, Bool.or_eq_false_iff, Bool.and_eq_false_iff, beq_eq_false_iff_ne, ne_eq, decide_eq_false_iff_not, not_or, not_and]; omega))
  · exact hT.kept (fun a b q => f1 a b (by simp only [sc_GC, sc_no, sc_XC, sc_XM, sc_WM, sc_VC, sc_VM, Bool.or_eq_false_iff, Bool.and_eq_false_iff, beq_eq_false_iff_ne, ne_eq, decide_eq_false_iff_not, not_or, not_and]; omega)) (fun a b q => f2 a b (by simp only [sc_GM, sc_no, sc_XC, sc_XM, sc_WM, sc_VC, sc_VM, Bool.or_eq_false_iff, Bool.and_eq_false_iff, beq_eq_false_iff_ne, ne_eq, decide_eq_false_iff_not, not_or, not_and]; omega))
  · exact hR.kept (fun a b q => f1 a b (by simp only [sc_GC, sc_no, sc_XC, sc_XM, sc_WM, sc_VC, sc_VM, Bool.or_eq_false_iff, Bool.and_eq_false_iff, beq_eq_false_iff_ne, ne_eq, decide_eq_false_iff_not, not_or, not_and]; omega)) (fun a b q => f2 a b (by simp only [sc_GM, sc_no, sc_XC, sc_XM, sc_WM, sc_VC, sc_VM, Bool.or_eq_false_iff, Bool.and_eq_false_iff, beq_eq_false_iff_ne, ne_eq, decide_eq_false_iff_not, not_or, not_and]; omega))
  · exact r.1
  · exact hW.kept (fun a b q => f1 a b (by simp only [sc_GC, sc_no, sc_XC, sc_XM, sc_WM, sc_VC, sc_VM, Bool.or_eq_false_iff, Bool.and_eq_false_iff, beq_eq_false_iff_ne, ne_eq, decide_eq_false_iff_not, not_or, not_and]; omega)) (fun a b q => f2 a b (by simp only [sc_GM, sc_no, sc_XC, sc_XM, sc_WM, sc_VC, sc_VM, Bool.or_eq_false_iff, Bool.and_eq_false_iff, beq_eq_false_iff_ne, ne_eq, decide_eq_false_iff_not, not_or, not_and]; omega))
  · exact r.2
theorem sc_v_count {σ τ : sf_S} (h : sc_Inv σ τ) (x1 : Int32) : sl_prI sc_Inv (dX11_count x1 σ) (dX12_count x1 τ) := by
  obtain ⟨hS, hF, hT, hR, hP, hW, hD⟩ := id h
  obtain ⟨v, e1, e2⟩ := sc_count hF hT hR hP hW x1
  exact ⟨v, σ, τ, e1, e2, h⟩
theorem sc_good : sl_Good (fun _ => sc_Inv) := by
  intro n σ τ _ h
  exact ⟨h, sc_v_type h, sc_v_wipe h, sc_v_fault h, sc_v_plan h, sc_v_node h, sc_v_text h, sc_v_tidy h, sc_v_rules h, sc_v_saves h, sc_v_run h, sc_v_result h, sc_v_fold h, sc_v_failure h, sc_v_told h, sc_v_written h, sc_v_sheet h, sc_v_lose h, sc_v_lay h, sc_v_get h, sc_v_copy h, sc_v_write h, sc_v_count h, sc_v_digest h⟩
/-! the fresh states -/
def sc_szC (k m : Nat) : Bool := match sf_layC[k]? with
  | some sh => decide (m ≤ sd_size sh)
  | none => false
def sc_szM (k m : Nat) : Bool := match sf_layM[k]? with
  | some sh => decide (m ≤ sd_size sh)
  | none => false
theorem sc_tC {k m : Nat} (h : sc_szC k m = true) (j : Nat) (hj : j < m) : sf_t0C k j = sf_xC k j := by
  unfold sc_szC at h
  split at h
  · next sh e => exact sf_t0C_at k sh e j (by have := of_decide_eq_true h; omega)
  · cases h
theorem sc_tM {k m : Nat} (h : sc_szM k m = true) (j : Nat) (hj : j < m) : sf_t0M k j = sf_xM k j := by
  unfold sc_szM at h
  split at h
  · next sh e => exact sf_t0M_at k sh e j (by have := of_decide_eq_true h; omega)
  · cases h
theorem sc_xC0 {a b : Nat} (h : ¬ ((a = 1 ∧ b = 10) ∨ (a = 36 ∧ b = 10) ∨ (a = 17 ∧ b < 4))) : sf_xC a b = 0 := by
  unfold sf_xC
  rw [if_neg (by omega), if_neg (by omega), if_neg (by omega)]
theorem sc_xM0 {a b : Nat} (h : ¬ (a = 1 ∧ b < 4)) : sf_xM a b = 0 := by
  unfold sf_xM
  rw [if_neg h]
theorem sc_inv0 : sc_Inv sf_t0C sf_t0M := by
  have c0 : sc_szC 0 14 = true := by decide +kernel
  have c1 : sc_szC 1 12 = true := by decide +kernel
  have c13 : sc_szC 13 3 = true := by decide +kernel
  have c14 : sc_szC 14 13 = true := by decide +kernel
  have c17 : sc_szC 17 4 = true := by decide +kernel
  have c18 : sc_szC 18 240 = true := by decide +kernel
  have c19 : sc_szC 19 10 = true := by decide +kernel
  have c46 : sc_szC 46 3 = true := by decide +kernel
  have m0 : sc_szM 0 56 = true := by decide +kernel
  have m1 : sc_szM 1 4 = true := by decide +kernel
  have m3 : sc_szM 3 240 = true := by decide +kernel
  have m23 : sc_szM 23 13 = true := by decide +kernel
  have m34 : sc_szM 34 6 = true := by decide +kernel
  have z0 : ∀ {k m : Nat}, sc_szC k m = true → ∀ j, j < m → ¬ ((k = 1 ∧ j = 10) ∨ (k = 36 ∧ j = 10) ∨ (k = 17 ∧ j < 4)) → sf_t0C k j = 0 := fun h j hj q => (sc_tC h j hj).trans (sc_xC0 q)
  have w0 : ∀ {k m : Nat}, sc_szM k m = true → ∀ j, j < m → ¬ (k = 1 ∧ j < 4) → sf_t0M k j = 0 := fun h j hj q => (sc_tM h j hj).trans (sc_xM0 q)
  refine ⟨⟨fun s hs => Or.inl ⟨?_, ?_⟩, fun j hj => ?_⟩, ?_, ⟨0, by omega, ?_, ?_, fun j hj => absurd hj (Nat.not_lt_zero j)⟩, ⟨0, 0, by omega, by omega, ?_, ?_, ?_, ?_, ?_, ?_, ?_, ?_, ?_, fun j hj => absurd hj (Nat.not_lt_zero j), fun j _ hj => absurd hj (Nat.not_lt_zero j)⟩, Or.inl ⟨?_, ?_, ?_⟩, ⟨fun k hk => ?_, ?_⟩, ⟨0, by omega, ?_, fun j hj => absurd hj (Nat.not_lt_zero j), Nat.zero_le _⟩⟩
  · rw [sc_tC c17 s hs]; unfold sf_xC; rw [if_neg (by omega), if_neg (by omega), if_pos ⟨rfl, hs⟩]
  · rw [sc_tM m1 s hs]; unfold sf_xM; rw [if_pos ⟨rfl, hs⟩]
  · rw [z0 c18 j hj (by omega), w0 m3 j hj (by omega)]
  · show sf_t0C 0 13 = sf_t0M 0 4
    rw [z0 c0 13 (by omega) (by omega), w0 m0 4 (by omega) (by omega)]
  · rw [z0 c46 2 (by omega) (by omega)]; rfl
  · rw [w0 m0 6 (by omega) (by omega)]; rfl
  · rw [z0 c19 1 (by omega) (by omega)]; rfl
  · rw [w0 m0 55 (by omega) (by omega)]; rfl
  · rw [z0 c19 9 (by omega) (by omega)]; rfl
  · rw [w0 m34 5 (by omega) (by omega)]; rfl
  · rw [z0 c19 5 (by omega) (by omega), w0 m34 0 (by omega) (by omega)]
  · rw [z0 c19 6 (by omega) (by omega), w0 m34 1 (by omega) (by omega)]
  · rw [z0 c19 2 (by omega) (by omega), w0 m34 2 (by omega) (by omega)]
  · rw [z0 c19 3 (by omega) (by omega), w0 m34 3 (by omega) (by omega)]
  · rw [z0 c19 4 (by omega) (by omega), w0 m34 4 (by omega) (by omega)]
  · exact z0 c1 4 (by omega) (by omega)
  · exact w0 m0 21 (by omega) (by omega)
  · rw [sc_tC c1 10 (by omega)]; unfold sf_xC; rw [if_pos ⟨rfl, rfl⟩]
  · rw [z0 c14 k hk (by omega), w0 m23 k hk (by omega)]
  · rw [z0 c13 2 (by omega) (by omega), w0 m0 32 (by omega) (by omega)]
  · rw [w0 m0 21 (by omega) (by omega)]; rfl
