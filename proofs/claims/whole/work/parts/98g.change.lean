/-! + * / % l, ? k w, z: what they do with a number -/
theorem sc_rem {x f : Int32} (hf : 1 ≤ f.toInt) : (0 ≤ x.toInt → 0 ≤ (x - x / f * f).toInt) ∧ (x.toInt < 0 → (x - x / f * f).toInt ≤ 0 ∧ -f.toInt < (x - x / f * f).toInt) := by
  have f2 := f.toInt_lt
  have x1 := x.le_toInt
  have x2 := x.toInt_lt
  obtain ⟨b, hb⟩ : ∃ b : Nat, f.toInt = b := ⟨f.toInt.toNat, by omega⟩
  by_cases hx : 0 ≤ x.toInt
  · obtain ⟨a, ha⟩ : ∃ a : Nat, x.toInt = a := ⟨x.toInt.toNat, by omega⟩
    have q1 := Nat.div_le_self a b
    have q2 := Nat.div_mul_le_self a b
    obtain ⟨d, hd⟩ : ∃ d, a / b = d := ⟨_, rfl⟩
    rw [hd] at q1 q2
    have e1 : (x / f).toInt = ((d : Nat) : Int) := by
      rw [Int32.toInt_div, ha, hb, ← Int.ofNat_tdiv, hd]
      apply Int.bmod_eq_of_le <;> omega
    have e2 : (x / f * f).toInt = ((d * b : Nat) : Int) := by
      rw [Int32.toInt_mul, e1, hb, ← Int.natCast_mul]
      apply Int.bmod_eq_of_le <;> omega
    have e3 : (x - x / f * f).toInt = (a : Int) - ((d * b : Nat) : Int) := by
      rw [Int32.toInt_sub, e2, ha]
      apply Int.bmod_eq_of_le <;> omega
    exact ⟨fun _ => by rw [e3]; omega, fun q => by omega⟩
  · obtain ⟨a, ha⟩ : ∃ a : Nat, x.toInt = -(a : Int) := ⟨(-x.toInt).toNat, by omega⟩
    have q1 := Nat.div_le_self a b
    have q2 := Nat.div_mul_le_self a b
    obtain ⟨d, hd⟩ : ∃ d, a / b = d := ⟨_, rfl⟩
    rw [hd] at q1 q2
    have e1 : (x / f).toInt = -((d : Nat) : Int) := by
      rw [Int32.toInt_div, ha, hb, Int.neg_tdiv, ← Int.ofNat_tdiv, hd]
      apply Int.bmod_eq_of_le <;> omega
    have e2 : (x / f * f).toInt = -((d * b : Nat) : Int) := by
      rw [Int32.toInt_mul, e1, hb, Int.neg_mul, ← Int.natCast_mul]
      apply Int.bmod_eq_of_le <;> omega
    have e3 : (x - x / f * f).toInt = -(a : Int) + ((d * b : Nat) : Int) := by
      rw [Int32.toInt_sub, e2, ha]
      rw [Int.sub_neg]
      apply Int.bmod_eq_of_le <;> omega
    have q3 := Nat.div_add_mod a b
    have q4 := Nat.mod_lt a (show 0 < b by omega)
    rw [hd, Nat.mul_comm] at q3
    exact ⟨fun q => by omega, fun _ => by rw [e3]; omega⟩
theorem sc_msb (x : Int32) : x.toBitVec.msb = decide (x.toInt < 0) := by
  rw [BitVec.msb_eq_toInt]; rfl
theorem sc_xor (x y : Int32) : (x ^^^ y).toInt < 0 ↔ ¬ (x.toInt < 0 ↔ y.toInt < 0) := by
  have h := sc_msb (x ^^^ y)
  rw [Int32.toBitVec_xor, BitVec.msb_xor, sc_msb, sc_msb] at h
  by_cases h1 : x.toInt < 0 <;> by_cases h2 : y.toInt < 0 <;> by_cases h3 : (x ^^^ y).toInt < 0 <;> simp_all <;> omega
/-- the class's modulo is what the reference does -/
theorem sc_mod {x f : Int32} (hf : 1 ≤ f.toInt) (σ : sf_S) : dX10_modulo x f σ = some ((if 0 ≤ x - x / f * f then x - x / f * f else x - x / f * f + f), σ) := by
  have f0 : ¬ f = 0 := fun q => by rw [q] at hf; exact absurd hf (by decide)
  obtain ⟨r1, r2⟩ := sc_rem (x := x) hf
  have hx := sc_xor x f
  unfold dX10_modulo dJ9_floorMod_7cf53
  rw [if_pos f0, if_neg f0]
  simp only
  by_cases h : 0 ≤ x.toInt
  · rw [if_pos (by rw [sc_le0]; omega), if_pos (by rw [sc_le0]; exact r1 h)]; rfl
  · rw [if_neg (by rw [sc_le0]; omega)]
    have := (r2 (by omega)).1
    by_cases h0 : x - x / f * f = 0
    · rw [if_pos h0, if_pos (by rw [h0]; decide)]; rfl
    · rw [if_neg h0, if_neg (fun q => h0 (Int32.toInt_inj.mp (by rw [sc_le0] at q; rw [sc_t0]; omega)))]; rfl
def sc_cC (X : sc_X) : Nat → Nat → Bool := fun a b => (a == X.q && b == sf_vl X.q) || (a == sf_rn X.q && (b == 5 || b == 6 || b == 9)) || a == sf_rn X.q + 2 || a == sf_rn X.q + 3
def sc_cM : Nat → Nat → Bool := fun a b => (a == 0 && (b == 35 || b == 36 || b == 44)) || a == 27 || a == 28
def sc_nC (X : sc_X) : Nat → Nat → Bool := fun a b => (a == sf_rn X.q && b == 9) || a == sf_rn X.q + 2 || a == sf_rn X.q + 3
def sc_nM : Nat → Nat → Bool := fun a b => (a == 0 && b == 44) || a == 27 || a == 28
theorem sc_nC_c {X : sc_X} {σ σ' : sf_S} (h : sc_fr (sc_nC X) σ σ') : sc_fr (sc_cC X) σ σ' := sc_fr_wk h (fun a b hab => by
  simp [sc_cC] at hab; simp [sc_nC]; omega)
theorem sc_nM_c {τ τ' : sf_S} (h : sc_fr sc_nM τ τ') : sc_fr sc_cM τ τ' := sc_fr_wk h (fun a b hab => by
  simp [sc_cM] at hab; simp [sc_nM]; omega)
theorem sc_W.note {X : sc_X} {D np g : Nat} {σ τ : sf_S} (h : sc_W X D np g σ τ) (hn : np + 1 ≤ 40 * D) (d v : Int32) : ∃ σ' τ', dX6_note (sf_rn X.q) d v σ = some σ' ∧ dX12_writesDown d v τ = some τ' ∧ sc_W X D (np + 1) g σ' τ' ∧ sc_fr (sc_nC X) σ σ' ∧ sc_fr sc_nM τ τ' := by
  have hD5 := h.D5
  unfold dX6_note dX12_writesDown
  rw [h.cp, h.rp, show (40 : Int32) = nI 40 by decide +kernel]
  by_cases hc : 40 ≤ np
  · rw [if_pos (nI_le hc (by omega)), if_pos (nI_le hc (by omega))]
    refine ⟨_, _, rfl, rfl, ?_, sc_fr_up (by simp [sc_nC]), sc_fr_up (by simp [sc_nM])⟩
    refine ⟨h.cy.kept (sc_fr_up (by simp [sc_RC])) (sc_fr_up (by simp [sc_RM])), h.D5, hn, h.g40, ?_, ?_, ?_, ?_, ?_, ?_, ?_, ?_, fun j hj => ?_, ?_, ?_, fun j hj hp => ?_⟩
    all_goals simp (disch := omega) only [sc_upK, sc_upJ, sc_upS, nI_1]
    · exact h.cD
    · exact h.rD
    · exact h.wk
    · exact h.el
    · exact h.fl
    · exact h.fd
    · exact h.cg
    · exact h.rg
    · exact h.re j hj
    · exact h.nt j hj (by omega)
  · rw [if_neg (nI_ge (by omega) (by omega)), if_neg (nI_ge (by omega) (by omega))]
    have h9 : ∀ (c : Nat) (j : Nat) (x : Int32), 2 ≤ c → sf_up σ (sf_rn X.q + c) j x (sf_rn X.q) 9 = nI np := fun c j x hc => by rw [sc_upK (by omega)]; exact h.cp
    have h44 : ∀ (c : Nat) (j : Nat) (x : Int32), 2 ≤ c → sf_up τ c j x 0 44 = nI np := fun c j x hc => by rw [sc_upK (by omega)]; exact h.rp
    simp only [sc_inI (show np < 40 by omega) (by omega : 40 ≤ 10000), if_true, sc_cl (show np < 2 ^ 31 by omega)]
    simp (disch := omega) only [sc_upK, sc_upJ, sc_upS, nI_1, h.cp, h.rp, sc_inI (show np < 40 by omega) (by omega : 40 ≤ 10000), if_true, sc_cl (show np < 2 ^ 31 by omega)]
    refine ⟨_, _, rfl, rfl, ?_, sc_fr_tr (sc_fr_up (by simp [sc_nC])) (sc_fr_tr (sc_fr_up (by simp [sc_nC])) (sc_fr_up (by simp [sc_nC]))), sc_fr_tr (sc_fr_up (by simp [sc_nM])) (sc_fr_tr (sc_fr_up (by simp [sc_nM])) (sc_fr_up (by simp [sc_nM])))⟩
    refine ⟨h.cy.kept (sc_fr_tr (sc_fr_up (by simp [sc_RC])) (sc_fr_tr (sc_fr_up (by simp [sc_RC])) (sc_fr_up (by simp [sc_RC])))) (sc_fr_tr (sc_fr_up (by simp [sc_RM])) (sc_fr_tr (sc_fr_up (by simp [sc_RM])) (sc_fr_up (by simp [sc_RM])))), h.D5, hn, h.g40, ?_, ?_, ?_, ?_, ?_, ?_, ?_, ?_, fun j hj => ?_, ?_, ?_, fun j hj hp => ?_⟩
    all_goals (try simp (disch := omega) only [sc_upK, sc_upJ, sc_upS, nI_1])
    · exact h.cD
    · exact h.rD
    · exact h.wk
    · exact h.el
    · exact h.fl
    · exact h.fd
    · exact h.cg
    · exact h.rg
    · exact h.re j hj
    · by_cases e : j = np
      · rw [e]; simp (disch := omega) only [sc_upK, sc_upJ, sc_upS]; exact ⟨trivial, trivial⟩
      · simp (disch := omega) only [sc_upK, sc_upJ, sc_upS]
        exact h.nt j hj (by omega)
