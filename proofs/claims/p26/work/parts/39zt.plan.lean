/-! the law's plan, in o or in p -/
def tg_H (T : tt_T) (τ : sf_S) : Prop := tk_M 1 T τ ∧ τ 11 2 = nI (min 400 (tp_X T).length) ∧ ∀ i x, i < 400 → (tp_X T)[i]? = some x → τ 12 i = tp_nar x
theorem tg_H.kept {T : tt_T} {σ σ' : sf_S} (h : tg_H T σ) (h1 : ∀ a b, a ≤ 12 → σ' a b = σ a b) : tg_H T σ' := by
  obtain ⟨a1, a2, a3⟩ := h
  exact ⟨a1.kept fun a b hab => h1 a b (by omega), by rw [h1 _ _ (by omega)]; exact a2, fun i x hi hx => by rw [h1 _ _ (by omega)]; exact a3 i x hi hx⟩
theorem tg_T.kept {B : List Int32} {σ σ' : sf_S} (h : tg_T B σ) (h1 : ∀ a b, (a = 46 ∨ a = 47) → σ' a b = σ a b) : tg_T B σ' := by
  obtain ⟨a1, a2, a3⟩ := h
  exact ⟨a1, by rw [h1 _ _ (by omega)]; exact a2, fun j x hj => by rw [h1 _ _ (by omega)]; exact a3 j x hj⟩
theorem tg_plan1 {T : tt_T} {B : List Int32} {τ : sf_S} (hT : tt_ok T) (hrun : tg_run (tt_fl T) B [0]) (hB : tg_T B τ) : ∃ τ', dX11_plan τ = some (nI (tt_sz T), τ') ∧ tg_H T τ' ∧ ∀ x y, ¬ (x ≤ 12 ∨ (36 ≤ x ∧ x ≤ 48)) → τ' x y = τ x y := by
  obtain ⟨s1, a1, a2, -, a4⟩ := tg_read hrun hB
  obtain ⟨s2, b1, b2, b3⟩ := tk_take (q := 1) (r1 := 36) (Or.inr (by omega)) hT.1 hT.2.2.2.1 hT.2.2.2.2 a2
  have hl : (tt_fl T).length ≤ 40 := by rw [tt_fl_len]; exact hT.2.2.2.2
  have hpr := tp_print hl b2.1
  have h0 : sf_up s2 11 2 0 11 2 = nI 0 := by rw [sc_upS, sc_0]
  have hne : ∀ a b, ¬ (a = 12 ∨ (a = 11 ∧ b = 2)) → tp_ps (tp_X T) (sf_up s2 11 2 0) a b = s2 a b := fun a b hab => by
    rw [tp_ps_ne _ _ hab]
    have : ¬ (a = 11 ∧ b = 2) := by omega
    exact if_neg this
  refine ⟨tp_ps (tp_X T) (sf_up s2 11 2 0), ?_, ⟨b2.kept fun a b hab => hne a b (by omega), ?_, fun i y hi hy => ?_⟩, fun x y hxy => by rw [hne x y (by omega), b3 x y (by omega), a4 x y (by omega)]⟩
  · unfold dX11_plan
    rw [a1]
    simp only [Option.bind_some]
    rw [if_pos (by decide), b1]
    simp only [Option.bind_some]
    rw [hpr]
    simp only [Option.bind_some]
    rw [hne _ _ (by omega), b2.1.1, tt_fl_len]
  · rw [tp_ps_len _ _ 0 (by omega) h0, Nat.zero_add]
  · have := tp_ps_at (tp_X T) (sf_up s2 11 2 0) 0 i y (by omega) h0 hy
    rw [Nat.zero_add] at this
    exact this
theorem tg_plan {ns at_ : Nat} (hns : ns ≤ 260) (hat : at_ ≤ 100) (sc : Nat → Int32) : ∃ T, tt_ok T ∧ ∀ (r : Nat) (σ : sf_S), r + 59 ≤ 118 → σ 118 = sc → (∃ k, k ≤ 40 ∧ σ (r + 46) 2 = nI k) → ∃ σ', dL_plans ns r (nI at_) σ = some (nI (tt_sz T), σ') ∧ tg_H T (sf_sl r σ') ∧ (∀ a b, ¬ (r ≤ a ∧ a < r + 59) → σ' a b = σ a b) ∧ ∀ a b, 13 ≤ a → a ≤ 35 → sf_sl r σ' a b = sf_sl r σ a b := by
  obtain ⟨Ns, bs, r1, r2, r3⟩ := tg_loop hns hat sc 40 0 0 [0] (by omega) (by simp only [List.length_cons, List.length_nil]; omega) (Nat.le_refl _)
  rw [Nat.zero_add] at r2
  obtain ⟨T, t1, t2⟩ := tg_ok r1 r2
  have hsz : tt_sz T = Ns.length := by rw [← tt_fl_len, t2]
  have hpl : (tp_X T).length = bs.length := by
    show (tp_tx (tt_fl T)).length = _
    rw [t2]; exact r1.plen
  have hF := sf_F_le
  refine ⟨T, t1, fun r σ hr hs hk => ?_⟩
  obtain ⟨k, hk1, hk2⟩ := hk
  have hkl : sf_sl r σ 46 2 = nI k := by unfold sf_sl; rw [Nat.add_comm]; exact hk2
  have hw : dW_wipe r σ = some (nI k, sf_up σ (r + 46) 2 0) := by
    have e : dX11_wipe (sf_sl r σ) = some (nI k, sf_up (sf_sl r σ) 46 2 0) := by
      unfold dX11_wipe
      rw [hkl]
    refine (tq_on e).trans ?_
    rw [sf_pt_up (by omega), sf_pt_id]
  have hX0 : tg_X r [] (sf_up σ (r + 46) 2 0) := ⟨by rw [sc_upS]; exact sc_0, fun j x hj => by cases hj⟩
  have hs0 : sf_up σ (r + 46) 2 0 118 = sc := by funext y; rw [sc_upK (by omega), hs]
  obtain ⟨f, hf⟩ := r3 r sf_F [] _ (by omega) hr hs0 rfl hX0
  have hX1 := hX0.ps (l := bs) (by simp only [List.length_nil]; omega)
  rw [List.nil_append] at hX1
  have hne1 : ∀ x y, ¬ (x = r + 47 ∨ (x = r + 46 ∧ y = 2)) → tg_ps r bs (sf_up σ (r + 46) 2 0) x y = σ x y := fun x y h => by
    rw [tg_ps_ne _ _ h]
    have g : ¬ (x = r + 46 ∧ y = 2) := by omega
    exact if_neg g
  generalize hs1 : tg_ps r bs (sf_up σ (r + 46) 2 0) = s1 at hf hX1 hne1
  have hT1 : tg_T bs (sf_sl r s1) := ⟨r2, by unfold sf_sl; rw [Nat.add_comm]; exact hX1.1, fun j x hj => by unfold sf_sl; rw [Nat.add_comm]; exact hX1.2 j x hj⟩
  obtain ⟨τ2, a1, a2, a3, a4⟩ := tg_read r1 hT1
  have hfa : dW_fault r s1 = some (-1, sf_pt r s1 τ2) := tq_on (by unfold dX11_fault; rw [a1]; rfl)
  have hT2 : tg_T bs (sf_sl r (sf_pt r s1 τ2)) := a3.kept fun a b hab => tq_in (by omega)
  obtain ⟨τ3, b1, b2, b3⟩ := tg_plan1 t1 (by rw [t2]; exact r1) hT2
  have hpn : dW_plan r (sf_pt r s1 τ2) = some (nI (tt_sz T), sf_pt r (sf_pt r s1 τ2) τ3) := tq_on b1
  generalize hs3 : sf_pt r (sf_pt r s1 τ2) τ3 = s3 at hpn
  have hs3i : ∀ a b, a < 59 → sf_sl r s3 a b = τ3 a b := fun a b hab => by rw [← hs3]; exact tq_in hab
  have hH : tg_H T (sf_sl r s3) := b2.kept fun a b hab => hs3i a b (by omega)
  have hz0 := tt_wf_sz t1.1
  have hz40 := t1.2.2.2.2
  have htx : dW_text r (-1) s3 = some (nI bs.length, s3) := tq_rd (by
    have e14 : sf_sl r s3 1 4 = nI (tt_sz T) := by rw [hH.1.1.1, tt_fl_len]
    unfold dX11_text
    rw [if_pos (by rw [e14]; exact nI_ne0 (by omega) (by omega)), if_neg (by simp), hH.2.1, hpl, Nat.min_eq_right (by omega)])
  refine ⟨s3, ?_, hH, fun a b hab => ?_, fun a b h1 h2 => ?_⟩
  · unfold dL_plans
    rw [hw]
    simp only [Option.bind_some]
    rw [if_pos (nI_pos' (by omega))]
    have e0 : dL_plans_20 ns r sf_F (nI at_) 0 1 0 0 (sf_up σ (r + 46) 2 0) = dL_plans_20 ns r sf_F (nI at_) (lN (tg_P [0])) (nI [0].length) (nI 0) (nI 0) (sf_up σ (r + 46) 2 0) := by
      rw [show (0 : Int64) = lN (tg_P [0]) from by decide +kernel, show (1 : Int32) = nI [0].length from by decide +kernel, sc_0]
    rw [e0, hf, Nat.zero_add, Nat.zero_add]
    simp only [dL_plans_20]
    rw [if_pos (by decide), hfa]
    simp only [Option.bind_some]
    rw [if_neg (by simp), hpn]
    simp only [Option.bind_some]
    rw [hsz, if_neg (by simp), htx]
    simp only [Option.bind_some]
    rw [if_neg (by simp)]
  · rw [← hs3]
    have e1 : ∀ (u v : sf_S), sf_pt r u v a b = u a b := fun u v => if_neg hab
    rw [e1, e1, hne1 a b (by omega)]
  · rw [hs3i a b (by omega), b3 a b (by omega), tq_in (by omega), a4 a b (by omega)]
    unfold sf_sl
    exact hne1 _ _ (by omega)
