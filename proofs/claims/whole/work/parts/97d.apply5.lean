/-! each rule -/
theorem sc_dd_Xs {n k : Nat} {X : Nat → Nat → Int32} (hd : sc_dd n (X 0) (X 2)) (hk : k + 1 < n) : sc_dd n (sc_Xs X k 0) (sc_Xs X k 2) := by
  obtain ⟨h1, h2⟩ := hd
  have c0 : ∀ j, sc_dc (sc_Xs X k 0) (sc_Xs X k 2) j = if j = k then sc_dc (X 0) (X 2) (k + 1) else if j = k + 1 then sc_dc (X 0) (X 2) k else sc_dc (X 0) (X 2) j := fun j => by
    unfold sc_dc sc_Xs
    by_cases a : j = k
    · simp only [a, if_true]
    · by_cases b : j = k + 1
      · simp only [b, show ¬ k + 1 = k by omega, if_true, if_false]
      · simp only [a, b, if_false]
  refine ⟨fun j hj q => ?_, ?_⟩
  · unfold sc_Xs at q ⊢
    by_cases a : j = k
    · rw [if_pos a] at q ⊢; exact h1 _ hk q
    · rw [if_neg a] at q ⊢
      by_cases b : j = k + 1
      · rw [if_pos b] at q ⊢; exact h1 _ (by omega) q
      · rw [if_neg b] at q ⊢; exact h1 j hj q
  · have e1 := sc_ds_shift (C := sc_dc (X 0) (X 2)) (C' := sc_dc (sc_Xs X k 0) (sc_Xs X k 2)) (b := k + 1 + 1) (m := 0) n (by omega) (fun j hj _ => by rw [c0, if_neg (by omega), if_neg (by omega)]; rfl)
    have e2 := sc_ds_congr (C := sc_dc (X 0) (X 2)) (C' := sc_dc (sc_Xs X k 0) (sc_Xs X k 2)) k (fun j hj => by rw [c0, if_neg (by omega), if_neg (by omega)])
    simp only [Nat.add_zero] at e1
    have s5 : sc_ds (sc_dc (X 0) (X 2)) (k + 2) = sc_ds (sc_dc (X 0) (X 2)) (k + 1 + 1) := rfl
    have s6 : sc_ds (sc_dc (sc_Xs X k 0) (sc_Xs X k 2)) (k + 2) = sc_ds (sc_dc (sc_Xs X k 0) (sc_Xs X k 2)) (k + 1 + 1) := rfl
    have e3 := c0 k
    rw [if_pos rfl] at e3
    have e4 := c0 (k + 1)
    rw [if_neg (by omega), if_pos rfl] at e4
    have s1 : sc_ds (sc_dc (sc_Xs X k 0) (sc_Xs X k 2)) (k + 1 + 1) = sc_ds (sc_dc (sc_Xs X k 0) (sc_Xs X k 2)) k + sc_dc (sc_Xs X k 0) (sc_Xs X k 2) k + sc_dc (sc_Xs X k 0) (sc_Xs X k 2) (k + 1) := rfl
    have s2 : sc_ds (sc_dc (X 0) (X 2)) (k + 1 + 1) = sc_ds (sc_dc (X 0) (X 2)) k + sc_dc (X 0) (X 2) k + sc_dc (X 0) (X 2) (k + 1) := rfl
    omega
theorem sc_apNil {q n k r : Nat} {E : Nat → Nat} {σ τ : sf_S} (h : sc_Pq (sf_pl q) n E σ τ) (hk : k < n) (hr : r = 9 ∨ r = 11) (hw : sc_ws (τ 11) k + 25 ≤ sc_ws (τ 11) (E k)) : sc_ap q r k σ τ := by
  have h' := h
  obtain ⟨p1, p2, p3, p4, p5, p6, p7, p8, p9, p10⟩ := h'
  obtain ⟨hXc, hXm⟩ := h.X
  obtain ⟨s, s1, s2, s3⟩ := sc_makeNil (E := E) hXc p2 hk (p8.1 k hk).1 (p6.lt hk)
  obtain ⟨t, t1, t2, t3⟩ := sc_nilOp (E := E) hXm p2 hk (p9.1 k hk).1 (p6.lt hk)
  refine ⟨_, _, s, t, ?_, ?_, s2, t2, sc_Xn_ok h.ok p6 hk hw, s3, t3, sc_ddn p2 p4 (fun hd => sc_dd_Xn (X := sc_X0 τ) hd (by have := p6.lt hk; omega))⟩
  · rw [sc_applyC q r k σ (by omega), if_pos (by omega), s1]; rfl
  · unfold dX12_uses dX12_usesMore
    rw [t1]
    obtain ⟨c1, c2, c3, c4, c5, c6, c7, c8, c9, c10, c11, c12⟩ := sc_e12
    rw [if_pos (sc_inI (by omega) (by omega))]
    rcases hr with rfl | rfl
    · rw [← c9]; rfl
    · rw [← c11]; rfl
theorem sc_ap0 {q n k : Nat} {E : Nat → Nat} {σ τ : sf_S} (h : sc_Pq (sf_pl q) n E σ τ) (hk : k < n) (hl : τ 11 k = 114) : sc_ap q 0 k σ τ := by
  have h' := h
  obtain ⟨p1, p2, p3, p4, p5, p6, p7, p8, p9, p10⟩ := h'
  obtain ⟨hXc, hXm⟩ := h.X
  have hE : E k = k + 1 := p6.p0 hk (by rw [hl]; decide +kernel)
  obtain ⟨s, s1, s2, s3⟩ := sc_makeNil (E := E) hXc p2 hk (p8.1 k hk).1 (p6.lt hk)
  obtain ⟨t, t1, t2, t3⟩ := sc_becomes hXm (show k < 40 by omega) 114 0 0
  have hw : sc_ws (τ 11) k + 25 ≤ sc_ws (τ 11) (E k) := by
    rw [hE, sc_ws, hl]; exact Nat.le_refl _
  have hok := sc_Xn_ok h.ok p6 hk hw
  rw [show E k - (k + 1) = 0 by omega, Nat.sub_zero] at s2 hok
  refine ⟨n, sc_Xn (sc_X0 τ) k 0, s, t, ?_, ?_, s2, t2.congr (fun c hc j hj => ?_), hok, s3, t3, sc_ddn p2 p4 (fun hd => sc_dd_Xn (X := sc_X0 τ) (m := 0) hd (by omega))⟩
  · rw [sc_applyC q 0 k σ (by omega), if_pos (by omega), s1]; rfl
  · unfold dX12_uses
    rw [if_pos (sc_inI (by omega) (by omega)), ← sc_0, if_pos rfl, t1]
    rfl
  · unfold sc_Xn sc_Xd sc_sh
    rw [show (if j < k + 1 then j else j + 0) = j by split <;> omega]
theorem sc_ap10 {q n k : Nat} {E : Nat → Nat} {σ τ : sf_S} (h : sc_Pq (sf_pl q) n E σ τ) (hk : k < n) (hp : sc_p (τ 11 k) = 1) : sc_ap q 10 k σ τ := by
  have h' := h
  obtain ⟨p1, p2, p3, p4, p5, p6, p7, p8, p9, p10⟩ := h'
  obtain ⟨hXc, hXm⟩ := h.X
  obtain ⟨g1, g2⟩ := sc_st_p1 p6 hk hp
  obtain ⟨s, s1, s2, s3⟩ := sc_Xc_cut (a := k) (m := 1) (x := nI k) (y := nI k + 1) hXc p2 (by omega) rfl (by rw [nI_1])
  obtain ⟨t, t1, t2, t3⟩ := sc_Xm_cut (a := k) (m := 1) (x := nI k) (y := 1) hXm p2 (by omega) rfl sc_1
  have hok : sc_Xok (n - 1) (sc_Xd (sc_X0 τ) k 1) := sc_Xd_ok h.ok (Or.inr trivial) (by omega) (by omega) (fun _ _ => rfl) g1 (fun j hj => h.ok.2.2.2.1 _ (by unfold sc_sh; split <;> omega))
  refine ⟨n - 1, _, s, t, ?_, ?_, s2, t2, hok, s3, t3, sc_ddn p2 p4 (fun hd => sc_dd_Xd (X := sc_X0 τ) hd (by omega))⟩
  · rw [sc_applyC q 10 k σ (by omega), if_neg (by omega), if_neg (by omega), if_neg (by omega), if_pos rfl, s1]; rfl
  · unfold dX12_uses dX12_usesMore
    obtain ⟨c1, c2, c3, c4, c5, c6, c7, c8, c9, c10, c11, c12⟩ := sc_e12
    rw [if_pos (sc_inI (by omega) (by omega)), t1, ← c10]
    rfl
theorem sc_ap12 {q n k : Nat} {E : Nat → Nat} {σ τ : sf_S} (h : sc_Pq (sf_pl q) n E σ τ) (hk : k < n) (hl : τ 11 k = 99) (hc : sc_nil τ (k + 1) = true ∨ (sc_nil τ (k + 1) = false ∧ sc_nil τ (E (k + 1)) = true)) : sc_ap q 12 k σ τ := by
  have h' := h
  obtain ⟨p1, p2, p3, p4, p5, p6, p7, p8, p9, p10⟩ := h'
  obtain ⟨hXc, hXm⟩ := h.X
  obtain ⟨g1, g2, g3, g4, g5⟩ := p6.p2 hk (by rw [hl]; decide +kernel)
  obtain ⟨m1, m2, m3⟩ := p9.1 k hk
  have hx : ¬ τ 11 k = 120 := by rw [hl]; decide
  have e16 : τ 16 k = nI (k + 1) := by rw [m2, sc_ps, if_neg hx]
  have e17 : τ 17 k = nI (E (k + 1)) := by rw [m3, sc_qs, if_neg hx, if_neg (by rw [hl]; decide +kernel)]
  have i1 : sf_in (nI k) 40 = true := sc_inI (by omega) (by omega)
  have hC : dX5_keepOnePart q (nI k) σ = if sc_nil τ (k + 1) = true then ((dX2_cut (sf_pl q) (nI k) (nI (E (k + 1))) σ).bind fun u => some u) else ((dX2_cut (sf_pl q) (nI (E (k + 1))) (nI (E (k + 1)) + 1) σ).bind fun u3 => (dX2_cut (sf_pl q) (nI k) (nI k + 1) u3).bind fun u4 => some u4) := by
    unfold dX5_keepOnePart
    rw [sc_2nd h g1]
    simp only [Option.bind_some, nI_1, sc_nilC h g1]
    cases sc_nil τ (k + 1) <;> rfl
  have hM : dX12_uses (nI k) (nI 12) τ = if sc_nil τ (k + 1) = true then ((dX12_cuts (nI k) 2 τ).bind fun u => dX12_uses_157 (nI 12) u) else ((dX12_cuts (nI (E (k + 1))) 1 τ).bind fun u3 => (dX12_cuts (nI k) 1 u3).bind fun u4 => dX12_uses_157 (nI 12) u4) := by
    obtain ⟨c1, c2, c3, c4, c5, c6, c7, c8, c9, c10, c11, c12⟩ := sc_e12
    have : dX12_usesMore (nI k) 12 (τ 13 (nI k).toNatClampNeg) τ = if sc_nil τ (k + 1) = true then ((dX12_cuts (nI k) 2 τ).bind fun u => some u) else ((dX12_cuts (nI (E (k + 1))) 1 τ).bind fun u3 => (dX12_cuts (nI k) 1 u3).bind fun u4 => some u4) := by
      unfold dX12_usesMore
      simp only [i1, if_true, sc_cl (show k < 2 ^ 31 by omega), e16, sc_nilM (τ := τ) (show k + 1 < 40 by omega), Option.bind_some, e17]
      cases sc_nil τ (k + 1) <;> rfl
    unfold dX12_uses
    rw [if_pos i1, ← c12]
    simp only []
    rw [this]
    cases sc_nil τ (k + 1)
    · simp only [Bool.false_eq_true, if_false]
      cases dX12_cuts (nI (E (k + 1))) 1 τ with
      | none => rfl
      | some u => simp only [Option.bind_some]; cases dX12_cuts (nI k) 1 u <;> rfl
    · simp only [if_true]
      cases dX12_cuts (nI k) 2 τ <;> rfl
  unfold sc_ap
  rw [sc_applyC q 12 k σ (by omega), if_neg (by omega), if_neg (by omega), if_neg (by omega), if_neg (by omega), if_pos rfl, hC, hM]
  rcases hc with hc | ⟨hc1, hc2⟩
  · have hl1 : τ 11 (k + 1) = 114 := (of_decide_eq_true hc).1
    have hE1 : E (k + 1) = k + 2 := p6.p0 g1 (by rw [hl1]; decide +kernel)
    rw [if_pos hc, if_pos hc]
    obtain ⟨s, s1, s2, s3⟩ := sc_Xc_cut (a := k) (m := 2) (x := nI k) (y := nI (E (k + 1))) hXc p2 (by omega) rfl (by rw [hE1])
    obtain ⟨t, t1, t2, t3⟩ := sc_Xm_cut (a := k) (m := 2) (x := nI k) (y := 2) hXm p2 (by omega) rfl sc_k2
    rw [s1, t1]
    have hst : sc_st (τ 11) k = sc_st (τ 11) (k + 2) := by
      obtain ⟨a, Y, t1, -, -, -, -, -, t7, -⟩ := p6 k hk
      obtain ⟨-, -, -, -, t9⟩ := t7 (by rw [hl]; decide +kernel)
      rw [hE1] at t9
      exact t1.trans t9.symm
    exact ⟨n - 2, _, s, t, rfl, rfl, s2, t2, sc_Xd_ok h.ok (Or.inr trivial) (by omega) (by omega) (fun _ _ => rfl) hst (fun j hj => h.ok.2.2.2.1 _ (by unfold sc_sh; split <;> omega)), s3, t3, sc_ddn p2 p4 (fun hd => sc_dd_Xd (X := sc_X0 τ) hd (by omega))⟩
  · have hl2 : τ 11 (E (k + 1)) = 114 := (of_decide_eq_true hc2).1
    rw [if_neg (by rw [hc1]; simp), if_neg (by rw [hc1]; simp)]
    obtain ⟨s, s1, s2, s3⟩ := sc_Xc_cut (a := E (k + 1)) (m := 1) (x := nI (E (k + 1))) (y := nI (E (k + 1)) + 1) hXc p2 (by omega) rfl (by rw [nI_1])
    obtain ⟨s', s1', s2', s3'⟩ := sc_Xc_cut (a := k) (m := 1) (x := nI k) (y := nI k + 1) s2 (by omega) (by omega) rfl (by rw [nI_1])
    obtain ⟨t, t1, t2, t3⟩ := sc_Xm_cut (a := E (k + 1)) (m := 1) (x := nI (E (k + 1))) (y := 1) hXm p2 (by omega) rfl sc_1
    obtain ⟨t', t1', t2', t3'⟩ := sc_Xm_cut (a := k) (m := 1) (x := nI k) (y := 1) t2 (by omega) (by omega) rfl sc_1
    rw [s1, t1]
    simp only [Option.bind_some]
    rw [s1', t1']
    exact ⟨n - 1 - 1, _, s', t', rfl, rfl, s2', t2', sc_Xc2_ok h.ok p6 hk hl hl2, sc_aC_tr s3 s3', sc_aM_tr t3 t3', sc_ddn p2 p4 (fun hd => sc_dd_Xd (X := sc_Xd (sc_X0 τ) (E (k + 1)) 1) (sc_dd_Xd (X := sc_X0 τ) hd (by omega)) (by omega))⟩
theorem sc_vn_116 {m f s : Int32} (h : sc_vn 116 m f s) : m = -1 ∧ s = 0 ∧ 0 ≤ f.toInt := ⟨by have := h.2.1; rwa [if_pos (by decide +kernel)] at this, h.2.2.2.1 (by decide +kernel), h.2.2.2.2.1 rfl⟩
theorem sc_vn_1 {c m f s : Int32} (h : sc_vn c m f s) (h1 : sc_nn c = 1) (h2 : sc_mk c = 0) : m = -1 ∧ s = 0 := ⟨by have := h.2.1; rwa [if_pos h2] at this, h.2.2.2.1 (by omega)⟩
theorem sc_ap5 {q n k : Nat} {E : Nat → Nat} {σ τ : sf_S} (h : sc_Pq (sf_pl q) n E σ τ) (hk : k < n) (h1 : τ 11 k = 100) (h2 : τ 11 (k + 1) = 116) : sc_ap q 5 k σ τ := by
  have h' := h
  obtain ⟨p1, p2, p3, p4, p5, p6, p7, p8, p9, p10⟩ := h'
  obtain ⟨hXc, hXm⟩ := h.X
  obtain ⟨g1, g2⟩ := p6.p1 hk (by rw [h1]; decide +kernel)
  have va := (p7 k hk).2.2.2.2
  have vb := (p7 (k + 1) g1).2.2.2.2
  rw [h1] at va
  rw [h2] at vb
  obtain ⟨va1, va2⟩ := sc_vn_1 va (by decide +kernel) (by decide +kernel)
  obtain ⟨vb1, vb2, vb3⟩ := sc_vn_116 vb
  obtain ⟨s, s1, s2, s3⟩ := sc_swapC hXc p2 g1
  obtain ⟨t, t1, t2, t3⟩ := sc_swapM hXm p2 g1 va2 vb2
  have i1 : sf_in (nI k) 40 = true := sc_inI (by omega) (by omega)
  have x2 : σ (sf_pl q + 3) k = τ 13 k := (p7 k hk).2.2.1
  have y2 : s (sf_pl q + 3) k = τ 13 (k + 1) := by
    have := s2.2 2 (by omega) k hk
    rw [Nat.add_assoc] at this
    rw [this]; unfold sc_Xs; rw [if_pos rfl]; rfl
  have z2 : t 13 k = τ 13 (k + 1) := by
    have := t2.2 2 (by omega) k hk
    rw [show (11 + 2 : Nat) = 13 from rfl] at this
    rw [this]; unfold sc_Xs; rw [if_pos rfl]; rfl
  generalize hv : (if (0 : Int32) < τ 13 (k + 1) - τ 13 k then τ 13 (k + 1) - τ 13 k else 0) = v
  have hv0 : 0 ≤ v.toInt := by
    rw [← hv]
    by_cases hlt : (0 : Int32) < τ 13 (k + 1) - τ 13 k
    · rw [if_pos hlt]
      rw [Int32.lt_iff_toInt_lt, sc_t0] at hlt
      omega
    · rw [if_neg hlt, sc_t0]; exact Int.le_refl _
  have s4 := sc_Xc_up s2 2 k v
  have t4 := sc_Xm_up t2 2 k v
  refine ⟨n, _, _, _, ?_, ?_, s4, t4, ?_, fun x y hxy => by rw [sc_upK (by omega)]; exact s3 x y hxy, fun x y hxy => by rw [sc_upK (by omega)]; exact t3 x y hxy, sc_ddn p2 p4 (fun hd => sc_dd_X1 (Y := sc_Xs (sc_X0 τ) k) (sc_dd_Xs (X := sc_X0 τ) hd g1) (by unfold sc_Xs; rw [if_pos rfl]; show ¬ τ 11 (k + 1) = 100; rw [h2]; decide))⟩
  · rw [sc_applyC q 5 k σ (by omega), if_neg (by omega), if_neg (by omega), if_pos rfl]
    unfold dX5_swapDropWithTake
    rw [sc_has1 hXc p2 hk]
    simp only [Option.bind_some, nI_1]
    rw [sc_has1 hXc p2 g1]
    simp only [Option.bind_some, i1, if_true, sc_cl (show k < 2 ^ 31 by omega), x2, s1, y2, hv]
    rw [if_neg (by decide), if_pos (by decide)]
    rfl
  · unfold dX12_uses
    obtain ⟨c1, c2, c3, c4, c5, c6, c7, c8, c9, c10, c11, c12⟩ := sc_e12
    rw [if_pos i1, ← c5]
    simp only [i1, if_true, sc_cl (show k < 2 ^ 31 by omega), t1, Option.bind_some, z2, sc_greater]
    rw [show (if (0 : Int32) ≤ τ 13 (k + 1) - τ 13 k then τ 13 (k + 1) - τ 13 k else 0) = v from by rw [← hv, sc_max2]]
    rfl
  · refine sc_Xs_ok h.ok p6 hk (by show sc_p (τ 11 k) = 1; rw [h1]; decide +kernel) (by show sc_p (τ 11 (k + 1)) = 1; rw [h2]; decide +kernel) (fun j => by unfold sc_X1; rw [if_neg (by omega)]) (fun j hj => ?_)
    unfold sc_X1 sc_Xs
    by_cases hjk : j = k
    · subst hjk
      simp only [and_true, if_true, show ¬ (0 : Nat) = 2 by decide, show ¬ (1 : Nat) = 2 by decide, show ¬ (3 : Nat) = 2 by decide, if_false]
      show sc_vn (τ 11 (j + 1)) (τ 12 (j + 1)) v (τ 14 (j + 1))
      rw [h2]
      exact ⟨vb.1, vb.2.1, fun e => absurd e (by decide +kernel), vb.2.2.2.1, fun _ => hv0, fun e => absurd e (by decide +kernel)⟩
    · simp only [hjk, and_false, if_false]
      by_cases hj1 : j = k + 1
      · simp only [hj1, if_true]
        exact (p7 k hk).2.2.2.2
      · simp only [hj1, if_false]
        exact (p7 j hj).2.2.2.2
theorem sc_ap34 {q n k r : Nat} {E : Nat → Nat} {σ τ : sf_S} (h : sc_Pq (sf_pl q) n E σ τ) (hk : k < n) (hr : r = 3 ∨ r = 4) (h1 : sc_nn (τ 11 k) = 1 ∧ sc_p (τ 11 k) = 1) (h2 : sc_nn (τ 11 (k + 1)) = 1 ∧ sc_p (τ 11 (k + 1)) = 1) : sc_ap q r k σ τ := by
  have h' := h
  obtain ⟨p1, p2, p3, p4, p5, p6, p7, p8, p9, p10⟩ := h'
  obtain ⟨hXc, hXm⟩ := h.X
  obtain ⟨g1, g2⟩ := p6.p1 hk h1.2
  have va := (p7 k hk).2.2.2.2
  have vb := (p7 (k + 1) g1).2.2.2.2
  obtain ⟨s, s1, s2, s3⟩ := sc_swapC hXc p2 g1
  obtain ⟨t, t1, t2, t3⟩ := sc_swapM hXm p2 g1 (va.2.2.2.1 (by omega)) (vb.2.2.2.1 (by omega))
  have i1 : sf_in (nI k) 40 = true := sc_inI (by omega) (by omega)
  refine ⟨n, _, s, t, ?_, ?_, s2, t2, ?_, s3, t3, sc_ddn p2 p4 (fun hd => sc_dd_Xs (X := sc_X0 τ) hd g1)⟩
  · rw [sc_applyC q r k σ (by omega), if_neg (by omega), if_pos (by omega), s1]; rfl
  · unfold dX12_uses
    obtain ⟨c1, c2, c3, c4, c5, c6, c7, c8, c9, c10, c11, c12⟩ := sc_e12
    rw [if_pos i1, t1]
    rcases hr with rfl | rfl
    · rw [← c3]; rfl
    · rw [← c4]; rfl
  · refine sc_Xs_ok h.ok p6 hk h1.2 h2.2 (fun j => rfl) (fun j hj => ?_)
    unfold sc_Xs
    by_cases hjk : j = k
    · simp only [hjk, if_true]; exact vb
    · by_cases hj1 : j = k + 1
      · simp only [hj1, show ¬ k + 1 = k by omega, if_true, if_false]; exact va
      · simp only [hjk, hj1, if_false]; exact (p7 j hj).2.2.2.2
