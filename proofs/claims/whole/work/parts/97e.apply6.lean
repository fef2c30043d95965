/-! the merging rules; any rule -/
theorem sc_apG {q n k r : Nat} {E : Nat → Nat} {σ τ : sf_S} (h : sc_Pq (sf_pl q) n E σ τ) (hk : k < n) (hr : (r = 1 ∧ τ 11 k = 116 ∧ τ 11 (k + 1) = 116) ∨ (r = 2 ∧ τ 11 k = 100 ∧ τ 11 (k + 1) = 100) ∨ (r = 6 ∧ τ 11 k = 116 ∧ τ 11 (k + 1) = 114) ∨ (r = 7 ∧ τ 11 k = 100 ∧ τ 11 (k + 1) = 114) ∨ (r = 8 ∧ τ 11 k = 100 ∧ τ 11 (k + 1) = 105)) : sc_ap q r k σ τ := by
  have h' := h
  obtain ⟨p1, p2, p3, p4, p5, p6, p7, p8, p9, p10⟩ := h'
  obtain ⟨hXc, hXm⟩ := h.X
  obtain ⟨c1, c2, c3, c4, c5, c6, c7, c8, c9, c10, c11, c12⟩ := sc_e12
  have hp : sc_p (τ 11 k) = 1 := by rcases hr with ⟨-, e, -⟩ | ⟨-, e, -⟩ | ⟨-, e, -⟩ | ⟨-, e, -⟩ | ⟨-, e, -⟩ <;> rw [e] <;> decide +kernel
  have hnn : sc_nn (τ 11 k) = 1 := by rcases hr with ⟨-, e, -⟩ | ⟨-, e, -⟩ | ⟨-, e, -⟩ | ⟨-, e, -⟩ | ⟨-, e, -⟩ <;> rw [e] <;> decide +kernel
  have hmk : sc_mk (τ 11 k) = 0 := by rcases hr with ⟨-, e, -⟩ | ⟨-, e, -⟩ | ⟨-, e, -⟩ | ⟨-, e, -⟩ | ⟨-, e, -⟩ <;> rw [e] <;> decide +kernel
  have hmk1 : sc_mk (τ 11 (k + 1)) = 0 := by rcases hr with ⟨-, -, e⟩ | ⟨-, -, e⟩ | ⟨-, -, e⟩ | ⟨-, -, e⟩ | ⟨-, -, e⟩ <;> rw [e] <;> decide +kernel
  have hr5 : r = 1 ∨ r = 2 ∨ r = 6 ∨ r = 7 ∨ r = 8 := by omega
  obtain ⟨g1, g2⟩ := p6.p1 hk hp
  have va := (p7 k hk).2.2.2.2
  have vb := (p7 (k + 1) g1).2.2.2.2
  obtain ⟨va1, va2⟩ := sc_vn_1 va hnn hmk
  have vb1 : τ 12 (k + 1) = -1 := by have := vb.2.1; rwa [if_pos hmk1] at this
  generalize hf : (if r = 1 then (if sc_X0 τ 2 (k + 1) < sc_X0 τ 2 k then sc_X0 τ 2 (k + 1) else sc_X0 τ 2 k) else if r = 2 then sc_X0 τ 2 k + sc_X0 τ 2 (k + 1) else if r = 7 then (if sc_X0 τ 2 (k + 1) + sc_X0 τ 2 k < sc_X0 τ 3 (k + 1) then sc_X0 τ 2 (k + 1) + sc_X0 τ 2 k else sc_X0 τ 3 (k + 1)) else if r = 8 then sc_X0 τ 2 (k + 1) + sc_X0 τ 2 k * sc_X0 τ 3 (k + 1) else sc_X0 τ 2 (k + 1)) = f
  generalize hs : (if r = 6 then (if sc_X0 τ 2 (k + 1) + sc_X0 τ 2 k < sc_X0 τ 3 (k + 1) then sc_X0 τ 2 (k + 1) + sc_X0 τ 2 k else sc_X0 τ 3 (k + 1)) else sc_X0 τ 3 (k + 1)) = s
  obtain ⟨σ', s1, s2, s3⟩ := sc_mergeC hXc p2 g1 hr5 hf.symm hs.symm
  have i1 : sf_in (nI k) 40 = true := sc_inI (by omega) (by omega)
  have i2 : sf_in (nI (k + 1)) 40 = true := sc_inI (by omega) (by omega)
  have hvn : sc_vn (sc_X0 τ 0 (k + 1)) (sc_X0 τ 1 (k + 1)) f s := by
    show sc_vn (τ 11 (k + 1)) (τ 12 (k + 1)) f s
    refine ⟨vb.1, vb.2.1, fun e => ?_, fun e => ?_, fun e => ?_, fun e => ?_⟩
    · exfalso
      rcases hr with ⟨-, -, e2⟩ | ⟨-, -, e2⟩ | ⟨-, -, e2⟩ | ⟨-, -, e2⟩ | ⟨-, -, e2⟩ <;> rw [e2] at e <;> exact absurd e (by decide +kernel)
    · rw [← hs]
      rcases hr with ⟨e1, -, e2⟩ | ⟨e1, -, e2⟩ | ⟨e1, -, e2⟩ | ⟨e1, -, e2⟩ | ⟨e1, -, e2⟩
      · rw [if_neg (by omega)]; exact vb.2.2.2.1 (by rw [e2]; decide +kernel)
      · rw [if_neg (by omega)]; exact vb.2.2.2.1 (by rw [e2]; decide +kernel)
      · exact absurd (by rw [e2]; decide +kernel) e
      · exact absurd (by rw [e2]; decide +kernel) e
      · exact absurd (by rw [e2]; decide +kernel) e
    · rcases hr with ⟨e1, e3, e2⟩ | ⟨-, -, e2⟩ | ⟨-, -, e2⟩ | ⟨-, -, e2⟩ | ⟨-, -, e2⟩
      · rw [← hf, if_pos e1]
        have a1 : 0 ≤ (τ 13 k).toInt := va.2.2.2.2.1 e3
        have a2 : 0 ≤ (τ 13 (k + 1)).toInt := vb.2.2.2.2.1 e2
        show 0 ≤ (if τ 13 (k + 1) < τ 13 k then τ 13 (k + 1) else τ 13 k).toInt
        split
        · exact a2
        · exact a1
      all_goals (rw [e2] at e; exact absurd e (by decide))
    · exfalso
      rcases hr with ⟨-, -, e2⟩ | ⟨-, -, e2⟩ | ⟨-, -, e2⟩ | ⟨-, -, e2⟩ | ⟨-, -, e2⟩ <;> rw [e2] at e <;> exact absurd e (by decide +kernel)
  have hok := sc_Xg_ok (X := sc_X0 τ) (f := f) (s := s) h.ok p6 hk hp hvn
  have hC : dX5_apply q (nI r) (nI k) σ = some σ' := by
    rw [sc_applyC q r k σ (by omega), if_neg (by omega), if_neg (by omega), if_neg (by omega), if_neg (by omega), if_neg (by omega), s1]; rfl
  have hdc : sc_X0 τ 0 (k + 1) ≠ 100 ∨ (sc_X0 τ 0 k = 100 ∧ sc_X0 τ 0 (k + 1) = 100 ∧ f = sc_X0 τ 2 k + sc_X0 τ 2 (k + 1)) := by
    rcases hr with ⟨-, -, e⟩ | ⟨e0, e1, e⟩ | ⟨-, -, e⟩ | ⟨-, -, e⟩ | ⟨-, -, e⟩
    · left; show ¬ τ 11 (k + 1) = 100; rw [e]; decide
    · right
      refine ⟨e1, e, ?_⟩
      rw [← hf, if_neg (by omega), if_pos e0]
    · left; show ¬ τ 11 (k + 1) = 100; rw [e]; decide
    · left; show ¬ τ 11 (k + 1) = 100; rw [e]; decide
    · left; show ¬ τ 11 (k + 1) = 100; rw [e]; decide
  -- the reference, behind its writing
  have fin : ∀ (Y : Nat → Nat → Int32) (t : sf_S), sc_Xm n Y t → sc_aM τ t → (∀ c, c < 4 → ∀ j, j < n → j ≠ k → Y c j = sc_X0 τ c j) → Y 0 k = sc_X0 τ 0 (k + 1) → Y 1 k = sc_X0 τ 1 (k + 1) → Y 2 k = f → Y 3 k = s → (dX12_uses (nI k) (nI r) τ = (dX12_cuts (nI (k + 1)) 1 t).bind fun u => dX12_uses_157 (nI r) u) → sc_ap q r k σ τ := fun Y t y1 y2 y3 y4 y5 y6 y7 y8 => by
    obtain ⟨t', t1, t2, t3⟩ := sc_mergeM y1 p2 g1 y3 y4 y5 y6 y7
    rw [t1] at y8
    exact ⟨n - 1, _, σ', t', hC, y8, s2, t2, hok, s3, sc_aM_tr y2 t3, sc_ddn p2 p4 (fun hd => sc_dd_Xg (X := sc_X0 τ) hd g1 hdc)⟩
  have e13 : sc_X0 τ 2 k = τ 13 k := rfl
  rcases hr with ⟨rfl, e1, e2⟩ | ⟨rfl, e1, e2⟩ | ⟨rfl, e1, e2⟩ | ⟨rfl, e1, e2⟩ | ⟨rfl, e1, e2⟩
  · simp only [if_true, show ¬ (1 : Nat) = 6 by decide, if_false] at hf hs
    refine fin (sc_X1 (sc_X0 τ) 2 k f) (sf_up τ 13 k f) (sc_Xm_up hXm 2 k f) (fun x y hxy => sc_upK (by omega)) (fun c hc j hj hjk => by unfold sc_X1; rw [if_neg (by omega)]) ?_ ?_ ?_ ?_ ?_
    · show τ 11 k = τ 11 (k + 1); rw [e1, e2]
    · show τ 12 k = τ 12 (k + 1); rw [va1, vb1]
    · unfold sc_X1; rw [if_pos ⟨rfl, rfl⟩]
    · show τ 14 k = s
      rw [va2, ← hs]; exact (vb.2.2.2.1 (by rw [e2]; decide +kernel)).symm
    · unfold dX12_uses
      rw [if_pos i1, ← c1]
      simp only [i1, i2, if_true, nI_1, sc_cl (show k < 2 ^ 31 by omega), sc_cl (show k + 1 < 2 ^ 31 by omega), sc_lesser, Option.bind_some]
      rw [show (if τ 13 (k + 1) ≤ τ 13 k then τ 13 (k + 1) else τ 13 k) = f from by rw [← hf, ← sc_min2]; rfl]
      rfl
  · simp only [show ¬ (2 : Nat) = 1 by decide, show ¬ (2 : Nat) = 6 by decide, if_true, if_false] at hf hs
    refine fin (sc_X1 (sc_X0 τ) 2 k f) (sf_up τ 13 k f) (sc_Xm_up hXm 2 k f) (fun x y hxy => sc_upK (by omega)) (fun c hc j hj hjk => by unfold sc_X1; rw [if_neg (by omega)]) ?_ ?_ ?_ ?_ ?_
    · show τ 11 k = τ 11 (k + 1); rw [e1, e2]
    · show τ 12 k = τ 12 (k + 1); rw [va1, vb1]
    · unfold sc_X1; rw [if_pos ⟨rfl, rfl⟩]
    · show τ 14 k = s
      rw [va2, ← hs]; exact (vb.2.2.2.1 (by rw [e2]; decide +kernel)).symm
    · unfold dX12_uses
      rw [if_pos i1, ← c2]
      simp only [i1, i2, if_true, nI_1, sc_cl (show k < 2 ^ 31 by omega), sc_cl (show k + 1 < 2 ^ 31 by omega)]
      rw [show τ 13 k + τ 13 (k + 1) = f from hf]
      rfl
  · simp only [show ¬ (6 : Nat) = 1 by decide, show ¬ (6 : Nat) = 2 by decide, show ¬ (6 : Nat) = 7 by decide, show ¬ (6 : Nat) = 8 by decide, if_true, if_false] at hf hs
    obtain ⟨t, t1, t2, t3⟩ := sc_becomes hXm (show k < 40 by omega) 114 f s
    refine fin _ t t2 t3 (fun c hc j hj hjk => by unfold sc_X4; rw [if_neg hjk]) ?_ ?_ ?_ ?_ ?_
    · unfold sc_X4; rw [if_pos rfl]; exact e2.symm
    · unfold sc_X4; rw [if_pos rfl]; exact vb1.symm
    · unfold sc_X4; rw [if_pos rfl]; rfl
    · unfold sc_X4; rw [if_pos rfl]; rfl
    · unfold dX12_uses dX12_usesMore
      rw [if_pos i1, ← c6]
      simp only [i2, if_true, nI_1, sc_cl (show k < 2 ^ 31 by omega), sc_cl (show k + 1 < 2 ^ 31 by omega), sc_lesser, Option.bind_some]
      rw [show (if τ 13 (k + 1) + τ 13 k ≤ τ 14 (k + 1) then τ 13 (k + 1) + τ 13 k else τ 14 (k + 1)) = s from by rw [← hs, ← sc_min2]; rfl, show τ 13 (k + 1) = f from hf, t1]
      simp only [Option.bind_some]
      cases dX12_cuts (nI (k + 1)) 1 t <;> rfl
  · simp only [show ¬ (7 : Nat) = 1 by decide, show ¬ (7 : Nat) = 2 by decide, show ¬ (7 : Nat) = 6 by decide, if_true, if_false] at hf hs
    obtain ⟨t, t1, t2, t3⟩ := sc_becomes hXm (show k < 40 by omega) 114 f s
    refine fin _ t t2 t3 (fun c hc j hj hjk => by unfold sc_X4; rw [if_neg hjk]) ?_ ?_ ?_ ?_ ?_
    · unfold sc_X4; rw [if_pos rfl]; exact e2.symm
    · unfold sc_X4; rw [if_pos rfl]; exact vb1.symm
    · unfold sc_X4; rw [if_pos rfl]; rfl
    · unfold sc_X4; rw [if_pos rfl]; rfl
    · unfold dX12_uses dX12_usesMore
      rw [if_pos i1, ← c7]
      simp only [i2, if_true, nI_1, sc_cl (show k < 2 ^ 31 by omega), sc_cl (show k + 1 < 2 ^ 31 by omega), sc_lesser, Option.bind_some]
      rw [show (if τ 13 (k + 1) + τ 13 k ≤ τ 14 (k + 1) then τ 13 (k + 1) + τ 13 k else τ 14 (k + 1)) = f from by rw [← hf, ← sc_min2]; rfl, show τ 14 (k + 1) = s from hs, t1]
      simp only [Option.bind_some]
      cases dX12_cuts (nI (k + 1)) 1 t <;> rfl
  · simp only [show ¬ (8 : Nat) = 1 by decide, show ¬ (8 : Nat) = 2 by decide, show ¬ (8 : Nat) = 6 by decide, show ¬ (8 : Nat) = 7 by decide, if_true, if_false] at hf hs
    obtain ⟨t, t1, t2, t3⟩ := sc_becomes hXm (show k < 40 by omega) 105 f s
    refine fin _ t t2 t3 (fun c hc j hj hjk => by unfold sc_X4; rw [if_neg hjk]) ?_ ?_ ?_ ?_ ?_
    · unfold sc_X4; rw [if_pos rfl]; exact e2.symm
    · unfold sc_X4; rw [if_pos rfl]; exact vb1.symm
    · unfold sc_X4; rw [if_pos rfl]; rfl
    · unfold sc_X4; rw [if_pos rfl]; rfl
    · unfold dX12_uses dX12_usesMore
      rw [if_pos i1, ← c8]
      simp only [i2, if_true, nI_1, sc_cl (show k < 2 ^ 31 by omega), sc_cl (show k + 1 < 2 ^ 31 by omega)]
      rw [show τ 13 (k + 1) + τ 13 k * τ 14 (k + 1) = f from hf, show τ 14 (k + 1) = s from hs, t1]
      simp only [Option.bind_some]
      cases dX12_cuts (nI (k + 1)) 1 t <;> rfl
theorem sc_apply {q n k r : Nat} {E : Nat → Nat} {σ τ : sf_S} (h : sc_Pq (sf_pl q) n E σ τ) (hk : k < n) (hr : r < 13) (hl : sc_rl τ E k r) : sc_ap q r k σ τ := by
  have hT := h.2.2.2.2.2.1
  have n1 : ∀ c : Int32, (c = 37 ∨ c = 42 ∨ c = 43) → sc_nn c = 1 ∧ sc_p c = 1 := fun c hc => by rcases hc with e | e | e <;> rw [e] <;> decide +kernel
  match r, hr, hl with
  | 0, _, hl => exact sc_ap0 h hk hl
  | 1, _, hl => exact sc_apG h hk (Or.inl ⟨rfl, hl⟩)
  | 2, _, hl => exact sc_apG h hk (Or.inr (Or.inl ⟨rfl, hl⟩))
  | 3, _, hl => exact sc_ap34 h hk (Or.inl rfl) (by rw [hl.1]; decide +kernel) (n1 _ hl.2)
  | 4, _, hl => exact sc_ap34 h hk (Or.inr rfl) (by rw [hl.1]; decide +kernel) (n1 _ hl.2)
  | 5, _, hl => exact sc_ap5 h hk hl.1 hl.2
  | 6, _, hl => exact sc_apG h hk (Or.inr (Or.inr (Or.inl ⟨rfl, hl⟩)))
  | 7, _, hl => exact sc_apG h hk (Or.inr (Or.inr (Or.inr (Or.inl ⟨rfl, hl⟩))))
  | 8, _, hl => exact sc_apG h hk (Or.inr (Or.inr (Or.inr (Or.inr ⟨rfl, hl⟩))))
  | 9, _, hl =>
    refine sc_apNil h hk (Or.inl rfl) ?_
    have e : sc_ws (τ 11) (k + 1) = sc_ws (τ 11) k + 25 := by
      rw [sc_ws, show τ 11 k = 116 from hl]; rfl
    have := sc_ws_mono (L := τ 11) (k + 1) (E k - (k + 1))
    have hlt := (hT.lt hk).1
    rw [show k + 1 + (E k - (k + 1)) = E k by omega] at this
    omega
  | 10, _, hl => exact sc_ap10 h hk (by rw [show τ 11 k = 100 from hl]; decide +kernel)
  | 11, _, hl =>
    refine sc_apNil h hk (Or.inr rfl) ?_
    obtain ⟨h1, h2⟩ := hl
    obtain ⟨-, i2, i3, i4⟩ := sc_inp h hk h1
    generalize sc_ps (τ 11) E k = j at h2 i2 i3 i4
    have e : sc_ws (τ 11) (j + 1) = sc_ws (τ 11) j + 25 := by
      rw [sc_ws, (of_decide_eq_true h2).1]; rfl
    have a1 := sc_ws_mono (L := τ 11) k (j - k)
    have a2 := sc_ws_mono (L := τ 11) (j + 1) (E k - (j + 1))
    rw [show k + (j - k) = j by omega] at a1
    rw [show j + 1 + (E k - (j + 1)) = E k by omega] at a2
    omega
  | 12, _, hl => exact sc_ap12 h hk hl.1 hl.2
  | r + 13, h, _ => omega
