/-! rules that swap two nodes, or keep one part of a c -/
def sc_Xs (X : Nat → Nat → Int32) (k : Nat) : Nat → Nat → Int32 := fun c j => if j = k then X c (k + 1) else if j = k + 1 then X c k else X c j
theorem sc_swapC {p n k : Nat} {X : Nat → Nat → Int32} {σ : sf_S} (h : sc_Xc p n X σ) (hn : n ≤ 40) (hk : k + 1 < n) : ∃ σ', dX2_swapWithNext p (nI k) σ = some σ' ∧ sc_Xc p n (sc_Xs X k) σ' ∧ sc_aC p σ σ' := by
  obtain ⟨u, u1, u2, u3⟩ := sc_moveC (p := p) (k := k + 1) (t := k) (σ := σ) (by omega) (by omega)
  have i1 : sf_in (nI k) 40 = true := sc_inI (by omega) (by omega)
  have i2 : sf_in (nI (k + 1)) 40 = true := sc_inI (by omega) (by omega)
  unfold dX2_swapWithNext
  rw [sc_has1 h hn (by omega)]
  simp only [Option.bind_some, nI_1]
  rw [sc_has1 h hn hk]
  simp only [Option.bind_some, i1, i2, if_true, sc_cl (show k < 2 ^ 31 by omega), sc_cl (show k + 1 < 2 ^ 31 by omega), u1]
  rw [if_neg (by decide), if_pos (by decide)]
  have hu : sc_Xc p n (fun c j => if j = k then X c (k + 1) else X c j) u := by
    refine ⟨by rw [u3 _ _ (by omega)]; exact h.1, fun c hc j hj => ?_⟩
    have := u2 (1 + c) (by omega) (by omega) j
    rw [← Nat.add_assoc] at this
    rw [this]
    show _ = if j = k then X c (k + 1) else X c j
    by_cases hjk : j = k
    · rw [if_pos hjk, if_pos hjk]; exact h.2 c hc _ hk
    · rw [if_neg hjk, if_neg hjk]; exact h.2 c hc j hj
  obtain ⟨w1, w2⟩ := sc_Xc_4 (k := k + 1) hu (σ (p + 1) k) (σ (p + 2) k) (σ (p + 3) k) (σ (p + 4) k)
  refine ⟨_, rfl, w1.congr (fun c hc j hj => ?_), sc_aC_tr (fun x y hxy => u3 x y (by omega)) w2⟩
  have x0 := h.2 0 (by omega) k (by omega)
  have x1 := h.2 1 (by omega) k (by omega)
  have x2 := h.2 2 (by omega) k (by omega)
  have x3 := h.2 3 (by omega) k (by omega)
  simp only [Nat.add_zero, Nat.add_assoc, Nat.reduceAdd] at x0 x1 x2 x3
  show (if j = k then X c (k + 1) else if j = k + 1 then X c k else X c j) = (if j = k + 1 then sc_w4 (σ (p + 1) k) (σ (p + 2) k) (σ (p + 3) k) (σ (p + 4) k) c else if j = k then X c (k + 1) else X c j)
  by_cases hj1 : j = k + 1
  · subst hj1
    rw [if_neg (by omega), if_pos rfl, if_pos rfl]
    rcases (by omega : c = 0 ∨ c = 1 ∨ c = 2 ∨ c = 3) with q | q | q | q <;> subst q
    · exact x0.symm
    · exact x1.symm
    · exact x2.symm
    · exact x3.symm
  · by_cases hjk : j = k
    · rw [if_pos hjk, if_neg hj1, if_pos hjk]
    · rw [if_neg hjk, if_neg hj1, if_neg hj1, if_neg hjk]
theorem sc_swapM {n k : Nat} {X : Nat → Nat → Int32} {τ : sf_S} (h : sc_Xm n X τ) (hn : n ≤ 40) (hk : k + 1 < n) (h3 : X 3 k = 0) (h31 : X 3 (k + 1) = 0) : ∃ τ', dX12_turns (nI k) τ = some τ' ∧ sc_Xm n (sc_Xs X k) τ' ∧ sc_aM τ τ' := by
  have i1 : sf_in (nI k) 40 = true := sc_inI (by omega) (by omega)
  have i2 : sf_in (nI (k + 1)) 40 = true := sc_inI (by omega) (by omega)
  have y0 := h.2 0 (by omega) k (by omega)
  have y1 := h.2 1 (by omega) k (by omega)
  have y2 := h.2 2 (by omega) k (by omega)
  have z0 := h.2 0 (by omega) (k + 1) hk
  have z1 := h.2 1 (by omega) (k + 1) hk
  have z2 := h.2 2 (by omega) (k + 1) hk
  simp only [Nat.reduceAdd] at y0 y1 y2 z0 z1 z2
  unfold dX12_turns
  simp only [i1, i2, if_true, sc_cl (show k < 2 ^ 31 by omega), sc_cl (show k + 1 < 2 ^ 31 by omega), nI_1, y0, y1, y2, z0, z2]
  obtain ⟨s, s1, s2, s3⟩ := sc_becomes h (show k < 40 by omega) (X 0 (k + 1)) (X 2 (k + 1)) 0
  rw [s1]
  simp only [Option.bind_some]
  have w1 := s2.2 1 (by omega) (k + 1) hk
  have ew : s 12 (k + 1) = X 1 (k + 1) := by
    have : s (11 + 1) (k + 1) = X 1 (k + 1) := by rw [w1]; unfold sc_X4; rw [if_neg (by omega)]
    exact this
  rw [ew]
  have t2 := sc_Xm_up s2 1 k (X 1 (k + 1))
  obtain ⟨u, u1, u2, u3⟩ := sc_becomes t2 (show k + 1 < 40 by omega) (X 0 k) (X 2 k) 0
  have e1 : sf_up s (11 + 1) k (X 1 (k + 1)) = sf_up s 12 k (X 1 (k + 1)) := rfl
  rw [e1] at u1 u3
  rw [u1]
  simp only [Option.bind_some]
  have v2 := sc_Xm_up u2 1 (k + 1) (X 1 k)
  refine ⟨sf_up u 12 (k + 1) (X 1 k), rfl, v2.congr (fun c hc j hj => ?_), fun x y hxy => ?_⟩
  · unfold sc_Xs sc_X1 sc_X4
    by_cases hj1 : j = k + 1
    · subst hj1
      rcases (by omega : c = 0 ∨ c = 1 ∨ c = 2 ∨ c = 3) with q | q | q | q <;> subst q <;> simp [sc_w4, h3]
    · by_cases hjk : j = k
      · subst hjk
        rcases (by omega : c = 0 ∨ c = 1 ∨ c = 2 ∨ c = 3) with q | q | q | q <;> subst q <;> simp [sc_w4, h31]
      · simp [hj1, hjk]
  · rw [sc_upK (by omega), u3 x y hxy, sc_upK (by omega), s3 x y hxy]
theorem sc_Xs_ok {n k : Nat} {X X' : Nat → Nat → Int32} {E : Nat → Nat} (h : sc_Xok n X) (hT : sc_T n (X 0) E) (hk : k < n) (hp : sc_p (X 0 k) = 1) (hp1 : sc_p (X 0 (k + 1)) = 1) (h0 : ∀ j, X' 0 j = sc_Xs X k 0 j) (hv : ∀ j, j < n → sc_vn (X' 0 j) (X' 1 j) (X' 2 j) (X' 3 j)) : sc_Xok n X' := by
  obtain ⟨g0, hn, hG, -, hws⟩ := h
  obtain ⟨a, Y, t1, -, -, -, -, t6, -, -⟩ := hT k hk
  obtain ⟨q1, q2, q3⟩ := t6 hp
  obtain ⟨a', Y', t1', -, -, -, -, t6', -, -⟩ := hT (k + 1) q1
  obtain ⟨q1', q2', q3'⟩ := t6' hp1
  rw [q3] at t1'; cases t1'
  have uv1 : ∀ c, sc_p c = 1 → sc_uv c = false := fun c hc => by
    cases e : sc_uv c
    · rfl
    · simp only [sc_uv, decide_eq_true_eq] at e
      rcases e with e | e <;> rw [e] at hc <;> exact absurd hc (by decide +kernel)
  have low : ∀ j, j < k → X' 0 j = X 0 j := fun j hj => by rw [h0]; unfold sc_Xs; rw [if_neg (by omega), if_neg (by omega)]
  have eK : X' 0 k = X 0 (k + 1) := by rw [h0]; unfold sc_Xs; rw [if_pos rfl]
  have eK1 : X' 0 (k + 1) = X 0 k := by rw [h0]; unfold sc_Xs; rw [if_neg (by omega), if_pos rfl]
  have up : ∀ j, k + 2 ≤ j → j < n → X' 0 j = X 0 (j + 0) := fun j hj _ => by rw [h0]; unfold sc_Xs; rw [if_neg (by omega), if_neg (by omega), Nat.add_zero]
  have stp : ∀ c, sc_p c = 1 → sc_stp c (a :: Y) = some (a :: Y) := fun c hc => by
    show (if sc_uv c = true ∧ a = 0 then none else some (sc_push c a Y)) = _
    rw [if_neg (by rw [uv1 c hc]; simp)]
    unfold sc_push
    rw [hc]
    rfl
  have s0 : sc_st (X' 0) k = some (a :: Y) := (sc_st_congr (L := X 0) (n := k) low).trans t1
  have s1 : sc_st (X' 0) (k + 1) = some (a :: Y) := by rw [sc_st, s0, eK]; exact stp _ hp1
  have s2 : sc_st (X' 0) (k + 2) = sc_st (X 0) (k + 2 + 0) := by
    rw [show sc_st (X' 0) (k + 2) = (sc_st (X' 0) (k + 1)).bind (sc_stp (X' 0 (k + 1))) from rfl, s1, eK1, Nat.add_zero, q3']
    exact stp _ hp
  refine ⟨g0, hn, ?_, hv, ?_⟩
  · have := sc_st_shift s2 n (by omega) up
    rw [Nat.add_zero] at this
    exact this.trans hG
  · have := sc_ws_shift (L := X 0) (L' := X' 0) (b := k + 2) (m := 0) n (by omega) up
    have e2 : sc_ws (X' 0) (k + 2) = sc_ws (X 0) (k + 2) := by
      rw [show sc_ws (X' 0) (k + 2) = sc_ws (X' 0) k + sc_ph (X' 0 k) + sc_ph (X' 0 (k + 1)) from rfl, show sc_ws (X 0) (k + 2) = sc_ws (X 0) k + sc_ph (X 0 k) + sc_ph (X 0 (k + 1)) from rfl, eK, eK1, sc_ws_congr (L := X 0) (n := k) low]
      omega
    simp only [Nat.add_zero] at this
    omega
/-- within a pipe the stack is higher than behind it -/
theorem sc_T.deep {n : Nat} {L : Nat → Int32} {E : Nat → Nat} (hT : sc_T n L E) {i a : Nat} {X : List Nat} (hi : i < n) (hs : sc_st L i = some (a :: X)) : ∀ j, i ≤ j → j < E i → ∃ A, A ≠ [] ∧ sc_st L j = some (A ++ X) := by
  refine hT.sub (P := fun j => ∃ A, A ≠ [] ∧ sc_st L j = some (A ++ X)) (fun k hk hP hp => ?_) (fun k hk hP hp => ?_) i hi ⟨[a], by simp, hs⟩
  · obtain ⟨A, hA, h1⟩ := hP
    obtain ⟨b, Y, t1, -, -, -, -, t6, t7, -⟩ := hT k hk
    rw [h1] at t1
    obtain ⟨b', A', rfl⟩ : ∃ b' A', A = b' :: A' := by
      cases A with
      | nil => exact absurd rfl hA
      | cons b' A' => exact ⟨b', A', rfl⟩
    have t1 := Option.some.inj t1
    simp only [List.cons_append, List.cons.injEq] at t1
    obtain ⟨rfl, rfl⟩ := t1
    rcases sc_p3 (L k) with q | q | q
    · omega
    · exact ⟨b' :: A', by simp, (t6 q).2.2⟩
    · exact ⟨(if L k = 120 then b' + 1 else b') :: b' :: A', by simp, (t7 q).2.2.2.1⟩
  · obtain ⟨A, hA, h1⟩ := hP
    obtain ⟨b, Y, t1, -, -, -, -, t6, t7, -⟩ := hT k hk
    exact ⟨A, hA, ((t7 hp).2.2.2.2.trans t1.symm).trans h1⟩
theorem sc_push_app (c : Int32) (b : Nat) (A Z : List Nat) : sc_push c b (A ++ Z) = sc_push c b A ++ Z := by
  unfold sc_push
  rcases sc_p3 c with q | q | q <;> simp [q]
theorem sc_ws_del {L L' : Nat → Int32} {n b : Nat} (hb : b < n) (h1 : ∀ j, j < b → L' j = L j) (h2 : ∀ j, b ≤ j → j < n - 1 → L' j = L (j + 1)) : sc_ws L' (n - 1) ≤ sc_ws L n := by
  have := sc_ws_shift (L := L) (L' := L') (b := b) (m := 1) (n - 1) (by omega) h2
  rw [show n - 1 + 1 = n by omega, sc_ws_congr (L := L) (n := b) h1] at this
  have := sc_ws_mono (L := L) b 1
  omega
/-- both a c and its second part, a nil, are taken out -/
theorem sc_Xc2_ok {n k : Nat} {X : Nat → Nat → Int32} {E : Nat → Nat} (h : sc_Xok n X) (hT : sc_T n (X 0) E) (hk : k < n) (hc : X 0 k = 99) (he : X 0 (E (k + 1)) = 114) : sc_Xok (n - 1 - 1) (sc_Xd (sc_Xd X (E (k + 1)) 1) k 1) := by
  obtain ⟨h0, hn, hG, hv, hws⟩ := h
  obtain ⟨q1, q2, q3, q4, q5⟩ := hT.p2 hk (by rw [hc]; decide +kernel)
  obtain ⟨a, Y, t1, -, -, -, -, -, t7, -⟩ := hT k hk
  obtain ⟨-, -, -, t8, t9⟩ := t7 (by rw [hc]; decide +kernel)
  rw [if_neg (by rw [hc]; decide)] at t8
  generalize hL : sc_Xd (sc_Xd X (E (k + 1)) 1) k 1 0 = L'
  have low : ∀ j, j < k → L' j = X 0 j := fun j hj => by rw [← hL]; unfold sc_Xd sc_sh; rw [if_pos hj, if_pos (by omega)]
  have mid : ∀ j, k ≤ j → j + 1 < E (k + 1) → L' j = X 0 (j + 1) := fun j hj hj2 => by
    rw [← hL]
    show X 0 (sc_sh (E (k + 1)) 1 (sc_sh k 1 j)) = _
    rw [show sc_sh k 1 j = j + 1 from if_neg (by omega), sc_sh, if_pos hj2]
  have up : ∀ j, E (k + 1) - 1 ≤ j → j < n - 2 → L' j = X 0 (j + 2) := fun j hj hj2 => by
    rw [← hL]
    show X 0 (sc_sh (E (k + 1)) 1 (sc_sh k 1 j)) = _
    rw [show sc_sh k 1 j = j + 1 from if_neg (by omega), sc_sh, if_neg (by omega)]
  have key : ∀ d, k + 1 + d ≤ E (k + 1) → ∃ A, sc_st (X 0) (k + 1 + d) = some (A ++ (a :: Y)) ∧ sc_st L' (k + d) = some (A ++ Y) := by
    intro d
    induction d with
    | zero => intro _; exact ⟨[a], t8, (sc_st_congr (L := X 0) (n := k) low).trans t1⟩
    | succ d ih =>
      intro hd
      obtain ⟨A, s1, s2⟩ := ih (by omega)
      obtain ⟨A', hA', s3⟩ := hT.deep q1 t8 (k + 1 + d) (by omega) (by omega)
      have hAA : A = A' := List.append_cancel_right (Option.some.inj (s1.symm.trans s3))
      subst hAA
      obtain ⟨b, B, rfl⟩ : ∃ b B, A = b :: B := by
        cases A with
        | nil => exact absurd rfl hA'
        | cons b B => exact ⟨b, B, rfl⟩
      rw [List.cons_append] at s1 s2
      obtain ⟨n1, n2⟩ := sc_st_next hG (by omega) s1
      refine ⟨sc_push (X 0 (k + 1 + d)) b B, ?_, ?_⟩
      · rw [show k + 1 + (d + 1) = k + 1 + d + 1 by omega, n1, sc_push_app]
      · rw [show k + (d + 1) = k + d + 1 by omega, sc_st, s2, mid (k + d) (by omega) (by omega), show k + d + 1 = k + 1 + d by omega, Option.bind_some, sc_stp, if_neg n2, sc_push_app]
  obtain ⟨A, s1, s2⟩ := key (E (k + 1) - (k + 1)) (by omega)
  rw [show k + 1 + (E (k + 1) - (k + 1)) = E (k + 1) by omega, t9] at s1
  rw [show k + (E (k + 1) - (k + 1)) = E (k + 1) - 1 by omega] at s2
  have hA0 : A = [] := by
    have : [] ++ (a :: Y) = A ++ (a :: Y) := Option.some.inj s1
    exact (List.append_cancel_right this).symm
  subst hA0
  have st2 : sc_st L' (E (k + 1) - 1) = sc_st (X 0) (E (k + 1) - 1 + 2) := by
    obtain ⟨n1, -⟩ := sc_st_next hG q3 t9
    rw [s2, show E (k + 1) - 1 + 2 = E (k + 1) + 1 by omega, n1, he]
    rfl
  refine ⟨by omega, by omega, ?_, fun j hj => ?_, ?_⟩
  · show sc_st (sc_Xd (sc_Xd X (E (k + 1)) 1) k 1 0) (n - 1 - 1) = some []
    rw [hL]
    have := sc_st_shift st2 (n - 2) (by omega) (fun j a b => up j a b)
    rw [show n - 2 + 2 = n by omega] at this
    exact this.trans hG
  · exact hv _ (by unfold sc_sh; split <;> split <;> omega)
  · have w1 := sc_ws_del (L := X 0) (L' := sc_Xd X (E (k + 1)) 1 0) (n := n) (b := E (k + 1)) q3 (fun j hj => by unfold sc_Xd sc_sh; rw [if_pos hj]) (fun j hj _ => by unfold sc_Xd sc_sh; rw [if_neg (by omega)])
    have w2 := sc_ws_del (L := sc_Xd X (E (k + 1)) 1 0) (L' := sc_Xd (sc_Xd X (E (k + 1)) 1) k 1 0) (n := n - 1) (b := k) (by omega) (fun j hj => by show sc_Xd X (E (k + 1)) 1 0 (sc_sh k 1 j) = _; unfold sc_sh; rw [if_pos hj]) (fun j hj _ => by show sc_Xd X (E (k + 1)) 1 0 (sc_sh k 1 j) = _; unfold sc_sh; rw [if_neg (by omega)])
    omega
