/-! the calls fault, plan, node, text, rules -/
def sc_XC : Nat → Nat → Bool := fun a b => (a == 36 && b == 4) || a == 37 || a == 38 || a == 39 || a == 40 || a == 48 || (a == 46 && (b == 4 || b == 5 || b == 6))
def sc_XM : Nat → Nat → Bool := fun a b => a == 6 || a == 7 || a == 8 || a == 9 || a == 10 || (a == 0 && (b == 8 || b == 9 || b == 10 || b == 11 || b == 16))
theorem sc_rC_fr {σ σ' : sf_S} (h : sc_rC σ σ') : sc_fr sc_XC σ σ' := fun a b hab => h a b (by
  simp only [sc_XC, Bool.or_eq_false_iff, Bool.and_eq_false_iff, beq_eq_false_iff_ne, ne_eq] at hab
  omega)
theorem sc_kF_fr {τ τ' : sf_S} (h : sc_kF τ τ') : sc_fr sc_XM τ τ' := fun a b hab => h a b (by
  simp only [sc_XM, Bool.or_eq_false_iff, Bool.and_eq_false_iff, beq_eq_false_iff_ne, ne_eq] at hab
  omega)
theorem sc_fault {σ τ : sf_S} (h : sc_Tx σ τ) : sc_pr sc_XC sc_XM (fun _ _ => True) σ τ (dX11_fault σ) (dX12_fault τ) := by
  obtain ⟨fl, σ', τ', h1, h2, h3, h4, -⟩ := sc_read h
  refine ⟨fl, σ', τ', ?_, ?_, sc_rC_fr h3, sc_kF_fr h4, trivial⟩
  · rw [dX11_fault, h1]; rfl
  · rw [dX12_fault, h2]; rfl
/-- the reference takes over what it read -/
theorem sc_planL {n : Nat} (hn : n ≤ 40) : ∀ (r k fuel : Nat) (τ : sf_S), k + r = n → r < fuel → τ 0 16 = nI n → (∀ j, j < k → τ 11 j = τ 7 j ∧ τ 12 j = τ 8 j ∧ τ 13 j = τ 9 j ∧ τ 14 j = τ 10 j) →
    ∃ s, dX12_plan_18 fuel (nI k) τ = ((dX12_places s).bind fun u2 => some ((u2 0 21), u2)) ∧ s 0 21 = nI n ∧ (∀ j, j < n → s 11 j = τ 7 j ∧ s 12 j = τ 8 j ∧ s 13 j = τ 9 j ∧ s 14 j = τ 10 j) ∧ ∀ x y, ¬ ((x = 0 ∧ y = 21) ∨ x = 11 ∨ x = 12 ∨ x = 13 ∨ x = 14) → s x y = τ x y := by
  intro r
  induction r with
  | zero =>
    intro k fuel τ hk hf h4 hA
    obtain ⟨m, rfl⟩ : ∃ m, fuel = m + 1 := ⟨fuel - 1, by omega⟩
    have hkn : k = n := by omega
    subst hkn
    refine ⟨sf_up τ 0 21 (nI k), ?_, sc_upS, fun j hj => ?_, fun x y hxy => ?_⟩
    · simp only [dX12_plan_18]
      rw [h4, if_pos (nI_le (by omega) (by omega))]
    · rw [sc_upK (by omega), sc_upK (by omega), sc_upK (by omega), sc_upK (by omega)]; exact hA j hj
    · by_cases hx : x = 0
      · subst hx; exact sc_upJ (by omega)
      · exact sc_upK hx
  | succ r ih =>
    intro k fuel τ hk hf h4 hA
    obtain ⟨m, rfl⟩ : ∃ m, fuel = m + 1 := ⟨fuel - 1, by omega⟩
    have hin : sf_in (nI k) 40 = true := sc_inI (by omega) (by omega)
    generalize hu : sf_up (sf_up (sf_up (sf_up τ 11 k (τ 7 k)) 12 k (τ 8 k)) 13 k (τ 9 k)) 14 k (τ 10 k) = u
    have un : ∀ x y, ¬ (x = 11 ∨ x = 12 ∨ x = 13 ∨ x = 14) → u x y = τ x y := fun x y hxy => by
      rw [← hu, sc_upK (by omega), sc_upK (by omega), sc_upK (by omega), sc_upK (by omega)]
    obtain ⟨s, s1, s2, s3, s4⟩ := ih (k + 1) m u (by omega) (by omega) (by rw [un _ _ (by omega)]; exact h4) (fun j hj => by
      rw [un 7 j (by omega), un 8 j (by omega), un 9 j (by omega), un 10 j (by omega), ← hu]
      by_cases hjk : j = k
      · subst hjk
        simp (disch := omega) only [sc_upK, sc_upS]
        exact ⟨trivial, trivial, trivial, trivial⟩
      · simp (disch := omega) only [sc_upK, sc_upJ]
        exact hA j (by omega))
    refine ⟨s, ?_, s2, fun j hj => ?_, fun x y hxy => by rw [s4 x y hxy, un x y (by omega)]⟩
    · simp only [dX12_plan_18]
      rw [h4, if_neg (nI_ge (by omega) (by omega))]
      simp (disch := omega) only [hin, if_true, sc_cl (show k < 2 ^ 31 by omega), nI_1, sc_upK]
      rw [hu]
      exact s1
    · have := s3 j hj
      rw [un 7 j (by omega), un 8 j (by omega), un 9 j (by omega), un 10 j (by omega)] at this
      exact this
/-- a plan is printed -/
theorem sc_print {n : Nat} {L M F S : Nat → Int32} {σ : sf_S} (hn : n ≤ 40) (hv : ∀ j, j < n → sc_vn (L j) (M j) (F j) (S j)) (h4 : σ 1 4 = nI n) (hA : ∀ j, j < n → σ 2 j = L j ∧ σ 3 j = M j ∧ σ 4 j = F j ∧ σ 5 j = S j) (hw : sc_ws L n ≤ 400) :
    ∃ s, dX3_print σ = some s ∧ (∀ a b, ¬ (a = 12 ∨ (a = 11 ∧ b = 2)) → s a b = σ a b) ∧ s 11 2 = nI (sc_tr L M F S 0 n).length ∧ ∀ i x, (sc_tr L M F S 0 n)[i]? = some x → s 12 i = x := by
  have hF := sf_F_le
  have h := sc_printL hn hv n 0 0 sf_F (sf_up σ 11 2 0) (by omega) (by omega) (by rw [sc_upK (by omega)]; exact h4) (fun j hj => by
    rw [sc_upK (by omega), sc_upK (by omega), sc_upK (by omega), sc_upK (by omega)]; exact hA j hj) (by rw [sc_upS, sc_0]) (by omega)
  refine ⟨sc_em 12 11 2 (sc_tr L M F S 0 n) 0 (sf_up σ 11 2 0), ?_, fun a b hab => ?_, ?_, fun i x hi => ?_⟩
  · unfold dX3_print
    simp only []
    rw [sc_0] at h ⊢
    exact h
  · rw [sc_em_ne _ _ _ _ _ (by omega) (by omega)]
    by_cases ha : a = 11
    · subst ha; exact sc_upJ (by omega)
    · exact sc_upK ha
  · rw [sc_em_cnt _ _ _ (by rw [sc_upS, sc_0]), Nat.zero_add]
  · have := sc_em_at (c := 12) (q := 11) (j := 2) (by omega) _ 0 (sf_up σ 11 2 (0 : Int32)) i x hi
    rwa [Nat.zero_add] at this
theorem sc_T_congr {n : Nat} {L L' : Nat → Int32} {E : Nat → Nat} (hL : ∀ j, j < n → L' j = L j) (hT : sc_T n L E) : sc_T n L' E := by
  have hst : ∀ x, x ≤ n → sc_st L' x = sc_st L x := fun x hx => sc_st_congr (fun j hj => hL j (by omega))
  intro k hk
  obtain ⟨a, X, h1, h2, h3, h4, h5, h6, h7, h8⟩ := hT k hk
  refine ⟨a, X, ?_, h2, h3, ?_, ?_, ?_, ?_, ?_⟩
  · rw [hst k (by omega)]; exact h1
  · rw [hst _ h3]; exact h4
  · rw [hL k hk]; exact h5
  · rw [hL k hk]
    intro q
    obtain ⟨g1, g2, g3⟩ := h6 q
    exact ⟨g1, g2, by rw [hst _ (by omega)]; exact g3⟩
  · rw [hL k hk]
    intro q
    obtain ⟨g1, g2, g3, g4, g5⟩ := h7 q
    exact ⟨g1, g2, g3, by rw [hst _ (by omega)]; exact g4, by rw [hst _ (by omega)]; exact g5⟩
  · rw [hL k hk]; exact h8
theorem sc_ni_congr {L L' : Nat → Int32} : ∀ {n : Nat}, (∀ j, j < n → L' j = L j) → sc_ni L' n = sc_ni L n
  | 0, _ => rfl
  | n + 1, h => by simp only [sc_ni]; rw [sc_ni_congr (n := n) (fun j hj => h j (by omega)), h n (by omega)]
theorem sc_en_congr {L L' : Nat → Int32} : ∀ {n : Nat}, (∀ j, j < n → L' j = L j) → sc_en L' n = sc_en L n
  | 0, _ => rfl
  | n + 1, h => by simp only [sc_en]; rw [sc_en_congr (n := n) (fun j hj => h j (by omega)), h n (by omega)]
theorem sc_MC_congr {q n : Nat} {L L' : Nat → Int32} {E : Nat → Nat} {σ : sf_S} (hL : ∀ j, j < n → L' j = L j) (hT : sc_T n L E) (h : sc_MC q n L E σ) : sc_MC q n L' E σ := by
  obtain ⟨h1, ⟨h2, h3⟩, h4, h5⟩ := h
  refine ⟨fun j hj => ?_, ⟨h2, fun k hk => ?_⟩, h4, ?_⟩
  · have e : sc_pu L' E j = sc_pu L E j := by
      have := (hT.lt hj).2
      rw [sc_pu, sc_pu, sc_ni_congr (n := E j) (L := L) (fun i hi => hL i (by omega)), sc_ni_congr (n := j) (L := L) (fun i hi => hL i (by omega))]
    rw [e]; exact h1 j hj
  · have := h3 k hk
    unfold sc_Dk at this ⊢
    rw [hL k hk]; exact this
  · rw [sc_en_congr (n := n) (L := L) hL]; exact h5
def sc_PC : Nat → Nat → Bool := fun a b => decide (1 ≤ a ∧ a ≤ 12) || sc_XC a b
def sc_PM : Nat → Nat → Bool := fun a b => decide ((a = 0 ∧ b = 21) ∨ (11 ≤ a ∧ a ≤ 20)) || sc_XM a b
theorem sc_plan {σ τ : sf_S} (h : sc_Tx σ τ) (hp : sc_Pm σ τ) : sc_pr sc_PC sc_PM (fun σ' τ' => sc_Pm σ' τ' ∧ (sc_Dd τ → sc_Dd τ')) σ τ (dX11_plan σ) (dX12_plan τ) := by
  have hF := sf_F_le
  obtain ⟨fl, σ1, τ1, h1, h2, h3, h4, h5⟩ := sc_read h
  unfold dX11_plan dX12_plan
  rw [h1, h2]
  simp only [Option.bind_some]
  have wC : ∀ {s : sf_S}, sc_fr sc_PC σ1 s → sc_fr sc_PC σ s := fun q => sc_fr_tr (sc_fr_wk (sc_rC_fr h3) (fun a b hab => by simp only [sc_PC, Bool.or_eq_false_iff] at hab; exact hab.2)) q
  have wM : ∀ {s : sf_S}, sc_fr sc_PM τ1 s → sc_fr sc_PM τ s := fun q => sc_fr_tr (sc_fr_wk (sc_kF_fr h4) (fun a b hab => by simp only [sc_PM, Bool.or_eq_false_iff] at hab; exact hab.2)) q
  rcases h5 with ⟨f, hf, rfl⟩ | ⟨rfl, n, r0, rn, r36, r16, rG, rnd, rws⟩
  · rw [if_neg (sc_nm1 (by omega)), if_neg (sc_nm1 (by omega))]
    exact ⟨_, σ1, τ1, rfl, rfl, wC sc_fr_rf, wM sc_fr_rf, hp.kept (fun a b p1 p2 => h3 a b (by omega)) (fun a b p => h4 a b (by omega)), fun q => q.kept (fun a b p => h4 a b (by omega))⟩
  rw [if_pos rfl, if_pos rfl]
  -- the reference
  obtain ⟨s, s1, s2, s3, s4⟩ := sc_planL rn n 0 sf_F τ1 (by omega) (by omega) r16 (fun j hj => absurd hj (Nat.not_lt_zero j))
  have hG2 : sc_G n (s 11) := (sc_st_congr (L := τ1 7) (n := n) (fun j hj => (s3 j hj).1)).trans rG
  have hv : ∀ j, j < n → sc_vn (s 11 j) (s 12 j) (s 13 j) (s 14 j) := fun j hj => by
    obtain ⟨e1, e2, e3, e4⟩ := s3 j hj
    rw [e1, e2, e3, e4]; exact (rnd j hj).2.2.2.2.1
  have hG3 : sc_G n (σ1 (36 + 1)) := (sc_st_congr (L := τ1 7) (n := n) (fun j hj => (rnd j hj).1)).trans rG
  obtain ⟨E, σ2, hT2, c1, c2, c3, c4, c5⟩ := sc_take (q := 1) (r1 := 36) rn r0 (by omega) r36 hG3
  have eL : ∀ j, j < n → s 11 j = σ1 (36 + 1) j := fun j hj => (s3 j hj).1.trans ((rnd j hj).1).symm
  have hT : sc_T n (s 11) E := sc_T_congr eL hT2
  obtain ⟨τ2, t1, t2, t3⟩ := sc_placesM (L := s 11) rn hT (fun j hj => (hv j hj).1) s2 (fun j hj => rfl)
  rw [← sc_0] at s1
  rw [s1, t1]
  simp only [Option.bind_some]
  rw [c1]
  simp only [Option.bind_some]
  have hA : ∀ j, j < n → σ2 2 j = s 11 j ∧ σ2 3 j = s 12 j ∧ σ2 4 j = s 13 j ∧ σ2 5 j = s 14 j := fun j hj => by
    obtain ⟨q1, q2, q3, q4⟩ := c3 j hj
    obtain ⟨g1, g2, g3, g4, -⟩ := rnd j hj
    obtain ⟨e1, e2, e3, e4⟩ := s3 j hj
    exact ⟨q1.trans (g1.trans e1.symm), q2.trans (g2.trans e2.symm), q3.trans (g3.trans e3.symm), q4.trans (g4.trans e4.symm)⟩
  have hws : sc_ws (s 11) n ≤ 400 := by
    rw [sc_ws_congr (L := τ1 7) (n := n) (fun j hj => (s3 j hj).1)]; omega
  obtain ⟨σ3, p1, p2, p3, p4⟩ := sc_print rn hv c2 hA hws
  rw [p1]
  simp only [Option.bind_some]
  have k11 : ∀ a, 11 ≤ a → a ≤ 14 → τ2 a = s a := fun a q1 q2 => funext fun b => t2 a b (by omega)
  have e21 : τ2 0 21 = nI n := (t2 _ _ (by omega)).trans s2
  have e14 : σ3 1 4 = nI n := (p2 _ _ (by omega)).trans c2
  -- what measure found, in terms of the reference's letters
  have hMC : sc_MC 1 n (s 11) E σ3 := by
    have hm := sc_MC_congr eL hT2 c4
    have rr : ∀ a, 1 ≤ a → a ≤ 10 → σ3 a = σ2 a := fun a q1 q2 => funext fun b => p2 a b (by omega)
    unfold sc_MC at hm ⊢
    rw [rr (1 + 5) (by omega) (by omega), rr (1 + 6) (by omega) (by omega), rr (1 + 7) (by omega) (by omega), rr (1 + 8) (by omega) (by omega), rr (1 + 9) (by omega) (by omega), rr 1 (by omega) (by omega)]
    exact hm
  refine ⟨nI n, σ3, τ2, by rw [e14], by rw [e21], wC (fun a b hab => ?_), wM (fun a b hab => ?_), Or.inr ⟨n, E, ⟨r0, rn, e14, e21, ?_, ?_, ?_, ?_, ?_, ?_⟩, ?_, ?_⟩, fun _ => ⟨n, rn, e21, ?_⟩⟩
  · simp only [sc_PC, Bool.or_eq_false_iff, decide_eq_false_iff_not] at hab
    rw [p2 a b (by omega), c5 a b (by omega)]
  · simp only [sc_PM, Bool.or_eq_false_iff, decide_eq_false_iff_not] at hab
    rw [t2 a b (by omega), s4 a b (by omega)]
  · rw [k11 11 (by omega) (by omega)]; exact hG2
  · rw [k11 11 (by omega) (by omega)]; exact hT
  · intro j hj
    rw [k11 11 (by omega) (by omega), k11 12 (by omega) (by omega), k11 13 (by omega) (by omega), k11 14 (by omega) (by omega), p2 _ _ (by omega), p2 _ _ (by omega), p2 _ _ (by omega), p2 _ _ (by omega)]
    obtain ⟨q1, q2, q3, q4⟩ := hA j hj
    exact ⟨q1, q2, q3, q4, hv j hj⟩
  · rw [k11 11 (by omega) (by omega)]; exact hMC
  · rw [k11 11 (by omega) (by omega)]; exact t3
  · rw [k11 11 (by omega) (by omega)]; exact hws
  · rw [sc_tx, k11 11 (by omega) (by omega), k11 12 (by omega) (by omega), k11 13 (by omega) (by omega), k11 14 (by omega) (by omega)]; exact p3
  · rw [sc_tx, k11 11 (by omega) (by omega), k11 12 (by omega) (by omega), k11 13 (by omega) (by omega), k11 14 (by omega) (by omega)]; exact p4
  · rw [k11 11 (by omega) (by omega), k11 13 (by omega) (by omega)]
    refine sc_dd_0 rn (fun j hj q => ?_)
    obtain ⟨e1, e2, e3, e4⟩ := s3 j hj
    rw [e3]
    exact (rnd j hj).2.2.2.2.2 (by rw [← e1]; exact q)
