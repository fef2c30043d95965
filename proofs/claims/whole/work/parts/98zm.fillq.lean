/-! way 2: the row of a producer, both sides -/
def sc_fpC (k : Nat) : Nat → Nat → Bool := fun a b => sc_rwC k a b || decide (a = 19 ∧ (b = 2 ∨ b = 5 ∨ b = 6))
theorem sc_fpC_r {k : Nat} {σ σ' : sf_S} (h : sc_fr (sc_rwC k) σ σ') : sc_fr (sc_fpC k) σ σ' := sc_fr_wk h (fun a b hab => by
  simp only [sc_fpC, Bool.or_eq_false_iff] at hab; exact hab.1)
def sc_FP (X : sc_X) (D np g k : Nat) (σ τ : sf_S) (x : Option (Int32 × sf_S)) (y : Option sf_S) : Prop := ∃ b σ' τ' e, x = some (sc_b b, σ') ∧ y = some τ' ∧ sc_W X (D + e) np g σ' τ' ∧ sc_fr (sc_fpC k) σ σ' ∧ sc_fr (sc_fpM k) τ τ' ∧ ((b = true ∧ σ' 19 5 = 0 ∧ sc_row k e σ' τ') ∨ (b = false ∧ ¬ σ' 19 5 = 0))
theorem sc_toI {S : Int64} {n : Nat} (h : S.toInt = n) (hn : n ≤ 60) : S.toInt32 = nI n := by
  apply Int32.toInt_inj.mp
  rw [Int64.toInt_toInt32, h, nI_toInt (by omega)]
  apply Int.bmod_eq_of_le <;> omega
theorem sc_l60 : (60 : Int64).toInt = 60 := by decide
theorem sc_fpT {X : sc_X} {D np g k n : Nat} {S S' : Int64} {x2 x3 : Int32} {v : Nat → Int32} {σ τ : sf_S} (hq : X.q = 32) (w : sc_W X D np g σ τ) (hk : k < X.n) (hfl : σ 19 5 = 0) (hr : sc_row k 0 σ τ) (hready : dX10_isReady 32 (nI k) σ = some (1, σ)) (hs : dX10_supply 32 (nI k) σ = some (S, σ)) (hS : S.toInt = n) (hS' : ∀ i : Nat, S'.toInt ≤ (i : Int) ↔ n ≤ i)
    (hv : n ≤ 60 → ∀ σ1 : sf_S, (∀ a b, a ≠ 34 → a ≠ 35 → a ≠ 19 → σ1 a b = σ a b) → ∀ i, i < n → dX10_supplied 32 (nI k) (nI i) σ1 = some (v i, σ1)) (hV : n ≤ 60 → sc_fpV X k n x2 x3 v τ) (h115 : X.L k = 115 → ∃ m, m < 4 ∧ x2 = nI m ∧ 0 ≤ τ 1 m) :
    sc_FP X D np g k σ τ (dX1_fillFromProducer (nI k) σ) (dX12_fills_124 (nI k) x2 x3 S' τ) := by
  obtain ⟨g1, g2, g3, g4⟩ := sc_r32 hq
  have hn4 := w.cy.n40
  have hD5 := w.D5
  have hF := sf_F_le
  obtain ⟨r1, r2, r3, r4⟩ := w.cy.r1 k hk
  obtain ⟨r5, r6, r7, r8, r9⟩ := w.cy.r5 k hk
  have cD := w.cD
  have c7 := (w.cy.c5 k hk).2.1
  rw [g1] at c7
  rw [g2] at cD
  have h35 : τ 0 35 = 0 := by have := w.fl; rw [g2] at this; rw [← this]; exact hfl
  have e124 : dX12_fills_124 (nI k) x2 x3 S' τ = dX12_fills_153 (nI k) x2 x3 S' τ := by
    unfold dX12_fills_124
    rw [if_pos (w.cy.nin hk), w.cy.ncl hk, r1]
    by_cases q : X.L k = 115
    · obtain ⟨m, m1, m2, m3⟩ := h115 q
      rw [if_neg (not_not_intro q), m2, if_pos (sc_inI m1 (by omega)), sc_cl (by omega), if_pos m3]
    · rw [if_pos q]
  rw [e124]
  unfold dX1_fillFromProducer dX12_fills_153
  rw [hready]
  simp only [Option.bind_some]
  rw [if_pos (show ¬ (1 : Int32) = 0 by decide), hs]
  simp only [Option.bind_some]
  by_cases h6 : n ≤ 60
  · rw [if_pos (sc_cmpL.mpr (by rw [hS, sc_l60]; omega)), if_pos (sc_cmpL.mpr (by rw [sc_l60]; have := (hS' 60).mpr h6; exact this)), sc_toI hS h6]
    unfold dX6_draw
    rw [cD, show (500 : Int32) = nI 500 by decide +kernel]
    have hsub : nI n ≤ nI 500 - nI D ↔ D + n ≤ 500 := by
      rw [Int32.le_iff_toInt_le, Int32.toInt_sub, nI_toInt (by omega), nI_toInt (by omega), nI_toInt (by omega), Int.bmod_eq_of_le (by omega) (by omega)]; omega
    obtain ⟨τ', y1, y2, y3⟩ := sc_fpLM (x2 := x2) (x3 := x3) (S := S') (v := v) (τ0 := τ) (X := X) (D := D) (k := k) (n := n) (by omega) h6 hS' r1 r3 (hV h6) n 0 sf_F τ (by omega) (by omega) (by omega) (fun _ _ _ _ _ => rfl) w.rD h35 hr.2.2.1
    rw [nI_0] at y1
    by_cases h5 : D + n ≤ 500
    · rw [if_pos (hsub.mpr h5)]
      simp only [Option.bind_some, nI_add]
      rw [if_pos (show ¬ (1 : Int32) = 0 by decide)]
      have W1 := w.drawN (e := n) h5
      rw [g2] at W1
      have k0 : ∀ σ1 : sf_S, (∀ a b, a ≠ 34 → a ≠ 35 → σ1 a b = sf_up σ 19 2 (nI (D + n)) a b) → ∀ a b, a ≠ 34 → a ≠ 35 → a ≠ 19 → σ1 a b = σ a b := fun σ1 z a b z1 z2 z3 => by
        rw [z a b z1 z2, sc_upK z3]
      obtain ⟨σ', x1, z1, z2, z3, z4⟩ := sc_fpLC (k := k) (n := n) (S := S) (v := v) (σ0 := sf_up σ 19 2 (nI (D + n))) (by omega) h6 hS (fun σ1 z => by
        have hc4 : σ1 1 4 = nI X.n := by rw [k0 σ1 z _ _ (by decide) (by decide) (by decide)]; have := w.cy.c4; rw [g1] at this; exact this
        rw [sc_has hn4 hc4 (by omega), decide_eq_true hk]; rfl) (fun σ1 z => hv h6 σ1 (k0 σ1 z)) n 0 sf_F _ (by omega) (by omega) (fun _ _ _ _ => rfl) (by rw [sc_upK (by decide)]; exact hr.2.1)
      rw [nI_0] at x1
      rw [x1, y1]
      rcases y3 with ⟨a1, a2, a3, a4, a5, a6, a7⟩ | ⟨a1, -⟩
      · refine ⟨true, σ', τ', n, rfl, rfl, W1.light2 (sc_rwC_L hq z1) (fun a b hab => ?_), sc_fr_tr (sc_fr_up (by simp [sc_fpC])) (sc_fpC_r z1), y2, Or.inl ⟨rfl, ?_, h6, z2, a5, fun j hj => ?_⟩⟩
        · by_cases q0 : a = 0 ∧ (b = 35 ∨ b = 36 ∨ b = 37)
          · obtain ⟨rfl, q | q | q⟩ := q0
            · rw [q, a2, sc_upJ (by decide), h35]
            · rw [q, a3, sc_upJ (by decide)]
            · rw [q, a4, sc_upS]
          · rw [y2 a b (by simp [sc_LM2] at hab; simp [sc_fpM, sc_rwM]; omega)]
            simp only [sf_up]
            rw [if_neg (by omega)]
        · rw [z1 _ _ (by simp [sc_rwC]), sc_upJ (by decide)]; exact hfl
        · rw [z4 j (by omega) hj, a7 j (by omega) hj]
      · omega
    · rw [if_neg (fun z => h5 (hsub.mp z))]
      unfold dX6_fail
      simp only [Option.bind_some, not_true_eq_false, if_false]
      rw [y1]
      have W1 := (w.drawN (e := 500 - D) (by omega)).fail 3 0
      rw [g2, show D + (500 - D) = 500 by omega] at W1
      rcases y3 with ⟨a1, -⟩ | ⟨a1, a2, a3, a4⟩
      · omega
      · refine ⟨false, _, τ', 500 - D, rfl, rfl, ?_, sc_fr_tr (sc_fr_up (by simp [sc_fpC])) (sc_fr_tr (sc_fr_up (by simp [sc_fpC])) (sc_fr_up (by simp [sc_fpC]))), y2, Or.inr ⟨rfl, ?_⟩⟩
        · rw [show D + (500 - D) = 500 by omega]
          refine W1.light2 sc_fr_rf (fun a b hab => ?_)
          by_cases q0 : a = 0 ∧ (b = 35 ∨ b = 36 ∨ b = 37)
          · obtain ⟨rfl, q | q | q⟩ := q0
            · rw [q, a2, sc_upJ (by decide), sc_upS]
            · rw [q, a3, sc_upS]
            · rw [q, a4, sc_upJ (by decide), sc_upJ (by decide), sc_upS]
          · rw [y2 a b (by simp [sc_LM2] at hab; simp [sc_fpM, sc_rwM]; omega)]
            simp only [sf_up]
            rw [if_neg (by omega), if_neg (by omega), if_neg (by omega)]
        · rw [sc_upJ (by decide), sc_upS]; decide
  · have hgt : ¬ lg_cmp S 60 ≤ 0 := fun z => by rw [sc_cmpL, hS, sc_l60] at z; omega
    have hgt' : ¬ lg_cmp S' 60 ≤ 0 := fun z => h6 ((hS' 60).mp (by rw [sc_cmpL, sc_l60] at z; exact z))
    rw [if_neg hgt, if_neg hgt', if_pos (w.cy.nin hk), w.cy.ncl hk, c7]
    unfold dX6_fail dX12_fails
    rw [if_pos (show ¬ (4 : Int32) = 3 by decide), if_pos (w.cy.nin hk), w.cy.ncl hk, sc_upK (by decide), r8]
    simp only [Option.bind_some]
    obtain ⟨m, hm⟩ : ∃ m, sf_F = m + 1 := ⟨sf_F - 1, by omega⟩
    have e171 : dX12_fills_171 sf_F (nI k) x2 x3 S' 0 (sf_up (sf_up τ 0 35 4) 0 36 (X.dp k)) = some (sf_up (sf_up τ 0 35 4) 0 36 (X.dp k)) := by
      rw [hm]
      unfold dX12_fills_171
      split
      · rfl
      · rw [if_pos (by rw [sc_upJ (by decide), sc_upS]; decide)]
    rw [e171]
    have W1 := w.fail 4 (X.dp k)
    rw [g2] at W1
    refine ⟨false, _, _, 0, rfl, rfl, W1, sc_fr_tr (sc_fr_up (by simp [sc_fpC])) (sc_fr_up (by simp [sc_fpC])), sc_fr_tr (sc_fr_up (by simp [sc_fpM])) (sc_fr_up (by simp [sc_fpM])), Or.inr ⟨rfl, ?_⟩⟩
    rw [sc_upJ (by decide), sc_upS]; decide
/-- the reference looks up for whom the Q is open -/
theorem sc_fillsE {X : sc_X} {σ τ : sf_S} (h : sc_Cy X σ τ) {k : Nat} (hk : k < X.n) : ∃ y, dX12_fills (nI k) τ = dX12_fills_32 (nI k) (X.mk k) y τ ∧ (∀ x, X.o k = nI x → x < X.n → y = τ 25 x) := by
  obtain ⟨r1, r2, r3, r4⟩ := h.r1 k hk
  obtain ⟨r5, r6, r7, r8, r9⟩ := h.r5 k hk
  have hn4 := h.n40
  unfold dX12_fills
  simp only [h.nin hk, if_true, h.ncl hk, r2, r9]
  rcases h.ox hk with q | ⟨x, q, -, -, -, x5⟩
  · rw [if_neg (not_not_intro q)]
    refine ⟨0, rfl, fun x hx hxn => ?_⟩
    rw [hx] at q
    have e := congrArg Int32.toInt q
    rw [nI_toInt (by omega), show (-1 : Int32).toInt = -1 from by decide] at e
    omega
  · rw [q, if_pos (fun z => by
      have e := congrArg Int32.toInt z
      rw [nI_toInt (by omega), show (-1 : Int32).toInt = -1 from by decide] at e
      omega), if_pos (h.nin x5), h.ncl x5]
    refine ⟨_, rfl, fun y hy hyn => ?_⟩
    rw [(nI_eq (by omega) (by omega)).mp hy]
theorem sc_fillP {X : sc_X} {D np g k : Nat} {σ τ : sf_S} (hq : X.q = 32) (w : sc_W X D np g σ τ) (hk : k < X.n) (hL : X.L k = 114 ∨ X.L k = 115 ∨ X.L k = 117 ∨ X.L k = 118) (hfl : σ 19 5 = 0) (hr : sc_row k 0 σ τ) (ho : X.o k = -1 ∨ σ 33 (X.o k).toNatClampNeg = τ 25 (X.o k).toNatClampNeg) :
    sc_FP X D np g k σ τ (dX1_fillFromProducer (nI k) σ) (dX12_fills (nI k) τ) := by
  obtain ⟨g1, g2, g3, g4⟩ := sc_r32 hq
  have hn4 := w.cy.n40
  have hD5 := w.D5
  obtain ⟨r1, r2, r3, r4⟩ := w.cy.r1 k hk
  obtain ⟨r5, r6, r7, r8, r9⟩ := w.cy.r5 k hk
  obtain ⟨y, hy, hyx⟩ := sc_fillsE w.cy hk
  rw [hy]
  have cyk : ∀ σ1 : sf_S, (∀ a b, a ≠ 34 → a ≠ 35 → a ≠ 19 → σ1 a b = σ a b) → sc_Cy X σ1 τ := fun σ1 z => w.cy.kept (fun a b hab => z a b (by simp [sc_RC, hq] at hab; omega) (by simp [sc_RC, hq] at hab; omega) (by simp [sc_RC, g2] at hab; omega)) sc_fr_rf
  unfold dX12_fills_32
  simp only [w.cy.nin hk, if_true, w.cy.ncl hk, r1, r3, r4]
  rcases hL with q | q | q | q
  · rw [if_pos q]
    have rd := sc_ready w.cy hk (by rw [q]; decide)
    have su := sc_supR w.cy hk q
    rw [hq] at rd su
    have hrs := sc_rsup (X.f k) (X.s k)
    have hsub : ((X.s k).toInt64 - (X.f k).toInt64).toInt = (X.s k).toInt - (X.f k).toInt := by
      have a1 := (X.f k).le_toInt
      have a2 := (X.f k).toInt_lt
      have a3 := (X.s k).le_toInt
      have a4 := (X.s k).toInt_lt
      rw [Int64.toInt_sub, Int32.toInt_toInt64, Int32.toInt_toInt64]
      apply Int.bmod_eq_of_le <;> omega
    refine sc_fpT (n := ((X.s k).toInt - (X.f k).toInt).toNat) (v := fun i => X.f k + nI i) hq w hk hfl hr rd su ?_ (fun i => by rw [hsub]; omega) (fun _ σ1 z i hi => ?_) (fun _ => Or.inl ⟨q, fun _ _ => rfl⟩) (fun z => by rw [q] at z; exact absurd z (by decide))
    · rw [hrs]; split <;> omega
    · have e := sc_spl (u := i) (cyk σ1 z) hk
      rw [hq] at e
      rw [e, if_neg (by rw [q]; decide), if_pos q]
  · obtain ⟨m, hm, hmk⟩ := sc_mk115 w.cy hk q
    rw [if_neg (by rw [q]; decide), if_pos q, hmk]
    simp only [sc_inI hm (by omega : 4 ≤ 10000), if_true, sc_cl (show m < 2 ^ 31 by omega)]
    have su := sc_supS w.cy hk q hm hmk
    rw [hq] at su
    have c2 := (w.cy.c1 k hk).2.1
    rw [g1] at c2
    have lat := w.cy.lat hk
    rw [g1] at lat
    rcases w.cy.sh.1 m hm with ⟨l1, l2⟩ | ⟨l, f0, l1, l2, l3, l4, l5, l6⟩
    · rw [l2, if_neg (show ¬ (0 : Int32) ≤ -1 by decide)]
      unfold dX12_fills_124
      rw [if_pos (w.cy.nin hk), w.cy.ncl hk, r1, if_neg (not_not_intro q), if_pos (sc_inI hm (by omega)), sc_cl (by omega), l2, if_neg (show ¬ (0 : Int32) ≤ -1 by decide)]
      unfold dX12_fails dX1_fillFromProducer dX10_isReady
      rw [if_pos (show ¬ (2 : Int32) = 3 by decide), if_pos (w.cy.nin hk), w.cy.ncl hk, sc_upK (by decide), r8, show sf_pl 32 = 1 by decide, show sf_rn 32 = 19 by decide, lat]
      simp only [Option.bind_some]
      have c7 := (w.cy.c5 k hk).2.1
      rw [g1] at c7
      rw [if_neg (not_not_intro q), if_pos (w.cy.nin hk), show σ (1 + 2) k = X.mk k from c2, hmk, sc_lostC hm, decide_eq_true l1]
      simp only [Option.bind_some]
      rw [if_neg (show ¬ sc_b true = 0 by decide), if_pos (w.cy.nin hk)]
      unfold dX6_fail
      simp only [Option.bind_some, not_true_eq_false, if_false]
      rw [show σ (1 + 7) k = X.dp k from c7]
      obtain ⟨m', hm'⟩ : ∃ m, sf_F = m + 1 := ⟨sf_F - 1, by have := sf_F_le; omega⟩
      have e171 : dX12_fills_171 sf_F (nI k) (nI m) y 0 0 (sf_up (sf_up τ 0 35 2) 0 36 (X.dp k)) = some (sf_up (sf_up τ 0 35 2) 0 36 (X.dp k)) := by
        rw [hm']
        unfold dX12_fills_171
        split
        · rfl
        · rw [if_pos (by rw [sc_upJ (by decide), sc_upS]; decide)]
      rw [e171]
      have W1 := w.fail 2 (X.dp k)
      rw [g2] at W1
      refine ⟨false, _, _, 0, rfl, rfl, W1, sc_fr_tr (sc_fr_up (by simp [sc_fpC])) (sc_fr_up (by simp [sc_fpC])), sc_fr_tr (sc_fr_up (by simp [sc_fpM])) (sc_fr_up (by simp [sc_fpM])), Or.inr ⟨rfl, ?_⟩⟩
      rw [sc_upJ (by decide), sc_upS]; decide
    · rw [l6, if_pos (nI_pos' (by omega)), l4]
      have rd : dX10_isReady 32 (nI k) σ = some (1, σ) := by
        unfold dX10_isReady
        rw [show sf_pl 32 = 1 by decide, lat]
        simp only [Option.bind_some]
        rw [if_neg (not_not_intro q), if_pos (w.cy.nin hk), w.cy.ncl hk, show σ (1 + 2) k = X.mk k from c2, hmk, sc_lostC hm, l3, decide_eq_false (fun z => by have := congrArg Int32.toInt z; rw [nI_toInt (by omega)] at this; rw [show (-1 : Int32).toInt = -1 from by decide] at this; omega)]
        simp only [Option.bind_some]
        rw [if_pos (show sc_b false = 0 from rfl)]
      have hll : (nI l).toInt64.toInt = l := by rw [Int32.toInt_toInt64, nI_toInt (by omega)]
      refine sc_fpT (n := l) (v := fun i => σ 18 (60 * m + i)) hq w hk hfl hr rd su (by rw [l3]; exact hll) (fun i => by rw [hll]; omega) (fun _ σ1 z i hi => ?_) (fun _ => Or.inr (Or.inl ⟨q, m, rfl, fun i hi => ⟨by omega, w.cy.sh.2 _ (by omega)⟩⟩)) (fun _ => ⟨m, hm, rfl, by rw [l6]; exact nI_pos' (by omega)⟩)
      have e := sc_spl (u := i) (cyk σ1 z) hk
      rw [hq] at e
      rw [e, if_neg (by rw [q]; decide), if_neg (by rw [q]; decide), if_pos q, hmk, sc_atC (l := l) hm l1 (by rw [z _ _ (by decide) (by decide) (by decide)]; exact l3) hi]
      simp only [Option.bind_some]
      rw [z _ _ (by decide) (by decide) (by decide)]
  · obtain ⟨x, x1, x2, x3, x4, x5⟩ := w.cy.ow hk (Or.inl q)
    have hx : (X.o k).toNatClampNeg = x := by rw [x1]; exact w.cy.ncl x5
    have ho' : σ 33 x = τ 25 x := by
      rcases ho with z | z
      · rw [x1] at z
        have e := congrArg Int32.toInt z
        rw [nI_toInt (by omega), show (-1 : Int32).toInt = -1 from by decide] at e
        omega
      · rwa [hx] at z
    rw [if_neg (by rw [q]; decide), if_neg (by rw [q]; decide), if_neg (by rw [q]; decide), if_pos q, hyx x x1 x5]
    have rd := sc_ready w.cy hk (by rw [q]; decide)
    have su := sc_supU w.cy hk q
    rw [hq, show sf_op 32 = 33 by decide, hx, ho'] at su
    rw [hq] at rd
    refine sc_fpT (n := (τ 25 x).toInt.toNat) (v := fun i => nI i) hq w hk hfl hr rd su ?_ (fun i => by rw [Int32.toInt_toInt64]; omega) (fun _ σ1 z i hi => ?_) (fun _ => Or.inr (Or.inr (Or.inl ⟨q, fun _ _ => rfl⟩))) (fun z => by rw [q] at z; exact absurd z (by decide))
    · rw [Int32.toInt_toInt64]
      by_cases z : (0 : Int32) < τ 25 x
      · rw [if_pos z]; rw [Int32.lt_iff_toInt_lt, sc_t0] at z; omega
      · rw [if_neg z]; rw [Int32.lt_iff_toInt_lt, sc_t0] at z; rw [sc_t0]; omega
    · have e := sc_spl (u := i) (cyk σ1 z) hk
      rw [hq] at e
      rw [e, if_neg (by rw [q]; decide), if_neg (by rw [q]; decide), if_neg (by rw [q]; decide), if_neg (by rw [q]; decide)]
  · obtain ⟨x, x1, x2, x3, x4, x5⟩ := w.cy.ow hk (Or.inr q)
    have hx : (X.o k).toNatClampNeg = x := by rw [x1]; exact w.cy.ncl x5
    have ho' : σ 33 x = τ 25 x := by
      rcases ho with z | z
      · rw [x1] at z
        have e := congrArg Int32.toInt z
        rw [nI_toInt (by omega), show (-1 : Int32).toInt = -1 from by decide] at e
        omega
      · rwa [hx] at z
    rw [if_neg (by rw [q]; decide), if_neg (by rw [q]; decide), if_neg (by rw [q]; decide), if_neg (by rw [q]; decide), hyx x x1 x5]
    have rd := sc_ready w.cy hk (by rw [q]; decide)
    have su := sc_supV w.cy hk q
    rw [hq] at rd su
    refine sc_fpT (n := 1) (v := fun _ => τ 25 x) hq w hk hfl hr rd su sc_l1 (fun i => by rw [sc_l1]; omega) (fun _ σ1 z i hi => ?_) (fun _ => Or.inr (Or.inr (Or.inr ⟨q, fun _ _ => rfl⟩))) (fun z => by rw [q] at z; exact absurd z (by decide))
    have e := sc_spl (u := i) (cyk σ1 z) hk
    have e2 := sc_opFor (cyk σ1 z) hk (Or.inr q)
    rw [hq] at e e2
    rw [e, if_neg (by rw [q]; decide), if_neg (by rw [q]; decide), if_neg (by rw [q]; decide), if_pos q, e2]
    simp only [Option.bind_some]
    rw [show sf_op 32 = 33 by decide, hx, z _ _ (by decide) (by decide) (by decide), ho']
