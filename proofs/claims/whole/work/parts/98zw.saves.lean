/-! the call saves -/
def sc_VC : Nat → Nat → Bool := fun a _ => decide ((36 ≤ a ∧ a ≤ 45) ∨ (49 ≤ a ∧ a ≤ 59))
def sc_VM : Nat → Nat → Bool := fun a b => decide ((11 ≤ a ∧ a ≤ 20) ∨ a = 22 ∨ (24 ≤ a ∧ a ≤ 33) ∨ a = 38) || decide (a = 0 ∧ ((33 ≤ b ∧ b ≤ 50) ∨ b = 21))
/-- the plan is again what it was: only its places are reckoned anew -/
theorem sc_Pq_re {q n : Nat} {E : Nat → Nat} {σ τ σ' τ' : sf_S} (h : sc_Pq q n E σ τ) (h1 : ∀ a b, q ≤ a → a ≤ q + 9 → σ' a b = σ a b) (h2 : ∀ c, 11 ≤ c → c ≤ 14 → ∀ j, j < n → τ' c j = τ c j) (h21 : τ' 0 21 = nI n) (hM : sc_MM n (τ' 11) E τ') : sc_Pq q n E σ' τ' := by
  obtain ⟨p1, p2, p3, p4, p5, p6, p7, p8, p9, p10⟩ := h
  have e : ∀ j, j < n → τ' 11 j = τ 11 j := fun j hj => h2 11 (by omega) (by omega) j hj
  have rr : ∀ a, q ≤ a → a ≤ q + 9 → σ' a = σ a := fun a q1 q2 => funext fun b => h1 a b q1 q2
  refine ⟨p1, p2, by rw [rr q (by omega) (by omega)]; exact p3, h21, (sc_st_congr (L := τ 11) (n := n) e).trans p5, sc_T_congr e p6, fun j hj => ?_, ?_, hM, by rw [sc_ws_congr (L := τ 11) (n := n) e]; exact p10⟩
  · rw [h2 11 (by omega) (by omega) j hj, h2 12 (by omega) (by omega) j hj, h2 13 (by omega) (by omega) j hj, h2 14 (by omega) (by omega) j hj, rr (q + 1) (by omega) (by omega), rr (q + 2) (by omega) (by omega), rr (q + 3) (by omega) (by omega), rr (q + 4) (by omega) (by omega)]
    exact p7 j hj
  · have hm := sc_MC_congr e p6 p8
    unfold sc_MC at hm ⊢
    rw [rr (q + 5) (by omega) (by omega), rr (q + 6) (by omega) (by omega), rr (q + 7) (by omega) (by omega), rr (q + 8) (by omega) (by omega), rr (q + 9) (by omega) (by omega), rr q (by omega) (by omega)]
    exact hm
theorem sc_savesP {n N : Nat} {E : Nat → Nat} {σ τ : sf_S} (hs : sc_Sh σ τ) (hP : sc_Pq 1 n E σ τ) (hN : N ≤ 40) : ∃ v σ' τ', dX11_saves (nI N) σ = some (v, σ') ∧ dX12_savesBy (nI N) τ = some (v, τ') ∧ sc_fr sc_VC σ σ' ∧ sc_fr sc_VM τ τ' ∧ (∀ c, 11 ≤ c → c ≤ 14 → ∀ j, j < n → τ' c j = τ c j) ∧ τ' 0 21 = nI n ∧ sc_Pq 1 n E σ' τ' := by
  have hF := sf_F_le
  obtain ⟨p1, p2, p3, p4, p5, p6, p7, p8, p9, p10⟩ := id hP
  have hv : ∀ j, j < n → sc_vn (τ 11 j) (τ 12 j) (τ 13 j) (τ 14 j) := fun j hj => (p7 j hj).2.2.2.2
  -- the draft
  obtain ⟨s, s1, s2, s3, s4, s5⟩ := sc_take2 (q := 36) (r1 := 1) (E := E) p2 p1 (by omega) p3 (sc_T_congr (L := τ 11) (fun j hj => (p7 j hj).1) p6)
  have hP36 : sc_Pq 36 n E s τ := by
    refine ⟨p1, p2, s2, p4, p5, p6, fun j hj => ?_, sc_MC_congr (fun j hj => ((p7 j hj).1).symm) (sc_T_congr (L := τ 11) (fun j hj => (p7 j hj).1) p6) s4, p9, p10⟩
    obtain ⟨a1, a2, a3, a4⟩ := s3 j hj
    obtain ⟨b1, b2, b3, b4, b5⟩ := p7 j hj
    exact ⟨a1.trans b1, a2.trans b2, a3.trans b3, a4.trans b4, b5⟩
  have hs36 : sc_Sh s τ := hs.kept (fun a b q => s5 a b (by omega)) (fun _ _ _ => rfl)
  -- the first run
  obtain ⟨σ1, τ1, D, np, g, x1, y1, w1, f1, f2⟩ := sc_play0 (N := N) (X := ⟨55, n, E, τ 11, τ 12, τ 13, τ 14, τ 20, τ 19⟩) (show sf_op 55 = 55 + 3 by decide) (sc_Cy_ex (q := 55) sc_q55 hP36 hs36) hN
  have F1 : ∀ a b, ¬ (51 ≤ a ∧ a ≤ 59) → σ1 a b = s a b := fun a b hab => f1 a b (by
    show sc_RC 55 a b = false
    simp only [sc_RC, show sf_rn 55 = 51 by decide, Bool.or_eq_false_iff, decide_eq_false_iff_not]; omega)
  have F2 : ∀ a b, ¬ ((24 ≤ a ∧ a ≤ 33) ∨ (a = 0 ∧ 33 ≤ b ∧ b ≤ 50)) → τ1 a b = τ a b := fun a b hab => f2 a b (by
    simp only [sc_RM, Bool.or_eq_false_iff, decide_eq_false_iff_not]; omega)
  have d1 : σ1 51 2 = nI D := w1.cD
  have d1' : τ1 0 37 = nI D := w1.rD
  -- the plan is laid aside
  obtain ⟨t, t1, t2, t3, t4⟩ := sc_layA p2 n 0 sf_F τ1 (by omega) (by omega) (fun j hj => absurd hj (Nat.not_lt_zero j))
  have t11 : ∀ c, 11 ≤ c → c ≤ 14 → ∀ j, t c j = τ c j := fun c h1 h2 j => by rw [t4 _ _ (by omega), F2 _ _ (by omega)]
  obtain ⟨u, u1, u2, u3⟩ := sc_placesM (L := t 11) p2 (sc_T_congr (fun j _ => t11 11 (by omega) (by omega) j) p6) (fun j hj => by rw [t11 11 (by omega) (by omega)]; exact (hv j hj).1) t2 (fun j hj => rfl)
  have hPu : sc_Pq 36 n E σ1 u := sc_Pq_re hP36 (fun a b h1 h2 => F1 a b (by omega)) (fun c h1 h2 j hj => by rw [u2 _ _ (by omega)]; exact t11 c h1 h2 j) (by rw [u2 _ _ (by omega)]; exact t2) (by
    rw [show u 11 = t 11 from funext fun j => u2 11 j (by omega)]; exact u3)
  -- it is simplified
  obtain ⟨n', E', σ2, t5, Nn, z1, z2, z3, z4, z5, z6, z7, -⟩ := sc_simplify (q := 49) (by decide) false hPu
  rw [show sf_pl 49 = 36 by decide] at z3 z6
  have hs2 : sc_Sh σ2 t5 := hs.kept (fun a b q => by rw [z6 a b (by omega), F1 a b (by omega), s5 a b (by omega)]) (fun a b q => by rw [z7 a b (by omega), u2 a b (by omega), t4 a b (by omega), F2 a b (by omega)])
  -- the second run
  obtain ⟨σ3, t6, D', np', g', x2, y2, w2, f3, f4⟩ := sc_play0 (N := N) (X := ⟨55, n', E', t5 11, t5 12, t5 13, t5 14, t5 20, t5 19⟩) (show sf_op 55 = 55 + 3 by decide) (sc_Cy_ex (q := 55) sc_q55 z3 hs2) hN
  have F3 : ∀ a b, ¬ (51 ≤ a ∧ a ≤ 59) → σ3 a b = σ2 a b := fun a b hab => f3 a b (by
    show sc_RC 55 a b = false
    simp only [sc_RC, show sf_rn 55 = 51 by decide, Bool.or_eq_false_iff, decide_eq_false_iff_not]; omega)
  have F4 : ∀ a b, ¬ ((24 ≤ a ∧ a ≤ 33) ∨ (a = 0 ∧ 33 ≤ b ∧ b ≤ 50)) → t6 a b = t5 a b := fun a b hab => f4 a b (by
    simp only [sc_RM, Bool.or_eq_false_iff, decide_eq_false_iff_not]; omega)
  have d2 : σ3 51 2 = nI D' := w2.cD
  have d2' : t6 0 37 = nI D' := w2.rD
  -- and comes back
  obtain ⟨v, v1, v2, v3, v4⟩ := sc_layB p2 n 0 sf_F t6 (by omega) (by omega) (fun j hj => absurd hj (Nat.not_lt_zero j))
  have e38 : ∀ y, t6 38 y = t 38 y := fun y => by rw [F4 _ _ (by omega), z7 _ _ (by omega), u2 _ _ (by omega)]
  have v11 : ∀ c, 11 ≤ c → c ≤ 14 → ∀ j, j < n → v c j = τ c j := fun c h1 h2 j hj => by
    obtain ⟨a1, a2, a3, a4⟩ := v3 j hj
    obtain ⟨b1, b2, b3, b4⟩ := t3 j hj
    rcases (by omega : c = 11 ∨ c = 12 ∨ c = 13 ∨ c = 14) with q | q | q | q <;> subst q
    · rw [a1, e38, b1, F2 _ _ (by omega)]
    · rw [a2, e38, b2, F2 _ _ (by omega)]
    · rw [a3, e38, b3, F2 _ _ (by omega)]
    · rw [a4, e38, b4, F2 _ _ (by omega)]
  obtain ⟨x, k1, k2, k3⟩ := sc_placesM (L := v 11) p2 (sc_T_congr (fun j hj => v11 11 (by omega) (by omega) j hj) p6) (fun j hj => by rw [v11 11 (by omega) (by omega) j hj]; exact (hv j hj).1) v2 (fun j hj => rfl)
  have x11 : ∀ c, 11 ≤ c → c ≤ 14 → ∀ j, j < n → x c j = τ c j := fun c h1 h2 j hj => by rw [k2 _ _ (by omega)]; exact v11 c h1 h2 j hj
  have x21 : x 0 21 = nI n := by rw [k2 _ _ (by omega)]; exact v2
  have FC : ∀ a b, ¬ ((36 ≤ a ∧ a ≤ 45) ∨ (49 ≤ a ∧ a ≤ 59)) → σ3 a b = σ a b := fun a b hab => by
    rw [F3 a b (by omega), z6 a b (by omega), F1 a b (by omega), s5 a b (by omega)]
  refine ⟨nI D - nI D', σ3, x, ?_, ?_, fun a b hab => ?_, fun a b hab => ?_, x11, x21, ?_⟩
  · unfold dX11_saves
    rw [if_neg (nI_pos (by omega)), sc_c40, if_neg (nI_nlt (by omega) (by omega)), p3, if_pos (nI_ne0 p1 (by omega)), s1]
    simp only [Option.bind_some]
    rw [show dX0_play 55 (nI N) s = some σ1 from x1]
    simp only [Option.bind_some]
    rw [show dX5_simplify 49 0 σ1 = some σ2 from z1]
    simp only [Option.bind_some]
    rw [show dX0_play 55 (nI N) σ2 = some σ3 from x2]
    simp only [Option.bind_some, d1, d2]
  · unfold dX12_savesBy dX12_lays
    rw [p4, if_pos (nI_ne0 p1 (by omega))]
    simp only []
    rw [y1]
    simp only [Option.bind_some]
    rw [← nI_0] at *
    rw [t1, u1]
    simp only [Option.bind_some]
    rw [show dX12_tidies (nI 0) u = some (Nn, t5) from z2]
    simp only [Option.bind_some]
    rw [show dX12_runs (nI 0) (nI N) t5 = some t6 from y2]
    simp only [Option.bind_some]
    rw [v1, k1]
    simp only [Option.bind_some]
    rw [d1', k2 _ _ (by omega), v4 _ _ (by omega), d2']
  · simp only [sc_VC, decide_eq_false_iff_not] at hab
    exact FC a b hab
  · simp only [sc_VM, Bool.or_eq_false_iff, decide_eq_false_iff_not] at hab
    rw [k2 a b (by omega), v4 a b (by omega), F4 a b (by omega), z7 a b (by omega), u2 a b (by omega), t4 a b (by omega), F2 a b (by omega)]
  · exact sc_Pq_re hP (fun a b h1 h2 => FC a b (by omega)) x11 x21 (by
      rw [show x 11 = v 11 from funext fun j => k2 11 j (by omega)]; exact k3)
theorem sc_savesB {N : Nat} {σ τ : sf_S} (hs : sc_Sh σ τ) (hp : sc_Pm σ τ) (hd : sc_Dd τ) (hN : N ≤ 40) : sc_pr sc_VC sc_VM (fun σ' τ' => sc_Pm σ' τ' ∧ sc_Dd τ') σ τ (dX11_saves (nI N) σ) (dX12_savesBy (nI N) τ) := by
  obtain ⟨n, hn, e1, e2, hP, -⟩ := sc_Pm_n hp
  by_cases hn0 : 0 < n
  · obtain ⟨E, hPq, h2, h3⟩ := hP hn0
    obtain ⟨v, σ', τ', x1, y1, f1, f2, k1, k2, k3⟩ := sc_savesP hs hPq hN
    have etx : sc_tx n τ' = sc_tx n τ := sc_tr_congr (fun j _ hj => ⟨k1 11 (by omega) (by omega) j (by omega), k1 12 (by omega) (by omega) j (by omega), k1 13 (by omega) (by omega) j (by omega), k1 14 (by omega) (by omega) j (by omega)⟩)
    refine ⟨v, σ', τ', x1, y1, f1, f2, Or.inr ⟨n, E, k3, ?_, fun i x hi => ?_⟩, ?_⟩
    · rw [etx, f1 _ _ (by simp [sc_VC])]; exact h2
    · rw [etx] at hi
      rw [f1 _ _ (by simp [sc_VC])]
      exact h3 i x hi
    · obtain ⟨m, m1, m2, m3⟩ := hd
      have em : m = n := (nI_eq (by omega) (by omega)).mp (m2.symm.trans e2)
      subst em
      exact ⟨m, m1, k2, sc_dd_congr m3 (fun j hj => ⟨k1 11 (by omega) (by omega) j hj, k1 13 (by omega) (by omega) j hj⟩)⟩
  · have hn00 : n = 0 := by omega
    subst hn00
    unfold dX11_saves dX12_savesBy
    rw [if_neg (nI_pos (by omega)), sc_c40, if_neg (nI_nlt (by omega) (by omega)), e1, e2, if_neg (show ¬ ¬ nI 0 = 0 by decide), if_neg (show ¬ ¬ nI 0 = 0 by decide)]
    exact sc_same ⟨hp, hd⟩
theorem sc_saves {σ τ : sf_S} (hs : sc_Sh σ τ) (hp : sc_Pm σ τ) (hd : sc_Dd τ) (x1 : Int32) : sc_pr sc_VC sc_VM (fun σ' τ' => sc_Pm σ' τ' ∧ sc_Dd τ') σ τ (dX11_saves x1 σ) (dX12_saves x1 τ) := by
  unfold dX12_saves
  simp only [sc_in12, Option.bind_some, sc_b0, decide_eq_false_iff_not, Int32.toInt_toInt64, sc_l0, show (40 : Int64).toInt = 40 from by decide]
  by_cases h1 : x1 < 0
  · have := sc_lt0.mp h1
    unfold dX11_saves
    rw [if_pos h1, if_pos (by omega)]
    exact sc_same ⟨hp, hd⟩
  obtain ⟨N, hN, rfl⟩ := sc_ofp (x := x1) (by have := mt sc_lt0.mpr h1; omega)
  rw [nI_toInt hN]
  by_cases h2 : N ≤ 40
  · rw [if_neg (show ¬ ¬ ((0 : Int) ≤ (N : Int) ∧ (N : Int) ≤ 40) by omega), sc_bid]
    exact sc_savesB hs hp hd h2
  · unfold dX11_saves
    rw [if_neg h1, sc_c40, if_pos (nI_lt (by omega) hN), if_pos (by omega)]
    exact sc_same ⟨hp, hd⟩
