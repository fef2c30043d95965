/-! way 2: a row out of another one -/
def sc_fiC (X : sc_X) (k : Nat) : Nat → Nat → Bool := fun a b => sc_rwC k a b || sc_cC X a b
def sc_fiM (k : Nat) : Nat → Nat → Bool := fun a b => sc_rwM k a b || sc_cM a b
theorem sc_fiC_r {X : sc_X} {k : Nat} {σ σ' : sf_S} (h : sc_fr (sc_rwC k) σ σ') : sc_fr (sc_fiC X k) σ σ' := sc_fr_wk h (fun a b hab => by
  simp only [sc_fiC, Bool.or_eq_false_iff] at hab; exact hab.1)
theorem sc_fiC_c {X : sc_X} {k : Nat} {σ σ' : sf_S} (h : sc_fr (sc_cC X) σ σ') : sc_fr (sc_fiC X k) σ σ' := sc_fr_wk h (fun a b hab => by
  simp only [sc_fiC, Bool.or_eq_false_iff] at hab; exact hab.2)
theorem sc_fiM_r {k : Nat} {τ τ' : sf_S} (h : sc_fr (sc_rwM k) τ τ') : sc_fr (sc_fiM k) τ τ' := sc_fr_wk h (fun a b hab => by
  simp only [sc_fiM, Bool.or_eq_false_iff] at hab; exact hab.1)
theorem sc_fiM_c {k : Nat} {τ τ' : sf_S} (h : sc_fr sc_cM τ τ') : sc_fr (sc_fiM k) τ τ' := sc_fr_wk h (fun a b hab => by
  simp only [sc_fiM, Bool.or_eq_false_iff] at hab; exact hab.2)
theorem sc_row.chg {X : sc_X} {j len : Nat} {σ τ σ' τ' : sf_S} (hq : X.q = 32) (h : sc_row j len σ τ) (h1 : sc_fr (sc_cC X) σ σ') (h2 : sc_fr sc_cM τ τ') : sc_row j len σ' τ' := by
  obtain ⟨g1, g2, g3, g4⟩ := sc_r32 hq
  exact h.kept (fun a b q => h1 a b (by rcases q with ⟨rfl, -⟩ | ⟨rfl, -⟩ <;> (simp only [sc_cC, g2]; simp [hq]))) (fun a b q => h2 a b (by rcases q with ⟨rfl, -⟩ | ⟨rfl, -⟩ <;> simp [sc_cM]))
/-- one turn of the reference -/
theorem sc_cr {X : sc_X} {D np g k i lenP n' : Nat} {σ τ : sf_S} {pb : Bool} (w : sc_W X D np g σ τ) (hk : k + 1 < X.n) (hfl : τ 0 35 = 0) (hP : sc_row (k + 1) lenP σ τ) (hi : i < lenP)
    (hpb : (if ¬ X.L k = 116 then (if ¬ X.L k = 100 then dX12_passes (nI k) (τ 30 (60 * (k + 1) + i)) τ = some (sc_b pb, τ) else (nI i < X.f k ↔ pb = false)) else (X.f k ≤ nI i ↔ pb = false))) :
    dX12_changesRow_20 (n' + 1) (nI k) (X.L k) (nI (k + 1)) 1 (nI i) τ = dX12_changesRow_114 (dX12_changesRow_20 n') (nI k) (X.L k) (nI (k + 1)) (nI i) (τ 30 (60 * (k + 1) + i)) (sc_b pb) τ := by
  obtain ⟨a1, a2, a3, a4⟩ := hP
  have hn4 := w.cy.n40
  obtain ⟨r1, r2, r3, r4⟩ := w.cy.r1 k (by omega)
  conv => lhs; unfold dX12_changesRow_20
  simp only [w.cy.nin hk, if_true, w.cy.ncl hk]
  rw [a3, if_neg (nI_ge hi (by omega)), if_neg (show ¬ (1 : Int32) = 0 by decide), if_neg (show ¬ ¬ τ 0 35 = 0 by rw [hfl]; decide), sc_c60, sc_mul, nI_add]
  simp only [sc_inI (show 60 * (k + 1) + i < 2400 by omega) (by omega : 2400 ≤ 10000), if_true, sc_cl (show 60 * (k + 1) + i < 2 ^ 31 by omega)]
  by_cases h1 : X.L k = 116
  · rw [if_neg (fun z => z h1)] at hpb
    rw [if_neg (fun z => z h1)]
    simp only [w.cy.nin (show k < X.n by omega), if_true, w.cy.ncl (show k < X.n by omega), r3]
    cases pb with
    | true => rw [if_neg (fun z => by have := hpb.mp z; cases this)]; rfl
    | false => rw [if_pos (hpb.mpr rfl)]; rfl
  · rw [if_pos h1] at hpb
    rw [if_pos h1]
    by_cases h2 : X.L k = 100
    · rw [if_neg (fun z => z h2)] at hpb
      rw [if_neg (fun z => z h2)]
      simp only [w.cy.nin (show k < X.n by omega), if_true, w.cy.ncl (show k < X.n by omega), r3]
      cases pb with
      | true => rw [if_neg (fun z => by have := hpb.mp z; cases this)]; rfl
      | false => rw [if_pos (hpb.mpr rfl)]; rfl
    · rw [if_pos h2] at hpb
      rw [if_pos h2, hpb]
      rfl
theorem sc_cr0 {n : Nat} {a b c i : Int32} {τ : sf_S} (hin : sf_in c 40 = true) (h : ¬ τ 0 35 = 0) : dX12_changesRow_20 (n + 1) a b c 1 i τ = some τ := by
  unfold dX12_changesRow_20
  rw [if_pos hin]
  split
  · rfl
  · rw [if_neg (show ¬ (1 : Int32) = 0 by decide)]
theorem sc_cr1 {n : Nat} {a b c i : Int32} {τ : sf_S} (hin : sf_in c 40 = true) : dX12_changesRow_20 (n + 1) a b c 0 i τ = some τ := by
  unfold dX12_changesRow_20
  rw [if_pos hin]
  split
  · rfl
  · rfl
theorem sc_filL {X : sc_X} {D g k lenP np0 : Nat} (hq : X.q = 32) (hk : k < X.n) (hk1 : k + 1 < X.n) (hp : sc_o1 (X.L k)) (hnp : np0 + lenP ≤ 40 * D) : ∀ r i len np n n' (σ τ : sf_S), i + r = lenP → r + 1 ≤ n → r + 2 ≤ n' → sc_W X D np g σ τ → σ (sf_rn X.q) 5 = 0 → sc_row (k + 1) lenP σ τ → sc_row k len σ τ → len ≤ i → np ≤ np0 + i →
    ∃ b σ' τ' np' len', dX1_fillFromInput_19 n (nI k) (nI (k + 1)) (nI i) σ = some (sc_b b, σ') ∧ dX12_changesRow_20 n' (nI k) (X.L k) (nI (k + 1)) 1 (nI i) τ = some τ' ∧ sc_W X D np' g σ' τ' ∧ np' ≤ np0 + lenP ∧ sc_fr (sc_fiC X k) σ σ' ∧ sc_fr (sc_fiM k) τ τ' ∧
      ((b = true ∧ σ' (sf_rn X.q) 5 = 0 ∧ sc_row k len' σ' τ' ∧ len' ≤ lenP) ∨ (b = false ∧ ¬ σ' (sf_rn X.q) 5 = 0)) := by
  intro r
  induction r with
  | zero =>
    intro i len np n n' σ τ h1 h2 h3 w hfl hP hr hl hnp1
    obtain ⟨n, rfl⟩ : ∃ m, n = m + 1 := ⟨n - 1, by omega⟩
    obtain ⟨n', rfl⟩ : ∃ m, n' = m + 1 := ⟨n' - 1, by omega⟩
    have hl60 := hP.1
    refine ⟨true, σ, τ, np, len, ?_, ?_, w, by omega, sc_fr_rf, sc_fr_rf, Or.inl ⟨rfl, hfl, hr, by omega⟩⟩
    · unfold dX1_fillFromInput_19
      rw [if_pos (w.cy.nin hk1), w.cy.ncl hk1, hP.2.1, if_pos (nI_le (by omega) (by omega))]
      rfl
    · unfold dX12_changesRow_20
      rw [if_pos (w.cy.nin hk1), w.cy.ncl hk1, hP.2.2.1, if_pos (nI_le (by omega) (by omega))]
  | succ r ih =>
    intro i len np n n' σ τ h1 h2 h3 w hfl hP hr hl hnp1
    obtain ⟨n, rfl⟩ : ∃ m, n = m + 1 := ⟨n - 1, by omega⟩
    obtain ⟨n', rfl⟩ : ∃ m, n' = m + 1 := ⟨n' - 1, by omega⟩
    obtain ⟨g1, g2, g3, g4⟩ := sc_r32 hq
    have hn4 := w.cy.n40
    obtain ⟨c1, c2, c3, c4⟩ := w.cy.c1 k hk
    rw [g1] at c1 c3
    have h35 : τ 0 35 = 0 := by rw [← w.fl]; exact hfl
    have hve : σ 34 (60 * (k + 1) + i) = τ 30 (60 * (k + 1) + i) := hP.2.2.2 i (by omega)
    have hl60 := hP.1
    have cl : dX1_fillFromInput_19 (n + 1) (nI k) (nI (k + 1)) (nI i) σ = (dX1_element (nI (k + 1)) (nI i) σ).bind (fun u1 => if sf_in (nI k) 40 then
          (if X.L k = 63 then (dX10_passes 32 (nI k) u1.1 u1.2).bind fun u3 => if u3.1 = 0 then dX1_fillFromInput_19 n (nI k) (nI (k + 1)) (nI i + 1) u3.2 else (dX1_add (nI k) u1.1 u3.2).bind fun u4 => dX1_fillFromInput_19 n (nI k) (nI (k + 1)) (nI i + 1) u4
          else if X.L k = 100 then (if sf_in (nI k) 40 then (if nI i < X.f k then dX1_fillFromInput_19 n (nI k) (nI (k + 1)) (nI i + 1) u1.2 else (dX1_add (nI k) u1.1 u1.2).bind fun u5 => dX1_fillFromInput_19 n (nI k) (nI (k + 1)) (nI i + 1) u5) else none)
          else if X.L k = 107 then (dX10_passes 32 (nI k) u1.1 u1.2).bind fun u6 => if u6.1 = 0 then dX1_fillFromInput_19 n (nI k) (nI (k + 1)) (nI i + 1) u6.2 else (dX1_add (nI k) u1.1 u6.2).bind fun u7 => dX1_fillFromInput_19 n (nI k) (nI (k + 1)) (nI i + 1) u7
          else if X.L k = 116 then (if sf_in (nI k) 40 then (if X.f k ≤ nI i then dX1_fillFromInput_19 n (nI k) (nI (k + 1)) (nI i + 1) u1.2 else (dX1_add (nI k) u1.1 u1.2).bind fun u8 => dX1_fillFromInput_19 n (nI k) (nI (k + 1)) (nI i + 1) u8) else none)
          else if X.L k = 119 then (dX10_passes 32 (nI k) u1.1 u1.2).bind fun u9 => if ¬ u9.1 = 0 then (dX1_add (nI k) u1.1 u9.2).bind fun u10 => dX1_fillFromInput_19 n (nI k) (nI (k + 1)) (nI i + 1) u10 else some ((1 : Int32), u9.2)
          else (dX10_change 32 (nI k) u1.1 u1.2).bind fun u11 => if ¬ u11.1 = 0 then (dX1_add (nI k) (u11.2 32 4) u11.2).bind fun u12 => dX1_fillFromInput_19 n (nI k) (nI (k + 1)) (nI i + 1) u12 else some ((0 : Int32), u11.2)) else none) := by
      conv => lhs; unfold dX1_fillFromInput_19
      rw [if_pos (w.cy.nin hk1), w.cy.ncl hk1, hP.2.1, if_neg (nI_ge (by omega) (by omega)), sc_el2 hq w.cy hk1 hP (show i < lenP by omega)]
      simp only [Option.bind_some, w.cy.ncl hk, show σ 2 k = X.L k from c1, show σ 4 k = X.f k from c3]
    rw [cl, sc_el2 hq w.cy hk1 hP (show i < lenP by omega)]
    simp only [Option.bind_some, w.cy.nin hk, if_true]
    rw [nI_1, hve]
    have skip := ih (i + 1) len np n n' σ τ (by omega) (by omega) (by omega) w hfl hP hr (by omega) (by omega)
    have cont : ∀ σ1 τ1 np1 v, sc_W X D np1 g σ1 τ1 → σ1 (sf_rn X.q) 5 = 0 → np1 ≤ np + 1 → sc_fr (sc_cC X) σ σ1 → sc_fr sc_cM τ τ1 → ∃ b σ' τ' np' len', ((dX1_add (nI k) v σ1).bind fun u => dX1_fillFromInput_19 n (nI k) (nI (k + 1)) (nI (i + 1)) u) = some (sc_b b, σ') ∧ ((dX12_adds (nI k) v τ1).bind fun u => dX12_changesRow_20 n' (nI k) (X.L k) (nI (k + 1)) 1 (nI (i + 1)) u) = some τ' ∧ sc_W X D np' g σ' τ' ∧ np' ≤ np0 + lenP ∧ sc_fr (sc_fiC X k) σ σ' ∧ sc_fr (sc_fiM k) τ τ' ∧
      ((b = true ∧ σ' (sf_rn X.q) 5 = 0 ∧ sc_row k len' σ' τ' ∧ len' ≤ lenP) ∨ (b = false ∧ ¬ σ' (sf_rn X.q) 5 = 0)) := fun σ1 τ1 np1 v w1 f1 n1 fr1 fr2 => by
      obtain ⟨σ2, τ2, x1, y1, w2, r2, d1, d2⟩ := sc_add2 hq w1 hk (hr.chg hq fr1 fr2) (by omega) v
      rw [x1, y1]
      simp only [Option.bind_some]
      obtain ⟨b, σ3, τ3, np3, len3, e1, e2, e3, e4, e5, e6, e7⟩ := ih (i + 1) (len + 1) np1 n n' σ2 τ2 (by omega) (by omega) (by omega) w2 (by rw [d1 _ _ (by simp [sc_rwC, g2])]; exact f1) ((hP.chg hq fr1 fr2).far (by omega) d1 d2) r2 (by omega) (by omega)
      exact ⟨b, σ3, τ3, np3, len3, e1, e2, e3, e4, sc_fr_tr (sc_fiC_c fr1) (sc_fr_tr (sc_fiC_r d1) e5), sc_fr_tr (sc_fiM_c fr2) (sc_fr_tr (sc_fiM_r d2) e6), e7⟩
    by_cases hU : X.L k = 37 ∨ X.L k = 42 ∨ X.L k = 43 ∨ X.L k = 47 ∨ X.L k = 108
    · have hx : X.L k ≠ 63 ∧ X.L k ≠ 100 ∧ X.L k ≠ 107 ∧ X.L k ≠ 116 ∧ X.L k ≠ 119 := by
        rcases hU with q | q | q | q | q <;> rw [q] <;> decide
      rw [if_neg hx.1, if_neg hx.2.1, if_neg hx.2.2.1, if_neg hx.2.2.2.1, if_neg hx.2.2.2.2]
      rw [sc_cr (pb := true) w hk1 h35 hP (show i < lenP by omega) (by
        rw [if_pos hx.2.2.2.1, if_pos hx.2.1]
        exact sc_passN w.cy hk (fun z => by
          rcases z with z | z | z
          · exact hx.1 z
          · exact hx.2.2.1 z
          · exact hx.2.2.2.2 z) _)]
      unfold dX12_changesRow_114
      rw [if_pos hx.2.2.2.2]
      unfold dX12_changesRow_132
      rw [if_neg (show ¬ sc_b true = 0 by decide)]
      have C := sc_change w (k := k) (by omega) hk hfl hU (τ 30 (60 * (k + 1) + i))
      obtain ⟨r2, σ2, τ2, wv, np2, y1, y2, w2, f1, f2, c2'⟩ := C
      rw [hq] at y1
      rw [y1, y2]
      simp only [Option.bind_some]
      rcases c2' with ⟨rfl, b1, b2, b3, b4⟩ | ⟨rfl, b1, b2⟩
      · rw [if_pos (show ¬ sc_b true = 0 by decide), if_neg (show ¬ ¬ τ2 0 35 = 0 by rw [← w2.fl]; exact fun z => z b1), nI_1]
        rw [hq, show sf_vl 32 = 4 by decide] at b2
        rw [b2]
        exact cont σ2 τ2 np2 wv w2 b1 (by omega) f1 f2
      · rw [if_neg (show ¬ ¬ sc_b false = 0 by decide), if_pos (show ¬ τ2 0 35 = 0 by rw [← w2.fl]; exact b2)]
        obtain ⟨n', rfl⟩ : ∃ m, n' = m + 1 := ⟨n' - 1, by omega⟩
        refine ⟨false, σ2, τ2, np2, 0, rfl, sc_cr0 (w.cy.nin hk1) (by rw [← w2.fl]; exact b2), w2, by omega, sc_fiC_c f1, sc_fiM_c f2, Or.inr ⟨rfl, b2⟩⟩
    · have hmd := sc_madeN w.cy hk hU (τ 30 (60 * (k + 1) + i))
      -- the reference keeps the number, or doesn't
      have kept : ∀ y0 : Int32, dX12_changesRow_132 (dX12_changesRow_20 n') (nI k) (X.L k) (nI (k + 1)) (nI i) (τ 30 (60 * (k + 1) + i)) 1 y0 τ = ((dX12_adds (nI k) (τ 30 (60 * (k + 1) + i)) τ).bind fun u => dX12_changesRow_20 n' (nI k) (X.L k) (nI (k + 1)) y0 (nI (i + 1)) u) := fun y0 => by
        unfold dX12_changesRow_132
        rw [if_neg (show ¬ (1 : Int32) = 0 by decide), hmd]
        simp only [Option.bind_some]
        rw [if_neg (show ¬ ¬ τ 0 35 = 0 by rw [h35]; decide), nI_1]
      have notkept : ∀ y0 : Int32, dX12_changesRow_132 (dX12_changesRow_20 n') (nI k) (X.L k) (nI (k + 1)) (nI i) (τ 30 (60 * (k + 1) + i)) 0 y0 τ = dX12_changesRow_20 n' (nI k) (X.L k) (nI (k + 1)) y0 (nI (i + 1)) τ := fun y0 => by
        unfold dX12_changesRow_132
        rw [if_pos (show (0 : Int32) = 0 from rfl), nI_1]
      have ref : ∀ pb : Bool, ¬ X.L k = 119 → (if ¬ X.L k = 116 then (if ¬ X.L k = 100 then dX12_passes (nI k) (τ 30 (60 * (k + 1) + i)) τ = some (sc_b pb, τ) else (nI i < X.f k ↔ pb = false)) else (X.f k ≤ nI i ↔ pb = false)) → dX12_changesRow_20 (n' + 1) (nI k) (X.L k) (nI (k + 1)) 1 (nI i) τ = if pb = true then ((dX12_adds (nI k) (τ 30 (60 * (k + 1) + i)) τ).bind fun u => dX12_changesRow_20 n' (nI k) (X.L k) (nI (k + 1)) 1 (nI (i + 1)) u) else dX12_changesRow_20 n' (nI k) (X.L k) (nI (k + 1)) 1 (nI (i + 1)) τ := fun pb h119 hpb => by
        rw [sc_cr (pb := pb) w hk1 h35 hP (show i < lenP by omega) hpb]
        unfold dX12_changesRow_114
        rw [if_pos h119]
        cases pb with
        | true => rw [if_pos rfl]; exact kept 1
        | false => rw [if_neg (by decide)]; exact notkept 1
      have hcase : X.L k = 63 ∨ X.L k = 100 ∨ X.L k = 107 ∨ X.L k = 116 ∨ X.L k = 119 := by
        rcases hp with q | q | q | q | q | q | q | q | q | q
        · exact Or.inr (Or.inl q)
        · exact Or.inr (Or.inr (Or.inl q))
        · exact absurd (Or.inr (Or.inr (Or.inr (Or.inr q)))) hU
        · exact Or.inr (Or.inr (Or.inr (Or.inl q)))
        · exact Or.inr (Or.inr (Or.inr (Or.inr q)))
        · exact absurd (Or.inl q) hU
        · exact absurd (Or.inr (Or.inl q)) hU
        · exact absurd (Or.inr (Or.inr (Or.inl q))) hU
        · exact absurd (Or.inr (Or.inr (Or.inr (Or.inl q)))) hU
        · exact Or.inl q
      have ct := cont σ τ np (τ 30 (60 * (k + 1) + i)) w hfl (by omega) sc_fr_rf sc_fr_rf
      rcases hcase with q | q | q | q | q
      · obtain ⟨rr, y1, y2⟩ := sc_pass w.cy hk (Or.inl q) (τ 30 (60 * (k + 1) + i))
        rw [hq] at y1
        rw [if_pos q, y1, ref rr (by rw [q]; decide) (by rw [if_pos (by rw [q]; decide), if_pos (by rw [q]; decide)]; exact y2)]
        simp only [Option.bind_some]
        cases rr with
        | true => rw [if_neg (show ¬ sc_b true = 0 by decide), if_pos rfl]; exact ct
        | false => rw [if_pos (show sc_b false = 0 from rfl), if_neg (by decide)]; exact skip
      · rw [if_neg (by rw [q]; decide), if_pos q]
        by_cases hlt : nI i < X.f k
        · rw [if_pos hlt, ref false (by rw [q]; decide) (by rw [if_pos (by rw [q]; decide), if_neg (fun z => z q)]; exact ⟨fun _ => rfl, fun _ => hlt⟩), if_neg (by decide)]
          exact skip
        · rw [if_neg hlt, ref true (by rw [q]; decide) (by rw [if_pos (by rw [q]; decide), if_neg (fun z => z q)]; exact ⟨fun z => absurd z hlt, fun z => by cases z⟩), if_pos rfl]
          exact ct
      · obtain ⟨rr, y1, y2⟩ := sc_pass w.cy hk (Or.inr (Or.inl q)) (τ 30 (60 * (k + 1) + i))
        rw [hq] at y1
        rw [if_neg (by rw [q]; decide), if_neg (by rw [q]; decide), if_pos q, y1, ref rr (by rw [q]; decide) (by rw [if_pos (by rw [q]; decide), if_pos (by rw [q]; decide)]; exact y2)]
        simp only [Option.bind_some]
        cases rr with
        | true => rw [if_neg (show ¬ sc_b true = 0 by decide), if_pos rfl]; exact ct
        | false => rw [if_pos (show sc_b false = 0 from rfl), if_neg (by decide)]; exact skip
      · rw [if_neg (by rw [q]; decide), if_neg (by rw [q]; decide), if_neg (by rw [q]; decide), if_pos q]
        by_cases hle : X.f k ≤ nI i
        · rw [if_pos hle, ref false (by rw [q]; decide) (by rw [if_neg (fun z => z q)]; exact ⟨fun _ => rfl, fun _ => hle⟩), if_neg (by decide)]
          exact skip
        · rw [if_neg hle, ref true (by rw [q]; decide) (by rw [if_neg (fun z => z q)]; exact ⟨fun z => absurd z hle, fun z => by cases z⟩), if_pos rfl]
          exact ct
      · obtain ⟨rr, y1, y2⟩ := sc_pass w.cy hk (Or.inr (Or.inr q)) (τ 30 (60 * (k + 1) + i))
        rw [hq] at y1
        rw [if_neg (by rw [q]; decide), if_neg (by rw [q]; decide), if_neg (by rw [q]; decide), if_neg (by rw [q]; decide), if_pos q, y1, sc_cr (pb := rr) w hk1 h35 hP (show i < lenP by omega) (by rw [if_pos (by rw [q]; decide), if_pos (by rw [q]; decide)]; exact y2)]
        simp only [Option.bind_some]
        unfold dX12_changesRow_114
        cases rr with
        | true =>
          rw [if_pos (show ¬ sc_b true = 0 by decide), if_neg (show ¬ ¬ X.L k = 119 from not_not_intro q), if_neg (show ¬ sc_b true = 0 by decide), show sc_b true = 1 from rfl, kept 1]
          exact ct
        | false =>
          rw [if_neg (show ¬ ¬ sc_b false = 0 by decide), if_neg (show ¬ ¬ X.L k = 119 from not_not_intro q), if_pos (show sc_b false = 0 from rfl), show sc_b false = 0 from rfl, notkept 0]
          obtain ⟨n', rfl⟩ : ∃ m, n' = m + 1 := ⟨n' - 1, by omega⟩
          refine ⟨true, σ, τ, np, len, rfl, sc_cr1 (w.cy.nin hk1), w, by omega, sc_fr_rf, sc_fr_rf, Or.inl ⟨rfl, hfl, hr, by omega⟩⟩
