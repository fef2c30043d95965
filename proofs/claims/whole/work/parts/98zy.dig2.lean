/-! the call digest: rules, the latest run, saves -/
theorem sc_dgR {σ τ : sf_S} (hw : sc_Rw σ τ) : ∀ r k m m' (a : Int64), k + r = 13 → r + 1 ≤ m → r + 1 ≤ m' → ∃ a', dX11_digest_51 m a (nI k) σ = ((dX11_mixRun a' σ).bind fun u1 => (dX11_saves (3 : Int32) u1.2).bind fun u2 => some ((((31 : Int64) * u1.1) + u2.1.toInt64), u2.2)) ∧ dX12_planTells_102 m' a (nI k) τ = some (a', τ) := by
  intro r
  induction r with
  | zero =>
    intro k m m' a h1 h2 h3
    obtain ⟨m, rfl⟩ : ∃ x, m = x + 1 := ⟨m - 1, by omega⟩
    obtain ⟨m', rfl⟩ : ∃ x, m' = x + 1 := ⟨m' - 1, by omega⟩
    have e : k = 13 := by omega
    subst e
    refine ⟨a, ?_, ?_⟩
    · unfold dX11_digest_51
      rw [if_pos (show (13 : Int32) ≤ nI 13 by decide +kernel)]
    · unfold dX12_planTells_102
      rw [if_pos (show (13 : Int32) ≤ nI 13 by decide +kernel)]
  | succ r ih =>
    intro k m m' a h1 h2 h3
    obtain ⟨m, rfl⟩ : ∃ x, m = x + 1 := ⟨m - 1, by omega⟩
    obtain ⟨m', rfl⟩ : ∃ x, m' = x + 1 := ⟨m' - 1, by omega⟩
    have hge : ¬ (13 : Int32) ≤ nI k := nI_ge (b := 13) (by omega) (by decide)
    have er : dX11_rules (nI k) σ = some (τ 23 k, σ) := by
      unfold dX11_rules
      rw [if_neg (nI_pos (by omega)), if_neg hge, if_pos (sc_inI (by omega) (by omega)), sc_cl (by omega), hw.1 k (by omega)]
    obtain ⟨a', e1, e2⟩ := ih (k + 1) m m' (((31 : Int64) * a) + (τ 23 k).toInt64) (by omega) (by omega) (by omega)
    refine ⟨a', ?_, ?_⟩
    · rw [← e1]
      conv => lhs; unfold dX11_digest_51
      rw [if_neg hge, er]
      simp only [Option.bind_some, nI_1]
    · rw [← e2]
      conv => lhs; unfold dX12_planTells_102
      rw [if_neg hge]
      simp only [sc_inI (show k < 13 by omega) (by omega : 13 ≤ 10000), if_true, sc_cl (show k < 2 ^ 31 by omega), nI_1]
theorem sc_dgRes {g : Nat} {σ τ : sf_S} (hg : g ≤ 40) (h1 : σ 19 1 = nI g) (h2 : τ 0 55 = nI g) (h3 : ∀ j, j < g → σ 20 j = τ 35 j) : ∀ r i m m' (a : Int64), i + r = g → r + 1 ≤ m → r + 1 ≤ m' → ∃ a', dX11_mixRun_5 m a (nI i) σ = dX11_mixRun_39 sf_F a' 0 σ ∧ dX12_digest_51 m' a (nI i) τ = dX12_digest_81 sf_F a' 0 τ := by
  intro r
  induction r with
  | zero =>
    intro i m m' a q1 q2 q3
    obtain ⟨m, rfl⟩ : ∃ x, m = x + 1 := ⟨m - 1, by omega⟩
    obtain ⟨m', rfl⟩ : ∃ x, m' = x + 1 := ⟨m' - 1, by omega⟩
    refine ⟨a, ?_, ?_⟩
    · unfold dX11_mixRun_5
      rw [h1, if_pos (nI_le (by omega) (by omega))]
    · unfold dX12_digest_51
      rw [h2, if_pos (nI_le (by omega) (by omega))]
  | succ r ih =>
    intro i m m' a q1 q2 q3
    obtain ⟨m, rfl⟩ : ∃ x, m = x + 1 := ⟨m - 1, by omega⟩
    obtain ⟨m', rfl⟩ : ∃ x, m' = x + 1 := ⟨m' - 1, by omega⟩
    have er : dX11_result (nI i) σ = some ((τ 35 i).toInt64, σ) := by
      unfold dX11_result
      rw [if_neg (nI_pos (by omega)), h1, if_neg (nI_ge (by omega) (by omega)), if_pos (sc_inI (by omega) (by omega)), sc_cl (by omega), h3 i (by omega)]
    obtain ⟨a', e1, e2⟩ := ih (i + 1) m m' (((31 : Int64) * a) + (τ 35 i).toInt64) (by omega) (by omega) (by omega)
    refine ⟨a', ?_, ?_⟩
    · rw [← e1]
      conv => lhs; unfold dX11_mixRun_5
      rw [h1, if_neg (nI_ge (by omega) (by omega)), er]
      simp only [Option.bind_some, nI_1]
    · rw [← e2]
      conv => lhs; unfold dX12_digest_51
      rw [h2, if_neg (nI_ge (by omega) (by omega))]
      simp only [sc_inI (show i < 40 by omega) (by omega : 40 ≤ 10000), if_true, sc_cl (show i < 2 ^ 31 by omega), nI_1]
theorem sc_pr_no {α : Type} {R : sf_S → sf_S → Prop} {σ τ : sf_S} {x y : Option (α × sf_S)} (h : sc_pr sc_no sc_no R σ τ x y) : ∃ a, x = some (a, σ) ∧ y = some (a, τ) := by
  obtain ⟨a, σ', τ', h1, h2, h3, h4, -⟩ := h
  have e1 : σ' = σ := funext fun p => funext fun q => h3 p q rfl
  have e2 : τ' = τ := funext fun p => funext fun q => h4 p q rfl
  exact ⟨a, by rw [h1, e1], by rw [h2, e2]⟩
theorem sc_dgF {σ τ : sf_S} (hr : sc_Ru σ τ) : ∀ r i m m' (a : Int64), i + r = 3 → r + 1 ≤ m → r + 1 ≤ m' → ∃ a', dX11_mixRun_39 m a (nI i) σ = dX11_mixRun_67 sf_F a' 0 σ ∧ dX12_digest_81 m' a (nI i) τ = dX12_digest_106 sf_F a' 0 τ := by
  intro r
  induction r with
  | zero =>
    intro i m m' a q1 q2 q3
    obtain ⟨m, rfl⟩ : ∃ x, m = x + 1 := ⟨m - 1, by omega⟩
    obtain ⟨m', rfl⟩ : ∃ x, m' = x + 1 := ⟨m' - 1, by omega⟩
    have e : i = 3 := by omega
    subst e
    refine ⟨a, ?_, ?_⟩
    · unfold dX11_mixRun_39
      rw [if_pos (show (2 : Int32) < nI 3 by decide +kernel)]
    · unfold dX12_digest_81
      rw [if_pos (show (3 : Int32) ≤ nI 3 by decide +kernel)]
  | succ r ih =>
    intro i m m' a q1 q2 q3
    obtain ⟨m, rfl⟩ : ∃ x, m = x + 1 := ⟨m - 1, by omega⟩
    obtain ⟨m', rfl⟩ : ∃ x, m' = x + 1 := ⟨m' - 1, by omega⟩
    obtain ⟨v, c1, c2⟩ := sc_pr_no (sc_fold hr (nI i))
    have c2' : dX12_foldBy (nI i) τ = some (v, τ) := by
      rw [← c2]
      unfold dX12_fold
      rw [sc_in12, decide_eq_true (by rw [Int32.toInt_toInt64, nI_toInt (by omega), sc_l0, sc_l2]; omega)]
      simp only [Option.bind_some]
      rw [if_neg (show ¬ sc_b true = 0 by decide), sc_bi2]
    obtain ⟨a', e1, e2⟩ := ih (i + 1) m m' (((31 : Int64) * a) + v) (by omega) (by omega) (by omega)
    refine ⟨a', ?_, ?_⟩
    · rw [← e1]
      conv => lhs; unfold dX11_mixRun_39
      rw [if_neg (show ¬ (2 : Int32) < nI i from nI_nlt (b := i) (a := 2) (by omega) (by omega)), c1]
      simp only [Option.bind_some, nI_1]
    · rw [← e2]
      conv => lhs; unfold dX12_digest_81
      rw [if_neg (show ¬ (3 : Int32) ≤ nI i from nI_ge (b := 3) (by omega) (by decide)), c2']
      simp only [Option.bind_some, nI_1]
theorem sc_dg106 {i m : Nat} {a : Int64} {τ : sf_S} (hi : i < 6) : dX12_digest_106 (m + 1) a (nI i) τ = dX12_digest_106 m (((31 : Int64) * a) + (τ 34 i).toInt64) (nI (i + 1)) τ := by
  conv => lhs; unfold dX12_digest_106
  rw [if_neg (show ¬ (6 : Int32) ≤ nI i from nI_ge (b := 6) (by omega) (by decide))]
  simp only [sc_inI hi (by omega : 6 ≤ 10000), if_true, sc_cl (show i < 2 ^ 31 by omega), nI_1]
theorem sc_dgFa {σ τ : sf_S} (hr : sc_Ru σ τ) : ∀ r i m m' (a : Int64), i + r = 2 → r + 1 ≤ m → r ≤ m' → ∃ a', dX11_mixRun_67 m a (nI i) σ = dX11_mixRun_96 sf_F a' 0 σ ∧ dX12_digest_106 m' a (nI i) τ = dX12_digest_106 (m' - r) a' (nI 2) τ := by
  intro r
  induction r with
  | zero =>
    intro i m m' a q1 q2 q3
    obtain ⟨m, rfl⟩ : ∃ x, m = x + 1 := ⟨m - 1, by omega⟩
    have e : i = 2 := by omega
    subst e
    refine ⟨a, ?_, rfl⟩
    unfold dX11_mixRun_67
    rw [if_pos (show (1 : Int32) < nI 2 by decide +kernel)]
  | succ r ih =>
    intro i m m' a q1 q2 q3
    obtain ⟨m, rfl⟩ : ∃ x, m = x + 1 := ⟨m - 1, by omega⟩
    obtain ⟨m', rfl⟩ : ∃ x, m' = x + 1 := ⟨m' - 1, by omega⟩
    obtain ⟨v, c1, c2⟩ := sc_pr_no (sc_failure hr (nI i))
    have c2' : v = τ 34 i := by
      unfold dX12_failure at c2
      rw [sc_in12, decide_eq_true (by rw [Int32.toInt_toInt64, nI_toInt (by omega), sc_l0, sc_l1]; omega)] at c2
      simp only [Option.bind_some] at c2
      rw [if_neg (show ¬ sc_b true = 0 by decide), if_pos (sc_inI (by omega) (by omega)), sc_cl (by omega)] at c2
      exact (Prod.mk.inj (Option.some.inj c2)).1.symm
    obtain ⟨a', e1, e2⟩ := ih (i + 1) m m' (((31 : Int64) * a) + v.toInt64) (by omega) (by omega) (by omega)
    refine ⟨a', ?_, ?_⟩
    · rw [← e1]
      conv => lhs; unfold dX11_mixRun_67
      rw [if_neg (show ¬ (1 : Int32) < nI i from nI_nlt (b := i) (a := 1) (by omega) (by omega)), c1]
      simp only [Option.bind_some, nI_1]
    · rw [show m' + 1 - (r + 1) = m' - r by omega, ← e2, sc_dg106 (by omega), c2']
theorem sc_dgTo {σ τ : sf_S} (hr : sc_Ru σ τ) : ∀ r i m m' (a : Int64), i + r = 4 → r + 1 ≤ m → r + 1 ≤ m' → ∃ a', dX11_mixRun_96 m a (nI i) σ = dX11_mixRun_125 sf_F a' 0 σ ∧ dX12_digest_106 m' a (nI (2 + i)) τ = dX12_digest_134 sf_F a' 0 τ := by
  intro r
  induction r with
  | zero =>
    intro i m m' a q1 q2 q3
    obtain ⟨m, rfl⟩ : ∃ x, m = x + 1 := ⟨m - 1, by omega⟩
    obtain ⟨m', rfl⟩ : ∃ x, m' = x + 1 := ⟨m' - 1, by omega⟩
    have e : i = 4 := by omega
    subst e
    refine ⟨a, ?_, ?_⟩
    · unfold dX11_mixRun_96
      rw [if_pos (show (3 : Int32) < nI 4 by decide +kernel)]
    · unfold dX12_digest_106
      rw [if_pos (show (6 : Int32) ≤ nI (2 + 4) by decide +kernel)]
  | succ r ih =>
    intro i m m' a q1 q2 q3
    obtain ⟨m, rfl⟩ : ∃ x, m = x + 1 := ⟨m - 1, by omega⟩
    obtain ⟨m', rfl⟩ : ∃ x, m' = x + 1 := ⟨m' - 1, by omega⟩
    obtain ⟨v, c1, c2⟩ := sc_pr_no (sc_told hr (nI i))
    have c2' : v = τ 34 (2 + i) := by
      unfold dX12_told at c2
      rw [sc_in12, decide_eq_true (by rw [Int32.toInt_toInt64, nI_toInt (by omega), sc_l0, sc_l3]; omega)] at c2
      simp only [Option.bind_some, sc_k2, nI_add] at c2
      rw [if_neg (show ¬ sc_b true = 0 by decide), if_pos (sc_inI (by omega) (by omega)), sc_cl (by omega)] at c2
      exact (Prod.mk.inj (Option.some.inj c2)).1.symm
    obtain ⟨a', e1, e2⟩ := ih (i + 1) m m' (((31 : Int64) * a) + v.toInt64) (by omega) (by omega) (by omega)
    refine ⟨a', ?_, ?_⟩
    · rw [← e1]
      conv => lhs; unfold dX11_mixRun_96
      rw [if_neg (show ¬ (3 : Int32) < nI i from nI_nlt (b := i) (a := 3) (by omega) (by omega)), c1]
      simp only [Option.bind_some, nI_1]
    · rw [← e2, sc_dg106 (by omega), c2']
      rfl
theorem sc_dgW {p : Nat} {σ τ : sf_S} (hp : p < 2 ^ 31) (h1 : σ 19 9 = nI p) (h2 : τ 34 5 = nI p) (h3 : ∀ j, j < 40 → j < p → σ 21 j = τ 36 j ∧ σ 22 j = τ 37 j) : ∀ r i m m' (a : Int64), i + r = min p 40 → r + 1 ≤ m → r + 1 ≤ m' → ∃ a', dX11_mixRun_125 m a (nI i) σ = some (a', σ) ∧ dX12_digest_134 m' a (nI i) τ = ((dX12_savesBy (3 : Int32) τ).bind fun u2 => some ((((31 : Int64) * a') + u2.1.toInt64), u2.2)) := by
  have hF := sf_F_le
  intro r
  induction r with
  | zero =>
    intro i m m' a q1 q2 q3
    obtain ⟨m, rfl⟩ : ∃ x, m = x + 1 := ⟨m - 1, by omega⟩
    obtain ⟨m', rfl⟩ : ∃ x, m' = x + 1 := ⟨m' - 1, by omega⟩
    refine ⟨a, ?_, ?_⟩
    · unfold dX11_mixRun_125
      rw [sc_keptC hp h1]
      simp only [Option.bind_some]
      rw [if_pos (nI_le (by omega) (by omega))]
    · unfold dX12_digest_134
      rw [sc_keptM hp h2]
      simp only [Option.bind_some]
      rw [if_pos (nI_le (by omega) (by omega))]
  | succ r ih =>
    intro i m m' a q1 q2 q3
    obtain ⟨m, rfl⟩ : ∃ x, m = x + 1 := ⟨m - 1, by omega⟩
    obtain ⟨m', rfl⟩ : ∃ x, m' = x + 1 := ⟨m' - 1, by omega⟩
    obtain ⟨c1, c2⟩ := h3 i (by omega) (by omega)
    have ew : ∀ w, w < 2 → dX11_written (nI i) (nI w) σ = some ((if w = 0 then τ 36 i else τ 37 i).toInt64, σ) := fun w hw => by
      unfold dX11_written
      rw [if_neg (nI_pos (by omega)), sc_keptC hp h1]
      simp only [Option.bind_some]
      rw [if_neg (nI_ge (by omega) (by omega)), if_neg (nI_pos (by omega)), if_pos (show nI w ≤ 1 from nI_le (b := 1) (by omega) (by decide)), sc_inI (show i < 40 by omega) (by omega), if_pos rfl, if_pos rfl, sc_cl (by omega), c1, c2]
      rcases (by omega : w = 0 ∨ w = 1) with q | q
      · subst q; rw [if_neg (show ¬ ¬ nI 0 = 0 by decide), if_pos rfl]
      · subst q; rw [if_pos (show ¬ nI 1 = 0 by decide), if_neg (by decide)]
    have e140 : ∀ K, dX11_mixRun_140 K sf_F a (nI i) 0 σ = K (((31 : Int64) * (((31 : Int64) * a) + (τ 36 i).toInt64)) + (τ 37 i).toInt64) (nI (i + 1)) σ := fun K => by
      obtain ⟨F, hFF⟩ : ∃ F, sf_F = F + 1 + 1 + 1 := ⟨sf_F - 3, by omega⟩
      rw [hFF]
      have w0 := ew 0 (by omega)
      have w1 := ew 1 (by omega)
      rw [nI_0, if_pos rfl] at w0
      rw [if_neg (by decide), ← sc_1] at w1
      conv => lhs; unfold dX11_mixRun_140
      rw [if_neg (show ¬ (1 : Int32) < 0 by decide), w0]
      simp only [Option.bind_some]
      rw [show (0 : Int32) + 1 = 1 by decide]
      conv => lhs; unfold dX11_mixRun_140
      rw [if_neg (show ¬ (1 : Int32) < 1 by decide), w1]
      simp only [Option.bind_some]
      rw [show (1 : Int32) + 1 = 2 by decide]
      conv => lhs; unfold dX11_mixRun_140
      rw [if_pos (show (1 : Int32) < 2 by decide), nI_1]
    obtain ⟨a', e1, e2⟩ := ih (i + 1) m m' (((31 : Int64) * (((31 : Int64) * a) + (τ 36 i).toInt64)) + (τ 37 i).toInt64) (by omega) (by omega) (by omega)
    refine ⟨a', ?_, ?_⟩
    · rw [← e1]
      conv => lhs; unfold dX11_mixRun_125
      rw [sc_keptC hp h1]
      simp only [Option.bind_some]
      rw [if_neg (nI_ge (by omega) (by omega)), e140]
    · rw [← e2]
      conv => lhs; unfold dX12_digest_134
      rw [sc_keptM hp h2]
      simp only [Option.bind_some]
      rw [if_neg (nI_ge (by omega) (by omega))]
      simp only [sc_inI (show i < 40 by omega) (by omega : 40 ≤ 10000), if_true, sc_cl (show i < 2 ^ 31 by omega), nI_1]
/-- the latest run in the hash -/
theorem sc_dgRun {σ τ : sf_S} (hr : sc_Ru σ τ) (a : Int64) : ∃ a', dX11_mixRun a σ = some (a', σ) ∧ dX12_digest_51 sf_F a 0 τ = ((dX12_savesBy (3 : Int32) τ).bind fun u2 => some ((((31 : Int64) * a') + u2.1.toInt64), u2.2)) := by
  have hF := sf_F_le
  obtain ⟨g, p, a1, a2, a3, a4, a5, a6, a7, a8, a9, b1, b2, b3, b4⟩ := id hr
  obtain ⟨x1, c1, d1⟩ := sc_dgRes a1 a3 a4 b3 g 0 sf_F sf_F a (by omega) (by omega) (by omega)
  obtain ⟨x2, c2, d2⟩ := sc_dgF hr 3 0 sf_F sf_F x1 (by omega) (by omega) (by omega)
  obtain ⟨x3, c3, d3⟩ := sc_dgFa hr 2 0 sf_F sf_F x2 (by omega) (by omega) (by omega)
  obtain ⟨x4, c4, d4⟩ := sc_dgTo hr 4 0 sf_F (sf_F - 2) x3 (by omega) (by omega) (by omega)
  obtain ⟨x5, c5, d5⟩ := sc_dgW a2 a5 a6 b4 (min p 40) 0 sf_F sf_F x4 (by omega) (by omega) (by omega)
  rw [nI_0] at c1 c2 c3 c4 c5 d1 d2 d3 d5
  refine ⟨x5, ?_, ?_⟩
  · unfold dX11_mixRun
    rw [c1, c2, c3, c4, c5]
  · rw [d1, d2, d3, show nI 2 = nI (2 + 0) from rfl, d4, d5]
def sc_GC : Nat → Nat → Bool := fun a b => sc_XC a b || sc_VC a b
def sc_GM : Nat → Nat → Bool := fun a b => sc_XM a b || sc_WM a b || sc_VM a b
theorem sc_digest {σ τ : sf_S} (hs : sc_Sh σ τ) (hf : sc_Fi σ τ) (ht : sc_Tx σ τ) (hr : sc_Ru σ τ) (hp : sc_Pm σ τ) (hw : sc_Rw σ τ) (hd : sc_Dd τ) : sc_pr sc_GC sc_GM (fun σ' τ' => sc_Pm σ' τ' ∧ sc_Dd τ') σ τ (dX11_digest σ) (dX12_digest τ) := by
  have hF := sf_F_le
  obtain ⟨h1, c1, c2⟩ := sc_dgA (fun x1 => sc_count hf ht hr hp hw x1) 8 0 sf_F sf_F 17 (by omega) (by omega) (by omega)
  obtain ⟨fl, σ1, τ1, f1, f2, f3, f4, -⟩ := sc_fault ht
  have f2' : dX12_faultNow τ = some (fl, τ1) := by
    unfold dX12_fault at f2
    rw [sc_bid] at f2
    exact f2
  have XC : ∀ a b, ¬ (36 ≤ a ∧ a ≤ 48 ∧ (a = 46 → 4 ≤ b)) → σ1 a b = σ a b := fun a b hab => f3 a b (by
    simp only [sc_XC, Bool.or_eq_false_iff, Bool.and_eq_false_iff, beq_eq_false_iff_ne, ne_eq]; omega)
  have XM : ∀ a b, ¬ ((6 ≤ a ∧ a ≤ 10) ∨ (a = 0 ∧ 8 ≤ b ∧ b ≤ 16)) → τ1 a b = τ a b := fun a b hab => f4 a b (by
    simp only [sc_XM, Bool.or_eq_false_iff, Bool.and_eq_false_iff, beq_eq_false_iff_ne, ne_eq]; omega)
  have hp1 : sc_Pm σ1 τ1 := hp.kept (fun a b q1 q2 => XC a b (by omega)) (fun a b q => XM a b (by omega))
  obtain ⟨h2, s, p1, p2, p3⟩ := sc_dgPlan hp1 (((31 : Int64) * h1) + fl.toInt64)
  have XW : ∀ a b, ¬ (a = 21 ∨ (a = 0 ∧ b = 29)) → s a b = τ1 a b := fun a b hab => p3 a b (by
    simp only [sc_WM, Bool.or_eq_false_iff, Bool.and_eq_false_iff, beq_eq_false_iff_ne, ne_eq]; omega)
  have XS : ∀ a b, ¬ ((6 ≤ a ∧ a ≤ 10) ∨ (a = 0 ∧ 8 ≤ b ∧ b ≤ 16) ∨ a = 21 ∨ (a = 0 ∧ b = 29)) → s a b = τ a b := fun a b hab => by
    rw [XW a b (by omega), XM a b (by omega)]
  have hp2 : sc_Pm σ1 s := hp1.kept (fun _ _ _ _ => rfl) (fun a b q => XW a b (by omega))
  have hw2 : sc_Rw σ1 s := hw.kept (fun a b q => XC a b (by omega)) (fun a b q => XS a b (by omega))
  have hr2 : sc_Ru σ1 s := hr.kept (fun a b q => XC a b (by omega)) (fun a b q => XS a b (by omega))
  have hs2 : sc_Sh σ1 s := hs.kept (fun a b q => XC a b (by omega)) (fun a b q => XS a b (by omega))
  have hd2 : sc_Dd s := hd.kept (fun a b q => XS a b (by omega))
  obtain ⟨h3, r1, r2⟩ := sc_dgR hw2 13 0 sf_F sf_F h2 (by omega) (by omega) (by omega)
  obtain ⟨h4, q1, q2⟩ := sc_dgRun hr2 h3
  obtain ⟨v, σ3, τ3, v1, v2, v3, v4, v5⟩ := sc_savesB (N := 3) hs2 hp2 hd2 (by omega)
  rw [nI_0] at c1 c2 r1 r2
  refine ⟨((31 : Int64) * h4) + v.toInt64, σ3, τ3, ?_, ?_, ?_, ?_, v5⟩
  · unfold dX11_digest
    rw [c1, f1]
    simp only [Option.bind_some]
    rw [p1]
    simp only [Option.bind_some]
    rw [r1, q1]
    simp only [Option.bind_some]
    rw [show dX11_saves 3 σ1 = some (v, σ3) from v1]
    rfl
  · unfold dX12_digest
    rw [c2, f2']
    simp only [Option.bind_some]
    rw [p2, r2]
    simp only [Option.bind_some]
    rw [q2, show dX12_savesBy 3 s = some (v, τ3) from v2]
    rfl
  · exact sc_fr_tr (sc_fr_wk f3 (fun a b hab => by simp only [sc_GC, Bool.or_eq_false_iff] at hab; exact hab.1)) (sc_fr_wk v3 (fun a b hab => by simp only [sc_GC, Bool.or_eq_false_iff] at hab; exact hab.2))
  · exact sc_fr_tr (sc_fr_wk f4 (fun a b hab => by simp only [sc_GM, Bool.or_eq_false_iff] at hab; exact hab.1.1)) (sc_fr_tr (sc_fr_wk p3 (fun a b hab => by simp only [sc_GM, Bool.or_eq_false_iff] at hab; exact hab.1.2)) (sc_fr_wk v4 (fun a b hab => by simp only [sc_GM, Bool.or_eq_false_iff] at hab; exact hab.2)))
