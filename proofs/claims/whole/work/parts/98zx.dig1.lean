/-! the call digest: counts, nodes, text -/
theorem sc_dgA {σ τ : sf_S} (hc : ∀ x1, ∃ v, dX11_count x1 σ = some (v, σ) ∧ dX12_count x1 τ = some (v, τ)) : ∀ r k n n' (h : Int64), k + r = 8 → r + 1 ≤ n → r + 1 ≤ n' → ∃ h', dX11_digest_6 n h (nI k) σ = ((dX11_fault σ).bind fun u1 => (dX11_mixPlan (((31 : Int64) * h') + u1.1.toInt64) u1.2).bind fun u3 => dX11_digest_51 sf_F u3.1 (0 : Int32) u3.2) ∧
    dX12_digest_6 n' h (nI k) τ = ((dX12_faultNow τ).bind fun u1 => (dX12_planTells (((31 : Int64) * h') + u1.1.toInt64) u1.2).bind fun u3 => dX12_digest_51 sf_F u3.1 (0 : Int32) u3.2) := by
  intro r
  induction r with
  | zero =>
    intro k n n' h h1 h2 h3
    obtain ⟨n, rfl⟩ : ∃ x, n = x + 1 := ⟨n - 1, by omega⟩
    obtain ⟨n', rfl⟩ : ∃ x, n' = x + 1 := ⟨n' - 1, by omega⟩
    have e : k = 8 := by omega
    subst e
    refine ⟨h, ?_, ?_⟩
    · unfold dX11_digest_6
      rw [if_pos (show (7 : Int32) < nI 8 by decide +kernel)]
    · unfold dX12_digest_6
      rw [if_pos (show (8 : Int32) ≤ nI 8 by decide +kernel)]
  | succ r ih =>
    intro k n n' h h1 h2 h3
    obtain ⟨n, rfl⟩ : ∃ x, n = x + 1 := ⟨n - 1, by omega⟩
    obtain ⟨n', rfl⟩ : ∃ x, n' = x + 1 := ⟨n' - 1, by omega⟩
    obtain ⟨v, c1, c2⟩ := hc (nI k)
    obtain ⟨h', e1, e2⟩ := ih (k + 1) n n' (((31 : Int64) * h) + v.toInt64) (by omega) (by omega) (by omega)
    refine ⟨h', ?_, ?_⟩
    · rw [← e1]
      conv => lhs; unfold dX11_digest_6
      rw [if_neg (show ¬ (7 : Int32) < nI k from nI_nlt (b := k) (a := 7) (by omega) (by omega)), c1]
      simp only [Option.bind_some, nI_1]
    · rw [← e2]
      conv => lhs; unfold dX12_digest_6
      rw [if_neg (show ¬ (8 : Int32) ≤ nI k from nI_ge (b := 8) (by omega) (by decide)), c2]
      simp only [Option.bind_some, nI_1]
theorem sc_dgN {n k : Nat} {E : Nat → Nat} {σ τ : sf_S} (h : sc_Pq 1 n E σ τ) (hk : k < n) (K K' : Int64 → Int32 → sf_S → Option (Int64 × sf_S)) : ∀ r w m m' (a : Int64), w + r = 6 → r + 1 ≤ m → r + 1 ≤ m' → ∃ a', dX11_mixPlan_20 K m a (nI k) (nI w) σ = K a' (nI (k + 1)) σ ∧ dX12_planTells_17 K' m' a (nI k) (nI w) τ = K' a' (nI (k + 1)) τ := by
  intro r
  induction r with
  | zero =>
    intro w m m' a h1 h2 h3
    obtain ⟨m, rfl⟩ : ∃ x, m = x + 1 := ⟨m - 1, by omega⟩
    obtain ⟨m', rfl⟩ : ∃ x, m' = x + 1 := ⟨m' - 1, by omega⟩
    have e : w = 6 := by omega
    subst e
    refine ⟨a, ?_, ?_⟩
    · unfold dX11_mixPlan_20
      rw [if_pos (show (5 : Int32) < nI 6 by decide +kernel), nI_1]
    · unfold dX12_planTells_17
      rw [if_pos (show (6 : Int32) ≤ nI 6 by decide +kernel), nI_1]
  | succ r ih =>
    intro w m m' a h1 h2 h3
    obtain ⟨m, rfl⟩ : ∃ x, m = x + 1 := ⟨m - 1, by omega⟩
    obtain ⟨m', rfl⟩ : ∃ x, m' = x + 1 := ⟨m' - 1, by omega⟩
    obtain ⟨v, c1, c2⟩ := sc_nodeBy (w := w) h hk (by omega)
    obtain ⟨a', e1, e2⟩ := ih (w + 1) m m' (((31 : Int64) * a) + v.toInt64) (by omega) (by omega) (by omega)
    refine ⟨a', ?_, ?_⟩
    · rw [← e1]
      conv => lhs; unfold dX11_mixPlan_20
      rw [if_neg (show ¬ (5 : Int32) < nI w from nI_nlt (b := w) (a := 5) (by omega) (by omega)), c1]
      simp only [Option.bind_some, nI_1]
    · rw [← e2]
      conv => lhs; unfold dX12_planTells_17
      rw [if_neg (show ¬ (6 : Int32) ≤ nI w from nI_ge (b := 6) (by omega) (by decide)), c2]
      simp only [Option.bind_some, nI_1]
/-- what follows the nodes -/
noncomputable def sc_dgC (a : Int64) (σ : sf_S) : Option (Int64 × sf_S) := (dX11_text (-1 : Int32) σ).bind fun u1 => if ¬ (u1.2 1 4) = 0 then dX11_mixPlan_82 sf_F (((31 : Int64) * a) + u1.1.toInt64) (0 : Int32) u1.2 else some ((((31 : Int64) * a) + u1.1.toInt64), u1.2)
noncomputable def sc_dgM (a : Int64) (τ : sf_S) : Option (Int64 × sf_S) := (dX12_writesPlan τ).bind fun u1 => dX12_planTells_59 sf_F a (-1 : Int32) u1
theorem sc_dgP {n : Nat} {σ τ : sf_S} (hn : n ≤ 40) (e1 : σ 1 4 = nI n) (e2 : τ 0 21 = nI n) (hP : 0 < n → ∃ E, sc_Pq 1 n E σ τ) : ∀ r k m m' (a : Int64), k + r = n → r + 1 ≤ m → r + 1 ≤ m' → ∃ a', dX11_mixPlan_5 m a (nI k) σ = sc_dgC a' σ ∧ dX12_planTells_5 m' a (nI k) τ = sc_dgM a' τ := by
  have hF := sf_F_le
  intro r
  induction r with
  | zero =>
    intro k m m' a h1 h2 h3
    obtain ⟨m, rfl⟩ : ∃ x, m = x + 1 := ⟨m - 1, by omega⟩
    obtain ⟨m', rfl⟩ : ∃ x, m' = x + 1 := ⟨m' - 1, by omega⟩
    refine ⟨a, ?_, ?_⟩
    · unfold dX11_mixPlan_5 sc_dgC
      rw [e1, if_pos (nI_le (by omega) (by omega))]
    · unfold dX12_planTells_5 sc_dgM
      rw [e2, if_pos (nI_le (by omega) (by omega))]
  | succ r ih =>
    intro k m m' a h1 h2 h3
    obtain ⟨m, rfl⟩ : ∃ x, m = x + 1 := ⟨m - 1, by omega⟩
    obtain ⟨m', rfl⟩ : ∃ x, m' = x + 1 := ⟨m' - 1, by omega⟩
    obtain ⟨E, hPq⟩ := hP (by omega)
    obtain ⟨a1, c1, c2⟩ := sc_dgN hPq (show k < n by omega) (dX11_mixPlan_5 m) (dX12_planTells_5 m') 6 0 sf_F sf_F a (by omega) (by omega) (by omega)
    obtain ⟨a', d1, d2⟩ := ih (k + 1) m m' a1 (by omega) (by omega) (by omega)
    rw [nI_0] at c1 c2
    refine ⟨a', ?_, ?_⟩
    · rw [← d1, ← c1]
      conv => lhs; unfold dX11_mixPlan_5
      rw [e1, if_neg (nI_ge (by omega) (by omega))]
    · rw [← d2, ← c2]
      conv => lhs; unfold dX12_planTells_5
      rw [e2, if_neg (nI_ge (by omega) (by omega))]
/-- the bytes of the text -/
theorem sc_dgT {n len : Nat} {σ s : sf_S} (hl : len ≤ 400) (hn0 : 0 < n) (hn : n ≤ 40) (h1 : σ 11 2 = nI len) (h2 : s 0 29 = nI len) (h3 : s 0 21 = nI n) (hT : ∀ x1, ∃ v, dX11_text x1 σ = some (v, σ) ∧ dX12_textBy x1 s = some (v, s)) : ∀ r i m m' (a : Int64), i + r = len → r + 1 ≤ m → r + 1 ≤ m' → ∃ a', dX11_mixPlan_82 m a (nI i) σ = some (a', σ) ∧ dX12_planTells_59 m' a (nI i) s = dX12_planTells_102 sf_F a' 0 s := by
  intro r
  induction r with
  | zero =>
    intro i m m' a q1 q2 q3
    obtain ⟨m, rfl⟩ : ∃ x, m = x + 1 := ⟨m - 1, by omega⟩
    obtain ⟨m', rfl⟩ : ∃ x, m' = x + 1 := ⟨m' - 1, by omega⟩
    refine ⟨a, ?_, ?_⟩
    · unfold dX11_mixPlan_82
      rw [h1, if_pos (nI_le (by omega) (by omega))]
    · unfold dX12_planTells_59 dX12_planTells_76
      rw [h3, if_pos (nI_ne0 hn0 (by omega)), h2, if_pos (nI_le (by omega) (by omega))]
  | succ r ih =>
    intro i m m' a q1 q2 q3
    obtain ⟨m, rfl⟩ : ∃ x, m = x + 1 := ⟨m - 1, by omega⟩
    obtain ⟨m', rfl⟩ : ∃ x, m' = x + 1 := ⟨m' - 1, by omega⟩
    obtain ⟨v, c1, c2⟩ := hT (nI i)
    obtain ⟨a', e1, e2⟩ := ih (i + 1) m m' (((31 : Int64) * a) + v.toInt64) (by omega) (by omega) (by omega)
    refine ⟨a', ?_, ?_⟩
    · rw [← e1]
      conv => lhs; unfold dX11_mixPlan_82
      rw [h1, if_neg (nI_ge (by omega) (by omega)), c1]
      simp only [Option.bind_some, nI_1]
    · rw [← e2]
      conv => lhs; unfold dX12_planTells_59 dX12_planTells_76
      rw [h3, if_pos (nI_ne0 hn0 (by omega)), h2, if_neg (nI_ge (by omega) (by omega)), c2]
      simp only [Option.bind_some, nI_1]
/-- the whole plan in the hash, up to the rules -/
theorem sc_dgPlan {σ τ : sf_S} (hp : sc_Pm σ τ) (a : Int64) : ∃ a' s, dX11_mixPlan a σ = some (a', σ) ∧ dX12_planTells a τ = dX12_planTells_102 sf_F a' 0 s ∧ sc_fr sc_WM τ s := by
  have hF := sf_F_le
  obtain ⟨n, hn, e1, e2, hP, -⟩ := sc_Pm_n hp
  obtain ⟨a1, c1, c2⟩ := sc_dgP hn e1 e2 (fun q => by obtain ⟨E, z, -⟩ := hP q; exact ⟨E, z⟩) n 0 sf_F sf_F a (by omega) (by omega) (by omega)
  have frm : ∀ {s : sf_S}, (∀ a b, ¬ (a = 21 ∨ (a = 0 ∧ b = 29)) → s a b = τ a b) → sc_fr sc_WM τ s := fun q a b hab => q a b (by
    simp only [sc_WM, Bool.or_eq_false_iff, Bool.and_eq_false_iff, beq_eq_false_iff_ne, ne_eq] at hab
    omega)
  rw [nI_0] at c1 c2
  unfold dX11_mixPlan dX12_planTells
  rw [c1, c2]
  unfold sc_dgC sc_dgM
  by_cases hn0 : 0 < n
  · obtain ⟨E, hPq, h2, h3⟩ := hP hn0
    obtain ⟨s, w1, w2, w3, w4⟩ := sc_writes hn (fun j hj => (hPq.2.2.2.2.2.2.1 j hj).2.2.2.2) e2 hPq.2.2.2.2.2.2.2.2.2
    have h21 : s 0 21 = nI n := by rw [w2 _ _ (by omega)]; exact e2
    have hT : ∀ x1, ∃ v, dX11_text x1 σ = some (v, σ) ∧ dX12_textBy x1 s = some (v, s) := fun x1 => sc_textBy hPq h2 h3 h21 w3 w4 x1
    have hl := sc_tx_len hPq
    obtain ⟨v, t1, t2⟩ := hT (-1)
    obtain ⟨a', d1, d2⟩ := sc_dgT hl hn0 hn h2 w3 h21 hT (sc_tx n τ).length 0 sf_F (sf_F - 1) (((31 : Int64) * a1) + v.toInt64) (by omega) (by omega) (by omega)
    rw [nI_0] at d1 d2
    refine ⟨a', s, ?_, ?_, frm w2⟩
    · rw [t1]
      simp only [Option.bind_some]
      rw [e1, if_pos (nI_ne0 hn0 (by omega))]
      exact d1
    · rw [w1]
      simp only [Option.bind_some]
      rw [← d2]
      obtain ⟨m, hm⟩ : ∃ m, sf_F = m + 1 := ⟨sf_F - 1, by omega⟩
      rw [show sf_F - 1 = m by omega]
      conv => lhs; rw [hm]
      conv => lhs; unfold dX12_planTells_59 dX12_planTells_76
      rw [h21, if_pos (nI_ne0 hn0 (by omega)), w3, if_neg (fun q => by
        rw [Int32.le_iff_toInt_le, nI_toInt (by omega), show (-1 : Int32).toInt = -1 from by decide] at q; omega), t2]
      simp only [Option.bind_some]
      rw [show (-1 : Int32) + 1 = 0 by decide]
  · have hn00 : n = 0 := by omega
    subst hn00
    obtain ⟨s, w1, w2, w3, w4⟩ := sc_writes (n := 0) (τ := τ) (by omega) (fun j hj => absurd hj (Nat.not_lt_zero j)) e2 (Nat.zero_le _)
    have h21 : s 0 21 = nI 0 := by rw [w2 _ _ (by omega)]; exact e2
    refine ⟨((31 : Int64) * a1) + (-2 : Int32).toInt64, s, ?_, ?_, frm w2⟩
    · have et : dX11_text (-1) σ = some (-2, σ) := by
        unfold dX11_text
        rw [e1, if_neg (show ¬ ¬ nI 0 = 0 by decide)]
      rw [et]
      simp only [Option.bind_some]
      rw [e1, if_neg (show ¬ ¬ nI 0 = 0 by decide)]
    · rw [w1]
      simp only [Option.bind_some]
      have et : dX12_textBy (-1) s = some (-2, s) := by
        unfold dX12_textBy
        rw [h21, if_neg (show ¬ ¬ nI 0 = 0 by decide)]
      obtain ⟨m, hm⟩ : ∃ m, sf_F = m + 1 + 1 := ⟨sf_F - 2, by omega⟩
      conv => lhs; rw [hm]
      conv => lhs; unfold dX12_planTells_59 dX12_planTells_76
      rw [h21, if_neg (show ¬ ¬ nI 0 = 0 by decide), if_neg (show ¬ (0 : Int32) ≤ -1 by decide), et]
      simp only [Option.bind_some]
      rw [show (-1 : Int32) + 1 = 0 by decide]
      conv => lhs; unfold dX12_planTells_59 dX12_planTells_76
      rw [h21, if_neg (show ¬ ¬ nI 0 = 0 by decide), if_pos (show (0 : Int32) ≤ 0 by decide)]
