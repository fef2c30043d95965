/-! way 2: the reference's machine -/
theorem sc_mF {N : Nat} {x : Int32} {τ : sf_S} (h : ¬ τ 0 35 = 0) : dX12_makesRows_21 (N + 1) x τ = some τ := by
  unfold dX12_makesRows_21
  split
  · rfl
  · split
    · rfl
    · first | rfl | rw [if_pos h]
theorem sc_hp {h : Nat} (hh : h < 100) : ¬ nI (h + 1) ≤ 0 := fun q => by
  rw [Int32.le_iff_toInt_le, nI_toInt (by omega), sc_t0] at q; omega
theorem sc_mv0 {N k h t : Nat} {τ τ1 : sf_S} {r : Int32} (ht : t < 100000000) (h48 : τ 0 48 = nI (h + 1)) (hh : h < 41) (hfl : τ 0 35 = 0) (hp : τ 29 h = nI k) (e : dX12_wantsRow (nI k) τ = some (r, τ1)) :
    dX12_makesRows_21 (N + 1) (nI t) τ = if ¬ (τ1 0 35) = 0 then dX12_makesRows_102 (dX12_makesRows_21 N) (nI t) (nI k) τ1 else if r = (-1 : Int32) then dX12_makesRows_102 (dX12_makesRows_21 N) (nI t) (nI k) τ1 else if sf_in r 40 then (let s4 := sf_up τ1 32 r.toNatClampNeg (0 : Int32); let v5 := (s4 0 48); if sf_in v5 41 then (let s6 := sf_up s4 29 v5.toNatClampNeg r; let s7 := sf_up s6 0 48 ((s6 0 48) + (1 : Int32)); dX12_makesRows_21 N (nI t + (1 : Int32)) s7) else none) else none := by
  conv => lhs; unfold dX12_makesRows_21
  rw [sc_c8, if_neg (nI_ge ht (by omega)), h48, if_neg (sc_hp (by omega)), if_neg (not_not_intro hfl), nI_pred]
  simp only [sc_inI (show h < 41 from hh) (by omega : 41 ≤ 10000), if_true, sc_cl (show h < 2 ^ 31 by omega), hp, e, Option.bind_some]
theorem sc_mv1 {N k h a t : Nat} {τ τ1 : sf_S} (ht : t < 100000000) (h48 : τ 0 48 = nI (h + 1)) (hh : h < 40) (hfl : τ 0 35 = 0) (hp : τ 29 h = nI k) (e : dX12_wantsRow (nI k) τ = some (nI a, τ1)) (ha : a < 40) (hfl1 : τ1 0 35 = 0) (h48' : τ1 0 48 = nI (h + 1)) :
    dX12_makesRows_21 (N + 1) (nI t) τ = dX12_makesRows_21 N (nI (t + 1)) (sf_up (sf_up (sf_up τ1 32 a 0) 29 (h + 1) (nI a)) 0 48 (nI (h + 2))) := by
  rw [sc_mv0 ht h48 (by omega) hfl hp e, if_neg (not_not_intro hfl1), if_neg (fun q => by
    have e := congrArg Int32.toInt q
    rw [nI_toInt (by omega), show (-1 : Int32).toInt = -1 from by decide] at e
    omega)]
  have e48 : sf_up τ1 32 a 0 0 48 = nI (h + 1) := by rw [sc_upK (by decide)]; exact h48'
  simp only [sc_inI (show a < 40 from ha) (by omega : 40 ≤ 10000), if_true, sc_cl (show a < 2 ^ 31 by omega), e48, sc_inI (show h + 1 < 41 by omega) (by omega : 41 ≤ 10000), sc_cl (show h + 1 < 2 ^ 31 by omega), nI_1]
  rw [sc_upK (by decide), e48, nI_1]
theorem sc_mv2 {N k h t : Nat} {τ τ1 : sf_S} (ht : t < 100000000) (h48 : τ 0 48 = nI (h + 1)) (hh : h < 41) (hfl : τ 0 35 = 0) (hp : τ 29 h = nI k) (e : dX12_wantsRow (nI k) τ = some (-1, τ1)) :
    dX12_makesRows_21 (N + 1) (nI t) τ = dX12_makesRows_102 (dX12_makesRows_21 N) (nI t) (nI k) τ1 := by
  rw [sc_mv0 ht h48 hh hfl hp e]
  split
  · rfl
  · rw [if_pos rfl]
theorem sc_mvF {N k h t : Nat} {τ τ1 : sf_S} {r : Int32} (ht : t < 100000000) (h48 : τ 0 48 = nI (h + 1)) (hh : h < 41) (hfl : τ 0 35 = 0) (hp : τ 29 h = nI k) (e : dX12_wantsRow (nI k) τ = some (r, τ1)) (h1 : ¬ τ1 0 35 = 0) : dX12_makesRows_21 (N + 1 + 1) (nI t) τ = some τ1 := by
  rw [sc_mv0 ht h48 hh hfl hp e, if_pos h1]
  unfold dX12_makesRows_102
  rw [if_pos h1]
  exact sc_mF h1
theorem sc_mvP {N k h t : Nat} {τ : sf_S} (h48 : τ 0 48 = nI (h + 1)) (hfl : τ 0 35 = 0) (hk : k < 40) : dX12_makesRows_102 (dX12_makesRows_21 N) (nI t) (nI k) τ = dX12_makesRows_21 N (nI (t + 1)) (sf_up (sf_up (sf_up τ 0 48 (nI h)) 0 38 (τ 0 38 + 1)) 0 39 (τ 0 39 + τ 31 k)) := by
  unfold dX12_makesRows_102
  rw [if_neg (not_not_intro hfl), h48, nI_pred]
  simp only [sc_inI (show k < 40 from hk) (by omega : 40 ≤ 10000), if_true, sc_cl (show k < 2 ^ 31 by omega), nI_1]
  rw [sc_upJ (by decide), sc_upJ (by decide), sc_upJ (by decide), sc_upK (by decide), sc_upK (by decide)]
theorem sc_W.cnt {X : sc_X} {D np g : Nat} {σ τ : sf_S} (h : sc_W X D np g σ τ) (y v : Int32) : sc_W X D np g (sf_up (sf_up σ (sf_rn X.q) 3 (σ (sf_rn X.q) 3 + 1)) (sf_rn X.q) 4 (σ (sf_rn X.q) 4 + v)) (sf_up (sf_up (sf_up τ 0 48 y) 0 38 (τ 0 38 + 1)) 0 39 (τ 0 39 + v)) := by
  refine ⟨h.cy.kept (sc_fr_tr (sc_fr_up (by simp [sc_RC])) (sc_fr_up (by simp [sc_RC]))) (sc_fr_tr (sc_fr_up (by simp [sc_RM])) (sc_fr_tr (sc_fr_up (by simp [sc_RM])) (sc_fr_up (by simp [sc_RM])))), h.D5, h.np4, h.g40, ?_, ?_, ?_, ?_, ?_, ?_, ?_, ?_, fun j hj => ?_, ?_, ?_, fun j hj hp => ?_⟩
  all_goals simp (disch := omega) only [sc_upK, sc_upJ, sc_upS]
  · exact h.cD
  · exact h.rD
  · rw [h.wk]
  · rw [h.el]
  · exact h.fl
  · exact h.fd
  · exact h.cg
  · exact h.rg
  · exact h.re j hj
  · exact h.cp
  · exact h.rp
  · exact h.nt j hj hp
theorem sc_bi2 {α β : Type} (x : Option (α × β)) : (x.bind fun u => some (u.1, u.2)) = x := by
  cases x <;> rfl
/-! what a node wants -/
theorem sc_wr {X : sc_X} {σ τ : sf_S} (h : sc_Cy X σ τ) {k : Nat} (hk : k < X.n) : dX12_wantsRow (nI k) τ = if ¬ τ 32 k = 0 then dX12_wantsRow_35 (nI k) (nI (sc_p (X.L k))) (τ 32 k) τ else dX12_wantsRow_35 (nI k) (nI (sc_p (X.L k))) 0 (sf_up (sf_up τ 31 k 0) 33 k 0) := by
  unfold dX12_wantsRow
  simp only [h.nin hk, if_true, h.ncl hk, (h.r1 k hk).1, sc_partsM, (h.vn k hk).1, Option.bind_some]
  split
  · rfl
  · next q => rw [Classical.not_not.mp q]
theorem sc_np0 {p : Nat} (h0 : 0 < p) (h : p ≤ 2) : ¬ nI p ≤ 0 := fun q => by
  rw [Int32.le_iff_toInt_le, nI_toInt (by omega), sc_t0] at q; omega
theorem sc_wr0 {X : sc_X} {σ τ : sf_S} (h : sc_Cy X σ τ) {k : Nat} (hk : k < X.n) (hp : sc_p (X.L k) = 0) (h32 : τ 32 k = 0) : dX12_wantsRow (nI k) τ = (dX12_fills (nI k) (sf_up (sf_up τ 31 k 0) 33 k 0)).bind fun u => some (-1, u) := by
  rw [sc_wr h hk, if_neg (not_not_intro h32), hp]
  unfold dX12_wantsRow_35 dX12_wantsRow_57 dX12_wantsRow_98
  rw [if_pos (show nI 0 ≤ 0 by decide), if_pos (h.nin hk), h.ncl hk, sc_upK (by decide), sc_upK (by decide), (h.r1 k hk).1, if_pos (show ¬ X.L k = 120 from fun q => by rw [q] at hp; exact absurd hp (by decide +kernel)), if_pos (show ¬ nI 0 = 2 by decide), if_neg (show ¬ ¬ nI 0 = 0 by decide)]
theorem sc_wr1 {X : sc_X} {σ τ : sf_S} (h : sc_Cy X σ τ) {k : Nat} (hk : k < X.n) (hp : 1 ≤ sc_p (X.L k)) (h32 : τ 32 k = 0) : dX12_wantsRow (nI k) τ = some (nI (sc_ps X.L X.E k), sf_up (sf_up (sf_up τ 31 k 0) 33 k 0) 32 k 1) := by
  have := sc_p_le (X.L k)
  rw [sc_wr h hk, if_neg (not_not_intro h32)]
  unfold dX12_wantsRow_35
  rw [if_neg (sc_np0 (by omega) (by omega)), if_neg (show ¬ ¬ (0 : Int32) = 0 by decide)]
  simp only [h.nin hk, if_true, h.ncl hk]
  rw [sc_upK (by decide), sc_upK (by decide), sc_upK (by decide), (h.r5 k hk).2.1]
theorem sc_wrT {X : sc_X} {σ τ : sf_S} (h : sc_Cy X σ τ) {k : Nat} (hk : k < X.n) (hp : 1 ≤ sc_p (X.L k)) (h32 : ¬ τ 32 k = 0) : dX12_wantsRow (nI k) τ = dX12_wantsRow_57 (nI k) (nI (sc_p (X.L k))) (τ 32 k) τ := by
  have := sc_p_le (X.L k)
  rw [sc_wr h hk, if_pos h32]
  unfold dX12_wantsRow_35
  rw [if_neg (sc_np0 (by omega) (by omega)), if_pos h32]
theorem sc_wr2 {X : sc_X} {σ τ : sf_S} (h : sc_Cy X σ τ) {k : Nat} (hk : k < X.n) (hp : sc_p (X.L k) = 1) (h32 : τ 32 k = 1) : dX12_wantsRow (nI k) τ = (dX12_changesRow (nI k) τ).bind fun u => some (-1, u) := by
  rw [sc_wrT h hk (by omega) (by rw [h32]; decide), hp]
  unfold dX12_wantsRow_57 dX12_wantsRow_98
  rw [if_pos (h.nin hk), h.ncl hk, (h.r1 k hk).1, if_pos (show ¬ X.L k = 120 from fun q => by rw [q] at hp; exact absurd hp (by decide +kernel)), if_pos (show ¬ nI 1 = 2 by decide), if_pos (show ¬ nI 1 = 0 by decide), if_neg (show ¬ ¬ nI 1 = 1 by decide)]
theorem sc_wr3 {X : sc_X} {σ τ : sf_S} (h : sc_Cy X σ τ) {k : Nat} (hk : k < X.n) (hp : sc_p (X.L k) = 2) (hL : ¬ X.L k = 120) (h32 : τ 32 k = 1) : dX12_wantsRow (nI k) τ = some (nI (X.E (k + 1)), sf_up τ 32 k 2) := by
  rw [sc_wrT h hk (by omega) (by rw [h32]; decide), hp]
  unfold dX12_wantsRow_57
  rw [if_pos (h.nin hk), h.ncl hk, (h.r1 k hk).1, if_pos hL, if_neg (show ¬ ¬ nI 2 = 2 by decide), h32, if_neg (show ¬ ¬ (1 : Int32) = 1 by decide)]
  simp only [h.nin hk, if_true]
  rw [sc_upK (by decide), (h.r5 k hk).2.2.1, sc_qs, if_neg hL, if_neg (by omega)]
theorem sc_wr4 {X : sc_X} {σ τ : sf_S} (h : sc_Cy X σ τ) {k : Nat} (hk : k < X.n) (hp : sc_p (X.L k) = 2) (hL : ¬ X.L k = 120) (h32 : τ 32 k = 2) : dX12_wantsRow (nI k) τ = (dX12_joinsRows (nI k) τ).bind fun u => some (-1, u) := by
  rw [sc_wrT h hk (by omega) (by rw [h32]; decide), hp]
  unfold dX12_wantsRow_57 dX12_wantsRow_98
  rw [if_pos (h.nin hk), h.ncl hk, (h.r1 k hk).1, if_pos hL, if_neg (show ¬ ¬ nI 2 = 2 by decide), h32, if_pos (show ¬ (2 : Int32) = 1 by decide), if_pos (show ¬ nI 2 = 0 by decide), if_pos (show ¬ nI 2 = 1 by decide)]
theorem sc_wr5 {X : sc_X} {σ τ : sf_S} (h : sc_Cy X σ τ) {k : Nat} (hk : k < X.n) (hL : X.L k = 120) (h32 : τ 32 k = 1) : dX12_wantsRow (nI k) τ = dX12_opensRow_87 (nI k) (nI (k + 1)) τ := by
  have hp := sc_p120 hL
  rw [sc_wrT h hk (by omega) (by rw [h32]; decide), hp]
  unfold dX12_wantsRow_57 dX12_opensRow
  rw [if_pos (h.nin hk), h.ncl hk, (h.r1 k hk).1, if_neg (not_not_intro hL), sc_bi2]
  simp only [h.nin hk, if_true]
  rw [h32, if_pos (show ¬ (1 : Int32) = 2 by decide), (h.r5 k hk).2.2.1, sc_qs, if_pos hL]
theorem sc_wr6 {X : sc_X} {σ τ : sf_S} (h : sc_Cy X σ τ) {k : Nat} (hk : k < X.n) (hL : X.L k = 120) (h32 : τ 32 k = 2) : dX12_wantsRow (nI k) τ = if (τ 31 k + τ 31 (k + 1)) ≤ (60 : Int32) then dX12_opensRow_45 sf_F (nI k) (nI (k + 1)) 0 τ else some (-1, sf_up (sf_up τ 0 35 4) 0 36 (X.dp k)) := by
  have hp := sc_p120 hL
  have hk1 := (h.T.p2 hk hp).1
  rw [sc_wrT h hk (by omega) (by rw [h32]; decide), hp]
  unfold dX12_wantsRow_57 dX12_opensRow
  rw [if_pos (h.nin hk), h.ncl hk, (h.r1 k hk).1, if_neg (not_not_intro hL), sc_bi2]
  simp only [h.nin hk, if_true]
  rw [h32, if_neg (show ¬ ¬ (2 : Int32) = 2 by decide), (h.r5 k hk).2.2.1, sc_qs, if_pos hL, if_pos (h.nin hk1), h.ncl hk1]
  unfold dX12_fails
  rw [if_pos (show ¬ (4 : Int32) = 3 by decide), if_pos (h.nin hk), h.ncl hk, sc_upK (by decide), (h.r5 k hk).2.2.2.1]
  rfl
