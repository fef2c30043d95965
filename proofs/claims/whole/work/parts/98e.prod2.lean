theorem sc_opFor {X : sc_X} {σ τ : sf_S} (h : sc_Cy X σ τ) {k : Nat} (hk : k < X.n) (hu : X.L k = 117 ∨ X.L k = 118) : dX10_openedFor X.q (nI k) σ = some (σ (sf_op X.q) (X.o k).toNatClampNeg, σ) := by
  have h4 : σ (sf_pl X.q) 4 = nI X.n := h.c4
  have hn := h.n40
  obtain ⟨x, x1, x2, x3, x4, x5⟩ := h.ow hk hu
  unfold dX10_openedFor dX10_openedFor_28
  rw [if_neg (nI_pos (by omega)), h4, if_neg (nI_ge hk (by omega)), if_pos (h.nin hk), h.ncl hk, show σ (sf_pl X.q + 8) k = X.o k from (h.c5 k hk).2.2, x1, if_neg (nI_pos (by omega)), if_neg (nI_ge x5 (by omega)), if_pos (h.nin x5)]
theorem sc_ready {X : sc_X} {σ τ : sf_S} (h : sc_Cy X σ τ) {k : Nat} (hk : k < X.n) (hs : X.L k ≠ 115) : dX10_isReady X.q (nI k) σ = some (1, σ) := by
  unfold dX10_isReady
  rw [h.lat hk]
  simp only [Option.bind_some]
  rw [if_pos hs]
theorem sc_mk115 {X : sc_X} {σ τ : sf_S} (h : sc_Cy X σ τ) {k : Nat} (hk : k < X.n) (hs : X.L k = 115) : ∃ m, m < 4 ∧ X.mk k = nI m := by
  have := (h.vn k hk).2.1
  rw [hs, show sc_mk 115 = 8 from by decide +kernel, if_neg (by omega), sc_mv, if_neg (by omega), if_neg (by omega), if_pos rfl] at this
  exact this
theorem sc_maxl : (9223372036854775807 : Int64).toInt = 9223372036854775807 := by decide
theorem sc_rsup (f s : Int32) : (if (s.toInt64 - f.toInt64) < (0 : Int64) then (0 : Int64) else (s.toInt64 - f.toInt64)).toInt = if s.toInt - f.toInt < 0 then 0 else s.toInt - f.toInt := by
  have a1 := f.le_toInt
  have a2 := f.toInt_lt
  have a3 := s.le_toInt
  have a4 := s.toInt_lt
  have e : (s.toInt64 - f.toInt64).toInt = s.toInt - f.toInt := by
    rw [Int64.toInt_sub, Int32.toInt_toInt64, Int32.toInt_toInt64]
    apply Int.bmod_eq_of_le <;> omega
  by_cases hc : s.toInt - f.toInt < 0
  · rw [if_pos hc, if_pos (by rw [Int64.lt_iff_toInt_lt, e, sc_l0]; exact hc)]; rfl
  · rw [if_neg hc, if_neg (by rw [Int64.lt_iff_toInt_lt, e, sc_l0]; exact hc)]; exact e
theorem sc_supR {X : sc_X} {σ τ : sf_S} (h : sc_Cy X σ τ) {k : Nat} (hk : k < X.n) (hL : X.L k = 114) : dX10_supply X.q (nI k) σ = some ((if ((X.s k).toInt64 - (X.f k).toInt64) < (0 : Int64) then (0 : Int64) else ((X.s k).toInt64 - (X.f k).toInt64)), σ) := by
  obtain ⟨c1, c2, c3, c4⟩ := h.c1 k hk
  unfold dX10_supply
  rw [h.has hk]
  simp only [Option.bind_some]
  rw [if_pos (show ¬ (1 : Int32) = 0 by decide), if_pos (h.nin hk), h.ncl hk, c1, c3, c4, hL]
  simp only [show ¬ (114 : Int32) = 105 by decide, show ¬ (114 : Int32) = 106 by decide, show ¬ (114 : Int32) = 107 by decide, show ¬ (114 : Int32) = 108 by decide, show ¬ (114 : Int32) = 109 by decide, show ¬ (114 : Int32) = 110 by decide, show ¬ (114 : Int32) = 111 by decide, show ¬ (114 : Int32) = 112 by decide, show ¬ (114 : Int32) = 113 by decide, if_false, if_true, h.nin hk]
theorem sc_supI {X : sc_X} {σ τ : sf_S} (h : sc_Cy X σ τ) {k : Nat} (hk : k < X.n) (hL : X.L k = 105) : dX10_supply X.q (nI k) σ = some ((9223372036854775807 : Int64), σ) := by
  obtain ⟨c1, c2, c3, c4⟩ := h.c1 k hk
  unfold dX10_supply
  rw [h.has hk]
  simp only [Option.bind_some]
  rw [if_pos (show ¬ (1 : Int32) = 0 by decide), if_pos (h.nin hk), h.ncl hk, c1, if_pos hL]
theorem sc_supU {X : sc_X} {σ τ : sf_S} (h : sc_Cy X σ τ) {k : Nat} (hk : k < X.n) (hL : X.L k = 117) : dX10_supply X.q (nI k) σ = some ((if (0 : Int32) < σ (sf_op X.q) (X.o k).toNatClampNeg then σ (sf_op X.q) (X.o k).toNatClampNeg else 0).toInt64, σ) := by
  obtain ⟨c1, c2, c3, c4⟩ := h.c1 k hk
  unfold dX10_supply
  rw [h.has hk]
  simp only [Option.bind_some]
  rw [if_pos (show ¬ (1 : Int32) = 0 by decide), if_pos (h.nin hk), h.ncl hk, c1, hL, sc_opFor h hk (Or.inl hL)]
  simp only [show ¬ (117 : Int32) = 105 by decide, show ¬ (117 : Int32) = 106 by decide, show ¬ (117 : Int32) = 107 by decide, show ¬ (117 : Int32) = 108 by decide, show ¬ (117 : Int32) = 109 by decide, show ¬ (117 : Int32) = 110 by decide, show ¬ (117 : Int32) = 111 by decide, show ¬ (117 : Int32) = 112 by decide, show ¬ (117 : Int32) = 113 by decide, show ¬ (117 : Int32) = 114 by decide, show ¬ (117 : Int32) = 115 by decide, show ¬ (117 : Int32) = 116 by decide, if_false, if_true, Option.bind_some]
theorem sc_supV {X : sc_X} {σ τ : sf_S} (h : sc_Cy X σ τ) {k : Nat} (hk : k < X.n) (hL : X.L k = 118) : dX10_supply X.q (nI k) σ = some ((1 : Int64), σ) := by
  obtain ⟨c1, c2, c3, c4⟩ := h.c1 k hk
  unfold dX10_supply
  rw [h.has hk]
  simp only [Option.bind_some]
  rw [if_pos (show ¬ (1 : Int32) = 0 by decide), if_pos (h.nin hk), h.ncl hk, c1, hL]
  simp only [show ¬ (118 : Int32) = 105 by decide, show ¬ (118 : Int32) = 106 by decide, show ¬ (118 : Int32) = 107 by decide, show ¬ (118 : Int32) = 108 by decide, show ¬ (118 : Int32) = 109 by decide, show ¬ (118 : Int32) = 110 by decide, show ¬ (118 : Int32) = 111 by decide, show ¬ (118 : Int32) = 112 by decide, show ¬ (118 : Int32) = 113 by decide, show ¬ (118 : Int32) = 114 by decide, show ¬ (118 : Int32) = 115 by decide, show ¬ (118 : Int32) = 116 by decide, show ¬ (118 : Int32) = 117 by decide, if_false, if_true]
theorem sc_supS {X : sc_X} {σ τ : sf_S} (h : sc_Cy X σ τ) {k m : Nat} (hk : k < X.n) (hL : X.L k = 115) (hm : m < 4) (hmk : X.mk k = nI m) : dX10_supply X.q (nI k) σ = some ((σ 17 m).toInt64, σ) := by
  obtain ⟨c1, c2, c3, c4⟩ := h.c1 k hk
  unfold dX10_supply
  rw [h.has hk]
  simp only [Option.bind_some]
  rw [if_pos (show ¬ (1 : Int32) = 0 by decide), if_pos (h.nin hk), h.ncl hk, c1, hL, c2, hmk, sc_sheetC, decide_eq_true (by rw [nI_toInt (by omega)]; omega)]
  simp only [show ¬ (115 : Int32) = 105 by decide, show ¬ (115 : Int32) = 106 by decide, show ¬ (115 : Int32) = 107 by decide, show ¬ (115 : Int32) = 108 by decide, show ¬ (115 : Int32) = 109 by decide, show ¬ (115 : Int32) = 110 by decide, show ¬ (115 : Int32) = 111 by decide, show ¬ (115 : Int32) = 112 by decide, show ¬ (115 : Int32) = 113 by decide, show ¬ (115 : Int32) = 114 by decide, if_false, if_true, h.nin hk, Option.bind_some, c2, hmk]
  rw [if_neg (show ¬ sc_b true = 0 by decide), if_pos (sc_inI (by omega) (by omega)), sc_cl (by omega)]
theorem sc_spl {X : sc_X} {σ τ : sf_S} (h : sc_Cy X σ τ) {k u : Nat} (hk : k < X.n) : dX10_supplied X.q (nI k) (nI u) σ = (if X.L k = 105 then some (X.f k + nI u * X.s k, σ) else if X.L k = 114 then some (X.f k + nI u, σ) else if X.L k = 115 then (dX7_at (X.mk k) (nI u) σ).bind fun u3 => some (u3.1, u3.2) else if X.L k = 118 then (dX10_openedFor X.q (nI k) σ).bind fun u4 => some (u4.1, u4.2) else some (nI u, σ)) := by
  obtain ⟨c1, c2, c3, c4⟩ := h.c1 k hk
  unfold dX10_supplied
  rw [h.has hk]
  simp only [Option.bind_some]
  rw [if_pos (show ¬ (1 : Int32) = 0 by decide), if_pos (h.nin hk), h.ncl hk, c1, c2, c3, c4]
  simp only [h.nin hk, if_true]
