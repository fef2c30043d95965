/-! the class's ask, letter by letter -/
def sc_chk (x : Option (Int32 × sf_S)) : Option (Int32 × sf_S) := x.bind fun u => if sf_01 u.1 then some (u.1, u.2) else none
theorem sc_chk_b {r : Bool} {σ : sf_S} : sc_chk (some (sc_b r, σ)) = some (sc_b r, σ) := by
  unfold sc_chk
  simp only [Option.bind_some]
  rw [if_pos (sc_b01 r)]
theorem sc_Po.chk {X : sc_X} {k h D np g : Nat} {σ τ : sf_S} {x : Option (Int32 × sf_S)} (hp : sc_Po X k h D np g σ τ x) : sc_Po X k h D np g σ τ (sc_chk x) := by
  obtain ⟨r, σ', τ', e, np', c, q1, q2⟩ := hp
  exact ⟨r, σ', τ', e, np', c, by rw [q1, sc_chk_b], q2⟩
theorem sc_askU {X : sc_X} {σ τ : sf_S} {k lev : Nat} (h : sc_Cy X σ τ) (hk : k < X.n) (hlev : lev ≤ 40) (m : Nat) (hL : X.L k = 37 ∨ X.L k = 42 ∨ X.L k = 43 ∨ X.L k = 47 ∨ X.L k = 108) : dX0_ask_R (m + 1) X.q (nI k) (nI lev) σ = (dX0_ask_R m X.q (nI k + 1) (nI lev + 1) (sc_w1 X σ)).bind fun u => if u.1 = 0 then some ((0 : Int32), u.2) else (dX10_change X.q (nI k) (u.2 X.q (sf_vl X.q)) u.2).bind fun v => if v.1 = 0 then some ((0 : Int32), v.2) else some ((1 : Int32), v.2) := by
  have e := h.has hk
  have e2 : sc_w1 X σ (sf_pl X.q + 1) k = X.L k := by
    obtain ⟨k1, k2, k3, k4, k5, k6⟩ := h.ok
    rw [sc_w1, sc_upK (by omega)]; exact (h.c1 k hk).1
  show dX0_ask (dX0_ask_R m) X.q (nI k) (nI lev) σ = _
  unfold dX0_ask
  rw [e]
  simp only [Option.bind_some]
  rw [if_neg (show ¬ (1 : Int32) = 0 by decide), if_pos (show nI lev ≤ 40 from nI_le (b := 40) hlev (by decide)), if_pos (h.nin hk)]
  simp only [h.ncl hk]
  rw [show sf_up σ (sf_rn X.q) 3 (σ (sf_rn X.q) 3 + 1) = sc_w1 X σ from rfl, e2]
  rcases hL with hL | hL | hL | hL | hL
  · rw [hL, if_pos (show (37 : Int32) = 37 from rfl)]
    try rfl
  · rw [hL, if_neg (show ¬ (42 : Int32) = 37 by decide), if_pos (show (42 : Int32) = 42 from rfl)]
    try rfl
  · rw [hL, if_neg (show ¬ (43 : Int32) = 37 by decide), if_neg (show ¬ (43 : Int32) = 42 by decide), if_pos (show (43 : Int32) = 43 from rfl)]
    try rfl
  · rw [hL, if_neg (show ¬ (47 : Int32) = 37 by decide), if_neg (show ¬ (47 : Int32) = 42 by decide), if_neg (show ¬ (47 : Int32) = 43 by decide), if_pos (show (47 : Int32) = 47 from rfl)]
    try rfl
  · rw [hL, if_neg (show ¬ (108 : Int32) = 37 by decide), if_neg (show ¬ (108 : Int32) = 42 by decide), if_neg (show ¬ (108 : Int32) = 43 by decide), if_neg (show ¬ (108 : Int32) = 47 by decide), if_neg (show ¬ (108 : Int32) = 63 by decide), if_neg (show ¬ (108 : Int32) = 99 by decide), if_neg (show ¬ (108 : Int32) = 100 by decide), if_neg (show ¬ (108 : Int32) = 107 by decide), if_pos (show (108 : Int32) = 108 from rfl)]
    try rfl
theorem sc_askF {X : sc_X} {σ τ : sf_S} {k lev : Nat} (h : sc_Cy X σ τ) (hk : k < X.n) (hlev : lev ≤ 40) (m : Nat) (hL : X.L k = 63 ∨ X.L k = 107) : dX0_ask_R (m + 1) X.q (nI k) (nI lev) σ = sc_chk (dX0_askFilter (dX0_ask_R m) X.q (nI k) (nI lev) (sc_w1 X σ)) := by
  have e := h.has hk
  have e2 : sc_w1 X σ (sf_pl X.q + 1) k = X.L k := by
    obtain ⟨k1, k2, k3, k4, k5, k6⟩ := h.ok
    rw [sc_w1, sc_upK (by omega)]; exact (h.c1 k hk).1
  show dX0_ask (dX0_ask_R m) X.q (nI k) (nI lev) σ = _
  unfold dX0_ask
  rw [e]
  simp only [Option.bind_some]
  rw [if_neg (show ¬ (1 : Int32) = 0 by decide), if_pos (show nI lev ≤ 40 from nI_le (b := 40) hlev (by decide)), if_pos (h.nin hk)]
  simp only [h.ncl hk]
  rw [show sf_up σ (sf_rn X.q) 3 (σ (sf_rn X.q) 3 + 1) = sc_w1 X σ from rfl, e2]
  rcases hL with hL | hL
  · rw [hL, if_neg (show ¬ (63 : Int32) = 37 by decide), if_neg (show ¬ (63 : Int32) = 42 by decide), if_neg (show ¬ (63 : Int32) = 43 by decide), if_neg (show ¬ (63 : Int32) = 47 by decide), if_pos (show (63 : Int32) = 63 from rfl)]
    try rfl
  · rw [hL, if_neg (show ¬ (107 : Int32) = 37 by decide), if_neg (show ¬ (107 : Int32) = 42 by decide), if_neg (show ¬ (107 : Int32) = 43 by decide), if_neg (show ¬ (107 : Int32) = 47 by decide), if_neg (show ¬ (107 : Int32) = 63 by decide), if_neg (show ¬ (107 : Int32) = 99 by decide), if_neg (show ¬ (107 : Int32) = 100 by decide), if_pos (show (107 : Int32) = 107 from rfl)]
    try rfl
theorem sc_askC {X : sc_X} {σ τ : sf_S} {k lev : Nat} (h : sc_Cy X σ τ) (hk : k < X.n) (hlev : lev ≤ 40) (m : Nat) (hL : X.L k = 99) : dX0_ask_R (m + 1) X.q (nI k) (nI lev) σ = sc_chk (dX0_askChain (dX0_ask_R m) X.q (nI k) (nI lev) (sc_w1 X σ)) := by
  have e := h.has hk
  have e2 : sc_w1 X σ (sf_pl X.q + 1) k = X.L k := by
    obtain ⟨k1, k2, k3, k4, k5, k6⟩ := h.ok
    rw [sc_w1, sc_upK (by omega)]; exact (h.c1 k hk).1
  show dX0_ask (dX0_ask_R m) X.q (nI k) (nI lev) σ = _
  unfold dX0_ask
  rw [e]
  simp only [Option.bind_some]
  rw [if_neg (show ¬ (1 : Int32) = 0 by decide), if_pos (show nI lev ≤ 40 from nI_le (b := 40) hlev (by decide)), if_pos (h.nin hk)]
  simp only [h.ncl hk]
  rw [show sf_up σ (sf_rn X.q) 3 (σ (sf_rn X.q) 3 + 1) = sc_w1 X σ from rfl, e2]
  rw [hL, if_neg (show ¬ (99 : Int32) = 37 by decide), if_neg (show ¬ (99 : Int32) = 42 by decide), if_neg (show ¬ (99 : Int32) = 43 by decide), if_neg (show ¬ (99 : Int32) = 47 by decide), if_neg (show ¬ (99 : Int32) = 63 by decide), if_pos (show (99 : Int32) = 99 from rfl)]
  rfl
theorem sc_askD {X : sc_X} {σ τ : sf_S} {k lev : Nat} (h : sc_Cy X σ τ) (hk : k < X.n) (hlev : lev ≤ 40) (m : Nat) (hL : X.L k = 100) : dX0_ask_R (m + 1) X.q (nI k) (nI lev) σ = sc_chk (dX0_askDrop (dX0_ask_R m) X.q (nI k) (nI lev) (sc_w1 X σ)) := by
  have e := h.has hk
  have e2 : sc_w1 X σ (sf_pl X.q + 1) k = X.L k := by
    obtain ⟨k1, k2, k3, k4, k5, k6⟩ := h.ok
    rw [sc_w1, sc_upK (by omega)]; exact (h.c1 k hk).1
  show dX0_ask (dX0_ask_R m) X.q (nI k) (nI lev) σ = _
  unfold dX0_ask
  rw [e]
  simp only [Option.bind_some]
  rw [if_neg (show ¬ (1 : Int32) = 0 by decide), if_pos (show nI lev ≤ 40 from nI_le (b := 40) hlev (by decide)), if_pos (h.nin hk)]
  simp only [h.ncl hk]
  rw [show sf_up σ (sf_rn X.q) 3 (σ (sf_rn X.q) 3 + 1) = sc_w1 X σ from rfl, e2]
  rw [hL, if_neg (show ¬ (100 : Int32) = 37 by decide), if_neg (show ¬ (100 : Int32) = 42 by decide), if_neg (show ¬ (100 : Int32) = 43 by decide), if_neg (show ¬ (100 : Int32) = 47 by decide), if_neg (show ¬ (100 : Int32) = 63 by decide), if_neg (show ¬ (100 : Int32) = 99 by decide), if_pos (show (100 : Int32) = 100 from rfl)]
  rfl
theorem sc_askT {X : sc_X} {σ τ : sf_S} {k lev : Nat} (h : sc_Cy X σ τ) (hk : k < X.n) (hlev : lev ≤ 40) (m : Nat) (hL : X.L k = 116) : dX0_ask_R (m + 1) X.q (nI k) (nI lev) σ = sc_chk (dX0_askTake (dX0_ask_R m) X.q (nI k) (nI lev) (sc_w1 X σ)) := by
  have e := h.has hk
  have e2 : sc_w1 X σ (sf_pl X.q + 1) k = X.L k := by
    obtain ⟨k1, k2, k3, k4, k5, k6⟩ := h.ok
    rw [sc_w1, sc_upK (by omega)]; exact (h.c1 k hk).1
  show dX0_ask (dX0_ask_R m) X.q (nI k) (nI lev) σ = _
  unfold dX0_ask
  rw [e]
  simp only [Option.bind_some]
  rw [if_neg (show ¬ (1 : Int32) = 0 by decide), if_pos (show nI lev ≤ 40 from nI_le (b := 40) hlev (by decide)), if_pos (h.nin hk)]
  simp only [h.ncl hk]
  rw [show sf_up σ (sf_rn X.q) 3 (σ (sf_rn X.q) 3 + 1) = sc_w1 X σ from rfl, e2]
  rw [hL, if_neg (show ¬ (116 : Int32) = 37 by decide), if_neg (show ¬ (116 : Int32) = 42 by decide), if_neg (show ¬ (116 : Int32) = 43 by decide), if_neg (show ¬ (116 : Int32) = 47 by decide), if_neg (show ¬ (116 : Int32) = 63 by decide), if_neg (show ¬ (116 : Int32) = 99 by decide), if_neg (show ¬ (116 : Int32) = 100 by decide), if_neg (show ¬ (116 : Int32) = 107 by decide), if_neg (show ¬ (116 : Int32) = 108 by decide), if_pos (show (116 : Int32) = 116 from rfl)]
  rfl
theorem sc_askW {X : sc_X} {σ τ : sf_S} {k lev : Nat} (h : sc_Cy X σ τ) (hk : k < X.n) (hlev : lev ≤ 40) (m : Nat) (hL : X.L k = 119) : dX0_ask_R (m + 1) X.q (nI k) (nI lev) σ = sc_chk (dX0_askWhile (dX0_ask_R m) X.q (nI k) (nI lev) (sc_w1 X σ)) := by
  have e := h.has hk
  have e2 : sc_w1 X σ (sf_pl X.q + 1) k = X.L k := by
    obtain ⟨k1, k2, k3, k4, k5, k6⟩ := h.ok
    rw [sc_w1, sc_upK (by omega)]; exact (h.c1 k hk).1
  show dX0_ask (dX0_ask_R m) X.q (nI k) (nI lev) σ = _
  unfold dX0_ask
  rw [e]
  simp only [Option.bind_some]
  rw [if_neg (show ¬ (1 : Int32) = 0 by decide), if_pos (show nI lev ≤ 40 from nI_le (b := 40) hlev (by decide)), if_pos (h.nin hk)]
  simp only [h.ncl hk]
  rw [show sf_up σ (sf_rn X.q) 3 (σ (sf_rn X.q) 3 + 1) = sc_w1 X σ from rfl, e2]
  rw [hL, if_neg (show ¬ (119 : Int32) = 37 by decide), if_neg (show ¬ (119 : Int32) = 42 by decide), if_neg (show ¬ (119 : Int32) = 43 by decide), if_neg (show ¬ (119 : Int32) = 47 by decide), if_neg (show ¬ (119 : Int32) = 63 by decide), if_neg (show ¬ (119 : Int32) = 99 by decide), if_neg (show ¬ (119 : Int32) = 100 by decide), if_neg (show ¬ (119 : Int32) = 107 by decide), if_neg (show ¬ (119 : Int32) = 108 by decide), if_neg (show ¬ (119 : Int32) = 116 by decide), if_pos (show (119 : Int32) = 119 from rfl)]
  rfl
theorem sc_askX {X : sc_X} {σ τ : sf_S} {k lev : Nat} (h : sc_Cy X σ τ) (hk : k < X.n) (hlev : lev ≤ 40) (m : Nat) (hL : X.L k = 120) : dX0_ask_R (m + 1) X.q (nI k) (nI lev) σ = sc_chk (dX0_askOpener (dX0_ask_R m) X.q (nI k) (nI lev) (sc_w1 X σ)) := by
  have e := h.has hk
  have e2 : sc_w1 X σ (sf_pl X.q + 1) k = X.L k := by
    obtain ⟨k1, k2, k3, k4, k5, k6⟩ := h.ok
    rw [sc_w1, sc_upK (by omega)]; exact (h.c1 k hk).1
  show dX0_ask (dX0_ask_R m) X.q (nI k) (nI lev) σ = _
  unfold dX0_ask
  rw [e]
  simp only [Option.bind_some]
  rw [if_neg (show ¬ (1 : Int32) = 0 by decide), if_pos (show nI lev ≤ 40 from nI_le (b := 40) hlev (by decide)), if_pos (h.nin hk)]
  simp only [h.ncl hk]
  rw [show sf_up σ (sf_rn X.q) 3 (σ (sf_rn X.q) 3 + 1) = sc_w1 X σ from rfl, e2]
  rw [hL, if_neg (show ¬ (120 : Int32) = 37 by decide), if_neg (show ¬ (120 : Int32) = 42 by decide), if_neg (show ¬ (120 : Int32) = 43 by decide), if_neg (show ¬ (120 : Int32) = 47 by decide), if_neg (show ¬ (120 : Int32) = 63 by decide), if_neg (show ¬ (120 : Int32) = 99 by decide), if_neg (show ¬ (120 : Int32) = 100 by decide), if_neg (show ¬ (120 : Int32) = 107 by decide), if_neg (show ¬ (120 : Int32) = 108 by decide), if_neg (show ¬ (120 : Int32) = 116 by decide), if_neg (show ¬ (120 : Int32) = 119 by decide), if_pos (show (120 : Int32) = 120 from rfl)]
  rfl
theorem sc_askZ {X : sc_X} {σ τ : sf_S} {k lev : Nat} (h : sc_Cy X σ τ) (hk : k < X.n) (hlev : lev ≤ 40) (m : Nat) (hL : X.L k = 122) : dX0_ask_R (m + 1) X.q (nI k) (nI lev) σ = sc_chk (dX0_askZip (dX0_ask_R m) X.q (nI k) (nI lev) (sc_w1 X σ)) := by
  have e := h.has hk
  have e2 : sc_w1 X σ (sf_pl X.q + 1) k = X.L k := by
    obtain ⟨k1, k2, k3, k4, k5, k6⟩ := h.ok
    rw [sc_w1, sc_upK (by omega)]; exact (h.c1 k hk).1
  show dX0_ask (dX0_ask_R m) X.q (nI k) (nI lev) σ = _
  unfold dX0_ask
  rw [e]
  simp only [Option.bind_some]
  rw [if_neg (show ¬ (1 : Int32) = 0 by decide), if_pos (show nI lev ≤ 40 from nI_le (b := 40) hlev (by decide)), if_pos (h.nin hk)]
  simp only [h.ncl hk]
  rw [show sf_up σ (sf_rn X.q) 3 (σ (sf_rn X.q) 3 + 1) = sc_w1 X σ from rfl, e2]
  rw [hL, if_neg (show ¬ (122 : Int32) = 37 by decide), if_neg (show ¬ (122 : Int32) = 42 by decide), if_neg (show ¬ (122 : Int32) = 43 by decide), if_neg (show ¬ (122 : Int32) = 47 by decide), if_neg (show ¬ (122 : Int32) = 63 by decide), if_neg (show ¬ (122 : Int32) = 99 by decide), if_neg (show ¬ (122 : Int32) = 100 by decide), if_neg (show ¬ (122 : Int32) = 107 by decide), if_neg (show ¬ (122 : Int32) = 108 by decide), if_neg (show ¬ (122 : Int32) = 116 by decide), if_neg (show ¬ (122 : Int32) = 119 by decide), if_neg (show ¬ (122 : Int32) = 120 by decide), if_pos (show (122 : Int32) = 122 from rfl)]
  rfl
theorem sc_askP {X : sc_X} {σ τ : sf_S} {k lev : Nat} (h : sc_Cy X σ τ) (hk : k < X.n) (hlev : lev ≤ 40) (m : Nat) (hp : sc_p (X.L k) = 0) : dX0_ask_R (m + 1) X.q (nI k) (nI lev) σ = sc_chk (dX9_produce X.q (nI k) (sc_w1 X σ)) := by
  have hz : ∀ c, sc_p c ≠ 0 → ¬ X.L k = c := fun c q e => q (by rw [← e]; exact hp)
  have e := h.has hk
  have e2 : sc_w1 X σ (sf_pl X.q + 1) k = X.L k := by
    obtain ⟨k1, k2, k3, k4, k5, k6⟩ := h.ok
    rw [sc_w1, sc_upK (by omega)]; exact (h.c1 k hk).1
  show dX0_ask (dX0_ask_R m) X.q (nI k) (nI lev) σ = _
  unfold dX0_ask
  rw [e]
  simp only [Option.bind_some]
  rw [if_neg (show ¬ (1 : Int32) = 0 by decide), if_pos (show nI lev ≤ 40 from nI_le (b := 40) hlev (by decide)), if_pos (h.nin hk)]
  simp only [h.ncl hk]
  rw [show sf_up σ (sf_rn X.q) 3 (σ (sf_rn X.q) 3 + 1) = sc_w1 X σ from rfl, e2]
  rw [if_neg (hz 37 (by decide +kernel)), if_neg (hz 42 (by decide +kernel)), if_neg (hz 43 (by decide +kernel)), if_neg (hz 47 (by decide +kernel)), if_neg (hz 63 (by decide +kernel)), if_neg (hz 99 (by decide +kernel)), if_neg (hz 100 (by decide +kernel)), if_neg (hz 107 (by decide +kernel)), if_neg (hz 108 (by decide +kernel)), if_neg (hz 116 (by decide +kernel)), if_neg (hz 119 (by decide +kernel)), if_neg (hz 120 (by decide +kernel)), if_neg (hz 122 (by decide +kernel))]
  rfl
