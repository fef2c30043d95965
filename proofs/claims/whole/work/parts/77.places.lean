/-! the reference's places -/
def sc_ps (L : Nat → Int32) (E : Nat → Nat) (k : Nat) : Nat := if L k = 120 then E (k + 1) else k + 1
def sc_qs (L : Nat → Int32) (E : Nat → Nat) (k : Nat) : Nat := if L k = 120 then k + 1 else if sc_p (L k) = 0 then k + 1 else E (k + 1)
def sc_s1 (L : Nat → Int32) (E : Nat → Nat) (τ : sf_S) (k : Nat) : sf_S := sf_up (sf_up (sf_up τ 15 k (nI (E k - k))) 16 k (nI (sc_ps L E k))) 17 k (nI (sc_qs L E k))
theorem sc_p2n {c : Int32} (h : sc_p c ≠ 2) : ¬ c = 120 := fun q => h (sc_p120 q)
theorem sc_pl1 {n k : Nat} {E : Nat → Nat} {L : Nat → Int32} {τ : sf_S} (hn : n ≤ 40) (hT : sc_T n L E) (hk : k < n) (hil : sc_il (L k) = true) (h1 : τ 11 k = L k) (hE : ∀ j, k < j → j < n → τ 15 j = nI (E j - j)) (m : Nat) :
    dX12_places_7 (m + 1) (nI k) τ = dX12_places_7 m (nI k + (-1)) (sc_s1 L E τ k) := by
  conv => lhs; simp only [dX12_places_7]
  rw [if_neg (nI_pos (by omega))]
  have hin : sf_in (nI k) 40 = true := sc_inI (by omega) (by omega)
  simp only [hin, if_true, sc_cl (show k < 2 ^ 31 by omega), h1, sc_partsM, hil, Option.bind_some]
  have c1 : (1 : Int32) = nI 1 := sc_1
  rcases sc_p3 (L k) with hp | hp | hp
  · have hx : ¬ L k = 120 := sc_p2n (by omega)
    rw [hp, if_pos (by decide +kernel : nI 0 ≤ 0)]
    simp only [dX12_places_37, dX12_places_57, dX12_places_87, dX12_places_110]
    rw [if_pos (by decide +kernel : nI 0 ≤ 1)]
    simp (disch := omega) only [hin, if_true, sc_cl (show k < 2 ^ 31 by omega), sc_upK, h1, hx, not_false_eq_true, nI_1]
    rw [sc_s1, hT.p0 hk hp, sc_ps, sc_qs, if_neg hx, if_neg hx, if_pos hp, show k + 1 - k = 1 by omega, show (1 : Int32) + 0 + 0 = nI 1 from by decide +kernel, Int32.add_zero]
  · obtain ⟨q1, q2⟩ := hT.p1 hk hp
    have hx : ¬ L k = 120 := sc_p2n (by omega)
    have hlt := hT.lt q1
    rw [hp, if_neg (by decide +kernel : ¬ nI 1 ≤ 0), nI_1, if_pos (sc_inI (by omega) (by omega)), sc_cl (by omega), hE (k + 1) (by omega) q1]
    simp only [dX12_places_37, dX12_places_57, dX12_places_87, dX12_places_110]
    rw [if_pos (by decide +kernel : nI 1 ≤ 1)]
    simp (disch := omega) only [hin, if_true, sc_cl (show k < 2 ^ 31 by omega), sc_upK, h1, hx, not_false_eq_true, nI_1, Int32.add_zero, c1, nI_add]
    rw [sc_s1, q2, sc_ps, sc_qs, if_neg hx, if_neg hx, if_neg (by omega : ¬ sc_p (L k) = 0), show 1 + (E (k + 1) - (k + 1)) = E (k + 1) - k by omega, show k + 1 + (E (k + 1) - (k + 1)) = E (k + 1) by omega]
  · obtain ⟨q1, q2, q3, q4, q5⟩ := hT.p2 hk hp
    have hlt := hT.lt q3
    rw [hp, if_neg (by decide +kernel : ¬ nI 2 ≤ 0), nI_1, if_pos (sc_inI (by omega) (by omega)), sc_cl (by omega), hE (k + 1) (by omega) q1]
    simp only [dX12_places_37, dX12_places_57, dX12_places_87, dX12_places_110]
    rw [if_neg (by decide +kernel : ¬ nI 2 ≤ 1)]
    simp only [nI_1, nI_add]
    rw [show k + 1 + (E (k + 1) - (k + 1)) = E (k + 1) by omega, if_pos (sc_inI (by omega) (by omega)), sc_cl (show E (k + 1) < 2 ^ 31 by omega), hE (E (k + 1)) (by omega) q3]
    by_cases hx : L k = 120
    · simp (disch := omega) only [hin, if_true, sc_cl (show k < 2 ^ 31 by omega), sc_upK, h1, hx, not_true_eq_false, if_false, nI_1, c1, nI_add, show ¬ nI 1 = 0 from by decide +kernel]
      rw [sc_s1, q5, sc_ps, sc_qs, if_pos hx, if_pos hx, show 1 + (E (k + 1) - (k + 1)) + (E (E (k + 1)) - E (k + 1)) = E (E (k + 1)) - k by omega]
    · simp (disch := omega) only [hin, if_true, sc_cl (show k < 2 ^ 31 by omega), sc_upK, h1, hx, not_false_eq_true, nI_1, c1, nI_add]
      rw [sc_s1, q5, sc_ps, sc_qs, if_neg hx, if_neg hx, if_neg (by omega : ¬ sc_p (L k) = 0), show 1 + (E (k + 1) - (k + 1)) + (E (E (k + 1)) - E (k + 1)) = E (E (k + 1)) - k by omega]
/-- the first loop -/
theorem sc_pl2 {n : Nat} {E : Nat → Nat} {L : Nat → Int32} (hn : n ≤ 40) (hT : sc_T n L E) (hil : ∀ j, j < n → sc_il (L j) = true) : ∀ (r fuel : Nat) (τ : sf_S), r ≤ n → r < fuel → (∀ j, j < n → τ 11 j = L j) → (∀ j, r ≤ j → j < n → τ 15 j = nI (E j - j) ∧ τ 16 j = nI (sc_ps L E j) ∧ τ 17 j = nI (sc_qs L E j)) →
    ∃ τ', dX12_places_7 fuel (nI r - 1) τ = dX12_places_7 1 (nI 0 - 1) τ' ∧ (∀ a b, a ≠ 15 → a ≠ 16 → a ≠ 17 → τ' a b = τ a b) ∧ ∀ j, j < n → τ' 15 j = nI (E j - j) ∧ τ' 16 j = nI (sc_ps L E j) ∧ τ' 17 j = nI (sc_qs L E j) := by
  intro r
  induction r with
  | zero =>
    intro fuel τ hr hf h1 hE
    obtain ⟨m, rfl⟩ : ∃ m, fuel = m + 1 := ⟨fuel - 1, by omega⟩
    refine ⟨τ, ?_, fun _ _ _ _ _ => rfl, fun j hj => hE j (by omega) hj⟩
    simp only [dX12_places_7]
    have h0 : nI 0 - 1 < 0 := by decide +kernel
    rw [if_pos h0, if_pos h0]
  | succ r ih =>
    intro fuel τ hr hf h1 hE
    obtain ⟨m, rfl⟩ : ∃ m, fuel = m + 1 := ⟨fuel - 1, by omega⟩
    obtain ⟨τ', g1, g2, g3⟩ := ih m (sc_s1 L E τ r) (by omega) (by omega) (fun j hj => by simp (disch := omega) only [sc_s1, sc_upK]; exact h1 j hj) (fun j a1 a2 => by
      by_cases hj : j = r
      · subst hj
        simp (disch := omega) only [sc_s1, sc_upK, sc_upS]
        exact ⟨trivial, trivial, trivial⟩
      · simp (disch := omega) only [sc_s1, sc_upJ]
        exact hE j (by omega) a2)
    refine ⟨τ', ?_, fun a b h5 h6 h7 => by rw [g2 a b h5 h6 h7, sc_s1, sc_upK h7, sc_upK h6, sc_upK h5], g3⟩
    rw [← g1, nI_pred, sc_pl1 hn hT (by omega) (hil r (by omega)) (h1 r (by omega)) (fun j a1 a2 => (hE j (by omega) a2).1), show nI r + (-1 : Int32) = nI r - 1 from by rw [Int32.sub_eq_add_neg]]
def sc_hgu (τ : sf_S) (part k : Nat) (op : Bool) : sf_S := sf_up (sf_up (sf_up τ 18 part (τ 18 k + 1)) 19 part (if op = true then τ 19 k + 1 else τ 19 k)) 20 part (if op = true then nI k else τ 20 k)
theorem sc_hangs {part k : Nat} (hp : part < 40) (hk : k < part) (op : Bool) (τ : sf_S) : dX12_hangs (nI part) (nI k) (sc_b op) τ = some (sc_hgu τ part k op) := by
  unfold dX12_hangs dX12_hangs_34
  cases op
  · simp (disch := omega) only [sc_inI (show part < 40 by omega) (by omega : 40 ≤ 10000), sc_inI (show k < 40 by omega) (by omega : 40 ≤ 10000), if_true, sc_cl (show part < 2 ^ 31 by omega), sc_cl (show k < 2 ^ 31 by omega), sc_b, sc_upK, Int32.add_zero, sc_hgu, Bool.false_eq_true, if_false]
  · simp (disch := omega) only [sc_inI (show part < 40 by omega) (by omega : 40 ≤ 10000), sc_inI (show k < 40 by omega) (by omega : 40 ≤ 10000), if_true, sc_cl (show part < 2 ^ 31 by omega), sc_cl (show k < 2 ^ 31 by omega), sc_b, sc_upK, sc_hgu, show ¬ (1 : Int32) = 0 from by decide, if_false]
theorem sc_pl3 {n k : Nat} {E : Nat → Nat} {L : Nat → Int32} {τ : sf_S} (hn : n ≤ 40) (hT : sc_T n L E) (hk : k < n) (hil : sc_il (L k) = true) (h4 : τ 0 21 = nI n) (h1 : τ 11 k = L k) (h6 : τ 16 k = nI (sc_ps L E k)) (h7 : τ 17 k = nI (sc_qs L E k)) (m : Nat) :
    ∃ u, dX12_places_162 (m + 1) (nI k) τ = dX12_places_162 m (nI (k + 1)) u ∧ (∀ a b, ¬ ((a = 18 ∨ a = 19 ∨ a = 20) ∧ 1 ≤ sc_p (L k) ∧ (b = k + 1 ∨ (sc_p (L k) = 2 ∧ b = E (k + 1)))) → u a b = τ a b) ∧ sc_Dk L E (u 18) (u 19) (u 20) k := by
  conv => enter [1, u, 1, 1]; simp only [dX12_places_162]
  rw [h4, if_neg (nI_ge hk (by omega))]
  have hin : sf_in (nI k) 40 = true := sc_inI (by omega) (by omega)
  simp only [hin, if_true, sc_cl (show k < 2 ^ 31 by omega), h1, sc_partsM, hil, Option.bind_some, h6, dX12_places_196]
  rcases sc_p3 (L k) with hp | hp | hp
  · rw [hp, if_pos (by decide +kernel : nI 0 ≤ 0), if_pos (by decide +kernel : nI 0 ≤ 1), nI_1]
    exact ⟨τ, rfl, fun _ _ _ => rfl, fun q => by omega, fun q => by omega⟩
  · obtain ⟨q1, q2⟩ := hT.p1 hk hp
    have hx : ¬ L k = 120 := sc_p2n (by omega)
    have e1 : sc_ps L E k = k + 1 := by rw [sc_ps, if_neg hx]
    rw [hp, if_neg (by decide +kernel : ¬ nI 1 ≤ 0), e1, show dX12_hangs (nI (k + 1)) (nI k) 0 τ = some (sc_hgu τ (k + 1) k false) from sc_hangs (by omega) (by omega) false τ]
    simp only [Option.bind_some]
    rw [if_pos (by decide +kernel : nI 1 ≤ 1), nI_1]
    refine ⟨_, rfl, fun a b hab => ?_, fun _ => ?_, fun q => by omega⟩
    · have hb : b ≠ k + 1 ∨ (a ≠ 18 ∧ a ≠ 19 ∧ a ≠ 20) := by (try simp only [true_and] at hab); omega
      rcases hb with hb | ⟨h6, h7, h8⟩
      · rw [sc_hgu, sc_upJ hb, sc_upJ hb, sc_upJ hb]
      · rw [sc_hgu, sc_upK h8, sc_upK h7, sc_upK h6]
    · simp (disch := omega) only [sc_hgu, sc_upS, sc_upK, sc_upJ, Bool.false_eq_true, if_false, hx]
      try exact ⟨trivial, trivial, trivial⟩
  · obtain ⟨q1, q2, q3, q4, q5⟩ := hT.p2 hk hp
    rw [hp, if_neg (by decide +kernel : ¬ nI 2 ≤ 0)]
    by_cases hx : L k = 120
    · have e1 : sc_ps L E k = E (k + 1) := by rw [sc_ps, if_pos hx]
      have e2 : sc_qs L E k = k + 1 := by rw [sc_qs, if_pos hx]
      rw [e1, show dX12_hangs (nI (E (k + 1))) (nI k) 0 τ = some (sc_hgu τ (E (k + 1)) k false) from sc_hangs (by omega) (by omega) false τ]
      simp only [Option.bind_some]
      rw [if_neg (by decide +kernel : ¬ nI 2 ≤ 1)]
      have k11 : sc_hgu τ (E (k + 1)) k false 11 k = L k := by simp (disch := omega) only [sc_hgu, sc_upK]; exact h1
      have k17 : sc_hgu τ (E (k + 1)) k false 17 k = nI (k + 1) := by simp (disch := omega) only [sc_hgu, sc_upK]; rw [h7, e2]
      rw [k11, k17, if_neg (by simp [hx]), show dX12_hangs (nI (k + 1)) (nI k) 1 (sc_hgu τ (E (k + 1)) k false) = some (sc_hgu (sc_hgu τ (E (k + 1)) k false) (k + 1) k true) from sc_hangs (by omega) (by omega) true _]
      simp only [Option.bind_some, nI_1]
      refine ⟨_, rfl, fun a b hab => ?_, fun _ => ?_, fun _ => ?_⟩
      · have hb : (b ≠ k + 1 ∧ b ≠ E (k + 1)) ∨ (a ≠ 18 ∧ a ≠ 19 ∧ a ≠ 20) := by (try simp only [true_and] at hab); omega
        rcases hb with ⟨hb, hb2⟩ | ⟨h6, h7, h8⟩
        · rw [sc_hgu, sc_upJ hb, sc_upJ hb, sc_upJ hb, sc_hgu, sc_upJ hb2, sc_upJ hb2, sc_upJ hb2]
        · rw [sc_hgu, sc_upK h8, sc_upK h7, sc_upK h6, sc_hgu, sc_upK h8, sc_upK h7, sc_upK h6]
      · simp (disch := omega) only [sc_hgu, sc_upS, sc_upK, sc_upJ, Bool.false_eq_true, if_false, if_true, hx]
        try exact ⟨trivial, trivial, trivial⟩
      · simp (disch := omega) only [sc_hgu, sc_upS, sc_upK, sc_upJ, Bool.false_eq_true, if_false, if_true]
        try exact ⟨trivial, trivial, trivial⟩
    · have e1 : sc_ps L E k = k + 1 := by rw [sc_ps, if_neg hx]
      have e2 : sc_qs L E k = E (k + 1) := by rw [sc_qs, if_neg hx, if_neg (by omega)]
      rw [e1, show dX12_hangs (nI (k + 1)) (nI k) 0 τ = some (sc_hgu τ (k + 1) k false) from sc_hangs (by omega) (by omega) false τ]
      simp only [Option.bind_some]
      rw [if_neg (by decide +kernel : ¬ nI 2 ≤ 1)]
      have k11 : sc_hgu τ (k + 1) k false 11 k = L k := by simp (disch := omega) only [sc_hgu, sc_upK]; exact h1
      have k17 : sc_hgu τ (k + 1) k false 17 k = nI (E (k + 1)) := by simp (disch := omega) only [sc_hgu, sc_upK]; rw [h7, e2]
      rw [k11, k17, if_pos hx, show dX12_hangs (nI (E (k + 1))) (nI k) 0 (sc_hgu τ (k + 1) k false) = some (sc_hgu (sc_hgu τ (k + 1) k false) (E (k + 1)) k false) from sc_hangs (by omega) (by omega) false _]
      simp only [Option.bind_some, nI_1]
      refine ⟨_, rfl, fun a b hab => ?_, fun _ => ?_, fun _ => ?_⟩
      · have hb : (b ≠ k + 1 ∧ b ≠ E (k + 1)) ∨ (a ≠ 18 ∧ a ≠ 19 ∧ a ≠ 20) := by (try simp only [true_and] at hab); omega
        rcases hb with ⟨hb, hb2⟩ | ⟨h6, h7, h8⟩
        · rw [sc_hgu, sc_upJ hb2, sc_upJ hb2, sc_upJ hb2, sc_hgu, sc_upJ hb, sc_upJ hb, sc_upJ hb]
        · rw [sc_hgu, sc_upK h8, sc_upK h7, sc_upK h6, sc_hgu, sc_upK h8, sc_upK h7, sc_upK h6]
      · simp (disch := omega) only [sc_hgu, sc_upS, sc_upK, sc_upJ, Bool.false_eq_true, if_false, hx]
        try exact ⟨trivial, trivial, trivial⟩
      · simp (disch := omega) only [sc_hgu, sc_upS, sc_upK, sc_upJ, Bool.false_eq_true, if_false]
        try exact ⟨trivial, trivial, trivial⟩
/-- the second loop -/
theorem sc_pl4 {n : Nat} {E : Nat → Nat} {L : Nat → Int32} (hn : n ≤ 40) (hT : sc_T n L E) (hil : ∀ j, j < n → sc_il (L j) = true) : ∀ (r k fuel : Nat) (τ : sf_S), k + r = n → r < fuel → τ 0 21 = nI n → (∀ j, j < n → τ 11 j = L j) → (∀ j, j < n → τ 16 j = nI (sc_ps L E j) ∧ τ 17 j = nI (sc_qs L E j)) → sc_D0 (τ 18) (τ 19) (τ 20) → (∀ i, i < k → sc_Dk L E (τ 18) (τ 19) (τ 20) i) →
    ∃ τ', dX12_places_162 fuel (nI k) τ = some τ' ∧ (∀ a b, ¬ (a = 18 ∨ a = 19 ∨ a = 20) → τ' a b = τ a b) ∧ sc_D n L E (τ' 18) (τ' 19) (τ' 20) := by
  intro r
  induction r with
  | zero =>
    intro k fuel τ hk hf h4 h1 hE h0 hD
    obtain ⟨m, rfl⟩ : ∃ m, fuel = m + 1 := ⟨fuel - 1, by omega⟩
    have hkn : k = n := by omega
    subst hkn
    refine ⟨τ, ?_, fun _ _ _ => rfl, ⟨h0, hD⟩⟩
    simp only [dX12_places_162]
    rw [h4, if_pos (nI_le (by omega) (by omega))]
  | succ r ih =>
    intro k fuel τ hk hf h4 h1 hE h0 hD
    obtain ⟨m, rfl⟩ : ∃ m, fuel = m + 1 := ⟨fuel - 1, by omega⟩
    have hkn : k < n := by omega
    obtain ⟨u, u1, u2, u3⟩ := sc_pl3 hn hT hkn (hil k hkn) h4 (h1 k hkn) (hE k hkn).1 (hE k hkn).2 m
    have hEk : sc_p (L k) = 2 → k + 1 < E (k + 1) := fun q => (hT.p2 hkn q).2.1
    have hlow : ∀ a b, b ≤ k → u a b = τ a b := fun a b hb => u2 a b (fun ⟨_, _, h⟩ => by rcases h with h | ⟨h, h'⟩ <;> first | omega | (have := hEk h; omega))
    have hoth : ∀ a b, a ≠ 18 → a ≠ 19 → a ≠ 20 → u a b = τ a b := fun a b g6 g7 g8 => u2 a b (by omega)
    have hDu : ∀ i, i < k + 1 → sc_Dk L E (u 18) (u 19) (u 20) i := by
      by_cases hp : 1 ≤ sc_p (L k)
      · refine sc_D_step hT hkn hp hD (fun j hj1 hj2 => ?_) u3
        have : ∀ a, u a j = τ a j := fun a => u2 a j (fun ⟨_, _, h⟩ => by rcases h with h | ⟨h, h'⟩; exact hj1 h; exact hj2 h h')
        exact ⟨this _, this _, this _⟩
      · intro i hi
        have : ∀ a j, u a j = τ a j := fun a j => u2 a j (fun ⟨_, h, _⟩ => hp h)
        by_cases hik : i = k
        · subst hik; exact u3
        · exact (hD i (by omega)).congr ⟨this _ _, this _ _, this _ _⟩ (fun _ => ⟨this _ _, this _ _, this _ _⟩) (fun _ => ⟨this _ _, this _ _, this _ _⟩)
    obtain ⟨τ', g1, g2, g3⟩ := ih (k + 1) m u (by omega) (by omega) ((hoth 0 21 (by omega) (by omega) (by omega)).trans h4) (fun j hj => (hoth _ j (by omega) (by omega) (by omega)).trans (h1 j hj)) (fun j hj => ⟨(hoth _ j (by omega) (by omega) (by omega)).trans (hE j hj).1, (hoth _ j (by omega) (by omega) (by omega)).trans (hE j hj).2⟩)
      ⟨(hlow _ 0 (by omega)).trans h0.1, (hlow _ 0 (by omega)).trans h0.2.1, (hlow _ 0 (by omega)).trans h0.2.2⟩ hDu
    exact ⟨τ', u1.trans g1, fun a b hab => by rw [g2 a b hab, hoth a b (by omega) (by omega) (by omega)], g3⟩
/-- what places leaves -/
def sc_MM (n : Nat) (L : Nat → Int32) (E : Nat → Nat) (τ : sf_S) : Prop := (∀ j, j < n → τ 15 j = nI (E j - j) ∧ τ 16 j = nI (sc_ps L E j) ∧ τ 17 j = nI (sc_qs L E j)) ∧ sc_D n L E (τ 18) (τ 19) (τ 20)
theorem sc_placesM {n : Nat} {E : Nat → Nat} {L : Nat → Int32} {τ : sf_S} (hn : n ≤ 40) (hT : sc_T n L E) (hil : ∀ j, j < n → sc_il (L j) = true) (h4 : τ 0 21 = nI n) (h1 : ∀ j, j < n → τ 11 j = L j) :
    ∃ τ', dX12_places τ = some τ' ∧ (∀ a b, ¬ (a = 15 ∨ a = 16 ∨ a = 17 ∨ a = 18 ∨ a = 19 ∨ a = 20) → τ' a b = τ a b) ∧ sc_MM n L E τ' := by
  have hF := sf_F_le
  unfold dX12_places
  simp only [h4]
  obtain ⟨s, e1, e2, e3⟩ := sc_pl2 hn hT hil n sf_F τ (Nat.le_refl _) (by omega) h1 (fun j a b => by omega)
  rw [e1]
  simp only [dX12_places_7]
  rw [if_pos (by decide +kernel : nI 0 - 1 < 0)]
  have s4 : s 0 21 = nI n := (e2 0 21 (by omega) (by omega) (by omega)).trans h4
  rw [if_pos (by decide +kernel), if_pos (by decide +kernel), if_pos (by decide +kernel), show (0 : Int32).toNatClampNeg = 0 from by decide +kernel]
  obtain ⟨τ', g1, g2, g3⟩ := sc_pl4 hn hT hil n 0 sf_F (sf_up (sf_up (sf_up s 18 0 0) 19 0 0) 20 0 (-1)) (by omega) (by omega)
    (by simp (disch := omega) only [sc_upK]; exact s4) (fun j hj => by simp (disch := omega) only [sc_upK]; exact (e2 _ _ (by omega) (by omega) (by omega)).trans (h1 j hj)) (fun j hj => by simp (disch := omega) only [sc_upK]; exact (e3 j hj).2)
    ⟨by simp (disch := omega) only [sc_upK, sc_upS], by simp (disch := omega) only [sc_upK, sc_upS], by simp (disch := omega) only [sc_upS]⟩ (fun i hi => by omega)
  refine ⟨τ', by rw [sc_0]; rw [← sc_0]; exact g1, fun a b hab => ?_, ⟨fun j hj => ?_, g3⟩⟩
  · rw [g2 a b (by omega), sc_upK (by omega), sc_upK (by omega), sc_upK (by omega)]
    exact e2 a b (by omega) (by omega) (by omega)
  · rw [g2 _ _ (by omega), g2 _ _ (by omega), g2 _ _ (by omega)]
    simp (disch := omega) only [sc_upK]
    exact e3 j hj
