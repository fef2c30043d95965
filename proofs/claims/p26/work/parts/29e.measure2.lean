/-! the class's measure, whole -/
theorem sc_ms2 {q n : Nat} {E : Nat → Nat} {L : Nat → Int32} (hn : n ≤ 40) (hT : sc_T n L E) : ∀ (r k fuel : Nat) (σ : sf_S), k + r = n → r < fuel → σ q 4 = nI n → (∀ j, j < n → σ (q + 1) j = L j) → (∀ j, j < n → σ (q + 5) j = nI (E j)) → sc_D0 (σ (q + 6)) (σ (q + 7)) (σ (q + 8)) → (∀ i, i < k → sc_Dk L E (σ (q + 6)) (σ (q + 7)) (σ (q + 8)) i) → σ q 10 = sc_mx (σ (q + 6)) k → σ q 11 = sc_b (sc_en L k) →
    ∃ σ', dX2_measure_62 q fuel (nI k) σ = some σ' ∧ (∀ a b, ¬ (a = q + 6 ∨ a = q + 7 ∨ a = q + 8 ∨ (a = q ∧ (b = 10 ∨ b = 11))) → σ' a b = σ a b) ∧ sc_D n L E (σ' (q + 6)) (σ' (q + 7)) (σ' (q + 8)) ∧ σ' q 10 = sc_mx (σ' (q + 6)) n ∧ σ' q 11 = sc_b (sc_en L n) := by
  intro r
  induction r with
  | zero =>
    intro k fuel σ hk hf h4 h1 hE h0 hD h10 h11
    obtain ⟨m, rfl⟩ : ∃ m, fuel = m + 1 := ⟨fuel - 1, by omega⟩
    have hkn : k = n := by omega
    subst hkn
    refine ⟨σ, ?_, fun _ _ _ => rfl, ⟨h0, hD⟩, h10, h11⟩
    simp only [dX2_measure_62]
    rw [h4, if_pos (nI_le (by omega) (by omega))]
  | succ r ih =>
    intro k fuel σ hk hf h4 h1 hE h0 hD h10 h11
    obtain ⟨m, rfl⟩ : ∃ m, fuel = m + 1 := ⟨fuel - 1, by omega⟩
    have hkn : k < n := by omega
    obtain ⟨u, u1, u2, u3⟩ := sc_mp hn hT hkn h4 (h1 k hkn) hE
    have hEk : sc_p (L k) = 2 → k + 1 < E (k + 1) := fun q => (hT.p2 hkn q).2.1
    have hlow : ∀ a b, b ≤ k → u a b = σ a b := fun a b hb => u2 a b (fun ⟨_, _, h⟩ => by rcases h with h | ⟨h, h'⟩ <;> first | omega | (have := hEk h; omega))
    have hoth : ∀ a b, a ≠ q + 6 → a ≠ q + 7 → a ≠ q + 8 → u a b = σ a b := fun a b g6 g7 g8 => u2 a b (by omega)
    have hDu : ∀ i, i < k + 1 → sc_Dk L E (u (q + 6)) (u (q + 7)) (u (q + 8)) i := by
      by_cases hp : 1 ≤ sc_p (L k)
      · refine sc_D_step hT hkn hp hD (fun j hj1 hj2 => ?_) u3
        have : ∀ a, u a j = σ a j := fun a => u2 a j (fun ⟨_, _, h⟩ => by rcases h with h | ⟨h, h'⟩; exact hj1 h; exact hj2 h h')
        exact ⟨this _, this _, this _⟩
      · intro i hi
        have : ∀ a j, u a j = σ a j := fun a j => u2 a j (fun ⟨_, h, _⟩ => hp h)
        by_cases hik : i = k
        · subst hik; exact u3
        · exact (hD i (by omega)).congr ⟨this _ _, this _ _, this _ _⟩ (fun _ => ⟨this _ _, this _ _, this _ _⟩) (fun _ => ⟨this _ _, this _ _, this _ _⟩)
    have hmx : sc_mx (u (q + 6)) (k + 1) = (if σ q 10 < u (q + 6) k then u (q + 6) k else σ q 10) := by
      rw [sc_mx, sc_mx_congr (w := σ (q + 6)) (fun j hj => hlow _ j (by omega)), ← h10]
    -- behind deepest and endless
    have fin : ∀ (s : sf_S), (∀ a b, ¬ (a = q ∧ (b = 10 ∨ b = 11)) → s a b = u a b) → s q 10 = sc_mx (u (q + 6)) (k + 1) → s q 11 = sc_b (sc_en L (k + 1)) →
        ∃ σ', dX2_measure_62 q m (nI (k + 1)) s = some σ' ∧ (∀ a b, ¬ (a = q + 6 ∨ a = q + 7 ∨ a = q + 8 ∨ (a = q ∧ (b = 10 ∨ b = 11))) → σ' a b = σ a b) ∧ sc_D n L E (σ' (q + 6)) (σ' (q + 7)) (σ' (q + 8)) ∧ σ' q 10 = sc_mx (σ' (q + 6)) n ∧ σ' q 11 = sc_b (sc_en L n) := by
      intro s hs s10 s11
      have row : ∀ a, a ≠ q → s a = u a := fun a ha => funext fun b => hs a b (by omega)
      obtain ⟨σ', g1, g2, g3, g4, g5⟩ := ih (k + 1) m s (by omega) (by omega) (by rw [hs q 4 (by omega), hoth q 4 (by omega) (by omega) (by omega)]; exact h4) (fun j hj => by rw [row _ (by omega), hoth _ j (by omega) (by omega) (by omega)]; exact h1 j hj) (fun j hj => by rw [row _ (by omega), hoth _ j (by omega) (by omega) (by omega)]; exact hE j hj)
        (by rw [row _ (by omega), row _ (by omega), row _ (by omega)]; exact ⟨(hlow _ 0 (by omega)).trans h0.1, (hlow _ 0 (by omega)).trans h0.2.1, (hlow _ 0 (by omega)).trans h0.2.2⟩) (by rw [row _ (by omega), row _ (by omega), row _ (by omega)]; exact hDu) (by rw [row (q + 6) (by omega)]; exact s10) s11
      exact ⟨σ', g1, fun a b hab => by rw [g2 a b hab, hs a b (by omega), hoth a b (by omega) (by omega) (by omega)], g3, g4, g5⟩
    simp only [dX2_measure_62]
    rw [h4, if_neg (nI_ge hkn (by omega)), u1]
    simp only [Option.bind_some, sc_inI (show k < 40 by omega) (by omega : 40 ≤ 10000), if_true, sc_cl (show k < 2 ^ 31 by omega), nI_1]
    have e1 : ∀ v, sf_up u q 10 v (q + 1) k = L k := fun v => by rw [sc_upK (by omega), hoth _ _ (by omega) (by omega) (by omega), h1 k hkn]
    have eu10 : u q 10 = σ q 10 := hoth q 10 (by omega) (by omega) (by omega)
    have eu11 : u q 11 = sc_b (sc_en L k) := (hoth q 11 (by omega) (by omega) (by omega)).trans h11
    rw [e1, eu10, ← hmx]
    by_cases hi : L k = 105
    · rw [if_neg (by simp [hi])]
      refine fin _ (fun a b hab => ?_) ?_ ?_
      · by_cases ha : a = q
        · subst ha; rw [sc_upJ (by omega), sc_upJ (by omega)]
        · rw [sc_upK ha, sc_upK ha]
      · rw [sc_upJ (by omega), sc_upS]
      · rw [sc_upS, sc_en, if_pos hi]; rfl
    · rw [if_pos hi]
      refine fin _ (fun a b hab => ?_) ?_ ?_
      · by_cases ha : a = q
        · subst ha; rw [sc_upJ (by omega)]
        · rw [sc_upK ha]
      · rw [sc_upS]
      · rw [sc_upJ (by omega), sc_en, if_neg hi]; exact eu11
/-- what measure leaves -/
def sc_MC (q n : Nat) (L : Nat → Int32) (E : Nat → Nat) (σ : sf_S) : Prop := (∀ j, j < n → σ (q + 5) j = nI (E j) ∧ σ (q + 9) j = sc_b (sc_pu L E j)) ∧ sc_D n L E (σ (q + 6)) (σ (q + 7)) (σ (q + 8)) ∧ σ q 10 = sc_mx (σ (q + 6)) n ∧ σ q 11 = sc_b (sc_en L n)
theorem sc_measC {q n : Nat} {E : Nat → Nat} {L : Nat → Int32} {σ : sf_S} (hn : n ≤ 40) (h0 : 0 < n) (hT : sc_T n L E) (h4 : σ q 4 = nI n) (h1 : ∀ j, j < n → σ (q + 1) j = L j) :
    ∃ σ', dX2_measure q σ = some σ' ∧ (∀ a b, ¬ (a = q + 5 ∨ a = q + 6 ∨ a = q + 7 ∨ a = q + 8 ∨ a = q + 9 ∨ (a = q ∧ (b = 10 ∨ b = 11))) → σ' a b = σ a b) ∧ sc_MC q n L E σ' := by
  have hF := sf_F_le
  unfold dX2_measure
  simp only [h4]
  obtain ⟨s, e1, e2, e3⟩ := sc_ms1 (q := q) hn hT n sf_F σ (Nat.le_refl _) (by omega) h4 h1 (fun j a b => by omega)
  rw [e1]
  simp only [dX2_measure_7]
  rw [if_pos (by decide +kernel : nI 0 - 1 < 0)]
  have s4 : s q 4 = nI n := (e2 q 4 (by omega) (by omega)).trans h4
  simp (disch := omega) only [sc_upJ, s4]
  have hn0 : ¬ nI n ≤ 0 := nI_nle h0 (by omega)
  rw [if_neg hn0, if_pos (by decide +kernel), if_pos (by decide +kernel), if_pos (by decide +kernel), show (0 : Int32).toNatClampNeg = 0 from by decide +kernel]
  obtain ⟨σ', g1, g2, g3, g4, g5⟩ := sc_ms2 (q := q) hn hT n 0 sf_F (sf_up (sf_up (sf_up (sf_up (sf_up s q 10 (-1)) q 11 0) (q + 6) 0 0) (q + 7) 0 0) (q + 8) 0 (-1)) (by omega) (by omega)
    (by simp (disch := omega) only [sc_upK, sc_upJ]; exact s4) (fun j hj => by simp (disch := omega) only [sc_upK]; exact (e2 _ _ (by omega) (by omega)).trans (h1 j hj)) (fun j hj => by simp (disch := omega) only [sc_upK]; exact (e3 j hj).1)
    ⟨by simp (disch := omega) only [sc_upK, sc_upS], by simp (disch := omega) only [sc_upK, sc_upS], by simp (disch := omega) only [sc_upS]⟩ (fun i hi => by omega) (by simp (disch := omega) only [sc_upK, sc_upJ, sc_upS]; rfl) (by simp (disch := omega) only [sc_upK, sc_upS]; rfl)
  refine ⟨σ', by rw [sc_0]; rw [← sc_0]; exact g1, fun a b hab => ?_, ⟨fun j hj => ?_, g3, g4, g5⟩⟩
  · rw [g2 a b (by omega)]
    have : ∀ (x : sf_S) (k' j' : Nat) (v : Int32), (a ≠ k' ∨ b ≠ j') → sf_up x k' j' v a b = x a b := fun x k' j' v h => by
      rcases h with h | h
      · exact sc_upK h
      · exact sc_upJ h
    rw [this _ _ _ _ (by omega), this _ _ _ _ (by omega), this _ _ _ _ (by omega), this _ _ _ _ (by omega), this _ _ _ _ (by omega)]
    exact e2 a b (by omega) (by omega)
  · rw [g2 _ _ (by omega), g2 _ _ (by omega)]
    simp (disch := omega) only [sc_upK]
    exact e3 j hj
