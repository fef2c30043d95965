/-! a run in the class's way 2 -/
def tr_pf2 (σ σ' : sf_S) : Prop := ∀ a b, ¬ ((a = 32 ∧ b = 4) ∨ (33 ≤ a ∧ a ≤ 35) ∨ (19 ≤ a ∧ a ≤ 22)) → σ' a b = σ a b
theorem tr_play2L {V : List Int32} {m : Nat} (hm : m ≤ 40) : ∀ (r i fuel : Nat) (σ : sf_S), i + r = min m V.length → r < fuel → tr_row σ 0 V → σ 19 1 = nI i → (∀ j v, (V.take i)[j]? = some v → σ 20 j = v) →
    ∃ σ', dX1_play_19 fuel (nI m) (nI i) σ = some σ' ∧ σ' 19 1 = nI (V.take m).length ∧ (∀ j v, (V.take m)[j]? = some v → σ' 20 j = v) ∧ ∀ a b, ¬ ((a = 19 ∧ b = 1) ∨ a = 20) → σ' a b = σ a b := by
  have hi0 : sf_in (0 : Int32) 40 = true := by rw [sc_0]; exact sc_inI (by omega) (by omega)
  have hc0 : (0 : Int32).toNatClampNeg = 0 := by decide +kernel
  intro r
  induction r with
  | zero =>
    intro i fuel σ hi hf hR h1 hv
    obtain ⟨f, rfl⟩ : ∃ f, fuel = f + 1 := ⟨fuel - 1, by omega⟩
    have hV60 := hR.1
    have ht : V.take i = V.take m := by
      by_cases h : m ≤ V.length
      · rw [show i = m by omega]
      · rw [List.take_of_length_le (by omega), List.take_of_length_le (by omega)]
    refine ⟨σ, ?_, ?_, by rw [← ht]; exact hv, fun _ _ _ => rfl⟩
    · simp only [dX1_play_19]
      by_cases h : m ≤ i
      · rw [if_pos (nI_le h (by omega))]
      · rw [if_neg (nI_ge (by omega) (by omega)), if_pos hi0, hc0, hR.2.1, if_pos (nI_le (by omega) (by omega))]
    · rw [h1, ← ht, List.length_take]; congr 1; omega
  | succ r ih =>
    intro i fuel σ hi hf hR h1 hv
    obtain ⟨f, rfl⟩ : ∃ f, fuel = f + 1 := ⟨fuel - 1, by omega⟩
    have hV60 := hR.1
    have hlt : i < V.length := by omega
    have hx : V[i]? = some V[i] := List.getElem?_eq_getElem hlt
    simp only [dX1_play_19]
    rw [if_neg (nI_ge (by omega) (by omega)), if_pos hi0, hc0, hR.2.1, if_neg (nI_ge hlt (by omega)), if_pos (sc_inI (show i < 2400 by omega) (by omega)), sc_cl (by omega)]
    have hrow := hR.2.2 i _ hx
    rw [Nat.mul_zero, Nat.zero_add] at hrow
    rw [hrow, tr_give h1 (by omega)]
    simp only [Option.bind_some]
    have hk : ∀ a b, ¬ ((a = 19 ∧ b = 1) ∨ a = 20) → sf_up (sf_up σ (19 + 1) i V[i]) 19 1 (nI (i + 1)) a b = σ a b := fun a b hab => by
      have g1 : ¬ (a = 19 ∧ b = 1) := by omega
      have g2 : ¬ (a = 19 + 1 ∧ b = i) := by omega
      exact (if_neg g1).trans (if_neg g2)
    have hlen : (V.take i).length = i := by rw [List.length_take]; omega
    obtain ⟨σ', k1, k2, k3, k4⟩ := ih (i + 1) f _ (by omega) (by omega) (hR.kept fun a b hab => hk a b (by omega)) sc_upS (by
      rw [List.take_add_one, hx]
      exact tr_vals (W := []) (f := fun j => σ 20 j) hv (fun j hj => by rw [sc_upK (by omega), sc_upJ (by rw [hlen] at hj; omega)]) (by rw [sc_upK (by omega), hlen, sc_upS]))
    rw [nI_1]
    exact ⟨σ', k1, k2, k3, fun a b hab => by rw [k4 a b hab, hk a b hab]⟩
theorem tr_play2 {T : tt_T} {m : Nat} {σ : sf_S} (hT : tt_wf T ∧ tt_sz T ≤ 40) (hm : m ≤ 40) (hM : tk_M 1 T σ) (hS : tr_Sh σ) : ∃ σ', dX1_play (nI m) σ = some σ' ∧ tr_pf2 σ σ' ∧ ((σ' 19 5 = 0 ∧ ∃ V D, tv_al (tt_sem (tr_S σ) T 0 0) V D ∧ D ≤ 500 ∧ σ' 19 1 = nI (V.take m).length ∧ (∀ i v, (V.take m)[i]? = some v → σ' 20 i = v) ∧ σ' 19 2 = nI D) ∨ (¬ σ' 19 5 = 0 ∧ σ' 19 1 = nI 0)) := by
  have hF := sf_F_le
  have hT40 := hT.2
  obtain ⟨s, s1, s2, s3, s4, s5, s6, s7⟩ := tr_begin (rn := 19) (σ := σ)
  have hp : tr_p2 T 0 0 0 0 (tt_sz T) 0 [] s := by
    refine ⟨⟨hT.2, by rw [s7 _ _ (by omega), hM.1.1, tt_fl_len], by omega, by omega⟩, hT.1, ⟨0, -1, hM.2.1.kept fun x y h1 h2 => s7 x y (by omega), Or.inl ⟨rfl, rfl⟩⟩, hS.kept fun x y hx => s7 x y (by omega), ⟨by rw [s3, sc_0], by omega⟩, s5.1, ⟨by rw [s6]; rfl, fun j a v hj => by cases hj⟩, ?_⟩
    have : tt_sz T * 500 ≤ 40 * 500 := Nat.mul_le_mul_right _ hT.2
    simp only [List.length_nil]; omega
  have hS1 : tr_S s = tr_S σ := tr_S_congr fun a b hab => s7 a b (by omega)
  obtain ⟨res, σ1, g1, g2, g3⟩ := tr_make 42 T (by omega) hT.1 0 0 0 0 (tt_sz T) 0 [] s hp
  rw [hS1] at g3
  have hpf : tr_pf2 σ σ1 := fun a b hab => by rw [g2 a b (by omega), s7 a b (by omega)]
  have h11 : σ1 19 1 = nI 0 := by rw [g2 _ _ (by omega), s2, sc_0]
  unfold dX1_play
  rw [s1]
  simp only [Option.bind_some]
  rw [sc_0, g1]
  simp only [Option.bind_some]
  rcases g3 with ⟨rfl, V, N1, d1, h1, h2, h3, h4, h5, h6, h7⟩ | ⟨rfl, g3⟩
  · rw [if_pos (by rw [← sc_0]; decide)]
    obtain ⟨σ', k1, k2, k3, k4⟩ := tr_play2L (V := V) hm (min m V.length) 0 sf_F σ1 (Nat.zero_add _) (by omega) h1 h11 (fun j v h => by simp at h)
    refine ⟨σ', k1, fun a b hab => by rw [k4 a b (by omega), hpf a b hab], Or.inl ⟨by rw [k4 _ _ (by omega)]; exact h4, V, d1, ?_, h3.2.2, k2, k3, by rw [k4 _ _ (by omega)]; exact h3.1⟩⟩
    rw [Nat.sub_zero] at h7; exact h7
  · rw [if_neg (by rw [← sc_0]; simp)]
    exact ⟨σ1, rfl, hpf, Or.inr ⟨g3, h11⟩⟩
