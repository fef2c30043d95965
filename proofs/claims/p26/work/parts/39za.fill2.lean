/-! way 2: rows of pipes with one pipe, of producers -/
theorem tr_fillL {n k : Nat} {c : tt_C} {o : Int32} {V : List Int32} (hk1 : k + 1 < n) (hil : sc_p c.1 = 1 ∧ sc_il c.1 = true) : ∀ (m i fuel : Nat) (R : List Int32) (N : List (Int32 × Int32)) (σ : sf_S), i + m = V.length → m < fuel → tr_nd 1 n k c o σ → tr_row σ (k + 1) V → tr_row σ k R → R.length ≤ i → tr_N 19 N σ → N.length + m < 1000000 → tr_cum c o V i R → σ 19 5 = 0 →
    ∃ res σ', dX1_fillFromInput_19 fuel (nI k) (nI (k + 1)) (nI i) σ = some (res, σ') ∧ tr_lf2 k σ σ' ∧ ((res = 1 ∧ ∃ R' N3, tr_row σ' k R' ∧ R'.length ≤ V.length ∧ N3.length ≤ m ∧ tr_N 19 (N ++ N3) σ' ∧ σ' 19 5 = 0 ∧ (tr_cum c o V V.length R' ∨ (c.1 = 119 ∧ R' = V.takeWhile (tt_ps c)))) ∨ (res = 0 ∧ ¬ σ' 19 5 = 0)) := by
  intro m
  induction m with
  | zero =>
    intro i fuel R N σ hi hf hnd hV hR hRi hN hNl hcum h5
    obtain ⟨f, rfl⟩ : ∃ f, fuel = f + 1 := ⟨fuel - 1, by omega⟩
    have hV60 := hV.1
    obtain rfl : i = V.length := by omega
    refine ⟨1, σ, ?_, fun _ _ _ => rfl, Or.inl ⟨rfl, R, [], hR, hRi, Nat.le_refl _, by rw [List.append_nil]; exact hN, h5, Or.inl hcum⟩⟩
    simp only [dX1_fillFromInput_19]
    rw [if_pos (sc_inI (by have := hnd.1; omega) (by omega)), sc_cl (by have := hnd.1; omega), hV.2.1, if_pos (nI_le (Nat.le_refl _) (by omega))]
  | succ m ih =>
    intro i fuel R N σ hi hf hnd hV hR hRi hN hNl hcum h5
    obtain ⟨f, rfl⟩ : ∃ f, fuel = f + 1 := ⟨fuel - 1, by omega⟩
    have hlt : i < V.length := by omega
    have hv : V[i]? = some V[i] := List.getElem?_eq_getElem hlt
    rcases tr_it hnd hk1 hil hV hR hRi hv hN (by omega) with ⟨A, N3, σ1, g1, g2, g3, g4, g5, g6, g7, g8⟩ | ⟨g1, g2, g3⟩ | ⟨σ1, g1, g2, g3⟩
    · obtain ⟨res, σ2, s1, s2, s3⟩ := ih (i + 1) f (R ++ A) (N ++ N3) σ1 (by omega) (by omega) (hnd.kept fun a b hab => g7 a b (by omega)) (hV.kept fun a b hab => g7 a b (by omega)) g2 (by rw [List.length_append]; omega) g5 (by rw [List.length_append]; omega) (tr_cumS hv hcum g8) (g6.trans h5)
      refine ⟨res, σ2, by rw [g1, s1], tr_lf2_tr g7 s2, ?_⟩
      rcases s3 with ⟨e1, R', N4, e2, e3, e4, e5, e6⟩ | e1
      · exact Or.inl ⟨e1, R', N3 ++ N4, e2, e3, by rw [List.length_append]; omega, by rw [← List.append_assoc]; exact e5, e6⟩
      · exact Or.inr e1
    · refine ⟨1, σ, g3 f, fun _ _ _ => rfl, Or.inl ⟨rfl, R, [], hR, by omega, by simp, by rw [List.append_nil]; exact hN, h5, Or.inr ⟨g1, ?_⟩⟩⟩
      obtain ⟨q1, q2⟩ := hcum.2.2.2 g1
      rw [q1, tv_tw_take hv q2 g2]
    · exact ⟨0, σ1, g1 f, g3, Or.inr ⟨rfl, g2⟩⟩
theorem tr_fin {S : tt_S} {s : Nat} {c : tt_C} {u : Unit} {P Q : tt_T} {o w : Int32} {V R : List Int32} {D : Nat} (hil : sc_p c.1 = 1 ∧ sc_il c.1 = true) (hV : tv_al (tt_sem S P o w) V D) (h : tr_cum c o V V.length R ∨ (c.1 = 119 ∧ R = V.takeWhile (tt_ps c))) : tv_al (tt_sem S (.inner s c u P Q) o w) R D := by
  have hbl : ∀ (hb : tr_bl c), tt_sem S (.inner s c u P Q) o w = tv_bnd (tt_op c o) (tt_sem S P o w) := fun hb => by
    simp only [tt_sem]
    rcases hb with h | h | h | h | h | h | h <;> rw [h] <;> rfl
  have h119 : c.1 = 119 → R = V.takeWhile (tt_ps c) → tv_al (tt_sem S (.inner s c u P Q) o w) R D := fun e1 e2 => by
    simp only [tt_sem]
    rw [e1, e2]
    exact tv_al_tw hV
  rcases h with ⟨h1, h2, h3, h4⟩ | ⟨e1, e2⟩
  · rw [List.take_length] at h1 h2 h3 h4
    by_cases hb : tr_bl c
    · rw [hbl hb]
      exact (tv_al_bnd hV (h1 hb)).mono (by omega)
    · by_cases e : c.1 = 116
      · have : tt_sem S (.inner s c u P Q) o w = tv_tk (tt_sem S P o w) c.2.2.1.toNatClampNeg := by simp only [tt_sem]; rw [e]; rfl
        rw [this, h2 e]
        exact tv_al_tk _ hV
      · by_cases e : c.1 = 100
        · have : tt_sem S (.inner s c u P Q) o w = tv_dr (tt_sem S P o w) c.2.2.1.toNatClampNeg := by simp only [tt_sem]; rw [e]; rfl
          rw [this, h3 e]
          exact tv_al_dr _ hV
        · have e119 : c.1 = 119 := by
            unfold tr_bl at hb
            simp only [not_or] at hb
            obtain ⟨hp1, hil⟩ := hil
            rcases sc_il_cases hil with q | q | q | q | q | q | q | q | q | q | q | q | q | q | q | q | q | q <;> first
              | exact q
              | (exfalso; rw [q] at hp1; exact absurd hp1 (by decide +kernel))
              | simp_all
          refine h119 e119 ?_
          rw [(h4 e119).1, tv_tw_all fun j x hx => (h4 e119).2 j x (List.getElem?_eq_some_iff.mp hx).1 hx]
  · exact h119 e1 e2
/-- a producer's row -/
theorem tr_prodL {n k : Nat} {c : tt_C} {o b w : Int32} {S : tt_S} {sp : Int64} {cn : Nat} (hc : tt_pd c) (h105 : ¬ c.1 = 105) (hcn : cn ≤ 60) (hcnS : tt_cn S c w = cn) (hs : c.1 = 115 → ¬ S c.2.1 = none) (hsp : ∀ u : Nat, u < 1000000 → (0 ≤ lg_cmp (nI u).toInt64 sp ↔ (¬ c.1 = 105 ∧ cn ≤ u))) : ∀ (m i fuel : Nat) (σ : sf_S), i + m = cn → m < fuel → tr_nd 1 n k c o σ → σ 9 k = b → tr_ow 33 n b w σ → tr_Sh σ → tr_S σ = S → tr_row σ k ((List.range' 0 i).map (tt_fn S c w)) →
    ∃ σ', dX1_fillFromProducer_60 fuel (nI k) sp (nI i) σ = some (1, σ') ∧ tr_rwf k σ σ' ∧ tr_row σ' k ((List.range' 0 cn).map (tt_fn S c w)) := by
  intro m
  induction m with
  | zero =>
    intro i fuel σ hi hf hnd hb hw hSh hS hR
    obtain ⟨f, rfl⟩ : ∃ f, fuel = f + 1 := ⟨fuel - 1, by omega⟩
    simp only [dX1_fillFromProducer_60]
    rw [if_pos ((hsp i (by omega)).mpr ⟨h105, by omega⟩)]
    obtain rfl : i = cn := by omega
    exact ⟨σ, rfl, fun _ _ _ => rfl, hR⟩
  | succ m ih =>
    intro i fuel σ hi hf hnd hb hw hSh hS hR
    obtain ⟨f, rfl⟩ : ∃ f, fuel = f + 1 := ⟨fuel - 1, by omega⟩
    simp only [dX1_fillFromProducer_60]
    rw [if_neg (fun h => by have := ((hsp i (by omega)).mp h).2; omega), tr_supplied (q := 32) (u := i) (b := b) (w := w) (show tr_nd (sf_pl 32) n k c o σ from hnd) hb hw hSh hc (by rw [hS]; exact hs) (by omega) (fun _ => by rw [hS, hcnS]; omega)]
    simp only [Option.bind_some]
    obtain ⟨σ1, s1, s2, s3⟩ := tr_add hnd.1 hnd.2.1 hnd.2.2.1 hR (by simp; omega) (tt_fn (tr_S σ) c w i)
    rw [s1]
    simp only [Option.bind_some]
    rw [nI_1]
    obtain ⟨σ2, k1, k2, k3⟩ := ih (i + 1) f σ1 (by omega) (by omega) (hnd.kept fun a b hab => s3 a b (by omega)) (by rw [s3 _ _ (by omega)]; exact hb) (by
      rcases hw with h | ⟨x, h1, h2, h3⟩
      · exact Or.inl h
      · exact Or.inr ⟨x, h1, h2, by rw [s3 _ _ (by omega)]; exact h3⟩) (hSh.kept fun a b hab => s3 a b (by omega)) ((tr_S_congr fun a b hab => s3 a b (by omega)).trans hS) (by
      rw [hS] at s2
      rw [List.range'_1_concat, List.map_append]
      simpa using s2)
    exact ⟨σ2, k1, tr_rwf_tr s3 k2, k3⟩
