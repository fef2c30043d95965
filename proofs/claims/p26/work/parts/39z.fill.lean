/-! way 2: a row made of the row within -/
def tr_f2 (k e : Nat) (σ σ' : sf_S) : Prop := ∀ a b, ¬ ((a = 32 ∧ b = 4) ∨ (a = 33 ∧ k ≤ b ∧ b < e) ∨ (a = 34 ∧ 60 * k ≤ b ∧ b < 60 * e) ∨ (a = 35 ∧ k ≤ b ∧ b < e) ∨ (a = 19 ∧ (b = 2 ∨ b = 3 ∨ b = 4 ∨ b = 5 ∨ b = 6 ∨ b = 9)) ∨ a = 21 ∨ a = 22) → σ' a b = σ a b
theorem tr_f2_tr {k e : Nat} {a b c : sf_S} (h1 : tr_f2 k e a b) (h2 : tr_f2 k e b c) : tr_f2 k e a c := fun x y h => (h2 x y h).trans (h1 x y h)
theorem tr_f2_wk {k e k' e' : Nat} {σ σ' : sf_S} (h : tr_f2 k' e' σ σ') (h1 : k ≤ k') (h2 : e' ≤ e) : tr_f2 k e σ σ' := fun x y hxy => h x y (by omega)
theorem tv_tw_take {p : Int32 → Bool} : ∀ {V : List Int32} {i : Nat} {v : Int32}, V[i]? = some v → (∀ j x, j < i → V[j]? = some x → p x = true) → p v = false → V.takeWhile p = V.take i
  | [], i, v, h, _, _ => by simp at h
  | a :: V, 0, v, h, _, hp => by
    simp at h; subst h
    simp [List.takeWhile_cons, hp]
  | a :: V, i + 1, v, h, ha, hp => by
    have h0 := ha 0 a (by omega) rfl
    rw [List.takeWhile_cons, h0, List.take_succ_cons]
    simp only [if_true]
    rw [tv_tw_take (V := V) (i := i) (v := v) (by simpa using h) (fun j x hj hx => ha (j + 1) x (by omega) (by simpa using hx)) hp]
theorem tv_tw_all {p : Int32 → Bool} : ∀ {V : List Int32}, (∀ (j : Nat) (x : Int32), V[j]? = some x → p x = true) → V.takeWhile p = V
  | [], _ => rfl
  | a :: V, h => by
    rw [List.takeWhile_cons, h 0 a rfl]
    simp only [if_true]
    rw [tv_tw_all (V := V) fun j x hx => h (j + 1) x (by simpa using hx)]
/-- what one number adds -/
def tr_bl (c : tt_C) : Prop := c.1 = 37 ∨ c.1 = 42 ∨ c.1 = 43 ∨ c.1 = 47 ∨ c.1 = 108 ∨ c.1 = 63 ∨ c.1 = 107
def tr_ad (c : tt_C) (o : Int32) (i : Nat) (v : Int32) (A : List Int32) : Prop := (tr_bl c → tv_al (tt_op c o v) A 0) ∧ (c.1 = 116 → A = if i < c.2.2.1.toNatClampNeg then [v] else []) ∧ (c.1 = 100 → A = if i < c.2.2.1.toNatClampNeg then [] else [v]) ∧ (c.1 = 119 → A = [v] ∧ tt_ps c v = true)
def tr_cum (c : tt_C) (o : Int32) (V : List Int32) (i : Nat) (R : List Int32) : Prop := (tr_bl c → tv_bd (tt_op c o) (V.take i) R 0) ∧ (c.1 = 116 → R = (V.take i).take c.2.2.1.toNatClampNeg) ∧ (c.1 = 100 → R = (V.take i).drop c.2.2.1.toNatClampNeg) ∧ (c.1 = 119 → R = V.take i ∧ ∀ j x, j < i → V[j]? = some x → tt_ps c x = true)
theorem tr_cum0 {c : tt_C} {o : Int32} {V : List Int32} : tr_cum c o V 0 [] := ⟨fun _ => rfl, fun _ => by simp, fun _ => by simp, fun _ => ⟨by simp, fun j x hj => by omega⟩⟩
theorem tr_cumS {c : tt_C} {o : Int32} {V : List Int32} {i : Nat} {v : Int32} {R A : List Int32} (hv : V[i]? = some v) (h : tr_cum c o V i R) (ha : tr_ad c o i v A) : tr_cum c o V (i + 1) (R ++ A) := by
  have ht : V.take (i + 1) = V.take i ++ [v] := by rw [List.take_add_one, hv]; rfl
  have hl : (V.take i).length = i := by
    have := (List.getElem?_eq_some_iff.mp hv).1
    rw [List.length_take]; omega
  obtain ⟨h1, h2, h3, h4⟩ := h
  obtain ⟨a1, a2, a3, a4⟩ := ha
  refine ⟨fun e => by rw [ht]; exact tv_bd_snoc (a1 e) (h1 e), fun e => ?_, fun e => ?_, fun e => ?_⟩
  · rw [h2 e, a2 e, ht]
    by_cases q : i < c.2.2.1.toNatClampNeg
    · have g1 : (V.take i).take c.2.2.1.toNatClampNeg = V.take i := List.take_of_length_le (by omega)
      have g2 : (V.take i ++ [v]).take c.2.2.1.toNatClampNeg = V.take i ++ [v] := List.take_of_length_le (by rw [List.length_append, hl]; simp; omega)
      rw [if_pos q, g1, g2]
    · rw [if_neg q, List.append_nil, List.take_append_of_le_length (by omega)]
  · rw [h3 e, a3 e, ht]
    by_cases q : i < c.2.2.1.toNatClampNeg
    · have g1 : (V.take i).drop c.2.2.1.toNatClampNeg = [] := List.drop_of_length_le (by omega)
      have g2 : (V.take i ++ [v]).drop c.2.2.1.toNatClampNeg = [] := List.drop_of_length_le (by rw [List.length_append, hl]; simp; omega)
      rw [if_pos q, List.append_nil, g1, g2]
    · rw [if_neg q, List.drop_append_of_le_length (by omega)]
  · rw [(a4 e).1, ht, (h4 e).1]
    refine ⟨rfl, fun j x hj hx => ?_⟩
    by_cases q : j < i
    · exact (h4 e).2 j x q hx
    · obtain rfl : j = i := by omega
      rw [hv] at hx
      cases hx
      exact (a4 e).2
/-- the states within the loop -/
def tr_lf2 (k : Nat) (σ σ' : sf_S) : Prop := ∀ a b, ¬ ((a = 32 ∧ b = 4) ∨ (a = 34 ∧ 60 * k ≤ b ∧ b < 60 * k + 60) ∨ (a = 35 ∧ b = k) ∨ (a = 19 ∧ (b = 5 ∨ b = 6 ∨ b = 9)) ∨ a = 21 ∨ a = 22) → σ' a b = σ a b
theorem tr_lf2_tr {k : Nat} {a b c : sf_S} (h1 : tr_lf2 k a b) (h2 : tr_lf2 k b c) : tr_lf2 k a c := fun x y h => (h2 x y h).trans (h1 x y h)
theorem tr_rwf_lf {k : Nat} {σ σ' : sf_S} (h : tr_rwf k σ σ') : tr_lf2 k σ σ' := fun a b hab => h a b (by omega)
def tr_it1 (k i : Nat) (c : tt_C) (o v : Int32) (R : List Int32) (N : List (Int32 × Int32)) (σ : sf_S) : Prop :=
  (∃ A N3 σ', (∀ f, dX1_fillFromInput_19 (f + 1) (nI k) (nI (k + 1)) (nI i) σ = dX1_fillFromInput_19 f (nI k) (nI (k + 1)) (nI (i + 1)) σ') ∧ tr_row σ' k (R ++ A) ∧ A.length ≤ 1 ∧ N3.length ≤ 1 ∧ tr_N 19 (N ++ N3) σ' ∧ σ' 19 5 = σ 19 5 ∧ tr_lf2 k σ σ' ∧ tr_ad c o i v A) ∨
  (c.1 = 119 ∧ tt_ps c v = false ∧ ∀ f, dX1_fillFromInput_19 (f + 1) (nI k) (nI (k + 1)) (nI i) σ = some (1, σ)) ∨
  (∃ σ', (∀ f, dX1_fillFromInput_19 (f + 1) (nI k) (nI (k + 1)) (nI i) σ = some (0, σ')) ∧ ¬ σ' 19 5 = 0 ∧ tr_lf2 k σ σ')
theorem tr_bl_no {c : tt_C} {L : Int32} (h : c.1 = L) (hL : L = 116 ∨ L = 100 ∨ L = 119) : ¬ tr_bl c := by
  unfold tr_bl
  rw [h]
  rcases hL with h | h | h <;> rw [h] <;> decide
theorem tr_it {n k i : Nat} {c : tt_C} {o v : Int32} {V R : List Int32} {N : List (Int32 × Int32)} {σ : sf_S} (hnd : tr_nd 1 n k c o σ) (hk1 : k + 1 < n) (hil : sc_p c.1 = 1 ∧ sc_il c.1 = true) (hV : tr_row σ (k + 1) V) (hR : tr_row σ k R) (hRi : R.length ≤ i) (hv : V[i]? = some v) (hN : tr_N 19 N σ) (hNl : N.length < 1000000) : tr_it1 k i c o v R N σ := by
  obtain ⟨hn, h4, hk, h1, h2, h3, h5, h7⟩ := id hnd
  have hik : sf_in (nI k) 40 = true := sc_inI (by omega) (by omega)
  have hik1 : sf_in (nI (k + 1)) 40 = true := sc_inI (by omega) (by omega)
  have hcl := sc_cl (show k < 2 ^ 31 by omega)
  have hcl1 := sc_cl (show k + 1 < 2 ^ 31 by omega)
  have hi := (List.getElem?_eq_some_iff.mp hv).1
  have hV60 := hV.1
  have hu : ∀ f, dX1_fillFromInput_19 (f + 1) (nI k) (nI (k + 1)) (nI i) σ = (if c.1 = 63 then (dX10_passes 32 (nI k) v σ).bind fun u3 => if u3.1 = 0 then dX1_fillFromInput_19 f (nI k) (nI (k + 1)) (nI (i + 1)) u3.2 else (dX1_add (nI k) v u3.2).bind fun u4 => dX1_fillFromInput_19 f (nI k) (nI (k + 1)) (nI (i + 1)) u4
      else if c.1 = 100 then (if nI i < c.2.2.1 then dX1_fillFromInput_19 f (nI k) (nI (k + 1)) (nI (i + 1)) σ else (dX1_add (nI k) v σ).bind fun u5 => dX1_fillFromInput_19 f (nI k) (nI (k + 1)) (nI (i + 1)) u5)
      else if c.1 = 107 then (dX10_passes 32 (nI k) v σ).bind fun u6 => if u6.1 = 0 then dX1_fillFromInput_19 f (nI k) (nI (k + 1)) (nI (i + 1)) u6.2 else (dX1_add (nI k) v u6.2).bind fun u7 => dX1_fillFromInput_19 f (nI k) (nI (k + 1)) (nI (i + 1)) u7
      else if c.1 = 116 then (if c.2.2.1 ≤ nI i then dX1_fillFromInput_19 f (nI k) (nI (k + 1)) (nI (i + 1)) σ else (dX1_add (nI k) v σ).bind fun u8 => dX1_fillFromInput_19 f (nI k) (nI (k + 1)) (nI (i + 1)) u8)
      else if c.1 = 119 then (dX10_passes 32 (nI k) v σ).bind fun u9 => if ¬ u9.1 = 0 then (dX1_add (nI k) v u9.2).bind fun u10 => dX1_fillFromInput_19 f (nI k) (nI (k + 1)) (nI (i + 1)) u10 else some ((1 : Int32), u9.2)
      else (dX10_change 32 (nI k) v σ).bind fun u11 => if ¬ u11.1 = 0 then (dX1_add (nI k) (u11.2 32 4) u11.2).bind fun u12 => dX1_fillFromInput_19 f (nI k) (nI (k + 1)) (nI (i + 1)) u12 else some ((0 : Int32), u11.2)) := fun f => by
    simp only [dX1_fillFromInput_19]
    rw [if_pos hik1, hcl1, hV.2.1, if_neg (nI_ge hi (by omega)), tr_elem hn h4 hk1 hV hv]
    simp only [Option.bind_some, hik, if_true, hcl, h1, nI_1, show σ 4 k = c.2.2.1 from h3]
  have hps := tr_ps (q := 32) (show tr_nd (sf_pl 32) n k c o σ from hnd) v
  have hadd := tr_add hn h4 hk hR (by omega) v
  by_cases hfl : c.1 = 63 ∨ c.1 = 107
  · have hbl : tr_bl c := by unfold tr_bl; rcases hfl with h | h <;> simp [h]
    have hno : ¬ c.1 = 116 ∧ ¬ c.1 = 100 ∧ ¬ c.1 = 119 := by rcases hfl with h | h <;> rw [h] <;> decide
    cases hp : tt_ps c v
    · refine Or.inl ⟨[], [], σ, fun f => ?_, by rw [List.append_nil]; exact hR, by simp, by simp, by rw [List.append_nil]; exact hN, rfl, fun _ _ _ => rfl, ⟨fun _ => ?_, fun e => absurd e hno.1, fun e => absurd e hno.2.1, fun e => absurd e hno.2.2⟩⟩
      · rw [hu, hps, hp]
        rcases hfl with h | h <;> rw [h] <;> rfl
      · rw [tr_R_ps hfl, hp]; rfl
    · obtain ⟨σ', s1, s2, s3⟩ := hadd
      refine Or.inl ⟨[v], [], σ', fun f => ?_, s2, by simp, by simp, by rw [List.append_nil]; exact hN.kept fun a b hab => s3 a b (by omega), s3 _ _ (by omega), tr_rwf_lf s3, ⟨fun _ => ?_, fun e => absurd e hno.1, fun e => absurd e hno.2.1, fun e => absurd e hno.2.2⟩⟩
      · rw [hu, hps, hp]
        rcases hfl with h | h
        · rw [if_pos h]
          simp only [Option.bind_some]
          rw [if_neg (by decide), s1]; rfl
        · rw [if_neg (by rw [h]; decide), if_neg (by rw [h]; decide), if_pos h]
          simp only [Option.bind_some]
          rw [if_neg (by decide), s1]; rfl
      · rw [tr_R_ps hfl, hp]; exact ⟨[], rfl, rfl⟩
  by_cases h100 : c.1 = 100
  · have hnb := tr_bl_no h100 (Or.inr (Or.inl rfl))
    by_cases hlt : i < c.2.2.1.toNatClampNeg
    · refine Or.inl ⟨[], [], σ, fun f => ?_, by rw [List.append_nil]; exact hR, by simp, by simp, by rw [List.append_nil]; exact hN, rfl, fun _ _ _ => rfl, ⟨fun e => absurd e hnb, fun e => ?_, fun _ => by rw [if_pos hlt], fun e => ?_⟩⟩
      · rw [hu, if_neg (by rw [h100]; decide), if_pos h100, if_pos ((tr_lt (by omega)).mpr (by omega))]
      · rw [h100] at e; exact absurd e (by decide)
      · rw [h100] at e; exact absurd e (by decide)
    · obtain ⟨σ', s1, s2, s3⟩ := hadd
      refine Or.inl ⟨[v], [], σ', fun f => ?_, s2, by simp, by simp, by rw [List.append_nil]; exact hN.kept fun a b hab => s3 a b (by omega), s3 _ _ (by omega), tr_rwf_lf s3, ⟨fun e => absurd e hnb, fun e => ?_, fun _ => by rw [if_neg hlt], fun e => ?_⟩⟩
      · rw [hu, if_neg (by rw [h100]; decide), if_pos h100, if_neg (fun h => (tr_lt (by omega)).mp h (by omega)), s1]; rfl
      · rw [h100] at e; exact absurd e (by decide)
      · rw [h100] at e; exact absurd e (by decide)
  by_cases h116 : c.1 = 116
  · have hnb := tr_bl_no h116 (Or.inl rfl)
    by_cases hlt : i < c.2.2.1.toNatClampNeg
    · obtain ⟨σ', s1, s2, s3⟩ := hadd
      refine Or.inl ⟨[v], [], σ', fun f => ?_, s2, by simp, by simp, by rw [List.append_nil]; exact hN.kept fun a b hab => s3 a b (by omega), s3 _ _ (by omega), tr_rwf_lf s3, ⟨fun e => absurd e hnb, fun _ => by rw [if_pos hlt], fun e => ?_, fun e => ?_⟩⟩
      · rw [hu, if_neg (by rw [h116]; decide), if_neg (by rw [h116]; decide), if_neg (by rw [h116]; decide), if_pos h116, if_neg (fun h => by have := (tr_clamp (by omega)).mp h; omega), s1]; rfl
      · rw [h116] at e; exact absurd e (by decide)
      · rw [h116] at e; exact absurd e (by decide)
    · refine Or.inl ⟨[], [], σ, fun f => ?_, by rw [List.append_nil]; exact hR, by simp, by simp, by rw [List.append_nil]; exact hN, rfl, fun _ _ _ => rfl, ⟨fun e => absurd e hnb, fun _ => by rw [if_neg hlt], fun e => ?_, fun e => ?_⟩⟩
      · rw [hu, if_neg (by rw [h116]; decide), if_neg (by rw [h116]; decide), if_neg (by rw [h116]; decide), if_pos h116, if_pos ((tr_clamp (by omega)).mpr (by omega))]
      · rw [h116] at e; exact absurd e (by decide)
      · rw [h116] at e; exact absurd e (by decide)
  by_cases h119 : c.1 = 119
  · have hnb := tr_bl_no h119 (Or.inr (Or.inr rfl))
    cases hp : tt_ps c v
    · refine Or.inr (Or.inl ⟨h119, hp, fun f => ?_⟩)
      rw [hu, hps, hp, if_neg (by rw [h119]; decide), if_neg h100, if_neg (by rw [h119]; decide), if_neg h116, if_pos h119]; rfl
    · obtain ⟨σ', s1, s2, s3⟩ := hadd
      refine Or.inl ⟨[v], [], σ', fun f => ?_, s2, by simp, by simp, by rw [List.append_nil]; exact hN.kept fun a b hab => s3 a b (by omega), s3 _ _ (by omega), tr_rwf_lf s3, ⟨fun e => absurd e hnb, fun e => absurd e h116, fun e => absurd e h100, fun _ => ⟨rfl, hp⟩⟩⟩
      rw [hu, hps, hp, if_neg (by rw [h119]; decide), if_neg h100, if_neg (by rw [h119]; decide), if_neg h116, if_pos h119]
      simp only [Option.bind_some]
      rw [if_pos (by decide), s1]; rfl
  have hun : c.1 = 37 ∨ c.1 = 42 ∨ c.1 = 43 ∨ c.1 = 47 ∨ c.1 = 108 := by
    obtain ⟨hp1, hil⟩ := hil
    rcases sc_il_cases hil with e | e | e | e | e | e | e | e | e | e | e | e | e | e | e | e | e | e <;> first
      | (simp [e]; done)
      | (exfalso; first | exact h100 e | exact h116 e | exact h119 e | exact hfl (Or.inl e) | exact hfl (Or.inr e) | (rw [e] at hp1; exact absurd hp1 (by decide +kernel)))
  have hbl : tr_bl c := by unfold tr_bl; rcases hun with h | h | h | h | h <;> simp [h]
  simp only [not_or] at hfl
  obtain ⟨res2, σ2, k1, k2⟩ := tr_change (q := 32) (rn := 19) rfl (by show 32 + 10 < 2000 ∧ 1 + 9 < 19 ∧ 19 + 3 < 32 ∨ 1 + 9 < 19 ∧ 19 + 3 < 32; omega) hnd hun hN hNl v
  have hu2 : ∀ f, dX1_fillFromInput_19 (f + 1) (nI k) (nI (k + 1)) (nI i) σ = if ¬ res2 = 0 then (dX1_add (nI k) (σ2 32 4) σ2).bind fun u12 => dX1_fillFromInput_19 f (nI k) (nI (k + 1)) (nI (i + 1)) u12 else some ((0 : Int32), σ2) := fun f => by
    rw [hu, if_neg hfl.1, if_neg h100, if_neg hfl.2, if_neg h116, if_neg h119, k1]
    simp only [Option.bind_some]
  have hvl : sf_vl 32 = 4 := rfl
  have hgo : ∀ (x : Int32) (N3 : List (Int32 × Int32)), res2 = 1 → σ2 32 4 = x → N3.length ≤ 1 → tr_N 19 (N ++ N3) σ2 → σ2 19 5 = σ 19 5 → (∀ a b, ¬ ((a = 32 ∧ b = 4) ∨ (a = 19 ∧ b = 9) ∨ a = 21 ∨ a = 22) → σ2 a b = σ a b) → tv_al (tt_op c o v) [x] 0 → tr_it1 k i c o v R N σ := fun x N3 e1 e2 e3 e4 e5 e6 e7 => by
    obtain ⟨σ', s1, s2, s3⟩ := tr_add (σ := σ2) hn (by rw [e6 _ _ (by omega)]; exact h4) hk (hR.kept fun a b hab => e6 a b (by omega)) (by omega) x
    refine Or.inl ⟨[x], N3, σ', fun f => ?_, s2, by simp, e3, e4.kept fun a b hab => s3 a b (by omega), by rw [s3 _ _ (by omega)]; exact e5, tr_lf2_tr (fun a b hab => e6 a b (by omega)) (tr_rwf_lf s3), ⟨fun _ => e7, fun e => absurd e h116, fun e => absurd e h100, fun e => absurd e h119⟩⟩
    rw [hu2, e1, e2, if_pos (by decide), s1]; rfl
  rcases k2 with ⟨v2, m1, rfl, m3, m4⟩ | ⟨x, m1, rfl, m3, m4, m5⟩ | ⟨m1, rfl, m3, m4, m5⟩
  · rw [hvl] at m3 m4
    exact hgo v2 [] rfl m3 (by simp) (by rw [List.append_nil]; exact hN.kept fun a b hab => m4 a b (by omega)) (m4 _ _ (by omega)) (fun a b hab => m4 a b (by omega)) (by rw [m1]; exact ⟨[], rfl, rfl⟩)
  · rw [hvl] at m3 m5
    exact hgo v [(x, v)] rfl m3 (by simp) m4 (m5 _ _ (by omega)) (fun a b hab => m5 a b (by omega)) (by rw [m1]; exact ⟨rfl, [], rfl, rfl⟩)
  · rw [hvl] at m5
    exact Or.inr (Or.inr ⟨σ2, fun f => by rw [hu2, if_neg (by simp)], by rw [m3]; decide, fun a b hab => m5 a b (by omega)⟩)
