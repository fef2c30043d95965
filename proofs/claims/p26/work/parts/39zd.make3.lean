/-! way 2: opening; every node; a run -/
theorem tr_openL2 {G : Int32 → Int32 → sf_S → Option (Int32 × sf_S)} {s : Nat} {c : tt_C} {u : Unit} {P Q : tt_T} {k lv : Nat} {o w : Int32} {n : Nat} {S : tt_S} {V : List Int32} (hG : tr_m2 G P) (hP : 1 ≤ tt_sz P) (hQ : 1 ≤ tt_sz Q) (hc : c.1 = 120) : ∀ (m i fuel d1 d : Nat) (R : List Int32) (N : List (Int32 × Int32)) (σ : sf_S), i + m = V.length → m < fuel → tr_p2 (.inner s c u P Q) k lv o w n d N σ → tr_S σ = S → d1 ≤ d → tr_row σ (k + 1 + tt_sz P) V → tr_row σ k R → R.length ≤ d - d1 → tv_bd (fun v => tt_sem S P (o + 1) v) (V.take i) R (d - d1) →
    ∃ res σ', dX1_fillByOpening_25 G fuel (nI k) (nI lv) (nI (k + 1 + tt_sz P)) (nI i) σ = some (res, σ') ∧ tr_f2 k (k + tt_sz (.inner s c u P Q)) σ σ' ∧ ((res = 1 ∧ ∃ R' N3 d', tr_row σ' k R' ∧ R'.length ≤ d' - d1 ∧ (σ' 19 2 = nI d' ∧ d ≤ d' ∧ d' ≤ 500) ∧ σ' 19 5 = 0 ∧ tr_N 19 (N ++ N3) σ' ∧ N3.length ≤ tt_sz P * (d' - d) ∧ tv_bd (fun v => tt_sem S P (o + 1) v) V R' (d' - d1)) ∨ (res = 0 ∧ ¬ σ' 19 5 = 0)) := by
  have hsz : tt_sz (.inner s c u P Q) = tt_sz P + tt_sz Q + 1 := rfl
  intro m
  induction m with
  | zero =>
    intro i fuel d1 d R N σ hi hf hp hS hd hV hR hRl hbd
    obtain ⟨f, rfl⟩ : ∃ f, fuel = f + 1 := ⟨fuel - 1, by omega⟩
    have hV60 := hV.1
    have hn := hp.1.1
    have hk := hp.1.2.2.1
    rw [hsz] at hk
    obtain rfl : i = V.length := by omega
    rw [List.take_length] at hbd
    refine ⟨1, σ, ?_, fun _ _ _ => rfl, Or.inl ⟨rfl, R, [], d, hR, hRl, ⟨hp.2.2.2.2.1.1, Nat.le_refl _, hp.2.2.2.2.1.2⟩, hp.2.2.2.2.2.1, by rw [List.append_nil]; exact hp.2.2.2.2.2.2.1, Nat.zero_le _, hbd⟩⟩
    simp only [dX1_fillByOpening_25]
    rw [if_pos (sc_inI (by omega) (by omega)), sc_cl (by omega), hV.2.1, if_pos (nI_le (Nat.le_refl _) (by omega))]
  | succ m ih =>
    intro i fuel d1 d R N σ hi hf hp hS hd hV hR hRl hbd
    obtain ⟨f, rfl⟩ : ∃ f, fuel = f + 1 := ⟨fuel - 1, by omega⟩
    have hV60 := hV.1
    have hn := hp.1.1
    have hk := hp.1.2.2.1
    rw [hsz] at hk
    have hlt : i < V.length := by omega
    have hv : V[i]? = some V[i] := List.getElem?_eq_getElem hlt
    generalize V[i] = v at hv
    have hik : sf_in (nI k) 40 = true := sc_inI (by omega) (by omega)
    simp only [dX1_fillByOpening_25]
    rw [if_pos (sc_inI (show k + 1 + tt_sz P < 40 by omega) (by omega)), sc_cl (show k + 1 + tt_sz P < 2 ^ 31 by omega), hV.2.1, if_neg (nI_ge hlt (by omega)), tr_elem hn hp.1.2.1 (by omega) hV hv]
    simp only [Option.bind_some]
    rw [if_pos hik, sc_cl (show k < 2 ^ 31 by omega), nI_1, nI_1]
    have hk0 : ∀ a b, ¬ (a = 33 ∧ b = k) → sf_up σ 33 k v a b = σ a b := fun a b hab => if_neg hab
    have hf0 : tr_f2 k (k + tt_sz (.inner s c u P Q)) σ (sf_up σ 33 k v) := fun a b hab => hk0 a b (by rw [hsz] at hab; omega)
    have hp0 : tr_p2 (.inner s c u P Q) k lv o w n d N (sf_up σ 33 k v) := by
      have := hp.same (d' := d) (N' := []) hf0 ⟨by rw [hk0 _ _ (by omega)]; exact hp.2.2.2.2.1.1, Nat.le_refl _, hp.2.2.2.2.1.2⟩ (by rw [hk0 _ _ (by omega)]; exact hp.2.2.2.2.2.1) (by rw [List.append_nil]; exact hp.2.2.2.2.2.2.1.kept fun a b hab => hk0 a b (by omega)) (Nat.zero_le _)
      rw [List.append_nil] at this
      exact this
    have hS0 : tr_S (sf_up σ 33 k v) = S := (tr_S_congr fun a b hab => hk0 a b (by omega)).trans hS
    obtain ⟨res, σ1, g1, g2, g3⟩ := hG (k + 1) (lv + 1) (o + 1) (sf_up σ 33 k v 33 k) n d N _ (hp0.kidX hP hc)
    rw [sc_upS, hS0] at g3
    rw [g1]
    simp only [Option.bind_some]
    rcases g3 with ⟨rfl, W, N1, d2, hok⟩ | ⟨rfl, g3⟩
    · rw [if_neg (by decide)]
      obtain ⟨hp1, hf1⟩ := hp0.after (T := .inner s c u P Q) ⟨by omega, by rw [hsz]; omega⟩ g2 hok
      obtain ⟨k1, k2, k3, k4, k5, k6, k7⟩ := hok
      have hR1 : tr_row σ1 k R := (hR.kept fun a b hab => hk0 a b (by omega)).kept fun a b hab => g2 a b (by omega)
      have hV1 : tr_row σ1 (k + 1 + tt_sz P) V := (hV.kept fun a b hab => hk0 a b (by omega)).kept fun a b hab => g2 a b (by omega)
      rcases tr_addRow hn hp1.1.2.1 (show k < n by omega) (show k + 1 < n by omega) (by omega) hR1 k1 with ⟨q1, σ2, q2, q3, q4⟩ | ⟨σ2, q2, q3, q4⟩
      · rw [q2]
        simp only [Option.bind_some]
        rw [if_pos (by decide)]
        have hf2 : tr_f2 k (k + tt_sz (.inner s c u P Q)) σ1 σ2 := fun a b hab => q4 a b (by rw [hsz] at hab; omega)
        have hp2 : tr_p2 (.inner s c u P Q) k lv o w n d2 (N ++ N1) σ2 := by
          have := hp1.same (d' := d2) (N' := []) hf2 ⟨by rw [q4 _ _ (by omega)]; exact k3.1, Nat.le_refl _, k3.2.2⟩ (by rw [q4 _ _ (by omega)]; exact k4) (by rw [List.append_nil]; exact k5.kept fun a b hab => q4 a b (by omega)) (Nat.zero_le _)
          rw [List.append_nil] at this
          exact this
        have hS2 : tr_S σ2 = S := by
          rw [tr_S_congr (σ := σ1) fun a b hab => q4 a b (by omega), tr_S_congr (σ := sf_up σ 33 k v) fun a b hab => g2 a b (by omega)]; exact hS0
        have hbd2 := tv_bd_snoc (v := v) k7 hbd
        rw [show d - d1 + (d2 - d) = d2 - d1 by omega] at hbd2
        obtain ⟨res, σ3, s1, s2, s3⟩ := ih (i + 1) f d1 d2 (R ++ W) (N ++ N1) σ2 (by omega) (by omega) hp2 hS2 (by omega) (hV1.far q4 (by omega)) q3 (by rw [List.length_append]; omega) (by rw [List.take_add_one, hv]; exact hbd2)
        rw [nI_1]
        refine ⟨res, σ3, s1, tr_f2_tr hf0 (tr_f2_tr hf1 (tr_f2_tr hf2 s2)), ?_⟩
        rcases s3 with ⟨e1, R', N3, d', e2, e3, e4, e5, e6, e7, e8⟩ | e1
        · refine Or.inl ⟨e1, R', N1 ++ N3, d', e2, e3, ⟨e4.1, by omega, e4.2.2⟩, e5, by rw [← List.append_assoc]; exact e6, ?_, e8⟩
          rw [List.length_append, show d' - d = (d2 - d) + (d' - d2) by omega, Nat.mul_add]; omega
        · exact Or.inr e1
      · rw [q2]
        simp only [Option.bind_some]
        rw [if_neg (by simp)]
        exact ⟨0, σ2, rfl, tr_f2_tr hf0 (tr_f2_tr hf1 fun a b hab => q4 a b (by omega)), Or.inr ⟨rfl, by rw [q3]; decide⟩⟩
    · rw [if_pos rfl]
      exact ⟨0, σ1, rfl, tr_f2_tr hf0 (tr_f2_wk g2 (by omega) (by rw [hsz]; omega)), Or.inr ⟨rfl, g3⟩⟩
theorem tr_mkX {G : Int32 → Int32 → sf_S → Option (Int32 × sf_S)} {s : Nat} {c : tt_C} {u : Unit} {P Q : tt_T} {k lv : Nat} {o w : Int32} {n d : Nat} {N : List (Int32 × Int32)} {σ : sf_S} (hG : tr_m2 G P) (hG2 : tr_m2 G Q) (hP : 1 ≤ tt_sz P) (hQ : 1 ≤ tt_sz Q) (hc : c.1 = 120) (h : tr_p2 (.inner s c u P Q) k lv o w n d N σ) (h0 : tr_row σ k []) :
    ∃ res σ', ((G (nI (k + 1 + tt_sz P)) (nI (lv + 1)) σ).bind fun u3 => if ¬ u3.1 = 0 then (dX1_fillByOpening G (nI k) (nI lv) u3.2).bind fun u10 => if sf_01 u10.1 then some (u10.1, u10.2) else none else some ((0 : Int32), u3.2)) = some (res, σ') ∧ tr_o2 (tr_S σ) (.inner s c u P Q) k o w d N σ σ' res := by
  have hF := sf_F_le
  have hsz : tt_sz (.inner s c u P Q) = tt_sz P + tt_sz Q + 1 := rfl
  obtain ⟨res, σ1, g1, g2, g3⟩ := hG2 (k + 1 + tt_sz P) (lv + 1) o w n d N σ (h.kidQ hQ)
  rw [g1]
  simp only [Option.bind_some]
  rcases g3 with ⟨rfl, V, N1, d1, hok⟩ | ⟨rfl, g3⟩
  · rw [if_pos (by decide)]
    obtain ⟨hp1, hf1⟩ := h.after (T := .inner s c u P Q) ⟨by omega, by omega⟩ g2 hok
    obtain ⟨k1, k2, k3, k4, k5, k6, k7⟩ := hok
    have hS1 : tr_S σ1 = tr_S σ := tr_S_congr fun a b hab => g2 a b (by omega)
    have hnd1 := hp1.nd
    have hk := h.1.2.2.1
    rw [hsz] at hk
    have hV60 := k1.1
    unfold dX1_fillByOpening
    have hin : dX2_input 1 (nI k) σ1 = some (nI (k + 1 + tt_sz P), σ1) := by
      unfold dX2_input
      rw [tk_lat hnd1.1 hnd1.2.1 hnd1.2.2.1, hnd1.2.2.2.1, hc]
      simp only [Option.bind_some]
      rw [if_neg (by decide), hp1.snd hP hQ]
      rfl
    rw [hin]
    simp only [Option.bind_some]
    rw [tr_has2 hnd1.1 hnd1.2.1 (by omega)]
    simp only [Option.bind_some]
    rw [if_pos (by decide), sc_0]
    obtain ⟨res, σ2, s1, s2, s3⟩ := tr_openL2 (S := tr_S σ) (V := V) hG hP hQ hc V.length 0 sf_F d1 d1 [] (N ++ N1) σ1 (Nat.zero_add _) (by omega) hp1 hS1 (Nat.le_refl _) k1 (h0.kept fun a b hab => g2 a b (by omega)) (Nat.zero_le _) rfl
    rw [s1]
    simp only [Option.bind_some]
    rcases s3 with ⟨rfl, R, N3, d', e2, e3, e4, e5, e6, e7, e8⟩ | ⟨rfl, e1⟩
    · rw [if_pos (by rfl)]
      refine ⟨1, σ2, rfl, tr_f2_tr hf1 s2, Or.inl ⟨rfl, R, N1 ++ N3, d', e2, by omega, ⟨e4.1, by omega, e4.2.2⟩, e5, by rw [← List.append_assoc]; exact e6, ?_, ?_⟩⟩
      · rw [hsz, List.length_append, show d' - d = (d1 - d) + (d' - d1) by omega]
        simp only [Nat.add_mul, Nat.mul_add, Nat.one_mul]; omega
      · have : tt_sem (tr_S σ) (.inner s c u P Q) o w = tv_bnd (fun v => tt_sem (tr_S σ) P (o + 1) v) (tt_sem (tr_S σ) Q o w) := by simp only [tt_sem]; rw [hc]; rfl
        rw [this]
        exact (tv_al_bnd k7 e8).mono (by omega)
    · rw [if_pos (by rfl)]
      exact ⟨0, σ2, rfl, tr_f2_tr hf1 s2, Or.inr ⟨rfl, e1⟩⟩
  · rw [if_neg (by simp)]
    exact ⟨0, σ1, rfl, tr_f2_wk g2 (by omega) (by omega), Or.inr ⟨rfl, g3⟩⟩
theorem tr_parts {c : Int32} {σ : sf_S} (h : sc_il c = true) : dX2_partsOf c σ = some (nI (sc_p c), σ) := by
  rcases sc_il_cases h with e | e | e | e | e | e | e | e | e | e | e | e | e | e | e | e | e | e <;> rw [e] <;> rfl
theorem tr_make : ∀ (n : Nat) (T : tt_T), tt_sz T ≤ n → tt_wf T → tr_m2 (dX1_make_R n) T
  | _, .leaf, _, h => absurd h id
  | 0, .inner s c u P Q, h, _ => by simp only [tt_sz] at h; omega
  | n0 + 1, .inner s c u P Q, h, hw => by
    have hsz : tt_sz (.inner s c u P Q) = tt_sz P + tt_sz Q + 1 := rfl
    rw [hsz] at h
    obtain ⟨-, -, hil, w0, w1, w2⟩ := hw
    have iP : tt_wf P → tr_m2 (dX1_make_R n0) P := fun h1 => tr_make n0 P (by omega) h1
    have iQ : tt_wf Q → tr_m2 (dX1_make_R n0) Q := fun h1 => tr_make n0 Q (by omega) h1
    show tr_m2 (dX1_make (dX1_make_R n0)) (.inner s c u P Q)
    generalize dX1_make_R n0 = G at iP iQ
    intro k lv o w n d N σ hp
    have hnd := hp.nd
    have hk := hp.1.2.2.1
    have hlv := hp.1.2.2.2
    rw [hsz] at hk hlv
    have hik : sf_in (nI k) 40 = true := sc_inI (by have := hnd.1; omega) (by omega)
    have hcl := sc_cl (show k < 2 ^ 31 by have := hnd.1; omega)
    have hk0 : ∀ a b, ¬ (a = 35 ∧ b = k) → sf_up σ 35 k 0 a b = σ a b := fun a b hab => if_neg hab
    have hf0 : tr_f2 k (k + tt_sz (.inner s c u P Q)) σ (sf_up σ 35 k 0) := fun a b hab => hk0 a b (by rw [hsz] at hab; omega)
    have hp0 : tr_p2 (.inner s c u P Q) k lv o w n d N (sf_up σ 35 k 0) := by
      have := hp.same (d' := d) (N' := []) hf0 ⟨by rw [hk0 _ _ (by omega)]; exact hp.2.2.2.2.1.1, Nat.le_refl _, hp.2.2.2.2.1.2⟩ (by rw [hk0 _ _ (by omega)]; exact hp.2.2.2.2.2.1) (by rw [List.append_nil]; exact hp.2.2.2.2.2.2.1.kept fun a b hab => hk0 a b (by omega)) (Nat.zero_le _)
      rw [List.append_nil] at this
      exact this
    have h0 : tr_row (sf_up σ 35 k 0) k [] := ⟨Nat.zero_le _, sc_upS, fun i v hv => by cases hv⟩
    have hS0 : tr_S (sf_up σ 35 k 0) = tr_S σ := tr_S_congr fun a b hab => hk0 a b (by omega)
    have hnd0 := hp0.nd
    have main : ∃ res σ', dX1_fill G (nI k) (nI lv) (sf_up σ 35 k 0) = some (res, σ') ∧ tr_o2 (tr_S σ) (.inner s c u P Q) k o w d N (sf_up σ 35 k 0) σ' res := by
      unfold dX1_fill
      rw [if_pos hik, hcl, show sf_up σ 35 k 0 2 k = c.1 from hnd0.2.2.2.1, tr_parts hil]
      simp only [Option.bind_some]
      rw [← hS0]
      rcases sc_p3 c.1 with q | q | q
      · obtain ⟨rfl, rfl⟩ := w0 q
        rw [q, if_neg (by rw [← sc_0]; simp)]
        have hpd : tt_pd c := by
          unfold tt_pd
          rcases sc_il_cases hil with e | e | e | e | e | e | e | e | e | e | e | e | e | e | e | e | e | e <;> first
            | (simp [e]; done)
            | (exfalso; rw [e] at q; exact absurd q (by decide +kernel))
        obtain ⟨res, σ', s1, s2⟩ := tr_fillPd hpd hp0 h0
        refine ⟨res, σ', ?_, s2⟩
        rw [s1]
        simp only [Option.bind_some]
        rw [if_pos (tr_o201 s2)]
      · obtain ⟨q1, q2⟩ := w1 q
        have hx : ¬ c.1 = 120 := fun e => by rw [e] at q; exact absurd q (by decide +kernel)
        have hP := tt_wf_sz q1
        have hin : dX2_input 1 (nI k) (sf_up σ 35 k 0) = some (nI (k + 1), sf_up σ 35 k 0) := by
          unfold dX2_input
          rw [tk_lat hnd0.1 hnd0.2.1 hnd0.2.2.1, hnd0.2.2.2.1]
          simp only [Option.bind_some]
          rw [if_pos hx, nI_1]
        rw [q, if_pos (by rw [← sc_1]; decide), hin]
        simp only [Option.bind_some]
        rw [nI_1]
        obtain ⟨res, σ', s1, s2⟩ := tr_mk1 (u := u) (iP q1) hP ⟨q, hil⟩ hp0 h0
        refine ⟨res, σ', ?_, s2⟩
        rw [← s1]
        obtain ⟨r1, σ1, g1, g2, g3⟩ := iP q1 (k + 1) (lv + 1) o w n d N _ (hp0.kidP hP hx)
        rw [g1]
        simp only [Option.bind_some]
        by_cases hr1 : r1 = 0
        · rw [if_neg (by simp [hr1]), if_neg (by simp [hr1])]
        · rw [if_pos hr1, if_pos hr1, if_pos hik, show σ1 2 k = c.1 by rw [g2 _ _ (by omega)]; exact hnd0.2.2.2.1, if_pos hx, if_neg (by rw [← sc_1]; simp)]
      · obtain ⟨q1, q2⟩ := w2 q
        have hP := tt_wf_sz q1
        have hQ := tt_wf_sz q2
        by_cases hx : c.1 = 120
        · have hin : dX2_input 1 (nI k) (sf_up σ 35 k 0) = some (nI (k + 1 + tt_sz P), sf_up σ 35 k 0) := by
            unfold dX2_input
            rw [tk_lat hnd0.1 hnd0.2.1 hnd0.2.2.1, hnd0.2.2.2.1]
            simp only [Option.bind_some]
            rw [if_neg (by simp [hx]), hp0.snd hP hQ]
            rfl
          rw [q, if_pos (by decide +kernel), hin]
          simp only [Option.bind_some]
          rw [nI_1]
          obtain ⟨res, σ', s1, s2⟩ := tr_mkX (u := u) (iP q1) (iQ q2) hP hQ hx hp0 h0
          refine ⟨res, σ', ?_, s2⟩
          rw [← s1]
          obtain ⟨r1, σ1, g1, g2, g3⟩ := iQ q2 (k + 1 + tt_sz P) (lv + 1) o w n d N _ (hp0.kidQ hQ)
          rw [g1]
          simp only [Option.bind_some]
          by_cases hr1 : r1 = 0
          · rw [if_neg (by simp [hr1]), if_neg (by simp [hr1])]
          · rw [if_pos hr1, if_pos hr1, if_pos hik, show σ1 2 k = c.1 by rw [g2 _ _ (by omega)]; exact hnd0.2.2.2.1, if_neg (by simp [hx])]
        · have hin : dX2_input 1 (nI k) (sf_up σ 35 k 0) = some (nI (k + 1), sf_up σ 35 k 0) := by
            unfold dX2_input
            rw [tk_lat hnd0.1 hnd0.2.1 hnd0.2.2.1, hnd0.2.2.2.1]
            simp only [Option.bind_some]
            rw [if_pos hx, nI_1]
          rw [q, if_pos (by decide +kernel), hin]
          simp only [Option.bind_some]
          rw [nI_1]
          have hc2 : c.1 = 99 ∨ c.1 = 122 := by
            rcases sc_il_cases hil with e | e | e | e | e | e | e | e | e | e | e | e | e | e | e | e | e | e <;> first
              | (simp [e]; done)
              | exact absurd e hx
              | (exfalso; rw [e] at q; exact absurd q (by decide +kernel))
          obtain ⟨res, σ', s1, s2⟩ := tr_mk2 (u := u) (iP q1) (iQ q2) hP hQ hc2 hp0 h0
          refine ⟨res, σ', ?_, s2⟩
          rw [← s1]
          obtain ⟨r1, σ1, g1, g2, g3⟩ := iP q1 (k + 1) (lv + 1) o w n d N _ (hp0.kidP hP hx)
          rw [g1]
          simp only [Option.bind_some]
          by_cases hr1 : r1 = 0
          · rw [if_neg (by simp [hr1]), if_neg (by simp [hr1])]
          · rw [if_pos hr1, if_pos hr1, if_pos hik, show σ1 2 k = c.1 by rw [g2 _ _ (by omega)]; exact hnd0.2.2.2.1, if_pos hx, if_pos (by decide +kernel)]
            rcases g3 with ⟨e1, V, N1, d1, hok⟩ | ⟨e1, -⟩
            · obtain ⟨hp1, hf1⟩ := hp0.after (T := .inner s c u P Q) ⟨by omega, by omega⟩ g2 hok
              rw [hp1.snd hP hQ]
              simp only [Option.bind_some]
              obtain ⟨r2, σ2, m1, m2, m3⟩ := iQ q2 (k + 1 + tt_sz P) (lv + 1) o w n d1 (N ++ N1) σ1 (hp1.kidQ hQ)
              rw [m1]
              simp only [Option.bind_some]
              by_cases hr2 : r2 = 0
              · rw [if_neg (by simp [hr2]), if_neg (by simp [hr2])]
              · rw [if_pos hr2, if_pos hr2, if_pos hik, show σ2 2 k = c.1 by rw [m2 _ _ (by omega)]; exact hp1.nd.2.2.2.1]
                rcases hc2 with e | e
                · rw [if_neg (by simp [e]), if_neg (by rw [e]; decide), nI_1]
                · rw [if_pos (by rw [e]; decide), if_pos e]
            · exact absurd e1 hr1
    obtain ⟨res, σ1, g1, g2, g3⟩ := main
    have hle : nI lv ≤ (40 : Int32) := by rw [show (40 : Int32) = nI 40 from by decide +kernel]; exact nI_le (by omega) (by omega)
    unfold dX1_make
    rw [tr_has hnd]
    simp only [Option.bind_some]
    rw [if_neg (by decide), if_pos hle, if_pos hik, hcl]
    simp only [g1, Option.bind_some]
    rcases g3 with ⟨rfl, V, N1, d1, h1, h2, h3, h4, h5, h6, h7⟩ | ⟨rfl, g3⟩
    · rw [if_pos (by decide), if_pos hik]
      have hk2 : ∀ x y a b, ¬ (a = 19 ∧ (b = 3 ∨ b = 4)) → sf_up (sf_up σ1 19 3 x) 19 4 y a b = σ1 a b := fun x y a b hab => by
        have q1 : ¬ (a = 19 ∧ b = 4) := by omega
        have q2 : ¬ (a = 19 ∧ b = 3) := by omega
        exact (if_neg q1).trans (if_neg q2)
      refine ⟨1, _, rfl, tr_f2_tr hf0 (tr_f2_tr g2 fun a b hab => hk2 _ _ a b (by omega)), Or.inl ⟨rfl, V, N1, d1, h1.kept fun a b hab => hk2 _ _ a b (by omega), h2, ⟨by rw [hk2 _ _ _ _ (by omega)]; exact h3.1, h3.2⟩, by rw [hk2 _ _ _ _ (by omega)]; exact h4, h5.kept fun a b hab => hk2 _ _ a b (by omega), h6, h7⟩⟩
    · rw [if_neg (by simp)]
      exact ⟨0, σ1, rfl, tr_f2_tr hf0 g2, Or.inr ⟨rfl, g3⟩⟩
