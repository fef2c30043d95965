/-! way 2: every node -/
theorem tr_p2.same {T : tt_T} {k lv : Nat} {o w : Int32} {n d d' : Nat} {N N' : List (Int32 × Int32)} {σ σ' : sf_S} (h : tr_p2 T k lv o w n d N σ) (hf : tr_f2 k (k + tt_sz T) σ σ') (h2 : σ' 19 2 = nI d' ∧ d ≤ d' ∧ d' ≤ 500) (h5 : σ' 19 5 = 0) (hN : tr_N 19 (N ++ N') σ') (hl : N'.length ≤ tt_sz T * (d' - d)) : tr_p2 T k lv o w n d' (N ++ N') σ' := by
  obtain ⟨⟨a1, a2, a3, a4⟩, a5, ⟨wi, b, a6, a7⟩, a8, ⟨-, a9⟩, -, -, b1⟩ := h
  refine ⟨⟨a1, by rw [hf _ _ (by omega)]; exact a2, a3, a4⟩, a5, ⟨wi, b, a6.kept fun x y h1 h2 => hf x y (by omega), a7.kept fun x hx => hf _ _ (by omega)⟩, a8.kept fun x y hx => hf x y (by omega), ⟨h2.1, h2.2.2⟩, h5, hN, ?_⟩
  have e : 500 - d = (d' - d) + (500 - d') := by omega
  rw [e, Nat.mul_add] at b1
  rw [List.length_append]; omega
theorem tr_p2.kidP {s : Nat} {c : tt_C} {u : Unit} {P Q : tt_T} {k lv : Nat} {o w : Int32} {n d : Nat} {N : List (Int32 × Int32)} {σ : sf_S} (h : tr_p2 (.inner s c u P Q) k lv o w n d N σ) (hP : 1 ≤ tt_sz P) (hx : ¬ c.1 = 120) : tr_p2 P (k + 1) (lv + 1) o w n d N σ := by
  obtain ⟨⟨a1, a2, a3, a4⟩, b1, ⟨wi, b, ⟨-, -, hPP, -⟩, hw⟩, hS, hd, h5, hN, hl⟩ := h
  simp only [tt_sz] at a3 a4 hl
  rw [if_neg hx, if_neg hx] at hPP
  exact ⟨⟨a1, a2, by omega, by omega⟩, (tt_wf_kid b1).1 hP, ⟨_, _, hPP, hw.wk (by omega)⟩, hS, hd, h5, hN, by simp only [Nat.add_mul] at hl; omega⟩
theorem tr_p2.kidX {s : Nat} {c : tt_C} {u : Unit} {P Q : tt_T} {k lv : Nat} {o w : Int32} {n d : Nat} {N : List (Int32 × Int32)} {σ : sf_S} (h : tr_p2 (.inner s c u P Q) k lv o w n d N σ) (hP : 1 ≤ tt_sz P) (hx : c.1 = 120) : tr_p2 P (k + 1) (lv + 1) (o + 1) (σ 33 k) n d N σ := by
  obtain ⟨⟨a1, a2, a3, a4⟩, b1, ⟨wi, b, ⟨-, -, hPP, -⟩, hw⟩, hS, hd, h5, hN, hl⟩ := h
  simp only [tt_sz] at a3 a4 hl
  rw [if_pos hx, if_pos hx] at hPP
  exact ⟨⟨a1, a2, by omega, by omega⟩, (tt_wf_kid b1).1 hP, ⟨_, _, hPP, Or.inr ⟨k, by omega, rfl, rfl⟩⟩, hS, hd, h5, hN, by simp only [Nat.add_mul] at hl; omega⟩
theorem tr_p2.kidQ {s : Nat} {c : tt_C} {u : Unit} {P Q : tt_T} {k lv : Nat} {o w : Int32} {n d : Nat} {N : List (Int32 × Int32)} {σ : sf_S} (h : tr_p2 (.inner s c u P Q) k lv o w n d N σ) (hQ : 1 ≤ tt_sz Q) : tr_p2 Q (k + 1 + tt_sz P) (lv + 1) o w n d N σ := by
  obtain ⟨⟨a1, a2, a3, a4⟩, b1, ⟨wi, b, ⟨-, -, -, hQQ⟩, hw⟩, hS, hd, h5, hN, hl⟩ := h
  simp only [tt_sz] at a3 a4 hl
  exact ⟨⟨a1, a2, by omega, by omega⟩, (tt_wf_kid b1).2.1 hQ, ⟨_, _, hQQ, hw.wk (by omega)⟩, hS, hd, h5, hN, by simp only [Nat.add_mul] at hl; omega⟩
theorem tr_p2.snd {s : Nat} {c : tt_C} {u : Unit} {P Q : tt_T} {k lv : Nat} {o w : Int32} {n d : Nat} {N : List (Int32 × Int32)} {σ : sf_S} (h : tr_p2 (.inner s c u P Q) k lv o w n d N σ) (hP : 1 ≤ tt_sz P) (hQ : 1 ≤ tt_sz Q) : dX2_secondPart 1 (nI k) σ = some (nI (k + 1 + tt_sz P), σ) := by
  obtain ⟨⟨a1, a2, a3, a4⟩, b1, ⟨wi, b, ⟨-, -, hPP, -⟩, hw⟩, -⟩ := h
  simp only [tt_sz] at a3
  obtain ⟨s1, c1, u1, P1, Q1, -, -, -, -, -, g5, -⟩ := hPP.root ((tt_wf_kid b1).1 hP)
  rw [tk_2nd a1 a2 (by omega), g5]
/-- what the pipe within leaves is fit for the node -/
theorem tr_p2.after {T X : tt_T} {k lv kx : Nat} {o w ox wx : Int32} {n d d' : Nat} {N N' : List (Int32 × Int32)} {σ σ' : sf_S} {V : List Int32} {S : tt_S} (h : tr_p2 T k lv o w n d N σ) (hkx : k + 1 ≤ kx ∧ kx + tt_sz X ≤ k + tt_sz T) (hf : tr_f2 kx (kx + tt_sz X) σ σ') (ho : tr_ok2 S X kx ox wx d N σ' V N' d') : tr_p2 T k lv o w n d' (N ++ N') σ' ∧ tr_f2 k (k + tt_sz T) σ σ' := by
  obtain ⟨h1, h2, h3, h4, h5, h6, h7⟩ := ho
  have hf2 : tr_f2 k (k + tt_sz T) σ σ' := tr_f2_wk hf (by omega) (by omega)
  refine ⟨h.same hf2 h3 h4 h5 (Nat.le_trans h6 (Nat.mul_le_mul_right _ (by omega))), hf2⟩
theorem tr_mk1 {G : Int32 → Int32 → sf_S → Option (Int32 × sf_S)} {s : Nat} {c : tt_C} {u : Unit} {P Q : tt_T} {k lv : Nat} {o w : Int32} {n d : Nat} {N : List (Int32 × Int32)} {σ : sf_S} (hG : tr_m2 G P) (hP : 1 ≤ tt_sz P) (hil : sc_p c.1 = 1 ∧ sc_il c.1 = true) (h : tr_p2 (.inner s c u P Q) k lv o w n d N σ) (h0 : tr_row σ k []) :
    ∃ res σ', ((G (nI (k + 1)) (nI (lv + 1)) σ).bind fun u3 => if ¬ u3.1 = 0 then (dX1_fillFromInput (nI k) u3.2).bind fun u9 => if sf_01 u9.1 then some (u9.1, u9.2) else none else some ((0 : Int32), u3.2)) = some (res, σ') ∧ tr_o2 (tr_S σ) (.inner s c u P Q) k o w d N σ σ' res := by
  have hF := sf_F_le
  have hx : ¬ c.1 = 120 := fun e => by rw [e] at hil; exact absurd hil.1 (by decide +kernel)
  obtain ⟨res, σ1, g1, g2, g3⟩ := hG (k + 1) (lv + 1) o w n d N σ (h.kidP hP hx)
  rw [g1]
  simp only [Option.bind_some]
  rcases g3 with ⟨rfl, V, N1, d1, hok⟩ | ⟨rfl, g3⟩
  · rw [if_pos (by decide)]
    obtain ⟨hp1, hf1⟩ := h.after (T := .inner s c u P Q) ⟨by omega, by simp only [tt_sz]; omega⟩ g2 hok
    obtain ⟨k1, k2, k3, k4, k5, k6, k7⟩ := hok
    have hnd1 := hp1.nd
    have hkn : k + 1 < n := by have := h.1.2.2.1; simp only [tt_sz] at this; omega
    have hNl := hp1.2.2.2.2.2.2.2
    have hV60 := k1.1
    obtain ⟨res, σ2, s1, s2, s3⟩ := tr_fillL (o := o) hkn hil V.length 0 sf_F [] (N ++ N1) σ1 (Nat.zero_add _) (by omega) hnd1 k1 (h0.kept fun a b hab => g2 a b (by omega)) (Nat.le_refl _) k5 (by omega) tr_cum0 k4
    unfold dX1_fillFromInput
    rw [nI_1, tr_has2 hnd1.1 hnd1.2.1 hkn]
    simp only [Option.bind_some]
    rw [if_pos (by decide), sc_0, s1]
    simp only [Option.bind_some]
    have hf2 : tr_f2 k (k + tt_sz (.inner s c u P Q)) σ σ2 := tr_f2_tr hf1 fun a b hab => s2 a b (by simp only [tt_sz] at hab; omega)
    rcases s3 with ⟨rfl, R, N3, e2, e3, e4, e5, e6, e7⟩ | ⟨rfl, e1⟩
    · rw [if_pos (by rfl)]
      refine ⟨1, σ2, rfl, hf2, Or.inl ⟨rfl, R, N1 ++ N3, d1, e2, by omega, ⟨by rw [s2 _ _ (by omega)]; exact k3.1, k3.2⟩, e6, by rw [← List.append_assoc]; exact e5, ?_, tr_fin hil k7 e7⟩⟩
      simp only [tt_sz, Nat.add_mul, List.length_append, Nat.one_mul]; omega
    · rw [if_pos (by rfl)]
      exact ⟨0, σ2, rfl, hf2, Or.inr ⟨rfl, e1⟩⟩
  · rw [if_neg (by simp)]
    exact ⟨0, σ1, rfl, tr_f2_wk g2 (by omega) (by simp only [tt_sz]; omega), Or.inr ⟨rfl, g3⟩⟩
/-- two pipes -/
theorem tr_mk2 {G : Int32 → Int32 → sf_S → Option (Int32 × sf_S)} {s : Nat} {c : tt_C} {u : Unit} {P Q : tt_T} {k lv : Nat} {o w : Int32} {n d : Nat} {N : List (Int32 × Int32)} {σ : sf_S} (hG : tr_m2 G P) (hG2 : tr_m2 G Q) (hP : 1 ≤ tt_sz P) (hQ : 1 ≤ tt_sz Q) (hc : c.1 = 99 ∨ c.1 = 122) (h : tr_p2 (.inner s c u P Q) k lv o w n d N σ) (h0 : tr_row σ k []) :
    ∃ res σ', ((G (nI (k + 1)) (nI (lv + 1)) σ).bind fun u3 => if ¬ u3.1 = 0 then (dX2_secondPart 1 (nI k) u3.2).bind fun u4 => (G u4.1 (nI (lv + 1)) u4.2).bind fun u5 => if ¬ u5.1 = 0 then (if c.1 = 122 then (dX1_zip (nI k) u4.1 u5.2).bind fun u6 => some ((1 : Int32), u6) else (dX1_addRow (nI k) (nI (k + 1)) u5.2).bind fun u7 => if u7.1 = 0 then some ((0 : Int32), u7.2) else (dX1_addRow (nI k) u4.1 u7.2).bind fun u8 => if u8.1 = 0 then some ((0 : Int32), u8.2) else some ((1 : Int32), u8.2)) else some ((0 : Int32), u5.2) else some ((0 : Int32), u3.2)) = some (res, σ') ∧ tr_o2 (tr_S σ) (.inner s c u P Q) k o w d N σ σ' res := by
  have hx : ¬ c.1 = 120 := by rcases hc with h | h <;> rw [h] <;> decide
  have hsz : tt_sz (.inner s c u P Q) = tt_sz P + tt_sz Q + 1 := rfl
  obtain ⟨res, σ1, g1, g2, g3⟩ := hG (k + 1) (lv + 1) o w n d N σ (h.kidP hP hx)
  rw [g1]
  simp only [Option.bind_some]
  rcases g3 with ⟨rfl, V, N1, d1, hok⟩ | ⟨rfl, g3⟩
  · rw [if_pos (by decide)]
    obtain ⟨hp1, hf1⟩ := h.after (T := .inner s c u P Q) ⟨by omega, by omega⟩ g2 hok
    have hS1 : tr_S σ1 = tr_S σ := tr_S_congr fun a b hab => g2 a b (by omega)
    rw [hp1.snd hP hQ]
    simp only [Option.bind_some]
    obtain ⟨res, σ2, m1, m2, m3⟩ := hG2 (k + 1 + tt_sz P) (lv + 1) o w n d1 (N ++ N1) σ1 (hp1.kidQ hQ)
    rw [hS1] at m3
    rw [m1]
    simp only [Option.bind_some]
    rcases m3 with ⟨rfl, W, N2, d2, hok2⟩ | ⟨rfl, m3⟩
    · rw [if_pos (by decide)]
      obtain ⟨hp2, hf2⟩ := hp1.after (T := .inner s c u P Q) ⟨by omega, by omega⟩ m2 hok2
      obtain ⟨k1, k2, k3, k4, k5, k6, k7⟩ := hok
      obtain ⟨j1, j2, j3, j4, j5, j6, j7⟩ := hok2
      have hnd2 := hp2.nd
      have hkn := h.1.2.2.1
      rw [hsz] at hkn
      have hV2 : tr_row σ2 (k + 1) V := k1.kept fun a b hab => m2 a b (by omega)
      have h02 : tr_row σ2 k [] := (h0.kept fun a b hab => g2 a b (by omega)).kept fun a b hab => m2 a b (by omega)
      have hNN : (N1 ++ N2).length ≤ tt_sz (.inner s c u P Q) * (d2 - d) := by
        rw [hsz, List.length_append, show d2 - d = (d1 - d) + (d2 - d1) by omega]
        simp only [Nat.add_mul, Nat.mul_add, Nat.one_mul]; omega
      have hf12 := tr_f2_tr hf1 hf2
      have hfin : ∀ (R : List Int32) (σ3 : sf_S), tr_rwf k σ2 σ3 → tr_row σ3 k R → R.length ≤ d2 - d → tv_al (tt_sem (tr_S σ) (.inner s c u P Q) o w) R (d2 - d) → tr_o2 (tr_S σ) (.inner s c u P Q) k o w d N σ σ3 1 := fun R σ3 q1 q2 q3 q4 =>
        ⟨tr_f2_tr hf12 fun a b hab => q1 a b (by omega), Or.inl ⟨rfl, R, N1 ++ N2, d2, q2, q3, ⟨by rw [q1 _ _ (by omega)]; exact j3.1, by omega, j3.2.2⟩, by rw [q1 _ _ (by omega)]; exact j4, by rw [← List.append_assoc]; exact j5.kept fun a b hab => q1 a b (by omega), hNN, q4⟩⟩
      rcases hc with h99 | h122
      · rw [if_neg (by rw [h99]; decide)]
        rcases tr_addRow hnd2.1 hnd2.2.1 hnd2.2.2.1 (show k + 1 < n by omega) (by omega) h02 hV2 with ⟨q1, σ3, q2, q3, q4⟩ | ⟨σ3, q2, q3, q4⟩
        · rw [q2]
          simp only [Option.bind_some]
          rw [if_neg (by decide)]
          have hn3 : σ3 1 4 = nI n := by rw [q4 _ _ (by omega)]; exact hnd2.2.1
          rcases tr_addRow hnd2.1 hn3 hnd2.2.2.1 (show k + 1 + tt_sz P < n by omega) (by omega) q3 (j1.far q4 (by omega)) with ⟨p1, σ4, p2, p3, p4⟩ | ⟨σ4, p2, p3, p4⟩
          · rw [p2]
            simp only [Option.bind_some]
            rw [if_neg (by decide)]
            refine ⟨1, σ4, rfl, hfin _ σ4 (tr_rwf_tr q4 p4) p3 (by simp only [List.nil_append, List.length_append]; omega) ?_⟩
            have : tt_sem (tr_S σ) (.inner s c u P Q) o w = tt_sem (tr_S σ) P o w ++ tt_sem (tr_S σ) Q o w := by simp only [tt_sem]; rw [h99]; rfl
            rw [this, List.nil_append]
            exact (tv_al_app k7 j7).mono (by omega)
          · rw [p2]
            simp only [Option.bind_some]
            rw [if_pos trivial]
            exact ⟨0, σ4, rfl, tr_f2_tr hf12 fun a b hab => by rw [p4 a b (by omega), q4 a b (by omega)], Or.inr ⟨rfl, by rw [p3]; decide⟩⟩
        · rw [q2]
          simp only [Option.bind_some]
          rw [if_pos trivial]
          exact ⟨0, σ3, rfl, tr_f2_tr hf12 fun a b hab => q4 a b (by omega), Or.inr ⟨rfl, by rw [q3]; decide⟩⟩
      · rw [if_pos h122]
        obtain ⟨σ3, q1, q2, q3⟩ := tr_zip (j := k + 1 + tt_sz P) (by omega) (show k + 1 < n by omega) (by omega) hnd2 hV2 j1 h02
        rw [q1]
        simp only [Option.bind_some]
        refine ⟨1, σ3, rfl, hfin _ σ3 q2 q3 (by rw [List.length_zipWith]; omega) ?_⟩
        have : tt_sem (tr_S σ) (.inner s c u P Q) o w = tv_zp (tt_jn c) (tt_sem (tr_S σ) P o w) (tt_sem (tr_S σ) Q o w) := by simp only [tt_sem]; rw [h122]; rfl
        rw [this]
        exact (tv_al_zp k7 j7).mono (by omega)
    · rw [if_neg (by simp)]
      exact ⟨0, σ2, rfl, tr_f2_tr hf1 (tr_f2_wk m2 (by omega) (by omega)), Or.inr ⟨rfl, m3⟩⟩
  · rw [if_neg (by simp)]
    exact ⟨0, σ1, rfl, tr_f2_wk g2 (by omega) (by omega), Or.inr ⟨rfl, g3⟩⟩
