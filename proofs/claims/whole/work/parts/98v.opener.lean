/-- an opener asked -/
theorem sc_bd4 {S s1 s2 e1 dl1 dl c cc : Nat} (hS : S ≤ 39) (hs : s1 + s2 ≤ S) (hc : c ≤ 1 + 82 * (S * e1) + (2 * s1 + 80 * (s1 * dl1))) (hcc : cc + 1 ≤ 2 * s2 + 80 * (s2 * dl)) : c + cc + 1 + 1 ≤ 2 * (S + 1) + 80 * ((S + 1) * (e1 + dl1 + dl)) := by
  have h1 : S * e1 ≤ 39 * e1 := Nat.mul_le_mul_right _ hS
  have h2 : s1 * dl1 ≤ S * dl1 := Nat.mul_le_mul_right _ (by omega)
  have h3 : s2 * dl ≤ S * dl := Nat.mul_le_mul_right _ (by omega)
  rw [Nat.add_mul, Nat.mul_add S, Nat.mul_add S]
  omega
theorem sc_bd5 {S s1 s2 e1 dl1 dl c cc : Nat} (hs : s1 + s2 ≤ S) (hc : c ≤ 1 + 82 * (S * e1) + (2 * s1 + 80 * (s1 * dl1))) (hcc : cc + 1 ≤ 2 * s2 + 80 * (s2 * dl)) (h1 : 1 ≤ dl) : c + cc + 1 ≤ 1 + 82 * (S * (e1 + dl1 + dl)) := by
  have h2 : s1 * dl1 ≤ S * dl1 := Nat.mul_le_mul_right _ (by omega)
  have h3 : s2 * dl ≤ S * dl := Nat.mul_le_mul_right _ (by omega)
  have h4 : S * 1 ≤ S * dl := Nat.mul_le_mul_left _ h1
  rw [Nat.mul_add S, Nat.mul_add S]
  omega
def sc_OL (X : sc_X) (k h D np g m lev n : Nat) (σ0 τ0 : sf_S) : Prop := ∀ e c t σ τ, 501 ≤ n + e → t ≤ e → sc_Mid X k h D np g e σ0 τ0 σ τ → sc_Go k τ0 c (nI (k + 1)) 1 τ → c ≤ 1 + 82 * ((X.E k - (k + 1)) * e) → sc_Lv X sc_N0 (D + e) σ τ (k + 1) → sc_Lv X sc_N0 (D + e) σ τ (X.E (k + 1)) → σ (X.q + 2) k = 1 → τ 24 k = 1 → (∃ u : Nat, u ≤ D + e ∧ σ (X.q + 1) k = nI u) →
    sc_Po X k h D np g σ0 τ0 (dX0_askOpener_2 (dX0_ask_R m) X.q n (nI k) (nI lev) (nI t) σ)
theorem sc_openP {X : sc_X} {D np g h k m lev n e1 dl1 c t : Nat} {σ0 τ0 σ τ : sf_S} (hI : ∀ a, k < a → a < X.n → sc_IH X a) (hop : sf_op X.q = X.q + 3) (hk : k < X.n) (hL : X.L k = 120) (hm : 41 ≤ m + 1 + k) (hlev : lev ≤ k) (hh : h ≤ k) (H : sc_OL X k h D np g m lev n σ0 τ0) (hn : 500 ≤ n + (e1 + dl1)) (ht : t ≤ e1 + dl1) (hM : sc_Mid X k h D np g (e1 + dl1) σ0 τ0 σ τ) (hg : sc_Go k τ0 c (nI (X.E (k + 1))) 1 τ)
    (hc : c ≤ 1 + 82 * ((X.E k - (k + 1)) * e1) + (2 * (X.E (k + 1) - (k + 1)) + 80 * ((X.E (k + 1) - (k + 1)) * dl1))) (lvb : sc_Lv X sc_N0 (D + (e1 + dl1)) σ τ (X.E (k + 1))) (ke : τ 24 k = 0) (hu : ∃ u : Nat, u ≤ D + (e1 + dl1) ∧ σ (X.q + 1) k = nI u) :
    sc_Po X k h D np g σ0 τ0 (dX0_askOpener_51 (dX0_ask_R m) X.q (dX0_askOpener_2 (dX0_ask_R m) X.q n) (nI k) (nI lev) (nI t) σ) := by
  obtain ⟨u, u1, u2⟩ := hu
  obtain ⟨⟨np0, w, -⟩, -⟩ := id hM
  have hn4 := w.cy.n40
  have hp : sc_p (X.L k) = 2 := by rw [hL]; decide +kernel
  have hz : ∀ c, c ≠ 120 → X.L k ≠ c := fun c q e => q (by rw [← e]; exact hL)
  obtain ⟨p1, p2, p3, p4, p5⟩ := w.cy.T.p2 hk hp
  have q4 := (w.cy.T.lt hk).2
  obtain ⟨k1, k2, k3, k4, k5, k6⟩ := w.cy.ok
  have hps : sc_ps X.L X.E k = X.E (k + 1) := by rw [sc_ps, if_pos hL]
  have hqs : sc_qs X.L X.E k = k + 1 := by rw [sc_qs, if_pos hL]
  obtain ⟨r, σ', τ', dl, cc, x1, hcc, ho, cs⟩ := sc_child (m := m) (lev := lev + 1) (hI _ (by omega) p3) hM hg hk (by omega) (by omega) (by omega) (by omega) (by omega) (by omega) lvb
  rw [← p5] at hcc
  have hS : X.E k - k = (X.E k - (k + 1)) + 1 := by omega
  have hbd : c + cc + 1 + 1 ≤ 2 * (X.E k - k) + 80 * ((X.E k - k) * (e1 + dl1 + dl)) := by
    rw [hS]
    exact sc_bd4 (by omega) (by omega) hc hcc
  unfold dX0_askOpener_51
  rw [w.cy.inp hk (by omega), hps]
  simp only [Option.bind_some]
  rw [nI_1, x1]
  simp only [Option.bind_some]
  rcases cs with ⟨hM', h45, hg', hr⟩ | ⟨rfl, hf, hP⟩
  · obtain ⟨⟨np', w', -⟩, -, -, -, -, h5, -⟩ := id hM'
    have ke' : τ' 24 k = 0 := by rw [(ho k (by omega)).2.2.1]; exact ke
    have us' : σ' (X.q + 1) k = nI u := by rw [(ho k (by omega)).1]; exact u2
    cases r with
    | false =>
      rw [if_neg (show ¬ ¬ sc_b false = 0 by decide)]
      exact sc_ret (r := false) hk hh hM' hg' (sc_hrX0 w'.cy hk hL h45 ke') sc_fr_rf sc_fr_rf h45 hbd (fun q => absurd q (by decide))
    | true =>
      rw [if_pos (show ¬ sc_b true = 0 by decide)]
      obtain ⟨hdl, hlv, hval⟩ := hr rfl
      obtain ⟨σ2, τ2, y1, y2, w2, oC, oM, hB, g1, g2, g3, g4, g5, g6⟩ := sc_open w' hop hk hL (σ' X.q (sf_vl X.q))
      rw [y1]
      simp only [Option.bind_some]
      rw [nI_1]
      rw [hval] at y2
      have hear := sc_hrX1 w'.cy hk hL h45 ke' y2 (oM _ _ (by omega))
      rw [hqs] at hear
      have F1 : sc_fr (sc_oC X k) σ' σ2 := fun a b hab => oC a b (fun q => by simp [sc_oC] at hab; omega)
      have F2 : sc_fr (sc_oM X k) τ' τ2 := fun a b hab => oM a b (fun q => by simp [sc_oM] at hab; omega)
      obtain ⟨hM2, hg2⟩ := sc_more hk hh hM' hg' (by omega) hear F1 F2
      have hOo : sc_Out X k (X.E (k + 1)) σ' τ' σ2 τ2 := fun b hb => ⟨oC _ _ (by omega), oC _ _ (by omega), oM _ _ (by omega), oC _ _ (by omega), oM _ _ (by omega), oC _ _ (by omega)⟩
      obtain ⟨w9, o9, hD9⟩ := w2.cy.D
      have hok : X.o (k + 1) = nI k := by
        have := ((hD9.2 k hk).1 (by omega)).2.2
        rw [if_pos hL] at this; exact this
      refine H (e1 + dl1 + dl) (c + cc + 1) (t + 1) σ2 τ2 (by omega) (by omega) hM2 hg2 (sc_bd5 (by omega) hc hcc hdl) ?_ ?_ g2 g3 ⟨u, by omega, g1.trans us'⟩
      · exact sc_Lv_bg (N := sc_N0) (fun hv hh => sc_N0_bg hv hh) w2.cy p1 hB (Or.inr (by rw [hok, sc_cl (by omega)]; exact g4.trans g5.symm))
      · refine hlv.f0 w.cy p3 (Nat.le_refl _) hOo (fun x y1 y2 y3 => ?_) (Or.inr (Nat.le_refl _))
        by_cases q : x = k
        · rw [q]; exact Nat.le_refl _
        · exact sc_cl1 w.cy p1 x (by omega) y2 y3
  · rw [if_neg (show ¬ ¬ sc_b false = 0 by decide)]
    exact hP (by omega) σ' sc_fr_rf
theorem sc_openL {X : sc_X} {D np g h k m lev : Nat} {σ0 τ0 : sf_S} (hI : ∀ a, k < a → a < X.n → sc_IH X a) (hop : sf_op X.q = X.q + 3) (hk : k < X.n) (hL : X.L k = 120) (hm : 41 ≤ m + 1 + k) (hlev : lev ≤ k) (hh : h ≤ k) : ∀ n, sc_OL X k h D np g m lev n σ0 τ0 := by
  intro n
  induction n with
  | zero =>
    intro e c t σ τ h1 h2 hM
    obtain ⟨⟨np', w, -⟩, -⟩ := hM
    have := w.D5
    omega
  | succ n ih =>
    intro e c t σ τ h1 h2 hM hg hc lva lvb g2 g3 hu
    obtain ⟨u, u1, u2⟩ := hu
    obtain ⟨⟨np0, w, -⟩, -⟩ := id hM
    have hn4 := w.cy.n40
    have hD5 := w.D5
    have hp : sc_p (X.L k) = 2 := by rw [hL]; decide +kernel
    have hz : ∀ c, c ≠ 120 → X.L k ≠ c := fun c q e => q (by rw [← e]; exact hL)
    obtain ⟨p1, p2, p3, p4, p5⟩ := w.cy.T.p2 hk hp
    have q4 := (w.cy.T.lt hk).2
    obtain ⟨k1, k2, k3, k4, k5, k6⟩ := w.cy.ok
    have hps : sc_ps X.L X.E k = X.E (k + 1) := by rw [sc_ps, if_pos hL]
    obtain ⟨r, σ', τ', dl, cc, x1, hcc, ho, cs⟩ := sc_child (m := m) (lev := lev + 1) (hI _ (by omega) p1) hM hg hk (by omega) (by omega) (by omega) (by omega) (by omega) (by omega) lva
    have hS : X.E k - k = (X.E k - (k + 1)) + 1 := by omega
    have hle : (X.E (k + 1) - (k + 1)) * dl ≤ (X.E k - (k + 1)) * dl := Nat.mul_le_mul_right _ (by omega)
    have hbd : c + cc + 1 + 1 ≤ 2 * (X.E k - k) + 80 * ((X.E k - k) * (e + dl)) := by
      rw [hS]
      exact sc_bd (by omega) (by omega)
    unfold dX0_askOpener_2
    simp only [w.cy.ncl hk, w.cy.nin hk, if_true]
    rw [sc_c6, if_neg (nI_ge (show t < 1000000 by omega) (by omega)), if_neg (show ¬ σ (X.q + 2) k = 0 by rw [g2]; decide), nI_1, nI_1, x1]
    simp only [Option.bind_some]
    rcases cs with ⟨hM', h45, hg', hr⟩ | ⟨rfl, hf, hP⟩
    · obtain ⟨⟨np', w', -⟩, -, -, -, -, h5, -⟩ := id hM'
      have e1 : σ' (X.q + 1) k = nI u := by rw [(ho k (by omega)).1]; exact u2
      have e2 : σ' (X.q + 2) k = 1 := by rw [(ho k (by omega)).2.1]; exact g2
      have e3 : τ' 24 k = 1 := by rw [(ho k (by omega)).2.2.1]; exact g3
      have lvb2 := lvb.f0 w.cy p3 (D' := D + (e + dl)) (by omega) ho (sc_cl1 w.cy p1) (Or.inr (Nat.le_refl _))
      cases r with
      | true =>
        rw [if_neg (show ¬ sc_b true = 0 by decide)]
        obtain ⟨hdl, hlv, hval⟩ := hr rfl
        have hear := sc_hrX2 w'.cy hk hL h45 e3
        rw [sc_sam e3] at hear
        refine sc_ret (r := true) hk hh hM' hg' hear sc_fr_rf sc_fr_rf h45 hbd (fun _ => ⟨by omega, sc_Lv.mk ?_ (fun _ => hlv) (fun _ => lvb2), hval⟩)
        unfold sc_Nat
        rw [e2, e3]
        exact sc_N0_gen (by omega) (hz _ (by decide)) (hz _ (by decide)) (hz _ (by decide)) (show u ≤ _ by omega) e1 (fun _ => ⟨true, rfl, rfl⟩)
      | false =>
        rw [if_pos (show sc_b false = 0 from rfl), sc_failed h5]
        simp only [Option.bind_some, if_true]
        rw [sc_narI0]
        have hear := sc_hrX3 w'.cy hk hL h45 e3
        rw [hps] at hear
        obtain ⟨hM2, hg2⟩ := sc_more hk hh hM' hg' (by omega) hear (sc_fr_up (σ := σ') (k := X.q + 2) (j := k) (v := 0) (by simp [sc_oC]; omega)) (sc_fr_up (by simp [sc_oM]; omega))
        refine sc_openP hI hop hk hL hm hlev hh ih (by omega) (by omega) hM2 hg2 (by omega) ?_ sc_upS ⟨u, by omega, ?_⟩
        · refine lvb2.f0 w.cy p3 (Nat.le_refl _) (lo := k) (hi := X.E (k + 1)) (fun b hb => ⟨sc_upK (by omega), sc_upJ (by omega), sc_upJ (by omega), sc_upK (by omega), sc_upK (by decide), sc_upK (by omega)⟩) (fun x y1 y2 y3 => ?_) (Or.inr (Nat.le_refl _))
          by_cases q : x = k
          · rw [q]; exact Nat.le_refl _
          · exact sc_cl1 w.cy p1 x (by omega) y2 y3
        · rw [sc_upK (by omega)]; exact e1
    · rw [if_pos (show sc_b false = 0 from rfl), sc_failed1 hf]
      simp only [Option.bind_some]
      rw [if_neg (show ¬ (1 : Int32) = 0 by decide)]
      exact hP (by omega) σ' sc_fr_rf
theorem sc_opener {X : sc_X} {D np g h k m lev : Nat} {σ τ : sf_S} (hI : ∀ a, k < a → a < X.n → sc_IH X a) (hop : sf_op X.q = X.q + 3) (w : sc_W X D np g σ τ) (hk : k < X.n) (hL : X.L k = 120) (hm : 41 ≤ m + 1 + k) (hlev : lev ≤ k) (hh : h ≤ k) (hfl : σ (sf_rn X.q) 5 = 0) (h48 : τ 0 48 = nI h) (hv : sc_Lv X sc_N0 D σ τ k) : sc_Po X k h D np g σ τ (dX0_ask_R (m + 1) X.q (nI k) (nI lev) σ) := by
  have hn4 := w.cy.n40
  have hp : sc_p (X.L k) = 2 := by rw [hL]; decide +kernel
  have hz : ∀ c, c ≠ 120 → X.L k ≠ c := fun c q e => q (by rw [← e]; exact hL)
  obtain ⟨p1, p2, p3, p4, p5⟩ := w.cy.T.p2 hk hp
  have q4 := (w.cy.T.lt hk).2
  obtain ⟨hN, l1, l2⟩ := hv.inv
  obtain ⟨u, u1, u2, u3, u4, u5, u6, u7⟩ := id hN
  obtain ⟨t, t1, t2⟩ := u7 (Or.inr hL)
  have hO := sc_dwO (σ := σ) (τ := τ) (h := h) (a := nI k) (b := nI (h + 1)) w.cy.ok
  obtain ⟨o1, o2, o3, o4, o5, o6⟩ := hO k (by omega)
  have hps : sc_ps X.L X.E k = X.E (k + 1) := by rw [sc_ps, if_pos hL]
  have hqs : sc_qs X.L X.E k = k + 1 := by rw [sc_qs, if_pos hL]
  have lvb := (l2 hp).same w.cy p3 hO
  have hF := sf_F_le
  rw [sc_askX w.cy hk (by omega) m hL]
  refine sc_Po.chk ?_
  unfold dX0_askOpener
  cases t with
  | true =>
    have hnx := sc_nxq w.cy hk (Or.inr hL) t2
    rw [hqs] at hnx
    obtain ⟨hM, hg⟩ := sc_dwn w hk hfl h48 hh (a := k + 1) (by omega) sc_fr_rf hnx
    exact sc_openL hI hop hk hL hm hlev hh sf_F 0 1 0 _ _ (by omega) (by omega) hM hg (by omega) ((l1 (Or.inr (Or.inr (Or.inr ⟨hL, by rw [t1]; decide⟩)))).same w.cy p1 hO) lvb (o2.trans t1) (o3.trans t2) ⟨u, by omega, o1.trans u2⟩
  | false =>
    have hnx := sc_nx w.cy hk (by omega) (fun q => absurd q (hz 116 (by decide))) (fun q => absurd q (hz 119 (by decide))) (hz 122 (by decide)) (fun _ => by rw [t2]; decide)
    rw [hps] at hnx
    obtain ⟨hM, hg⟩ := sc_dwn w hk hfl h48 hh (a := X.E (k + 1)) (by omega) sc_fr_rf hnx
    obtain ⟨n, hn⟩ : ∃ n, sf_F = n + 1 := ⟨sf_F - 1, by omega⟩
    rw [hn]
    unfold dX0_askOpener_2
    simp only [w.cy.ncl hk, w.cy.nin hk, if_true]
    rw [if_neg (show ¬ (1000000 : Int32) ≤ 0 by decide), o2, t1, if_pos (show sc_b false = 0 from rfl)]
    exact sc_openP (t := 0) (e1 := 0) (dl1 := 0) hI hop hk hL hm hlev hh (sc_openL hI hop hk hL hm hlev hh n) (by omega) (by omega) hM hg (by omega) lvb (o3.trans t2) ⟨u, by omega, o1.trans u2⟩
