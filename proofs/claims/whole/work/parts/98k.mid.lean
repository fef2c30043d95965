/-! a node of way 0 asked: what comes of it (sc_Po); what holds between its children's turns (sc_Mid) -/
def sc_Out (X : sc_X) (lo hi : Nat) (σ0 τ0 σ τ : sf_S) : Prop := ∀ b, ¬ (lo ≤ b ∧ b < hi) → σ (X.q + 1) b = σ0 (X.q + 1) b ∧ σ (X.q + 2) b = σ0 (X.q + 2) b ∧ τ 24 b = τ0 24 b ∧ σ (X.q + 3) b = σ0 (X.q + 3) b ∧ τ 25 b = τ0 25 b ∧ σ (X.q + 4) b = σ0 (X.q + 4) b
theorem sc_Out.rf {X : sc_X} {lo hi : Nat} {σ τ : sf_S} : sc_Out X lo hi σ τ σ τ := fun _ _ => ⟨rfl, rfl, rfl, rfl, rfl, rfl⟩
theorem sc_Out.tr {X : sc_X} {lo hi lo' hi' : Nat} {σ0 τ0 σ τ σ' τ' : sf_S} (h : sc_Out X lo hi σ0 τ0 σ τ) (h2 : sc_Out X lo' hi' σ τ σ' τ') (h1 : lo ≤ lo') (h3 : hi' ≤ hi) : sc_Out X lo hi σ0 τ0 σ' τ' := fun b hb => by
  obtain ⟨a1, a2, a3, a4, a5, a6⟩ := h b hb
  obtain ⟨b1, b2, b3, b4, b5, b6⟩ := h2 b (by omega)
  exact ⟨b1.trans a1, b2.trans a2, b3.trans a3, b4.trans a4, b5.trans a5, b6.trans a6⟩
theorem sc_Out.wk {X : sc_X} {lo hi lo' hi' : Nat} {σ τ σ' τ' : sf_S} (h2 : sc_Out X lo' hi' σ τ σ' τ') (h1 : lo ≤ lo') (h3 : hi' ≤ hi) : sc_Out X lo hi σ τ σ' τ' := sc_Out.rf.tr h2 h1 h3
/-- what other nodes did leaves a node as it was -/
theorem sc_Lv.far {X : sc_X} {N : sc_NT} (hm : ∀ {c f s d us tu ke op he op' he' hc hk d'}, d ≤ d' → (c = 117 ∨ c = 118 → op' = op ∧ he' = he) → N c f s d us tu ke op he hc hk → N c f s d' us tu ke op' he' hc hk) {D D' a lo hi : Nat} {σ τ σ' τ' : sf_S} {σc τc : sf_S} (hC : sc_Cy X σc τc) (ha : a < X.n) (h : sc_Lv X N D σ τ a) (hD : D ≤ D')
    (ho : sc_Out X lo hi σ τ σ' τ') (hcl : ∀ x, lo ≤ x → x < hi → X.L x = 120 → X.E (x + 1) ≤ hi) (hd : X.E a ≤ lo ∨ hi ≤ a) : sc_Lv X N D' σ' τ' a := by
  have hT := hC.T
  obtain ⟨S, h1, h2⟩ := h
  refine ⟨fun j => S j ∧ a ≤ j ∧ j < X.E a, ⟨h1, Nat.le_refl _, (hT.lt ha).1⟩, fun j hj => ?_⟩
  obtain ⟨j1, j2, j3⟩ := hj
  obtain ⟨a1, a2, a3⟩ := h2 j j1
  obtain ⟨s1, s2, s3, s4, s5, s6⟩ := ho j (by omega)
  have hjn : j < X.n := by have := (hT.lt ha).2; omega
  have hE := hT.nest a ha j j2 j3
  refine ⟨?_, fun q => ⟨a2 (by rwa [s2] at q), by omega, ?_⟩, fun q => ⟨a3 q, ?_, ?_⟩⟩
  · unfold sc_Nat at a1 ⊢
    rw [s1, s2, s3, s5, s6]
    refine hm hD (fun hu => ?_) a1
    obtain ⟨x, x1, x2, x3, x4, x5⟩ := hC.ow hjn hu
    have hx : ¬ (lo ≤ x ∧ x < hi) := fun q => by
      have := hcl x q.1 q.2 x2
      omega
    obtain ⟨-, -, -, t4, t5, -⟩ := ho x hx
    have hn4 := hC.n40
    rw [x1, sc_cl (by omega)]
    exact ⟨t4, t5⟩
  · have hp := sc_a1_p q
    rcases sc_p3 (X.L j) with e | e | e
    · omega
    · obtain ⟨q1, q2⟩ := hT.p1 hjn e
      have := (hT.lt q1).1
      omega
    · have := hT.p2 hjn e
      omega
  · have := hT.p2 hjn q
    omega
  · have := hT.p2 hjn q
    omega
theorem sc_N0_m {c f s : Int32} {d : Nat} {us tu ke op he op' he' hc hk : Int32} {d' : Nat} (hd : d ≤ d') (ho : c = 117 ∨ c = 118 → op' = op ∧ he' = he) (hN : sc_N0 c f s d us tu ke op he hc hk) : sc_N0 c f s d' us tu ke op' he' hc hk := by
  obtain ⟨u, h1, h2, ⟨n1, n2, n3, n4⟩, h4⟩ := hN
  refine ⟨u, by omega, h2, ⟨n1, n2, n3, fun q => ?_⟩, h4⟩
  rw [(ho q).1, (ho q).2]; exact n4 q
def sc_Po (X : sc_X) (k h D np g : Nat) (σ τ : sf_S) (x : Option (Int32 × sf_S)) : Prop := ∃ r σ' τ' e np' c, x = some (sc_b r, σ') ∧ sc_W X (D + e) np' g σ' τ' ∧ np' ≤ np + (X.E k - k) * e ∧ sc_fr (sc_RC X.q) σ σ' ∧ sc_fr sc_RM τ τ' ∧ sc_Out X k (X.E k) σ τ σ' τ' ∧ (∀ j, j < h → τ' 29 j = τ 29 j) ∧ c + 1 ≤ 2 * (X.E k - k) + 80 * ((X.E k - k) * e) ∧
  ((σ' (sf_rn X.q) 5 = 0 ∧ τ' 0 45 = sc_b r ∧ τ' 0 48 = nI h ∧ sc_Go k τ c (nI k) 0 τ' ∧ (r = true → 1 ≤ e ∧ sc_Lv X sc_N0 (D + e) σ' τ' k ∧ σ' X.q (sf_vl X.q) = τ' 0 46)) ∨ (r = false ∧ ¬ σ' (sf_rn X.q) 5 = 0 ∧ sc_GoF k τ c τ'))
def sc_IH (X : sc_X) (a : Nat) : Prop := ∀ m lev h D np g σ τ, 41 ≤ m + a → lev ≤ a → h ≤ a → sc_W X D np g σ τ → sc_Lv X sc_N0 D σ τ a → σ (sf_rn X.q) 5 = 0 → τ 0 48 = nI h → sc_Po X a h D np g σ τ (dX0_ask_R m X.q (nI a) (nI lev) σ)
def sc_Mid (X : sc_X) (k h D np g e : Nat) (σ0 τ0 σ τ : sf_S) : Prop := (∃ np', sc_W X (D + e) np' g σ τ ∧ np' ≤ np + (X.E k - (k + 1)) * e) ∧ sc_fr (sc_RC X.q) σ0 σ ∧ sc_fr sc_RM τ0 τ ∧ sc_Out X k (X.E k) σ0 τ0 σ τ ∧ (∀ j, j < h → τ 29 j = τ0 29 j) ∧ σ (sf_rn X.q) 5 = 0 ∧ τ 0 48 = nI (h + 1) ∧ τ 29 h = nI k
/-- cells of one node, the value handed on -/
def sc_oC (X : sc_X) (k : Nat) : Nat → Nat → Bool := fun a b => decide (a = X.q ∧ b = sf_vl X.q) || decide (X.q + 1 ≤ a ∧ a ≤ X.q + 4 ∧ k ≤ b ∧ b < X.E k)
def sc_oM (X : sc_X) (k : Nat) : Nat → Nat → Bool := fun a b => decide ((a = 24 ∨ a = 25) ∧ k ≤ b ∧ b < X.E k) || decide (a = 0 ∧ (b = 45 ∨ b = 46))
theorem sc_oC_L {X : sc_X} {k : Nat} {σ σ' : sf_S} (h : sc_fr (sc_oC X k) σ σ') : sc_fr (sc_LC X.q) σ σ' := sc_fr_wk h (fun a b hab => by
  simp [sc_LC] at hab; simp [sc_oC]; omega)
theorem sc_oM_L {X : sc_X} {k : Nat} {τ τ' : sf_S} (h : sc_fr (sc_oM X k) τ τ') : sc_fr sc_LM τ τ' := sc_fr_wk h (fun a b hab => by
  simp [sc_LM] at hab; simp [sc_oM]; omega)
theorem sc_k_Out {X : sc_X} {k : Nat} {σ σ' τ τ' : sf_S} (h : sc_fr (sc_oC X k) σ σ') (h2 : sc_fr (sc_oM X k) τ τ') : sc_Out X k (X.E k) σ τ σ' τ' := fun b hb =>
  ⟨h _ _ (by simp [sc_oC]; omega), h _ _ (by simp [sc_oC]; omega), h2 _ _ (by simp [sc_oM]; omega), h _ _ (by simp [sc_oC]; omega), h2 _ _ (by simp [sc_oM]; omega), h _ _ (by simp [sc_oC]; omega)⟩
theorem sc_Mid.light {X : sc_X} {k h D np g e : Nat} {σ0 τ0 σ τ σ' τ' : sf_S} (hM : sc_Mid X k h D np g e σ0 τ0 σ τ) (h1 : sc_fr (sc_oC X k) σ σ') (h2 : sc_fr (sc_oM X k) τ τ') : sc_Mid X k h D np g e σ0 τ0 σ' τ' := by
  obtain ⟨⟨np', w, hn⟩, m2, m3, m4, m5, m6, m7, m8⟩ := hM
  obtain ⟨k1, k2, k3, k4, k5, k6⟩ := w.cy.ok
  refine ⟨⟨np', w.light (sc_oC_L h1) (sc_oM_L h2), hn⟩, sc_fr_tr m2 (sc_LC_RC (sc_oC_L h1)), sc_fr_tr m3 (sc_LM_RM (sc_oM_L h2)), m4.tr (sc_k_Out h1 h2) (Nat.le_refl _) (Nat.le_refl _), fun j hj => ?_, ?_, ?_, ?_⟩
  · rw [h2 _ _ (by simp [sc_oM])]; exact m5 j hj
  · rw [h1 _ _ (by simp [sc_oC]; omega)]; exact m6
  · rw [h2 _ _ (by simp [sc_oM])]; exact m7
  · rw [h2 _ _ (by simp [sc_oM])]; exact m8
theorem sc_bd {S e1 dl c : Nat} (hS : S ≤ 39) (hc : c ≤ 1 + 82 * (S * e1) + (2 * S + 80 * (S * dl))) : c + 1 ≤ 2 * (S + 1) + 80 * ((S + 1) * (e1 + dl)) := by
  have h1 : S * e1 ≤ 39 * e1 := Nat.mul_le_mul_right _ hS
  rw [Nat.add_mul, Nat.mul_add S]
  omega
theorem sc_bd2 {S s e dl c cc : Nat} (h : c ≤ 1 + 82 * (S * e)) (hs : s ≤ S) (hcc : cc + 1 ≤ 2 * s + 80 * (s * dl)) (h1 : 1 ≤ dl) : c + cc + 1 ≤ 1 + 82 * (S * (e + dl)) := by
  have h2 : s * 1 ≤ s * dl := Nat.mul_le_mul_left _ h1
  have h3 : s * dl ≤ S * dl := Nat.mul_le_mul_right _ hs
  rw [Nat.mul_add S]
  omega
theorem sc_add8 {D e d : Nat} : D + e + d = D + (e + d) := Nat.add_assoc D e d
/-- a child is asked -/
theorem sc_child {X : sc_X} {k a h D np g e c m lev : Nat} {σ0 τ0 σ τ : sf_S} (hI : sc_IH X a) (hM : sc_Mid X k h D np g e σ0 τ0 σ τ) (hgo : sc_Go k τ0 c (nI a) 1 τ) (hk : k < X.n) (ha : k < a) (hE : X.E a ≤ X.E k) (haE : a < X.E a) (hm : 41 ≤ m + a) (hlev : lev ≤ a) (hh : h + 1 ≤ a) (hL : sc_Lv X sc_N0 (D + e) σ τ a) :
    ∃ r σ' τ' dl cc, dX0_ask_R m X.q (nI a) (nI lev) σ = some (sc_b r, σ') ∧ cc + 1 ≤ 2 * (X.E a - a) + 80 * ((X.E a - a) * dl) ∧ sc_Out X a (X.E a) σ τ σ' τ' ∧
      ((sc_Mid X k h D np g (e + dl) σ0 τ0 σ' τ' ∧ τ' 0 45 = sc_b r ∧ sc_Go k τ0 (c + cc) (nI k) 0 τ' ∧ (r = true → 1 ≤ dl ∧ sc_Lv X sc_N0 (D + (e + dl)) σ' τ' a ∧ σ' X.q (sf_vl X.q) = τ' 0 46)) ∨
       (r = false ∧ ¬ σ' (sf_rn X.q) 5 = 0 ∧ (c + cc + 1 ≤ 2 * (X.E k - k) + 80 * ((X.E k - k) * (e + dl)) → ∀ σ'', sc_fr (sc_oC X k) σ' σ'' → sc_Po X k h D np g σ0 τ0 (some (0, σ''))))) := by
  obtain ⟨⟨np1, w, hn⟩, m2, m3, m4, m5, m6, m7, m8⟩ := hM
  obtain ⟨r, σ', τ', dl, np', cc, q1, q2, q3, q4, q5, q6, q7, q8, q9⟩ := hI m lev (h + 1) (D + e) np1 g σ τ hm hlev hh w hL m6 m7
  obtain ⟨k1, k2, k3, k4, k5, k6⟩ := w.cy.ok
  have hle : (X.E a - a) * dl ≤ (X.E k - (k + 1)) * dl := Nat.mul_le_mul_right _ (by omega)
  have hnp : np' ≤ np + (X.E k - (k + 1)) * (e + dl) := by
    rw [Nat.mul_add]; omega
  rw [sc_add8] at q2 q9
  refine ⟨r, σ', τ', dl, cc, q1, q8, q6, ?_⟩
  have hOut := m4.tr q6 (Nat.le_of_lt ha) hE
  have h5 : ∀ j, j < h → τ' 29 j = τ0 29 j := fun j hj => (q7 j (by omega)).trans (m5 j hj)
  rcases q9 with ⟨b1, b2, b3, b4, b5⟩ | ⟨b1, b2, b3⟩
  · exact Or.inl ⟨⟨⟨np', q2, hnp⟩, sc_fr_tr m2 q4, sc_fr_tr m3 q5, hOut, h5, b1, b3, (q7 h (by omega)).trans m8⟩, b2, (hgo.run b4).any, b5⟩
  · refine Or.inr ⟨b1, b2, fun hb σ'' hf => ⟨false, σ'', τ', e + dl, np', c + cc, rfl, q2.light (sc_oC_L hf) sc_fr_rf, ?_, sc_fr_tr (sc_fr_tr m2 q4) (sc_LC_RC (sc_oC_L hf)), sc_fr_tr m3 q5, hOut.tr (sc_k_Out hf sc_fr_rf) (Nat.le_refl _) (Nat.le_refl _), h5, hb, Or.inr ⟨rfl, ?_, hgo.runF b3⟩⟩⟩
    · have : (X.E k - (k + 1)) * (e + dl) ≤ (X.E k - k) * (e + dl) := Nat.mul_le_mul_right _ (by omega)
      omega
    · rw [hf _ _ (by simp [sc_oC]; omega)]; exact b2
