/-! stepping: what a step is to do -/
def tr_tz : tt_T → Nat → sf_S → Prop
  | .leaf, _, _ => True
  | .inner _ c _ P Q, k, σ => (c.1 = 100 ∨ c.1 = 119 → σ 29 k = 0) ∧ tr_tz P (k + 1) σ ∧ tr_tz Q (k + 1 + tt_sz P) σ
def tr_ph : tt_T → Nat → sf_S → Nat
  | .leaf, _, _ => 0
  | .inner _ c _ P Q, k, σ => (if c.1 = 99 then (if σ 29 k = 0 then 1 else 0) else if c.1 = 120 then (if σ 29 k = 0 then 0 else 1) else 0) + tr_ph P (k + 1) σ + tr_ph Q (k + 1 + tt_sz P) σ
theorem tr_tz_congr {σ σ' : sf_S} : ∀ (T : tt_T) (k : Nat), (∀ b, k ≤ b → b < k + tt_sz T → σ' 29 b = σ 29 b) → tr_tz T k σ → tr_tz T k σ'
  | .leaf, _, _, _ => trivial
  | .inner _ c _ P Q, k, h, h1 => by
    simp only [tt_sz] at h
    exact ⟨fun e => by rw [h k (by omega) (by omega)]; exact h1.1 e, tr_tz_congr P (k + 1) (fun b h2 h3 => h b (by omega) (by omega)) h1.2.1, tr_tz_congr Q _ (fun b h2 h3 => h b (by omega) (by omega)) h1.2.2⟩
theorem tr_tz_zero {σ : sf_S} : ∀ (T : tt_T) (k : Nat), (∀ b, k ≤ b → b < k + tt_sz T → σ 29 b = 0) → tr_tz T k σ
  | .leaf, _, _ => trivial
  | .inner _ c _ P Q, k, h => by
    simp only [tt_sz] at h
    exact ⟨fun _ => h k (by omega) (by omega), tr_tz_zero P (k + 1) (fun b h2 h3 => h b (by omega) (by omega)), tr_tz_zero Q _ (fun b h2 h3 => h b (by omega) (by omega))⟩
theorem tr_ph_congr {σ σ' : sf_S} : ∀ (T : tt_T) (k : Nat), (∀ b, k ≤ b → b < k + tt_sz T → σ' 29 b = σ 29 b) → tr_ph T k σ' = tr_ph T k σ
  | .leaf, _, _ => rfl
  | .inner _ c _ P Q, k, h => by
    simp only [tt_sz] at h
    simp only [tr_ph]
    rw [h k (by omega) (by omega), tr_ph_congr P (k + 1) (fun b h2 h3 => h b (by omega) (by omega)), tr_ph_congr Q _ (fun b h2 h3 => h b (by omega) (by omega))]
theorem tr_ph_le {σ : sf_S} : ∀ (T : tt_T) (k : Nat), tr_ph T k σ ≤ tt_sz T
  | .leaf, _ => Nat.le_refl _
  | .inner _ c _ P Q, k => by
    have h1 := tr_ph_le (σ := σ) P (k + 1)
    have h2 := tr_ph_le (σ := σ) Q (k + 1 + tt_sz P)
    simp only [tr_ph, tt_sz]
    split
    · split <;> omega
    · split
      · split <;> omega
      · omega
def tr_B1 (T : tt_T) (k d : Nat) (N : List (Int32 × Int32)) (σ : sf_S) (d' : Nat) (N' : List (Int32 × Int32)) (σ' : sf_S) : Prop :=
  tr_fr 27 19 true k (k + tt_sz T) σ σ' ∧ (σ' 19 2 = nI d' ∧ d ≤ d' ∧ d' ≤ d + 1 ∧ d' ≤ 500) ∧ tr_N 19 (N ++ N') σ' ∧ tr_ub 27 k (k + tt_sz T) d' σ' ∧ σ' 19 3 = σ 19 3
def tr_o1 (S : tt_S) (T : tt_T) (k : Nat) (o w : Int32) (d : Nat) (σ σ' : sf_S) (res : Int32) (r : tv_A) (N1 : List (Int32 × Int32)) (d1 : Nat) : Prop :=
  (res = 2 ∧ (∃ v E, r = (N1, d1, .inl (v, E)) ∧ σ' 27 6 = v ∧ tr_R S 27 true σ' T k o w = E) ∧ tr_z 19 σ' ∧ d1 = d + 1) ∨
  (res = 1 ∧ r = tv_pre N1 (tv_ak (tr_R S 27 true σ' T k o w) d1) ∧ tr_z 19 σ' ∧ (d1 = d + 1 ∨ (d1 = d ∧ tr_ph T k σ' + 1 ≤ tr_ph T k σ))) ∨
  (res = 0 ∧ r = (N1, d1, .inr none) ∧ tr_z 19 σ' ∧ (d1 = d + 1 ∨ (d1 = d ∧ tr_ph T k σ' ≤ tr_ph T k σ))) ∨
  (res = 3 ∧ ∃ a b, r = (N1, d1, .inr (some (a, b))) ∧ σ' 19 5 = a ∧ σ' 19 6 = b)
def tr_s1 (G : Int32 → Int32 → sf_S → Option (Int32 × sf_S)) (T : tt_T) : Prop := ∀ (k lv : Nat) (o w : Int32) (n d : Nat) (N : List (Int32 × Int32)) (σ : sf_S) (r : tv_A), tr_pre 27 1 19 T k lv o w n d N σ → tr_tz T k σ → r = tv_ak (tr_R (tr_S σ) 27 true σ T k o w) d → tr_nc r → N.length + r.1.length ≤ 100000 → ∃ res σ' N1 d1, G (nI k) (nI lv) σ = some (res, σ') ∧ tr_B1 T k d N σ d1 N1 σ' ∧ tr_tz T k σ' ∧ tr_o1 (tr_S σ) T k o w d σ σ' res r N1 d1
theorem tr_q1 : tr_q 27 1 19 := Or.inr (Or.inl ⟨rfl, rfl, rfl⟩)
theorem tr_m1 : tr_m true = 4 := rfl
/-- a pipe within is stepped -/
theorem tr_call1 {G : Int32 → Int32 → sf_S → Option (Int32 × sf_S)} {T X : tt_T} {k kx lvx : Nat} {ox wx : Int32} {n d : Nat} {N : List (Int32 × Int32)} {σ : sf_S} {rX : tv_A} (hG : tr_s1 G X) (hu : tr_ub 27 k (k + tt_sz T) d σ) (hpX : tr_pre 27 1 19 X kx lvx ox wx n d N σ) (hz : tr_tz X kx σ) (hkx : k + 1 ≤ kx ∧ kx + tt_sz X ≤ k + tt_sz T) (hrX : rX = tv_ak (tr_R (tr_S σ) 27 true σ X kx ox wx) d) (hnc : tr_nc rX) (hlen : N.length + rX.1.length ≤ 100000) :
    ∃ res σ' N1 d1, G (nI kx) (nI lvx) σ = some (res, σ') ∧ tr_B1 T k d N σ d1 N1 σ' ∧ tr_fr 27 19 true kx (kx + tt_sz X) σ σ' ∧ tr_tz X kx σ' ∧ tr_o1 (tr_S σ) X kx ox wx d σ σ' res rX N1 d1 := by
  obtain ⟨res, σ', N1, d1, g1, ⟨g2, g3, g4, g5, g6⟩, g7, g8⟩ := hG kx lvx ox wx n d N σ rX hpX hz hrX hnc hlen
  refine ⟨res, σ', N1, d1, g1, ⟨tr_fr_wk g2 (by omega) (by omega), g3, g4, fun b h1 h2 => ?_, g6⟩, g2, g7, g8⟩
  by_cases hin : kx ≤ b ∧ b < kx + tt_sz X
  · exact g5 b hin.1 hin.2
  · obtain ⟨y, y1, y2⟩ := hu b h1 h2
    have hm := tr_m1
    exact ⟨y, by rw [g2 _ _ (by omega)]; exact y1, by omega⟩
/-- the node, after it -/
theorem tr_nd1 {s : Nat} {c : tt_C} {u : Unit} {P Q : tt_T} {k lv : Nat} {o w : Int32} {n d d1 : Nat} {N N1 : List (Int32 × Int32)} {σ σm : sf_S} (hpre : tr_pre 27 1 19 (.inner s c u P Q) k lv o w n d N σ) (hB : tr_B1 (.inner s c u P Q) k d N σ d1 N1 σm) : tr_nd 1 n k c o σm := by
  have hm := tr_m1
  exact hpre.nd.kept fun a b hab => hB.1 a b (by omega)
theorem tr_pre_B1 {T : tt_T} {k lv : Nat} {o w : Int32} {n d d' : Nat} {N N' : List (Int32 × Int32)} {σ σ' : sf_S} (h : tr_pre 27 1 19 T k lv o w n d N σ) (hB : tr_B1 T k d N σ d' N' σ') (h5 : tr_z 19 σ') : tr_pre 27 1 19 T k lv o w n d' (N ++ N') σ' := by
  have hm := tr_m1
  obtain ⟨b1, b2, b3, b4, b5⟩ := hB
  exact h.same tr_q1 (fun x y hxy => b1 x y (by omega)) b4 ⟨b2.1, b2.2.2.2⟩ h5 b3
/-- a state that differs in the node's own cells -/
theorem tr_B1.step {T : tt_T} {k d d1 : Nat} {N N1 N2 : List (Int32 × Int32)} {σ σ1 σ2 : sf_S} (hB : tr_B1 T k d N σ d1 N1 σ1) (hf : tr_fr 27 19 true k (k + tt_sz T) σ1 σ2) (h2 : σ2 19 2 = σ1 19 2) (h3 : σ2 19 3 = σ1 19 3) (hN : tr_N 19 (N ++ N2) σ2) (hu : tr_ub 27 k (k + tt_sz T) d1 σ2) : tr_B1 T k d N σ d1 N2 σ2 := by
  obtain ⟨b1, b2, b3, b4, b5⟩ := hB
  exact ⟨tr_fr_tr b1 hf, ⟨by rw [h2]; exact b2.1, b2.2⟩, hN, hu, by rw [h3]; exact b5⟩
theorem tr_B1.own {T : tt_T} {k d d1 : Nat} {N N1 : List (Int32 × Int32)} {σ σ1 : sf_S} {x : Int32} {j : Nat} (hB : tr_B1 T k d N σ d1 N1 σ1) (hT : 1 ≤ tt_sz T) (hj : j = 28 ∧ (∃ u, x = nI u ∧ u ≤ 300000 + d1) ∨ j = 29 ∨ j = 30 ∨ j = 31) : tr_B1 T k d N σ d1 N1 (sf_up σ1 j k x) := by
  have hm := tr_m1
  refine hB.step (fun a b hab => ?_) (sc_upK (by omega)) (sc_upK (by omega)) (hB.2.2.1.kept fun a b hab => sc_upK (by omega)) fun b h1 h2 => ?_
  · have : ¬ (a = j ∧ b = k) := by omega
    exact if_neg this
  · by_cases e : 27 + 1 = j ∧ b = k
    · obtain ⟨rfl, rfl⟩ := e
      rw [sc_upS]
      rcases hj with h | h | h | h
      · exact h.2
      · omega
      · omega
      · omega
    · obtain ⟨y, y1, y2⟩ := hB.2.2.2.1 b h1 h2
      refine ⟨y, ?_, y2⟩
      rw [← y1]
      exact if_neg e
theorem tr_R_out1 {S : tt_S} {X : tt_T} {k e kx : Nat} {o w : Int32} {σ σ' : sf_S} (hf : tr_fr 27 19 true k e σ σ') (hd : e ≤ kx ∨ kx + tt_sz X ≤ k) : tr_R S 27 true σ' X kx o w = tr_R S 27 true σ X kx o w := by
  have hm := tr_m1
  exact tr_R_congr X kx o w fun a b h1 h2 h3 h4 => hf a b (by omega)
theorem tv_kk_id (r : tv_A) : tv_kk r (fun v l d => ([], d, .inl (v, l))) = r := by
  obtain ⟨N, d, o⟩ := r
  rcases o with ⟨v, l⟩ | z
  · simp [tv_kk, tv_pre]
  · rfl
/-- what is no number goes through -/
theorem tr_thru {S : tt_S} {T X : tt_T} {k kx : Nat} {o w ox wx : Int32} {d d1 : Nat} {N1 : List (Int32 × Int32)} {σ σ' : sf_S} {res : Int32} {r rX : tv_A} {F : Int32 → tv_L → Nat → tv_A} (h : tr_o1 S X kx ox wx d σ σ' res rX N1 d1) (hn : res ≠ 2) (hr : r = tv_kk rX F) (hr2 : ∀ d', tv_ak (tr_R S 27 true σ' T k o w) d' = tv_kk (tv_ak (tr_R S 27 true σ' X kx ox wx) d') F) (hp : ∃ z, tr_ph T k σ' = z + tr_ph X kx σ' ∧ tr_ph T k σ = z + tr_ph X kx σ) : tr_o1 S T k o w d σ σ' res r N1 d1 := by
  obtain ⟨z, z1, z2⟩ := hp
  rcases h with ⟨h1, -⟩ | ⟨h1, h2, h3, h4⟩ | ⟨h1, h2, h3, h4⟩ | ⟨h1, a, b, h2, h3⟩
  · exact absurd h1 hn
  · refine Or.inr (Or.inl ⟨h1, ?_, h3, by omega⟩)
    rw [hr, h2, tv_kk_pre, ← hr2]
  · refine Or.inr (Or.inr (Or.inl ⟨h1, ?_, h3, by omega⟩))
    rw [hr, h2]; rfl
  · refine Or.inr (Or.inr (Or.inr ⟨h1, a, b, ?_, h3⟩))
    rw [hr, h2]; rfl
/-- .. and so where something follows -/
theorem tr_thru2 {S : tt_S} {T X : tt_T} {k kx : Nat} {o w ox wx : Int32} {d d1 : Nat} {N1 : List (Int32 × Int32)} {σ σ' : sf_S} {res : Int32} {r rX : tv_A} {f : Nat → tv_A} {g : tv_L → tv_L} (h : tr_o1 S X kx ox wx d σ σ' res rX N1 d1) (hn : res ≠ 0) (hr : r = tv_ke rX f g) (hg : tr_R S 27 true σ' T k o w = g (tr_R S 27 true σ' X kx ox wx)) (hr2 : ∀ d', tv_ak (tr_R S 27 true σ' T k o w) d' = tv_ke (tv_ak (tr_R S 27 true σ' X kx ox wx) d') f g) (hp : ∃ z, tr_ph T k σ' = z + tr_ph X kx σ' ∧ tr_ph T k σ = z + tr_ph X kx σ) : tr_o1 S T k o w d σ σ' res r N1 d1 := by
  obtain ⟨z, z1, z2⟩ := hp
  rcases h with ⟨h1, ⟨v, E, h2, h3, h4⟩, h5⟩ | ⟨h1, h2, h3, h4⟩ | ⟨h1, -⟩ | ⟨h1, a, b, h2, h3⟩
  · refine Or.inl ⟨h1, ⟨v, g E, ?_, h3, by rw [hg, h4]⟩, h5⟩
    rw [hr, h2]; rfl
  · refine Or.inr (Or.inl ⟨h1, ?_, h3, by omega⟩)
    rw [hr, h2, tv_ke_pre, ← hr2]
  · exact absurd h1 hn
  · refine Or.inr (Or.inr (Or.inr ⟨h1, a, b, ?_, h3⟩))
    rw [hr, h2]; rfl
theorem tr_kkN {r : tv_A} {f : Int32 → tv_L → Nat → tv_A} {m : Nat} (h : m + (tv_kk r f).1.length ≤ 100000) : m + r.1.length ≤ 100000 := tr_le_kk (N := []) (m := m) h
theorem tr_keN {r : tv_A} {f : Nat → tv_A} {g : tv_L → tv_L} {m : Nat} (h : m + (tv_ke r f g).1.length ≤ 100000) : m + r.1.length ≤ 100000 := tr_le_ke (N := []) (m := m) h
