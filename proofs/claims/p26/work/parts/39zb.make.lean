/-! way 2: producers; joining -/
theorem sc_toI {S : Int64} {n : Nat} (h : S.toInt = n) (hn : n ≤ 60) : S.toInt32 = nI n := by
  apply Int32.toInt_inj.mp
  rw [Int64.toInt_toInt32, h, nI_toInt (by omega)]
  exact Int.bmod_eq_of_le (by omega) (by omega)
def tr_p2 (T : tt_T) (k lv : Nat) (o w : Int32) (n d : Nat) (N : List (Int32 × Int32)) (σ : sf_S) : Prop :=
  (n ≤ 40 ∧ σ 1 4 = nI n ∧ k + tt_sz T ≤ n ∧ lv + tt_sz T ≤ 41) ∧ tt_wf T ∧ (∃ wi b, tk_P 1 σ T k wi o b ∧ tr_ow 33 k b w σ) ∧ tr_Sh σ ∧ (σ 19 2 = nI d ∧ d ≤ 500) ∧ σ 19 5 = 0 ∧ tr_N 19 N σ ∧ N.length + tt_sz T * (500 - d) ≤ 20000
def tr_ok2 (S : tt_S) (T : tt_T) (k : Nat) (o w : Int32) (d : Nat) (N : List (Int32 × Int32)) (σ' : sf_S) (V : List Int32) (N' : List (Int32 × Int32)) (d' : Nat) : Prop :=
  tr_row σ' k V ∧ V.length ≤ d' - d ∧ (σ' 19 2 = nI d' ∧ d ≤ d' ∧ d' ≤ 500) ∧ σ' 19 5 = 0 ∧ tr_N 19 (N ++ N') σ' ∧ N'.length ≤ tt_sz T * (d' - d) ∧ tv_al (tt_sem S T o w) V (d' - d)
def tr_o2 (S : tt_S) (T : tt_T) (k : Nat) (o w : Int32) (d : Nat) (N : List (Int32 × Int32)) (σ σ' : sf_S) (res : Int32) : Prop :=
  tr_f2 k (k + tt_sz T) σ σ' ∧ ((res = 1 ∧ ∃ V N' d', tr_ok2 S T k o w d N σ' V N' d') ∨ (res = 0 ∧ ¬ σ' 19 5 = 0))
def tr_m2 (G : Int32 → Int32 → sf_S → Option (Int32 × sf_S)) (T : tt_T) : Prop := ∀ (k lv : Nat) (o w : Int32) (n d : Nat) (N : List (Int32 × Int32)) (σ : sf_S), tr_p2 T k lv o w n d N σ → ∃ res σ', G (nI k) (nI lv) σ = some (res, σ') ∧ tr_o2 (tr_S σ) T k o w d N σ σ' res
theorem tr_o201 {S : tt_S} {T : tt_T} {k : Nat} {o w : Int32} {d : Nat} {N : List (Int32 × Int32)} {σ σ' : sf_S} {res : Int32} (h : tr_o2 S T k o w d N σ σ' res) : sf_01 res = true := by
  rcases h.2 with ⟨h, -⟩ | ⟨h, -⟩ <;> rw [h] <;> rfl
theorem tr_p2.nd {s : Nat} {c : tt_C} {u : Unit} {P Q : tt_T} {k lv : Nat} {o w : Int32} {n d : Nat} {N : List (Int32 × Int32)} {σ : sf_S} (h : tr_p2 (.inner s c u P Q) k lv o w n d N σ) : tr_nd 1 n k c o σ := by
  obtain ⟨⟨a1, a2, a3, a4⟩, -, ⟨wi, b, ⟨⟨e1, e2, e3, e4⟩, ⟨-, -, e7, -⟩, -⟩, -⟩, -⟩ := h
  simp only [tt_sz] at a3
  exact ⟨a1, a2, by omega, e1, e2, e3, e4, e7⟩
/-- a producer -/
theorem tr_fillPd {s : Nat} {c : tt_C} {u : Unit} {k lv : Nat} {o w : Int32} {n d : Nat} {N : List (Int32 × Int32)} {σ : sf_S} (hc : tt_pd c) (h : tr_p2 (.inner s c u .leaf .leaf) k lv o w n d N σ) (h0 : tr_row σ k []) : ∃ res σ', dX1_fillFromProducer (nI k) σ = some (res, σ') ∧ tr_o2 (tr_S σ) (.inner s c u .leaf .leaf) k o w d N σ σ' res := by
  have hF := sf_F_le
  have hnd := h.nd
  obtain ⟨⟨a1, a2, a3, a4⟩, -, ⟨wi, b, hPP, hw⟩, hSh, ⟨hd, hd5⟩, h5, hN, hNl⟩ := h
  simp only [tt_sz] at a3
  have hik : sf_in (nI k) 40 = true := sc_inI (by omega) (by omega)
  have hcl := sc_cl (show k < 2 ^ 31 by omega)
  have hfail : ∀ (x y : Int32) (σ0 : sf_S), ¬ x = 0 → (∀ a b, ¬ (a = 19 ∧ b = 2) → σ0 a b = σ a b) → tr_o2 (tr_S σ) (.inner s c u .leaf .leaf) k o w d N σ (sf_up (sf_up σ0 19 5 x) 19 6 y) 0 := fun x y σ0 hx hs0 => by
    refine ⟨fun a b hab => ?_, Or.inr ⟨rfl, by rw [sc_upJ (by omega), sc_upS]; exact hx⟩⟩
    have g1 : ¬ (a = 19 ∧ b = 6) := by omega
    have g2 : ¬ (a = 19 ∧ b = 5) := by omega
    exact (if_neg g1).trans ((if_neg g2).trans (hs0 a b (by omega)))
  have hready : dX10_isReady 32 (nI k) σ = if c.1 = 115 ∧ tr_S σ c.2.1 = none then some (0, sf_up (sf_up σ 19 5 2) 19 6 o) else some (1, σ) := by
    obtain ⟨-, -, -, h1, h2, -, -, h7⟩ := id hnd
    unfold dX10_isReady
    rw [show sf_pl 32 = 1 from rfl, tk_lat a1 a2 (by omega), h1]
    simp only [Option.bind_some]
    by_cases hs : c.1 = 115
    · rw [if_neg (by simp [hs]), if_pos hik, hcl, h2, tr_lost]
      simp only [Option.bind_some, hcl, h7, show sf_rn 32 = 19 from rfl]
      by_cases g : tr_S σ c.2.1 = none
      · rw [decide_eq_true g, if_neg (by decide), if_pos hik, if_pos (And.intro hs g)]; rfl
      · rw [decide_eq_false g, if_pos (by decide), if_neg (fun z => g z.2)]
    · rw [if_pos hs, if_neg (fun z => hs z.1)]
  unfold dX1_fillFromProducer
  rw [hready]
  by_cases hlost : c.1 = 115 ∧ tr_S σ c.2.1 = none
  · rw [if_pos hlost]
    simp only [Option.bind_some]
    rw [if_neg (by simp)]
    exact ⟨0, _, rfl, hfail 2 o σ (by decide) fun _ _ _ => rfl⟩
  rw [if_neg hlost]
  simp only [Option.bind_some]
  rw [if_pos (by decide)]
  have hs : c.1 = 115 → ¬ tr_S σ c.2.1 = none := fun a b => hlost ⟨a, b⟩
  have hw' : tr_ow 33 n b w σ := hw.wk (by omega)
  obtain ⟨sp, ⟨s1, s2⟩, s3⟩ := tr_supply (q := 32) (show tr_nd (sf_pl 32) n k c o σ from hnd) hPP.2.1.2.2.2.1 hw' hSh hc hs
  rw [s1]
  simp only [Option.bind_some]
  have h60 : lg_cmp sp 60 ≤ 0 ↔ sp.toInt ≤ 60 := by
    rw [lg_cmp_le, Int64.le_iff_toInt_le, show (60 : Int64).toInt = 60 from by decide]
  have hu60 : ∀ u : Nat, u < 1000000 → (sp.toInt ≤ u ↔ (¬ c.1 = 105 ∧ tt_cn (tr_S σ) c w ≤ u)) := fun u hu => by
    rw [← s2 u hu, lg_cmp_ge, Int64.le_iff_toInt_le, tr_l64 (by omega)]
  by_cases hle : sp.toInt ≤ 60
  · rw [if_pos (h60.mpr hle)]
    obtain ⟨h105, hcn⟩ := (hu60 60 (by omega)).mp hle
    have hsp : sp.toInt = (tt_cn (tr_S σ) c w : Nat) := by
      have q1 := (hu60 (tt_cn (tr_S σ) c w) (by omega)).mpr ⟨h105, Nat.le_refl _⟩
      have q2 := (hu60 sp.toInt.toNat (by omega)).mp (by omega)
      omega
    generalize hcnE : tt_cn (tr_S σ) c w = cn at hcn hsp
    unfold dX6_draw
    rw [sc_toI hsp hcn, hd, show (500 : Int32) = nI 500 from by decide +kernel, pk_sub hd5]
    by_cases hdr : cn ≤ 500 - d
    · rw [if_pos (nI_le hdr (by omega))]
      simp only [Option.bind_some]
      rw [if_pos (by decide), nI_add]
      have hk : ∀ a b, ¬ (a = 19 ∧ b = 2) → sf_up σ 19 2 (nI (d + cn)) a b = σ a b := fun a b hab => if_neg hab
      have hSk : tr_S (sf_up σ 19 2 (nI (d + cn))) = tr_S σ := tr_S_congr fun a b hab => hk a b (by omega)
      obtain ⟨σ', k1, k2, k3⟩ := tr_prodL (S := tr_S σ) (o := o) (w := w) (b := b) (n := n) (k := k) (sp := sp) hc h105 hcn hcnE hs (fun u hu => by rw [s2 u hu, hcnE]) cn 0 sf_F (sf_up σ 19 2 (nI (d + cn))) (by omega) (by omega) (hnd.kept fun a b hab => hk a b (by omega)) (by rw [hk _ _ (by omega)]; exact hPP.2.1.2.2.2.1) (by
        rcases hw' with h | ⟨x, h1, h2, h3⟩
        · exact Or.inl h
        · exact Or.inr ⟨x, h1, h2, by rw [hk _ _ (by omega)]; exact h3⟩) (hSh.kept fun a b hab => hk a b (by omega)) hSk (h0.kept fun a b hab => hk a b (by omega))
      rw [sc_0, k1]
      refine ⟨1, σ', rfl, fun a b hab => ?_, Or.inl ⟨rfl, _, [], d + cn, k3, ?_, ⟨?_, by omega, by omega⟩, ?_, ?_, Nat.zero_le _, ?_⟩⟩
      · simp only [tt_sz] at hab
        rw [k2 a b (by omega), hk a b (by omega)]
      · simp
      · rw [k2 _ _ (by omega), sc_upS]
      · rw [k2 _ _ (by omega), hk _ _ (by omega)]; exact h5
      · rw [List.append_nil]; exact hN.kept fun a b hab => by rw [k2 _ _ (by omega), hk _ _ (by omega)]
      · have hsem : tt_sem (tr_S σ) (.inner s c u .leaf .leaf) o w = tt_lf (tr_S σ) c o w 0 := by
          simp only [tt_sem]
          rcases hc with h | h | h | h | h <;> rw [h] <;> rfl
        rw [hsem, tt_lf_p h105 hs, hcnE, Nat.sub_zero, show d + cn - d = cn by omega]
        exact tv_al_pr _ cn 0
    · rw [if_neg (nI_ge (by omega) (by omega))]
      unfold dX6_fail
      simp only [Option.bind_some]
      rw [if_neg (by simp)]
      exact ⟨0, _, rfl, hfail 3 0 _ (by decide) fun a b hab => if_neg hab⟩
  · rw [if_neg (fun h => hle (h60.mp h)), if_pos hik]
    unfold dX6_fail
    simp only [Option.bind_some]
    exact ⟨0, _, rfl, hfail 4 _ σ (by decide) fun _ _ _ => rfl⟩
/-- two rows joined -/
theorem tr_zipL {n k j : Nat} {c : tt_C} {o : Int32} {V W : List Int32} (hj : j < n) (hk1 : k + 1 < n) (hjk : j ≠ k) : ∀ (m i fuel : Nat) (σ : sf_S), i + m = min V.length W.length → m < fuel → tr_nd 1 n k c o σ → tr_row σ (k + 1) V → tr_row σ j W → tr_row σ k (List.zipWith (tt_jn c) (V.take i) (W.take i)) →
    ∃ σ', dX1_zip_47 fuel (nI k) (nI j) (nI (k + 1)) (nI (min V.length W.length)) (nI i) σ = some σ' ∧ tr_rwf k σ σ' ∧ tr_row σ' k (List.zipWith (tt_jn c) V W) := by
  intro m
  induction m with
  | zero =>
    intro i fuel σ hi hf hnd hV hW hR
    obtain ⟨f, rfl⟩ : ∃ f, fuel = f + 1 := ⟨fuel - 1, by omega⟩
    have hV60 := hV.1
    simp only [dX1_zip_47]
    rw [if_pos (nI_le (by omega) (by omega))]
    refine ⟨σ, rfl, fun _ _ _ => rfl, ?_⟩
    have : List.zipWith (tt_jn c) (V.take i) (W.take i) = List.zipWith (tt_jn c) V W := by
      rw [← List.take_zipWith, List.take_of_length_le (by rw [List.length_zipWith]; omega)]
    rw [← this]; exact hR
  | succ m ih =>
    intro i fuel σ hi hf hnd hV hW hR
    obtain ⟨f, rfl⟩ : ∃ f, fuel = f + 1 := ⟨fuel - 1, by omega⟩
    have hV60 := hV.1
    have hv : V[i]? = some V[i] := List.getElem?_eq_getElem (by omega)
    have hw : W[i]? = some W[i] := List.getElem?_eq_getElem (by omega)
    simp only [dX1_zip_47]
    rw [if_neg (nI_ge (by omega) (by omega)), tr_elem hnd.1 hnd.2.1 hk1 hV hv]
    simp only [Option.bind_some]
    rw [tr_elem hnd.1 hnd.2.1 hj hW hw]
    simp only [Option.bind_some]
    rw [tr_jn (q := 32) (show tr_nd (sf_pl 32) n k c o σ from hnd)]
    simp only [Option.bind_some]
    have hlen : (List.zipWith (tt_jn c) (V.take i) (W.take i)).length = i := by
      rw [List.length_zipWith, List.length_take, List.length_take]; omega
    obtain ⟨σ1, s1, s2, s3⟩ := tr_add hnd.1 hnd.2.1 hnd.2.2.1 hR (by rw [hlen]; omega) (tt_jn c V[i] W[i])
    rw [s1]
    simp only [Option.bind_some]
    rw [nI_1]
    have hnext : List.zipWith (tt_jn c) (V.take (i + 1)) (W.take (i + 1)) = List.zipWith (tt_jn c) (V.take i) (W.take i) ++ [tt_jn c V[i] W[i]] := by
      rw [List.take_add_one, List.take_add_one, hv, hw, List.zipWith_append (by rw [List.length_take, List.length_take]; omega)]
      rfl
    obtain ⟨σ2, k1, k2, k3⟩ := ih (i + 1) f σ1 (by omega) (by omega) (hnd.kept fun a b hab => s3 a b (by omega)) (hV.far s3 (by omega)) (hW.far s3 hjk) (by rw [hnext]; exact s2)
    exact ⟨σ2, k1, tr_rwf_tr s3 k2, k3⟩
theorem tr_zip {n k j : Nat} {c : tt_C} {o : Int32} {V W : List Int32} {σ : sf_S} (hj : j < n) (hk1 : k + 1 < n) (hjk : j ≠ k) (hnd : tr_nd 1 n k c o σ) (hV : tr_row σ (k + 1) V) (hW : tr_row σ j W) (hR : tr_row σ k []) : ∃ σ', dX1_zip (nI k) (nI j) σ = some σ' ∧ tr_rwf k σ σ' ∧ tr_row σ' k (List.zipWith (tt_jn c) V W) := by
  have hF := sf_F_le
  have hV60 := hV.1
  have hW60 := hW.1
  have hn := hnd.1
  unfold dX1_zip
  rw [nI_1, tr_has2 hn hnd.2.1 hk1]
  simp only [Option.bind_some]
  rw [if_neg (by decide), tr_has2 hn hnd.2.1 hj]
  simp only [Option.bind_some]
  rw [if_pos (by decide), if_pos (sc_inI (by omega) (by omega)), if_pos (sc_inI (by omega) (by omega)), sc_cl (by omega), sc_cl (by omega), hV.2.1, hW.2.1]
  have hmin : (if nI W.length < nI V.length then nI W.length else nI V.length) = nI (min V.length W.length) := by
    by_cases h : W.length < V.length
    · rw [if_pos (nI_lt h (by omega))]; congr 1; omega
    · rw [if_neg (nI_nlt (by omega) (by omega))]; congr 1; omega
  rw [hmin, sc_0]
  exact tr_zipL hj hk1 hjk _ 0 sf_F σ (Nat.zero_add _) (by omega) hnd hV hW hR
