/-! reading: nodes -/
def sc_due (f : Nat → Int32) : List Nat → Prop
  | [] => True
  | a :: S => f S.length = nI a ∧ sc_due f S
def sc_wnt (f : Nat → Int32) : List Nat → Prop
  | [] => True
  | a :: S => f S.length = nI (if a = 0 then 0 else 1) ∧ sc_wnt f S
theorem sc_due_congr {f g : Nat → Int32} : ∀ {S : List Nat}, (∀ j, j < S.length → g j = f j) → sc_due f S → sc_due g S
  | [], _, _ => trivial
  | a :: S, h, hd => ⟨(h _ (by simp)).trans hd.1, sc_due_congr (fun j hj => h j (by simp; omega)) hd.2⟩
theorem sc_wnt_congr {f g : Nat → Int32} : ∀ {S : List Nat}, (∀ j, j < S.length → g j = f j) → sc_wnt f S → sc_wnt g S
  | [], _, _ => trivial
  | a :: S, h, hd => ⟨(h _ (by simp)).trans hd.1, sc_wnt_congr (fun j hj => h j (by simp; omega)) hd.2⟩
theorem sc_st_len {L : Nat → Int32} : ∀ {m : Nat} {S : List Nat}, sc_st L m = some S → S.length ≤ m + 1 ∧ ∀ a ∈ S, a ≤ m
  | 0, S, h => by cases h; simp
  | m + 1, S, h => by
    obtain ⟨a, X, h1, -, rfl⟩ := sc_st_succ h
    obtain ⟨q1, q2⟩ := sc_st_len h1
    simp only [List.length_cons] at q1
    have qa : a ≤ m := q2 a (by simp)
    have qX : ∀ b ∈ X, b ≤ m := fun b hb => q2 b (by simp [hb])
    unfold sc_push
    split
    · exact ⟨by omega, fun b hb => by have := qX b hb; omega⟩
    · refine ⟨by simp; omega, fun b hb => ?_⟩
      rcases List.mem_cons.mp hb with hb | hb
      · omega
      · have := qX b hb; omega
    · refine ⟨by simp; omega, fun b hb => ?_⟩
      rcases List.mem_cons.mp hb with hb | hb
      · subst hb; split <;> omega
      · rcases List.mem_cons.mp hb with hb | hb
        · omega
        · have := qX b hb; omega
def sc_rC (σ σ' : sf_S) : Prop := ∀ a b, ¬ ((a = 36 ∧ b = 4) ∨ a = 37 ∨ a = 38 ∨ a = 39 ∨ a = 40 ∨ a = 48 ∨ (a = 46 ∧ (b = 4 ∨ b = 5 ∨ b = 6))) → σ' a b = σ a b
theorem sc_rC_tr {τ τ1 τ2 : sf_S} (h1 : sc_rC τ τ1) (h2 : sc_rC τ1 τ2) : sc_rC τ τ2 := fun a b hab => (h2 a b hab).trans (h1 a b hab)
theorem sc_kC_r {τ τ1 : sf_S} (h : sc_kC τ τ1) : sc_rC τ τ1 := fun a b hab => h a b (by omega)
theorem sc_expect {σ : sf_S} {d a : Nat} {x : Int32} (hx : x = nI a) (h : σ 46 4 = nI d) (hd : d ≤ 40) : dX4_expect x σ = some (sf_up (sf_up σ 48 d (nI a)) 46 4 (nI (d + 1))) := by
  unfold dX4_expect
  rw [h, sc_c40, if_pos (nI_le hd (by omega))]
  simp only []
  rw [if_pos (sc_inI (by omega) (by omega)), sc_cl (by omega), sc_upK (by omega), h, nI_1, hx]
theorem sc_expParts {σ : sf_S} {c : Int32} {a : Nat} {S : List Nat} (hS : S.length + 2 ≤ 41) (h : σ 46 4 = nI S.length) (hd : sc_due (σ 48) S) : ∃ σ', dX4_expectParts c (nI a) σ = some σ' ∧ σ' 46 4 = nI (sc_push c a S).length ∧ sc_due (σ' 48) (sc_push c a S) ∧ ∀ x y, ¬ (x = 48 ∨ (x = 46 ∧ y = 4)) → σ' x y = σ x y := by
  unfold dX4_expectParts dX4_expectParts_15
  rw [sc_partsC]
  simp only [Option.bind_some]
  have frm : ∀ (s : sf_S) (d : Nat) (v w : Int32) (x y : Nat), ¬ (x = 48 ∨ (x = 46 ∧ y = 4)) → sf_up (sf_up s 48 d v) 46 4 w x y = s x y := fun s d v w x y hxy => by
    by_cases h46 : x = 46
    · subst h46; rw [sc_upJ (by omega), sc_upK (by omega)]
    · rw [sc_upK h46, sc_upK (by omega)]
  have row : ∀ (s : sf_S) (d : Nat) (v w : Int32) (j : Nat), j ≠ d → sf_up (sf_up s 48 d v) 46 4 w 48 j = s 48 j := fun s d v w j hj => by
    rw [sc_upK (by omega), sc_upJ hj]
  have top : ∀ (s : sf_S) (d : Nat) (v w : Int32), sf_up (sf_up s 48 d v) 46 4 w 48 d = v := fun s d v w => by
    rw [sc_upK (by omega), sc_upS]
  rcases sc_p3 c with hp | hp | hp
  · rw [hp, if_pos (by decide +kernel), if_pos (by decide +kernel)]
    exact ⟨σ, rfl, by simp only [sc_push, hp]; exact h, by simp only [sc_push, hp]; exact hd, fun _ _ _ => rfl⟩
  · have hx : ¬ c = 120 := sc_p2n (by omega)
    rw [hp, if_pos (by decide +kernel), if_neg (by decide +kernel), if_pos hx, sc_expect rfl h (by omega)]
    refine ⟨_, rfl, by simp only [sc_push, hp]; exact sc_upS, ?_, fun x y hxy => frm _ _ _ _ _ _ hxy⟩
    simp only [sc_push, hp]
    exact ⟨top _ _ _ _, sc_due_congr (fun j hj => row _ _ _ _ j (by omega)) hd⟩
  · rw [hp, if_neg (by decide +kernel), sc_expect rfl h (by omega)]
    simp only [Option.bind_some]
    rw [if_neg (by decide +kernel)]
    by_cases hx : c = 120
    · rw [if_neg (by simp [hx]), sc_expect (a := a + 1) (nI_1 a) sc_upS (by omega)]
      refine ⟨_, rfl, by simp only [sc_push, hp, List.length_cons]; exact sc_upS, ?_, fun x y hxy => by rw [frm _ _ _ _ _ _ hxy, frm _ _ _ _ _ _ hxy]⟩
      simp only [sc_push, hp, if_pos hx]
      exact ⟨top _ _ _ _, (row _ _ _ _ _ (by omega)).trans (top _ _ _ _), sc_due_congr (fun j hj => (row _ _ _ _ j (by omega)).trans (row _ _ _ _ j (by omega))) hd⟩
    · rw [if_pos hx, sc_expect rfl sc_upS (by omega)]
      refine ⟨_, rfl, by simp only [sc_push, hp, List.length_cons]; exact sc_upS, ?_, fun x y hxy => by rw [frm _ _ _ _ _ _ hxy, frm _ _ _ _ _ _ hxy]⟩
      simp only [sc_push, hp, if_neg hx]
      exact ⟨top _ _ _ _, (row _ _ _ _ _ (by omega)).trans (top _ _ _ _), sc_due_congr (fun j hj => (row _ _ _ _ j (by omega)).trans (row _ _ _ _ j (by omega))) hd⟩
/-- a plan's node, added -/
theorem sc_add {q m : Nat} {σ : sf_S} (h : σ q 4 = nI m) (hm : m < 40) (a b c d : Int32) : ∃ σ', dX2_add q a b c d σ = some σ' ∧ σ' q 4 = nI (m + 1) ∧ σ' (q + 1) m = a ∧ σ' (q + 2) m = b ∧ σ' (q + 3) m = c ∧ σ' (q + 4) m = d ∧ ∀ x y, ¬ ((x = q ∧ y = 4) ∨ ((x = q + 1 ∨ x = q + 2 ∨ x = q + 3 ∨ x = q + 4) ∧ y = m)) → σ' x y = σ x y := by
  unfold dX2_add
  rw [h, sc_c40, if_pos (nI_lt hm (by omega))]
  simp (disch := omega) only [sc_inI (show m < 40 from hm) (by omega : 40 ≤ 10000), if_true, sc_cl (show m < 2 ^ 31 by omega), sc_upK, h, nI_1]
  refine ⟨_, rfl, sc_upS, ?_, ?_, ?_, ?_, fun x y hxy => ?_⟩
  · simp (disch := omega) only [sc_upK, sc_upS]
  · simp (disch := omega) only [sc_upK, sc_upS]
  · simp (disch := omega) only [sc_upK, sc_upS]
  · simp (disch := omega) only [sc_upK, sc_upS]
  · have : ∀ (s : sf_S) (k' j' : Nat) (v : Int32), (x ≠ k' ∨ y ≠ j') → sf_up s k' j' v x y = s x y := fun s k' j' v h => by
      rcases h with h | h
      · exact sc_upK h
      · exact sc_upJ h
    rw [this _ _ _ _ (by omega), this _ _ _ _ (by omega), this _ _ _ _ (by omega), this _ _ _ _ (by omega), this _ _ _ _ (by omega)]
/-- what holds between two nodes that are read -/
def sc_nd (m : Nat) (σ τ : sf_S) : Prop := ∀ j, j < m → σ 37 j = τ 7 j ∧ σ 38 j = τ 8 j ∧ σ 39 j = τ 9 j ∧ σ 40 j = τ 10 j ∧ sc_vr (τ 7 j) (τ 8 j) (τ 9 j) (τ 10 j)
def sc_Bd (σ τ : sf_S) (t : Nat) (B : Nat → Nat) (i m : Nat) (S : List Nat) : Prop :=
  sc_By σ τ t B ∧ i ≤ t ∧ m ≤ i ∧ σ 46 5 = nI i ∧ σ 46 6 = -1 ∧ σ 36 4 = nI m ∧ τ 0 16 = nI m ∧ σ 46 4 = nI S.length ∧ τ 0 8 = nI S.length ∧ sc_due (σ 48) S ∧ sc_wnt (τ 6) S ∧ τ 0 9 = 0 ∧ τ 0 10 = 0 ∧ τ 0 11 = 0 ∧ sc_st (τ 7) m = some S ∧ sc_nd m σ τ ∧ 3 * sc_ws (τ 7) m ≤ 25 * i
/-- the reference takes a letter -/
theorem sc_tL {τ : sf_S} {c : Int32} {o w m : Nat} (ho : o ≤ 1) (hm : m < 40) (hw : w + 8 < 160) (g8 : τ 0 8 = nI (w + 1)) (g16 : τ 0 16 = nI m) : dX12_takesLetter c (nI o) τ = if (sc_il c && !(sc_uv c && decide (o = 0))) = true then
      (some (1, sc_pw (sc_pt c o ++ sc_xw c) w (sf_up (sf_up (sf_up (sf_up (sf_up (sf_up τ 0 8 (nI w)) 7 m c) 8 m (-1)) 9 m 0) 10 m 0) 0 16 (nI (m + 1)))) : Option (Int32 × sf_S)) else some (0, τ) := by
  have h26 : sc_il c = true → dX12_takesLetter_26 c (nI o) τ = some (1, sc_pw (sc_pt c o ++ sc_xw c) w (sf_up (sf_up (sf_up (sf_up (sf_up (sf_up τ 0 8 (nI w)) 7 m c) 8 m (-1)) 9 m 0) 10 m 0) 0 16 (nI (m + 1)))) := fun hc => by
    unfold dX12_takesLetter_26
    rw [g8, nI_pred]
    simp (disch := omega) only [sc_upK, sc_upJ, g16, sc_inI (show m < 40 from hm) (by omega : 40 ≤ 10000), if_true, sc_cl (show m < 2 ^ 31 by omega), nI_1]
    rw [sc_wb hc (w := w) (by simp (disch := omega) only [sc_upK, sc_upJ, sc_upS]) hw]
    rfl
  have ho0 : (nI o = 0) ↔ o = 0 := by rw [sc_0, nI_eq (by omega) (by omega)]
  unfold dX12_takesLetter
  rw [sc_partsM]
  simp only [Option.bind_some, ho0]
  cases hc : sc_il c
  · rw [if_neg Bool.false_ne_true, if_pos rfl]; simp
  · have hp := sc_p_le c
    rw [if_pos rfl, if_neg (sc_nm1 (by omega))]
    by_cases h1 : c = 117
    · have hu : sc_uv c = true := by rw [h1]; decide +kernel
      rw [if_pos h1, hu]
      by_cases h0 : o = 0
      · rw [if_neg (by simp [h0])]; simp [h0]
      · rw [if_pos h0, h26 hc]; simp [h0]
    by_cases h2 : c = 118
    · have hu : sc_uv c = true := by rw [h2]; decide +kernel
      rw [if_neg h1, if_neg (by simp [h2]), hu]
      by_cases h0 : o = 0
      · rw [if_neg (by simp [h0])]; simp [h0]
      · rw [if_pos h0, h26 hc]; simp [h0]
    · have hu : sc_uv c = false := by simp [sc_uv, h1, h2]
      rw [if_neg h1, if_pos h2, hu, h26 hc]; simp
theorem sc_node {σ τ : sf_S} {t i m a : Nat} {B : Nat → Nat} {S : List Nat} (h : sc_Bd σ τ t B i m (a :: S)) :
    (∃ i' σ' τ', i < i' ∧ dX4_readNode σ = some σ' ∧ sc_fl i τ = sc_fl i' τ' ∧ sc_rC σ σ' ∧ sc_kF τ τ' ∧ sc_Bd σ' τ' t B i' (m + 1) (sc_push (τ' 7 m) a S)) ∨
    ∃ f σ' τ', f ≤ t ∧ dX4_readNode σ = some σ' ∧ sc_fl i τ = some (nI f, τ') ∧ sc_rC σ σ' ∧ sc_kF τ τ' ∧ σ' 46 6 = nI f := by
  obtain ⟨hBy, hi, hmi, h5, h6, h364, h16, h464, h8, hdue, hwnt, g9, g10, g11, hst, hnd, hws⟩ := h
  obtain ⟨hl1, hl2⟩ := sc_st_len hst
  simp only [List.length_cons] at hl1 h464 h8
  have ha : a ≤ m := hl2 a (by simp)
  have hBy' := hBy
  obtain ⟨ht, b2, b6, bB⟩ := hBy
  have hBc : ∀ j, j < t → σ 47 j = nI (B j) := fun j hj => (bB j hj).1
  -- the class, up to the letter
  have hc : dX4_readNode σ = (dX4_accept (sc_b (sc_il (sc_pk t B i) && !(sc_uv (sc_pk t B i) && decide (a = 0)))) (sf_up σ 46 4 (nI S.length))).bind fun u => sc_Tn (nI a) (sc_pk t B i) u := by
    unfold dX4_readNode
    rw [h464, if_pos (by rw [sc_0]; exact nI_lt (by omega) (by omega)), nI_pred]
    simp only [sc_upS]
    rw [if_pos (sc_inI (by omega) (by omega)), sc_cl (by omega), sc_upK (by omega), hdue.1, sc_peek ht (by rw [sc_upJ (by omega)]; exact b2) (fun j hj => by rw [sc_upK (by omega)]; exact hBc j hj) (by rw [sc_upJ (by omega)]; exact h5) hi]
    simp only [Option.bind_some]
    rw [sc_ilC (by omega)]
    rfl
  have hs1 : sc_rC σ (sf_up σ 46 4 (nI S.length)) := fun x y hxy => by
    by_cases h46 : x = 46
    · subst h46; exact sc_upJ (by omega)
    · exact sc_upK h46
  have hs6 : sf_up σ 46 4 (nI S.length) 46 6 = -1 := by rw [sc_upJ (by omega)]; exact h6
  have hs5 : sf_up σ 46 4 (nI S.length) 46 5 = nI i := by rw [sc_upJ (by omega)]; exact h5
  have hs2 : sf_up σ 46 4 (nI S.length) 46 2 = nI t := by rw [sc_upJ (by omega)]; exact b2
  have hbad : (sc_il (sc_pk t B i) && !(sc_uv (sc_pk t B i) && decide (a = 0))) = false → sc_fl i τ = some (nI i, τ) → ∃ f σ' τ', f ≤ t ∧ dX4_readNode σ = some σ' ∧ sc_fl i τ = some (nI f, τ') ∧ sc_rC σ σ' ∧ sc_kF τ τ' ∧ σ' 46 6 = nI f := fun q1 q2 => by
    rw [q1, show sc_b false = 0 from rfl, sc_acc0 hs5 hs6] at hc
    simp only [Option.bind_some] at hc
    rw [sc_TnD ht (by rw [sc_upJ (by omega)]; exact hs2) (by rw [sc_upJ (by omega)]; exact hs5) hi (by rw [sc_upS]; exact sc_nm1 (by omega))] at hc
    exact ⟨i, _, τ, hi, hc, q2, sc_rC_tr hs1 (sc_kC_r (sc_kC6 _ _)), fun _ _ _ => rfl, sc_upS⟩
  by_cases hit : i < t
  rotate_left
  · have hgo := sc_fl_end ht b6 (by omega : i ≤ 40) (by omega)
    rw [h8, if_pos (nI_ne0 (by omega) (by omega)), show t = i by omega] at hgo
    exact Or.inr (hbad (by rw [sc_pk, if_neg hit, sc_il_m1]; rfl) hgo)
  have hpk : sc_pk t B i = nI (B i) := if_pos hit
  have ho : (if a = 0 then 0 else 1) ≤ 1 := by split <;> omega
  have ho0 : decide ((if a = 0 then 0 else 1) = 0) = decide (a = 0) := by by_cases h : a = 0 <;> simp [h]
  have hgo := sc_fl_go ht b6 hit (show S.length < 160 by omega) h8 hwnt.1 (by omega)
  rw [if_neg (by omega), if_neg (by omega), (bB i hit).2.1, sc_tL ho (by omega) (by omega) h8 h16, ho0] at hgo
  rw [hpk] at hc hbad
  by_cases hok : (sc_il (nI (B i)) && !(sc_uv (nI (B i)) && decide (a = 0))) = true
  rotate_left
  · rw [if_neg hok] at hgo
    exact Or.inr (hbad (by simpa using hok) (by simpa using hgo))
  rw [if_pos hok] at hgo
  simp only [Option.bind_some] at hgo
  rw [if_pos (by decide)] at hgo
  rw [hok, sc_acc1 ht hs2 hs5 hs6 hit (by decide)] at hc
  simp only [Option.bind_some] at hc
  have hil : sc_il (nI (B i)) = true := by
    cases e : sc_il (nI (B i))
    · rw [e] at hok; cases hok
    · rfl
  have huv : ¬ (sc_uv (nI (B i)) = true ∧ a = 0) := fun q => by rw [q.1, q.2] at hok; simp at hok
  generalize hcdef : nI (B i) = c at hc hgo hok hil huv
  have hwn := hwnt
  obtain ⟨-, hwnS⟩ := hwn
  generalize hodef : (if a = 0 then 0 else 1) = o at hgo ho
  generalize hτ0 : sf_up (sf_up (sf_up (sf_up (sf_up (sf_up τ 0 8 (nI S.length)) 7 m c) 8 m (-1)) 9 m 0) 10 m 0) 0 16 (nI (m + 1)) = τ0 at hgo
  have z8 : τ0 0 8 = nI S.length := by rw [← hτ0]; simp (disch := omega) only [sc_upK, sc_upJ, sc_upS]
  have zk : sc_kF τ τ0 := fun x y hxy => by
    have : ∀ (s : sf_S) (k' j' : Nat) (v : Int32), (x ≠ k' ∨ y ≠ j') → sf_up s k' j' v x y = s x y := fun s k' j' v h => by
      rcases h with h | h
      · exact sc_upK h
      · exact sc_upJ h
    rw [← hτ0, this _ _ _ _ (by omega), this _ _ _ _ (by omega), this _ _ _ _ (by omega), this _ _ _ _ (by omega), this _ _ _ _ (by omega), this _ _ _ _ (by omega)]
  have z9 : τ0 0 9 = 0 := by rw [← hτ0]; simp (disch := omega) only [sc_upK, sc_upJ]; exact g9
  have z10 : τ0 0 10 = 0 := by rw [← hτ0]; simp (disch := omega) only [sc_upK, sc_upJ]; exact g10
  have z11 : τ0 0 11 = 0 := by rw [← hτ0]; simp (disch := omega) only [sc_upK, sc_upJ]; exact g11
  have z16 : τ0 0 16 = nI (m + 1) := by rw [← hτ0]; exact sc_upS
  have y7 : τ0 7 m = c := by rw [← hτ0]; simp (disch := omega) only [sc_upK, sc_upS]
  have y8 : τ0 8 m = -1 := by rw [← hτ0]; simp (disch := omega) only [sc_upK, sc_upS]
  have y9 : τ0 9 m = 0 := by rw [← hτ0]; simp (disch := omega) only [sc_upK, sc_upS]
  have y10 : τ0 10 m = 0 := by rw [← hτ0]; simp (disch := omega) only [sc_upK, sc_upS]
  have yj : ∀ j, j < m → τ0 7 j = τ 7 j ∧ τ0 8 j = τ 8 j ∧ τ0 9 j = τ 9 j ∧ τ0 10 j = τ 10 j := fun j hj => by
    rw [← hτ0]; simp (disch := omega) only [sc_upK, sc_upJ]; exact ⟨trivial, trivial, trivial, trivial⟩
  have y6 : ∀ j, τ0 6 j = τ 6 j := fun j => by rw [← hτ0]; simp (disch := omega) only [sc_upK]
  have hptl : (sc_pt c o).length ≤ 2 := by unfold sc_pt; repeat' split
                                           all_goals simp
  generalize hτ1 : sc_pw (sc_pt c o ++ sc_xw c) S.length τ0 = τ1 at hgo
  have ne1 : ∀ x y, ¬ (x = 0 ∧ y = 8) → ¬ (x = 6 ∧ S.length ≤ y) → τ1 x y = τ0 x y := fun x y q1 q2 => by rw [← hτ1]; exact sc_pw_ne _ _ _ _ _ q1 q2
  have k1 : sc_kF τ τ1 := fun x y hxy => (ne1 x y (by omega) (by omega)).trans (zk x y hxy)
  have w8 : τ1 0 8 = nI (S.length + (sc_pt c o).length + (sc_xw c).length) := by rw [← hτ1, sc_pw8 _ _ _ z8, List.length_append, Nat.add_assoc]
  have wat : ∀ j x, (sc_pt c o ++ sc_xw c)[j]? = some x → τ1 6 (S.length + j) = nI x := fun j x hj => by rw [← hτ1]; exact sc_pw_at _ _ _ _ _ hj
  have hrun := sc_tail (v3 := nI a) (c := c) (w0 := S.length + (sc_pt c o).length) (i := i + 1) (m := m) (σ := sf_up (sf_up σ 46 4 (nI S.length)) 46 5 (nI (i + 1))) (τ := τ1) (t := t) (B := B) (by omega) (by omega) hil
    (hBy'.kept (fun x y hxy => by rcases hxy with ⟨h, h'⟩ | h; rw [sc_upJ (by omega), sc_upJ (by omega)]; rw [sc_upK (by omega), sc_upK (by omega)]) (fun x y hxy => k1 x y (by omega))) (by omega) sc_upS (by rw [sc_upJ (by omega)]; exact hs6) w8
    (fun j x hj => by rw [Nat.add_assoc]; exact wat _ _ (by rw [List.getElem?_append_right (by omega), Nat.add_sub_cancel_left]; exact hj)) ((ne1 _ _ (by omega) (by omega)).trans z9) ((ne1 _ _ (by omega) (by omega)).trans z10) ((ne1 _ _ (by omega) (by omega)).trans z11) ((ne1 _ _ (by omega) (by omega)).trans z16) ((ne1 _ _ (by omega) (by omega)).trans y8) ((ne1 _ _ (by omega) (by omega)).trans y9) ((ne1 _ _ (by omega) (by omega)).trans y10)
  rw [← hc] at hrun
  have hσ1 : sc_rC σ (sf_up (sf_up σ 46 4 (nI S.length)) 46 5 (nI (i + 1))) := sc_rC_tr hs1 (sc_kC_r (sc_kC5 _ _))
  rcases hrun with ⟨i', mk, f, s, σ', τ', f1, f2, f3, f4, f5, f6, f7, f8, f9, a1, a2, a3, a4, a5, a6, a7⟩ | ⟨f, i', σ', τ', f1, f2, f3, f4, f5, f6, f7, f8⟩
  rotate_left
  · exact Or.inr ⟨f, σ', τ', f1, f3, hgo.trans f7, sc_rC_tr hσ1 (sc_kC_r f4), sc_kF_tr k1 f8, f5⟩
  unfold dX4_readNode_96 at f4
  have r364 : σ' 36 4 = nI m := by rw [f5 _ _ (by omega), sc_upK (by omega), sc_upK (by omega)]; exact h364
  obtain ⟨u, u1, u2, u3, u4, u5, u6, u7⟩ := sc_add (q := 36) r364 (by omega) c mk f s
  rw [if_pos f7, u1] at f4
  simp only [Option.bind_some] at f4
  have v464 : u 46 4 = nI S.length := by rw [u7 _ _ (by omega), f5 _ _ (by omega), sc_upJ (by omega), sc_upS]
  have v48 : sc_due (u 48) S := sc_due_congr (fun j hj => by rw [u7 _ _ (by omega), f5 _ _ (by omega), sc_upK (by omega), sc_upK (by omega)]) hdue.2
  obtain ⟨σ2, x1, x2, x3, x4⟩ := sc_expParts (c := c) (a := a) (by omega) v464 v48
  rw [x1] at f4
  simp only [Option.bind_some] at f4
  have t7 : τ' 7 m = c := (f9 7 m (by omega)).trans ((ne1 _ _ (by omega) (by omega)).trans y7)
  have t7j : ∀ j, j < m → τ' 7 j = τ 7 j := fun j hj => (f9 7 j (by omega)).trans ((ne1 _ _ (by omega) (by omega)).trans (yj j hj).1)
  have t6 : ∀ j, τ' 6 j = τ1 6 j := fun j => f9 6 j (by omega)
  have t6S : sc_wnt (τ' 6) S := sc_wnt_congr (fun j hj => (t6 j).trans ((ne1 6 j (by omega) (by omega)).trans (y6 j))) hwnS
  have hCu : sc_rC σ σ2 := fun x y hxy => by
    rw [x4 x y (by omega), u7 x y (by omega), f5 x y (by omega)]
    exact hσ1 x y hxy
  refine Or.inl ⟨i', σ2, τ', by omega, f4, hgo.trans f8, hCu, sc_kF_tr k1 (sc_kM_F f9), ?_⟩
  rw [t7]
  have hlen : (sc_push c a S).length = S.length + (sc_pt c o).length := by
    unfold sc_push sc_pt
    rcases sc_p3 c with q | q | q
    · simp [q]
    · simp [q]
    · simp only [q, show ¬ (2 : Nat) = 0 by decide, show ¬ (2 : Nat) = 1 by decide, if_false]
      by_cases hx : c = 120
      · rw [if_pos hx, if_pos hx]; rfl
      · rw [if_neg hx, if_neg hx]; rfl
  refine ⟨hBy'.kept (fun x y hxy => hCu x y (by omega)) (fun x y hxy => sc_kF_tr k1 (sc_kM_F f9) x y (by omega)), f2, by omega, ?_, ?_, ?_, ?_, x2, ?_, x3, ?_, a2, a3, a4, ?_, fun j hj => ?_, ?_⟩
  · rw [x4 _ _ (by omega), u7 _ _ (by omega)]; exact f6
  · rw [x4 _ _ (by omega), u7 _ _ (by omega)]; exact f7
  · rw [x4 _ _ (by omega)]; exact u2
  · exact (f9 0 16 (by omega)).trans ((ne1 _ _ (by omega) (by omega)).trans z16)
  · rw [a1, hlen]
  · have at0 : ∀ x, (sc_pt c o ++ sc_xw c)[0]? = some x → τ' 6 S.length = nI x := fun x hx => (t6 _).trans (by have := wat 0 x hx; rwa [Nat.add_zero] at this)
    have at1 : ∀ x, (sc_pt c o ++ sc_xw c)[1]? = some x → τ' 6 (S.length + 1) = nI x := fun x hx => (t6 _).trans (wat 1 x hx)
    unfold sc_push
    unfold sc_pt at at0 at1
    rcases sc_p3 c with q | q | q
    · simp only [q]; exact t6S
    · simp only [q, show ¬ (1 : Nat) = 0 by decide, if_false, if_true] at at0 ⊢
      exact ⟨by rw [hodef]; exact at0 o rfl, t6S⟩
    · simp only [q, show ¬ (2 : Nat) = 0 by decide, show ¬ (2 : Nat) = 1 by decide, if_false] at at0 at1 ⊢
      by_cases hx : c = 120
      · simp only [hx, if_true] at at0 at1 ⊢
        exact ⟨by rw [if_neg (by omega)]; exact at1 1 rfl, by rw [hodef]; exact at0 o rfl, t6S⟩
      · simp only [hx, if_false] at at0 at1 ⊢
        exact ⟨by rw [hodef]; exact at1 o rfl, by rw [hodef]; exact at0 o rfl, t6S⟩
  · simp only [sc_st]
    rw [sc_st_congr (L := τ 7) (n := m) (fun j hj => t7j j hj), hst, t7]
    simp only [Option.bind_some, sc_stp]
    rw [if_neg huv]
  · by_cases hjm : j = m
    · subst hjm
      rw [x4 _ _ (by omega), x4 _ _ (by omega), x4 _ _ (by omega), x4 _ _ (by omega), u3, u4, u5, u6, t7, a5, a6, a7]
      exact ⟨rfl, rfl, rfl, rfl, f3⟩
    · obtain ⟨n1, n2, n3, n4, n5⟩ := hnd j (by omega)
      obtain ⟨p7, p8, p9, p10⟩ := yj j (by omega)
      have q : ∀ x, x = 37 ∨ x = 38 ∨ x = 39 ∨ x = 40 → σ2 x j = σ x j := fun x hx => by
        rw [x4 _ _ (by omega), u7 _ _ (by omega), f5 _ _ (by omega), sc_upK (by omega), sc_upK (by omega)]
      have q2 : ∀ x, x = 7 ∨ x = 8 ∨ x = 9 ∨ x = 10 → τ' x j = τ0 x j := fun x hx => by
        rw [f9 _ _ (by omega), ne1 _ _ (by omega) (by omega)]
      rw [q 37 (by omega), q 38 (by omega), q 39 (by omega), q 40 (by omega), q2 7 (by omega), q2 8 (by omega), q2 9 (by omega), q2 10 (by omega), p7, p8, p9, p10]
      exact ⟨n1, n2, n3, n4, n5⟩
  · have hph := sc_ph_be hil
    rw [sc_ws, t7, sc_ws_congr (L := τ 7) (n := m) (fun j hj => t7j j hj)]
    omega
