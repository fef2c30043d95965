/-! way 2: a list without failure, all of it: what it gives, and a bound for what it draws -/
def tv_al : tv_L → List Int32 → Nat → Prop
  | [], V, _ => V = []
  | .inl v :: l, V, D => ∃ V', V = v :: V' ∧ tv_al l V' D
  | .inr none :: l, V, D => ∃ D', D = D' + 1 ∧ tv_al l V D'
  | .inr (some (t, _, _)) :: l, V, D => t = 1 ∧ tv_al l V D
theorem tv_al.mono : ∀ {E : tv_L} {V : List Int32} {D D' : Nat}, tv_al E V D → D ≤ D' → tv_al E V D'
  | [], _, _, _, h, _ => h
  | .inl _ :: _, _, _, _, ⟨V', h1, h2⟩, h => ⟨V', h1, h2.mono h⟩
  | .inr none :: _, _, _, D', ⟨D1, h1, h2⟩, h => ⟨D' - 1, by omega, h2.mono (by omega)⟩
  | .inr (some (_, _, _)) :: _, _, _, _, ⟨h1, h2⟩, h => ⟨h1, h2.mono h⟩
theorem tv_al_rn : ∀ {E : tv_L} {V : List Int32} {D : Nat} (m d : Nat), tv_al E V D → d + D ≤ 500 → (tv_rn m E d).1 = V.take m ∧ (tv_rn m E d).2.2.1 ≤ d + D ∧ (tv_rn m E d).2.2.2 = none
  | E, V, D, 0, d, _, h => by
    have e : tv_rn 0 E d = ([], [], d, none) := by cases E <;> rfl
    rw [e]; simp
  | [], V, D, m + 1, d, h, hd => by
    have : V = [] := h
    subst this
    simp [tv_rn]
  | .inl v :: l, V, D, m + 1, d, ⟨V', h1, h2⟩, hd => by
    subst h1
    obtain ⟨g1, g2, g3⟩ := tv_al_rn m d h2 hd
    simp only [tv_rn, List.take_succ_cons, g1, g3, true_and]
    exact ⟨g2, trivial⟩
  | .inr none :: l, V, D, m + 1, d, ⟨D', h1, h2⟩, hd => by
    subst h1
    obtain ⟨g1, g2, g3⟩ := tv_al_rn (m + 1) (d + 1) h2 (by omega)
    simp only [tv_rn]
    rw [if_pos (by omega)]
    exact ⟨g1, by omega, g3⟩
  | .inr (some (t, a, b)) :: l, V, D, m + 1, d, ⟨h1, h2⟩, hd => by
    obtain ⟨g1, g2, g3⟩ := tv_al_rn (m + 1) d h2 hd
    simp only [tv_rn]
    rw [if_pos h1]
    exact ⟨g1, g2, g3⟩
theorem tv_al_app : ∀ {A B : tv_L} {V W : List Int32} {D D2 : Nat}, tv_al A V D → tv_al B W D2 → tv_al (A ++ B) (V ++ W) (D + D2)
  | [], B, V, W, D, D2, h, h2 => by
    have : V = [] := h
    subst this
    exact h2.mono (by omega)
  | .inl v :: l, B, V, W, D, D2, ⟨V', h1, h3⟩, h2 => ⟨V' ++ W, by rw [h1]; rfl, tv_al_app h3 h2⟩
  | .inr none :: l, B, V, W, D, D2, ⟨D', h1, h3⟩, h2 => ⟨D' + D2, by omega, tv_al_app h3 h2⟩
  | .inr (some (t, a, b)) :: l, B, V, W, D, D2, ⟨h1, h3⟩, h2 => ⟨h1, tv_al_app h3 h2⟩
/-- what comes of each number -/
def tv_bd (f : Int32 → tv_L) : List Int32 → List Int32 → Nat → Prop
  | [], W, _ => W = []
  | v :: V, W, D => ∃ W1 W2 D1 D2, W = W1 ++ W2 ∧ D = D1 + D2 ∧ tv_al (f v) W1 D1 ∧ tv_bd f V W2 D2
theorem tv_bd_snoc {f : Int32 → tv_L} {v : Int32} {W1 : List Int32} {D1 : Nat} (h1 : tv_al (f v) W1 D1) : ∀ {V W : List Int32} {D : Nat}, tv_bd f V W D → tv_bd f (V ++ [v]) (W ++ W1) (D + D1)
  | [], W, D, h => by
    have : W = [] := h
    subst this
    exact ⟨W1, [], D + D1, 0, by simp, rfl, h1.mono (by omega), rfl⟩
  | x :: V, W, D, ⟨A, B, Da, Db, e1, e2, e3, e4⟩ => ⟨A, B ++ W1, Da, Db + D1, by rw [e1, List.append_assoc], by omega, e3, tv_bd_snoc h1 e4⟩
theorem tv_al_bnd {f : Int32 → tv_L} : ∀ {E : tv_L} {V W : List Int32} {D D2 : Nat}, tv_al E V D → tv_bd f V W D2 → tv_al (tv_bnd f E) W (D + D2)
  | [], V, W, D, D2, h, h2 => by
    have : V = [] := h
    subst this
    exact h2
  | .inl v :: l, V, W, D, D2, ⟨V', h1, h3⟩, h2 => by
    subst h1
    obtain ⟨A, B, Da, Db, e1, e2, e3, e4⟩ := h2
    subst e1; subst e2
    exact (tv_al_app e3 (tv_al_bnd h3 e4)).mono (by omega)
  | .inr none :: l, V, W, D, D2, ⟨D', h1, h3⟩, h2 => ⟨D' + D2, by omega, tv_al_bnd h3 h2⟩
  | .inr (some (t, a, b)) :: l, V, W, D, D2, ⟨h1, h3⟩, h2 => ⟨h1, tv_al_bnd h3 h2⟩
theorem tv_al_tk : ∀ {E : tv_L} {V : List Int32} {D : Nat} (n : Nat), tv_al E V D → tv_al (tv_tk E n) (V.take n) D
  | E, V, D, 0, h => by rw [tv_tk0, List.take_zero]; rfl
  | [], V, D, n + 1, h => by
    have : V = [] := h
    subst this
    exact List.take_nil
  | .inl v :: l, V, D, n + 1, ⟨V', h1, h3⟩ => ⟨V'.take n, by rw [h1]; rfl, tv_al_tk n h3⟩
  | .inr none :: l, V, D, n + 1, ⟨D', h1, h3⟩ => ⟨D', h1, tv_al_tk (n + 1) h3⟩
  | .inr (some (t, a, b)) :: l, V, D, n + 1, ⟨h1, h3⟩ => ⟨h1, tv_al_tk (n + 1) h3⟩
theorem tv_al_dr : ∀ {E : tv_L} {V : List Int32} {D : Nat} (n : Nat), tv_al E V D → tv_al (tv_dr E n) (V.drop n) D
  | E, V, D, 0, h => by rw [tv_dr0, List.drop_zero]; exact h
  | [], V, D, n + 1, h => by
    have : V = [] := h
    subst this
    exact List.drop_nil
  | .inl v :: l, V, D, n + 1, ⟨V', h1, h3⟩ => by rw [h1]; exact tv_al_dr n h3
  | .inr none :: l, V, D, n + 1, ⟨D', h1, h3⟩ => ⟨D', h1, tv_al_dr (n + 1) h3⟩
  | .inr (some (t, a, b)) :: l, V, D, n + 1, ⟨h1, h3⟩ => ⟨h1, tv_al_dr (n + 1) h3⟩
theorem tv_al_tw {p : Int32 → Bool} : ∀ {E : tv_L} {V : List Int32} {D : Nat}, tv_al E V D → tv_al (tv_tw p E) (V.takeWhile p) D
  | [], V, D, h => by
    have : V = [] := h
    subst this
    exact rfl
  | .inl v :: l, V, D, ⟨V', h1, h3⟩ => by
    subst h1
    simp only [tv_tw]
    by_cases hp : p v = true
    · rw [if_pos hp]
      exact ⟨V'.takeWhile p, by simp [List.takeWhile_cons, hp], tv_al_tw h3⟩
    · rw [if_neg hp]
      show List.takeWhile p (v :: V') = []
      simp [List.takeWhile_cons, hp]
  | .inr none :: l, V, D, ⟨D', h1, h3⟩ => ⟨D', h1, tv_al_tw h3⟩
  | .inr (some (t, a, b)) :: l, V, D, ⟨h1, h3⟩ => ⟨h1, tv_al_tw h3⟩
theorem tv_al_sp : ∀ {Q : tv_L} {W : List Int32} {D : Nat}, tv_al Q W D → ∃ D1 D2, D1 + D2 = D ∧ tv_al (tv_sp Q).1 [] D1 ∧ ((W = [] ∧ (tv_sp Q).2 = none) ∨ ∃ u W' Q2, W = u :: W' ∧ (tv_sp Q).2 = some (u, Q2) ∧ tv_al Q2 W' D2)
  | [], W, D, h => ⟨D, 0, rfl, rfl, Or.inl ⟨h, rfl⟩⟩
  | .inl v :: l, W, D, ⟨V', h1, h3⟩ => ⟨0, D, by omega, rfl, Or.inr ⟨v, V', l, h1, rfl, h3⟩⟩
  | .inr none :: l, W, D, ⟨D', h1, h3⟩ => by
    obtain ⟨D1, D2, e1, e2, e3⟩ := tv_al_sp h3
    exact ⟨D1 + 1, D2, by omega, ⟨D1, rfl, e2⟩, e3⟩
  | .inr (some (t, a, b)) :: l, W, D, ⟨h1, h3⟩ => by
    obtain ⟨D1, D2, e1, e2, e3⟩ := tv_al_sp h3
    exact ⟨D1, D2, e1, ⟨h1, e2⟩, e3⟩
theorem tv_al_zp {j : Int32 → Int32 → Int32} : ∀ {P Q : tv_L} {V W : List Int32} {D D2 : Nat}, tv_al P V D → tv_al Q W D2 → tv_al (tv_zp j P Q) (List.zipWith j V W) (D + D2)
  | [], Q, V, W, D, D2, h, h2 => by
    have : V = [] := h
    subst this
    rfl
  | .inl v :: l, Q, V, W, D, D2, ⟨V', h1, h3⟩, h2 => by
    subst h1
    obtain ⟨D3, D4, e1, e2, e3⟩ := tv_al_sp h2
    simp only [tv_zp]
    rcases e3 with ⟨rfl, e4⟩ | ⟨u, W', Q2, rfl, e4, e5⟩
    · rw [e4]
      exact (tv_al_app (B := []) (W := []) (D2 := 0) e2 (show tv_al [] [] 0 from rfl)).mono (by omega)
    · rw [e4]
      have := tv_al_zp (j := j) h3 e5
      exact (tv_al_app e2 (show tv_al (.inl (j v u) :: tv_zp j l Q2) (j v u :: List.zipWith j V' W') (D + D4) from ⟨_, rfl, this⟩)).mono (by omega)
  | .inr none :: l, Q, V, W, D, D2, ⟨D', h1, h3⟩, h2 => ⟨D' + D2, by omega, tv_al_zp h3 h2⟩
  | .inr (some (t, a, b)) :: l, Q, V, W, D, D2, ⟨h1, h3⟩, h2 => ⟨h1, tv_al_zp h3 h2⟩
theorem tv_al_pr (f : Nat → Int32) : ∀ (m i : Nat), tv_al (tv_pr f i m) ((List.range' i m).map f) m
  | 0, i => rfl
  | m + 1, i => ⟨m, rfl, (List.range' (i + 1) m).map f, by simp [List.range'_succ], tv_al_pr f m (i + 1)⟩
