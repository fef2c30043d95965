/-! what events of pipes keep: numbers come behind draws, what is written down is bounded by draws, cuts lie behind 501 draws -/
def tv_gd (c : Nat) : tv_L → Nat → Nat → Nat → Prop
  | [], _, _, _ => True
  | .inl _ :: l, g, k, n => 1 ≤ g ∧ tv_gd c l (g - 1) k n
  | .inr none :: l, g, k, n => tv_gd c l (g + 1) (k + c) (n + 1)
  | .inr (some (t, a, _)) :: l, g, k, n => (t = 1 ∧ 1 ≤ k ∧ tv_gd c l g (k - 1) n) ∨ (t = 2 ∧ (a = 1 ∨ a = 2)) ∨ (t = 3 ∧ 501 ≤ n)
theorem tv_gd.mono {c c' : Nat} (hc : c ≤ c') : ∀ {l : tv_L} {g k n g' k' n' : Nat}, tv_gd c l g k n → g ≤ g' → k ≤ k' → n ≤ n' → tv_gd c' l g' k' n'
  | [], _, _, _, _, _, _, _, _, _, _ => trivial
  | .inl _ :: l, g, k, n, g', k', n', h, h1, h2, h3 => ⟨by have := h.1; omega, tv_gd.mono hc h.2 (by omega) h2 h3⟩
  | .inr none :: l, g, k, n, g', k', n', h, h1, h2, h3 => by
    exact tv_gd.mono (l := l) hc h (by omega) (by omega) (by omega)
  | .inr (some (t, a, _)) :: l, g, k, n, g', k', n', h, h1, h2, h3 => by
    rcases h with ⟨e, e1, e2⟩ | ⟨e, e1⟩ | ⟨e, e1⟩
    · exact Or.inl ⟨e, by omega, tv_gd.mono hc e2 h1 (by omega) h3⟩
    · exact Or.inr (Or.inl ⟨e, e1⟩)
    · exact Or.inr (Or.inr ⟨e, by omega⟩)
theorem tv_gd_app {c : Nat} {B : tv_L} (hB : tv_gd c B 0 0 0) : ∀ {A : tv_L} {g k n : Nat}, tv_gd c A g k n → tv_gd c (A ++ B) g k n
  | [], g, k, n, _ => hB.mono (Nat.le_refl _) (Nat.zero_le _) (Nat.zero_le _) (Nat.zero_le _)
  | .inl _ :: l, g, k, n, h => ⟨h.1, tv_gd_app hB h.2⟩
  | .inr none :: l, g, k, n, h => tv_gd_app (A := l) hB h
  | .inr (some (t, a, _)) :: l, g, k, n, h => by
    rcases h with ⟨e, e1, e2⟩ | h
    · exact Or.inl ⟨e, e1, tv_gd_app hB e2⟩
    · exact Or.inr h
theorem tv_gd_bnd {c cq c' : Nat} {f : Int32 → tv_L} (hc : c ≤ c') (hc2 : cq ≤ c') (hf : ∀ v, tv_gd cq (f v) 0 0 0) : ∀ {E : tv_L} {g k n g' : Nat}, tv_gd c E g k n → tv_gd c' (tv_bnd f E) g' k n
  | [], _, _, _, _, _ => trivial
  | .inl v :: l, g, k, n, g', h => by
    have h2 := tv_gd_bnd hc hc2 hf (E := l) (g' := 0) h.2
    have h3 : ∀ {A : tv_L} {g1 k1 n1 : Nat}, k ≤ k1 → n ≤ n1 → tv_gd c' A g1 (k1 - k) (n1 - n) → tv_gd c' (A ++ tv_bnd f l) g1 k1 n1 := by
      intro A
      induction A with
      | nil => intro g1 k1 n1 e1 e2 _; exact h2.mono (Nat.le_refl _) (Nat.zero_le _) e1 e2
      | cons e A ih =>
        intro g1 k1 n1 e1 e2 hA
        rcases e with v | (_ | ⟨t, a, b⟩)
        · exact ⟨hA.1, ih e1 e2 hA.2⟩
        · have hA2 : tv_gd c' A (g1 + 1) (k1 - k + c') (n1 - n + 1) := hA
          exact ih (by omega) (by omega) (hA2.mono (Nat.le_refl _) (Nat.le_refl _) (by omega) (by omega))
        · rcases hA with ⟨q, q1, q2⟩ | ⟨q, q1⟩ | ⟨q, q1⟩
          · exact Or.inl ⟨q, by omega, ih (by omega) e2 (q2.mono (Nat.le_refl _) (Nat.le_refl _) (by omega) (Nat.le_refl _))⟩
          · exact Or.inr (Or.inl ⟨q, q1⟩)
          · exact Or.inr (Or.inr ⟨q, by omega⟩)
    exact h3 (Nat.le_refl _) (Nat.le_refl _) ((hf v).mono hc2 (Nat.zero_le _) (Nat.zero_le _) (Nat.zero_le _))
  | .inr none :: l, g, k, n, g', h => by
    have := tv_gd_bnd hc hc2 hf (E := l) (g' := g' + 1) h
    exact this.mono (Nat.le_refl _) (Nat.le_refl _) (by omega) (Nat.le_refl _)
  | .inr (some (t, a, _)) :: l, g, k, n, g', h => by
    rcases h with ⟨e, e1, e2⟩ | h
    · exact Or.inl ⟨e, e1, tv_gd_bnd hc hc2 hf e2⟩
    · exact Or.inr h
/-- a node with one pipe: for each number at most one, at most one written down ahead of it -/
def tv_one (f : Int32 → tv_L) : Prop := ∀ v, f v = [] ∨ (∃ u, f v = [.inl u]) ∨ (∃ a b u, f v = [tv_n a b, .inl u]) ∨ ∃ b, f v = [tv_s 1 b]
theorem tv_gd_one {c : Nat} {f : Int32 → tv_L} (hf : tv_one f) : ∀ {E : tv_L} {g k n : Nat}, tv_gd c E g k n → tv_gd (c + 1) (tv_bnd f E) g (k + g) n
  | [], _, _, _, _ => trivial
  | .inl v :: l, g, k, n, h => by
    have h2 := tv_gd_one hf (E := l) h.2
    have hg := h.1
    simp only [tv_bnd]
    rcases hf v with e | ⟨u, e⟩ | ⟨a, b, u, e⟩ | ⟨b, e⟩ <;> rw [e]
    · exact h2.mono (Nat.le_refl _) (by omega) (by omega) (Nat.le_refl _)
    · exact ⟨hg, h2.mono (Nat.le_refl _) (Nat.le_refl _) (by omega) (Nat.le_refl _)⟩
    · exact Or.inl ⟨rfl, by omega, hg, h2.mono (Nat.le_refl _) (Nat.le_refl _) (by omega) (Nat.le_refl _)⟩
    · exact Or.inr (Or.inl ⟨rfl, Or.inl rfl⟩)
  | .inr none :: l, g, k, n, h => by
    have := tv_gd_one hf (E := l) (g := g + 1) (k := k + c) (n := n + 1) h
    exact this.mono (Nat.le_refl _) (Nat.le_refl _) (by omega) (Nat.le_refl _)
  | .inr (some (t, a, _)) :: l, g, k, n, h => by
    rcases h with ⟨e, e1, e2⟩ | h
    · refine Or.inl ⟨e, by omega, ?_⟩
      exact (tv_gd_one hf e2).mono (Nat.le_refl _) (Nat.le_refl _) (by omega) (Nat.le_refl _)
    · exact Or.inr h
theorem tv_gd_tk {c : Nat} : ∀ {E : tv_L} {m g k n : Nat}, tv_gd c E g k n → tv_gd c (tv_tk E m) g k n
  | E, 0, _, _, _, _ => by cases E <;> trivial
  | [], _ + 1, _, _, _, _ => trivial
  | .inl _ :: l, m + 1, g, k, n, h => ⟨h.1, tv_gd_tk h.2⟩
  | .inr none :: l, m + 1, g, k, n, h => tv_gd_tk (E := l) h
  | .inr (some (t, a, _)) :: l, m + 1, g, k, n, h => by
    rcases h with ⟨e, e1, e2⟩ | h
    · exact Or.inl ⟨e, e1, tv_gd_tk e2⟩
    · exact Or.inr h
theorem tv_gd_dr {c : Nat} : ∀ {E : tv_L} {m g k n : Nat}, tv_gd c E g k n → tv_gd c (tv_dr E m) g k n
  | E, 0, _, _, _, h => by rw [tv_dr0]; exact h
  | [], _ + 1, _, _, _, _ => trivial
  | .inl _ :: l, m + 1, g, k, n, h => tv_gd_dr (E := l) (h.2.mono (Nat.le_refl _) (by omega) (Nat.le_refl _) (Nat.le_refl _))
  | .inr none :: l, m + 1, g, k, n, h => tv_gd_dr (E := l) (m := m + 1) h
  | .inr (some (t, a, _)) :: l, m + 1, g, k, n, h => by
    rcases h with ⟨e, e1, e2⟩ | h
    · exact Or.inl ⟨e, e1, tv_gd_dr (m := m + 1) e2⟩
    · exact Or.inr h
theorem tv_gd_tw {c : Nat} {p : Int32 → Bool} : ∀ {E : tv_L} {g k n : Nat}, tv_gd c E g k n → tv_gd c (tv_tw p E) g k n
  | [], _, _, _, _ => trivial
  | .inl v :: l, g, k, n, h => by
    simp only [tv_tw]
    split
    · exact ⟨h.1, tv_gd_tw h.2⟩
    · trivial
  | .inr none :: l, g, k, n, h => tv_gd_tw (E := l) h
  | .inr (some (t, a, _)) :: l, g, k, n, h => by
    rcases h with ⟨e, e1, e2⟩ | h
    · exact Or.inl ⟨e, e1, tv_gd_tw e2⟩
    · exact Or.inr h
theorem tv_gd_zp {cp cq : Nat} {j : Int32 → Int32 → Int32} : ∀ {P Q : tv_L} {gp kp np gq kq nq g k n : Nat}, tv_gd cp P gp kp np → tv_gd cq Q gq kq nq → gq ≤ g → kp + kq ≤ k → np ≤ n → nq ≤ n → tv_gd (cp + cq) (tv_zp j P Q) g k n
  | [], _, _, _, _, _, _, _, _, _, _, _, _, _, _, _, _ => trivial
  | .inr none :: P, Q, gp, kp, np, gq, kq, nq, g, k, n, hP, hQ, h1, h2, h3, h4 => by
    have hP2 : tv_gd cp P (gp + 1) (kp + cp) (np + 1) := hP
    exact tv_gd_zp (P := P) hP2 hQ (by omega) (by omega) (by omega) (by omega)
  | .inr (some (t, a, _)) :: P, Q, gp, kp, np, gq, kq, nq, g, k, n, hP, hQ, h1, h2, h3, h4 => by
    rcases hP with ⟨e, e1, e2⟩ | ⟨e, e1⟩ | ⟨e, e1⟩
    · exact Or.inl ⟨e, by omega, tv_gd_zp (P := P) e2 hQ h1 (by omega) h3 h4⟩
    · exact Or.inr (Or.inl ⟨e, e1⟩)
    · exact Or.inr (Or.inr ⟨e, by omega⟩)
  | .inl v :: P, Q, gp, kp, np, gq, kq, nq, g, k, n, hP, hQ, h1, h2, h3, h4 => by
    have key : ∀ (Q : tv_L) (gq kq nq g k n : Nat), tv_gd cq Q gq kq nq → gq ≤ g → kp + kq ≤ k → np ≤ n → nq ≤ n → tv_gd (cp + cq) ((tv_sp Q).1 ++ (match (tv_sp Q).2 with
      | none => []
      | some (u, Q2) => .inl (j v u) :: tv_zp j P Q2)) g k n := by
      intro Q
      induction Q with
      | nil => intro _ _ _ _ _ _ _ _ _ _ _; trivial
      | cons e Q ih =>
        intro gq kq nq g k n hQ h1 h2 h3 h4
        rcases e with u | (_ | ⟨t, a, b⟩)
        · simp only [tv_sp, List.nil_append]
          exact ⟨by have := hQ.1; omega, tv_gd_zp (P := P) hP.2 hQ.2 (by omega) h2 h3 h4⟩
        · simp only [tv_sp, List.cons_append]
          have hQ2 : tv_gd cq Q (gq + 1) (kq + cq) (nq + 1) := hQ
          exact ih _ _ _ _ _ _ hQ2 (by omega) (by omega) (by omega) (by omega)
        · simp only [tv_sp, List.cons_append]
          rcases hQ with ⟨e, e1, e2⟩ | ⟨e, e1⟩ | ⟨e, e1⟩
          · exact Or.inl ⟨e, by omega, ih _ _ _ _ _ _ e2 h1 (by omega) h3 h4⟩
          · exact Or.inr (Or.inl ⟨e, e1⟩)
          · exact Or.inr (Or.inr ⟨e, by omega⟩)
    exact key Q gq kq nq g k n hQ h1 h2 h3 h4
/-- what a run has -/
theorem tv_gd_rn {c : Nat} : ∀ {E : tv_L} {m g k n d : Nat}, tv_gd c E g k n → n ≤ d → d ≤ 500 → (tv_rn m E d).2.1.length + c * d ≤ k + c * (tv_rn m E d).2.2.1 ∧ ((tv_rn m E d).2.2.2 = none ∨ ((tv_rn m E d).2.2.2 = some (3, 0) ∧ (tv_rn m E d).2.2.1 = 500) ∨ ∃ a b, (tv_rn m E d).2.2.2 = some (a, b) ∧ (a = 1 ∨ a = 2))
  | E, 0, g, k, n, d, _, _, _ => by
    have e : tv_rn 0 E d = ([], [], d, none) := by cases E <;> rfl
    rw [e]; simp
  | [], m + 1, g, k, n, d, _, _, _ => by simp [tv_rn]
  | .inl v :: l, m + 1, g, k, n, d, h, h1, h2 => tv_gd_rn (E := l) (m := m) h.2 h1 h2
  | .inr none :: l, m + 1, g, k, n, d, h, h1, h2 => by
    simp only [tv_rn]
    split
    · have hl : tv_gd c l (g + 1) (k + c) (n + 1) := h
      obtain ⟨a1, a2⟩ := tv_gd_rn (E := l) (m := m + 1) (d := d + 1) hl (by omega) (by omega)
      refine ⟨?_, a2⟩
      rw [Nat.mul_add] at a1
      omega
    · refine ⟨?_, Or.inr (Or.inl ⟨rfl, rfl⟩)⟩
      have : c * d ≤ c * 500 := Nat.mul_le_mul_left _ h2
      simp only [List.length_nil]; omega
  | .inr (some (t, a, b)) :: l, m + 1, g, k, n, d, h, h1, h2 => by
    simp only [tv_rn]
    rcases h with ⟨e, e1, e2⟩ | ⟨e, e1⟩ | ⟨e, e1⟩
    · rw [if_pos e]
      obtain ⟨a1, a2⟩ := tv_gd_rn (E := l) (m := m + 1) e2 h1 h2
      refine ⟨?_, a2⟩
      simp only [List.length_cons]; omega
    · rw [if_neg (by omega)]
      refine ⟨by simp, Or.inr (Or.inr ⟨a, b, rfl, e1⟩)⟩
    · omega
/-! FEWER DRAWS: the same events, but some draws, up to a cut or a failure -/
def tv_dl : tv_L → tv_L → Prop
  | [], B => B = []
  | .inl v :: A, B => ∃ B', B = .inl v :: B' ∧ tv_dl A B'
  | .inr none :: A, B => tv_dl A B ∨ ∃ B', B = .inr none :: B' ∧ tv_dl A B'
  | .inr (some (t, a, b)) :: A, B => t = 3 ∨ ∃ B', B = .inr (some (t, a, b)) :: B' ∧ (t = 2 ∨ tv_dl A B')
theorem tv_dl_rf : ∀ A : tv_L, tv_dl A A
  | [] => rfl
  | .inl _ :: A => ⟨A, rfl, tv_dl_rf A⟩
  | .inr none :: A => Or.inr ⟨A, rfl, tv_dl_rf A⟩
  | .inr (some _) :: A => Or.inr ⟨A, rfl, Or.inr (tv_dl_rf A)⟩
theorem tv_dl_tr : ∀ {A B C : tv_L}, tv_dl A B → tv_dl B C → tv_dl A C
  | [], B, C, h1, h2 => by
    have h1 : B = [] := h1
    subst h1
    exact h2
  | .inl v :: A, B, C, h1, h2 => by
    obtain ⟨B', rfl, h3⟩ := h1
    obtain ⟨C', rfl, h4⟩ := h2
    exact ⟨C', rfl, tv_dl_tr h3 h4⟩
  | .inr none :: A, B, C, h1, h2 => by
    rcases h1 with h1 | ⟨B', rfl, h3⟩
    · exact Or.inl (tv_dl_tr (A := A) h1 h2)
    · rcases h2 with h2 | ⟨C', rfl, h4⟩
      · exact Or.inl (tv_dl_tr (A := A) h3 h2)
      · exact Or.inr ⟨C', rfl, tv_dl_tr (A := A) h3 h4⟩
  | .inr (some (t, a, b)) :: A, B, C, h1, h2 => by
    rcases h1 with h1 | ⟨B', rfl, h3⟩
    · exact Or.inl h1
    · rcases h2 with h2 | ⟨C', rfl, h4⟩
      · exact Or.inl h2
      · refine Or.inr ⟨C', rfl, ?_⟩
        rcases h3 with h3 | h3
        · exact Or.inl h3
        · rcases h4 with h4 | h4
          · exact Or.inl h4
          · exact Or.inr (tv_dl_tr (A := A) h3 h4)
theorem tv_dl_app {B B' : tv_L} (hB : tv_dl B B') : ∀ {A A' : tv_L}, tv_dl A A' → tv_dl (A ++ B) (A' ++ B')
  | [], A', h => by
    have h : A' = [] := h
    subst h
    exact hB
  | .inl v :: A, _, h => by
    obtain ⟨A', rfl, h3⟩ := h
    exact ⟨A' ++ B', rfl, tv_dl_app hB h3⟩
  | .inr none :: A, A', h => by
    rcases h with h | ⟨A', rfl, h3⟩
    · exact Or.inl (tv_dl_app hB (A := A) h)
    · exact Or.inr ⟨A' ++ B', rfl, tv_dl_app hB (A := A) h3⟩
  | .inr (some (t, a, b)) :: A, A', h => by
    rcases h with h | ⟨A', rfl, h3⟩
    · exact Or.inl h
    · refine Or.inr ⟨A' ++ B', rfl, ?_⟩
      rcases h3 with h3 | h3
      · exact Or.inl h3
      · exact Or.inr (tv_dl_app hB h3)
theorem tv_dl_bnd {f f' : Int32 → tv_L} (hf : ∀ v, tv_dl (f v) (f' v)) : ∀ {A A' : tv_L}, tv_dl A A' → tv_dl (tv_bnd f A) (tv_bnd f' A')
  | [], A', h => by
    have h : A' = [] := h
    subst h
    exact rfl
  | .inl v :: A, _, h => by
    obtain ⟨A', rfl, h3⟩ := h
    exact tv_dl_app (tv_dl_bnd hf h3) (hf v)
  | .inr none :: A, A', h => by
    rcases h with h | ⟨A', rfl, h3⟩
    · exact Or.inl (tv_dl_bnd hf (A := A) h)
    · exact Or.inr ⟨_, rfl, tv_dl_bnd hf (A := A) h3⟩
  | .inr (some (t, a, b)) :: A, A', h => by
    rcases h with h | ⟨A', rfl, h3⟩
    · exact Or.inl h
    · refine Or.inr ⟨_, rfl, ?_⟩
      rcases h3 with h3 | h3
      · exact Or.inl h3
      · exact Or.inr (tv_dl_bnd hf h3)
theorem tv_dl_tk : ∀ {A A' : tv_L} {n : Nat}, tv_dl A A' → tv_dl (tv_tk A n) (tv_tk A' n)
  | A, A', 0, _ => by cases A <;> cases A' <;> exact rfl
  | [], A', n + 1, h => by
    have h : A' = [] := h
    subst h
    exact rfl
  | .inl v :: A, _, n + 1, h => by
    obtain ⟨A', rfl, h3⟩ := h
    exact ⟨_, rfl, tv_dl_tk h3⟩
  | .inr none :: A, A', n + 1, h => by
    rcases h with h | ⟨A', rfl, h3⟩
    · exact Or.inl (tv_dl_tk (A := A) h)
    · exact Or.inr ⟨_, rfl, tv_dl_tk (A := A) h3⟩
  | .inr (some (t, a, b)) :: A, A', n + 1, h => by
    rcases h with h | ⟨A', rfl, h3⟩
    · exact Or.inl h
    · refine Or.inr ⟨_, rfl, ?_⟩
      rcases h3 with h3 | h3
      · exact Or.inl h3
      · exact Or.inr (tv_dl_tk h3)
theorem tv_dl_dr : ∀ {A A' : tv_L} {n : Nat}, tv_dl A A' → tv_dl (tv_dr A n) (tv_dr A' n)
  | A, A', 0, h => by rw [tv_dr0, tv_dr0]; exact h
  | [], A', n + 1, h => by
    have h : A' = [] := h
    subst h
    exact rfl
  | .inl v :: A, _, n + 1, h => by
    obtain ⟨A', rfl, h3⟩ := h
    exact tv_dl_dr (A := A) h3
  | .inr none :: A, A', n + 1, h => by
    rcases h with h | ⟨A', rfl, h3⟩
    · exact Or.inl (tv_dl_dr (A := A) (n := n + 1) h)
    · exact Or.inr ⟨_, rfl, tv_dl_dr (A := A) (n := n + 1) h3⟩
  | .inr (some (t, a, b)) :: A, A', n + 1, h => by
    rcases h with h | ⟨A', rfl, h3⟩
    · exact Or.inl h
    · refine Or.inr ⟨_, rfl, ?_⟩
      rcases h3 with h3 | h3
      · exact Or.inl h3
      · exact Or.inr (tv_dl_dr (A := A) (n := n + 1) h3)
theorem tv_dl_tw {p : Int32 → Bool} : ∀ {A A' : tv_L}, tv_dl A A' → tv_dl (tv_tw p A) (tv_tw p A')
  | [], A', h => by
    have h : A' = [] := h
    subst h
    exact rfl
  | .inl v :: A, _, h => by
    obtain ⟨A', rfl, h3⟩ := h
    simp only [tv_tw]
    split
    · exact ⟨_, rfl, tv_dl_tw h3⟩
    · exact rfl
  | .inr none :: A, A', h => by
    rcases h with h | ⟨A', rfl, h3⟩
    · exact Or.inl (tv_dl_tw (A := A) h)
    · exact Or.inr ⟨_, rfl, tv_dl_tw (A := A) h3⟩
  | .inr (some (t, a, b)) :: A, A', h => by
    rcases h with h | ⟨A', rfl, h3⟩
    · exact Or.inl h
    · refine Or.inr ⟨_, rfl, ?_⟩
      rcases h3 with h3 | h3
      · exact Or.inl h3
      · exact Or.inr (tv_dl_tw h3)
theorem tv_dl_zp {j : Int32 → Int32 → Int32} : ∀ {P P' Q Q' : tv_L}, tv_dl P P' → tv_dl Q Q' → tv_dl (tv_zp j P Q) (tv_zp j P' Q')
  | [], P', Q, Q', h, _ => by
    have h : P' = [] := h
    subst h
    exact rfl
  | .inr none :: P, P', Q, Q', h, hQ => by
    rcases h with h | ⟨P', rfl, h3⟩
    · exact Or.inl (tv_dl_zp (P := P) h hQ)
    · exact Or.inr ⟨_, rfl, tv_dl_zp (P := P) h3 hQ⟩
  | .inr (some (t, a, b)) :: P, P', Q, Q', h, hQ => by
    rcases h with h | ⟨P', rfl, h3⟩
    · exact Or.inl h
    · refine Or.inr ⟨_, rfl, ?_⟩
      rcases h3 with h3 | h3
      · exact Or.inl h3
      · exact Or.inr (tv_dl_zp h3 hQ)
  | .inl v :: P, _, Q, Q', h, hQ => by
    obtain ⟨P', rfl, h3⟩ := h
    have key : ∀ (Q Q' : tv_L), tv_dl Q Q' → tv_dl (tv_zp j (.inl v :: P) Q) (tv_zp j (.inl v :: P') Q') := by
      intro Q
      induction Q with
      | nil =>
        intro Q' h
        have h : Q' = [] := h
        subst h
        exact rfl
      | cons e Q ih =>
        intro Q' h
        rcases e with u | (_ | ⟨t, a, b⟩)
        · obtain ⟨Q2, rfl, h4⟩ := h
          simp only [tv_zp, tv_sp, List.nil_append]
          exact ⟨_, rfl, tv_dl_zp h3 h4⟩
        · rcases h with h | ⟨Q2, rfl, h4⟩
          · have := ih Q' h
            simp only [tv_zp, tv_sp, List.cons_append] at this ⊢
            exact Or.inl this
          · have := ih Q2 h4
            simp only [tv_zp, tv_sp, List.cons_append] at this ⊢
            exact Or.inr ⟨_, rfl, this⟩
        · rcases h with h | ⟨Q2, rfl, h4⟩
          · simp only [tv_zp, tv_sp, List.cons_append]
            exact Or.inl h
          · rcases h4 with h4 | h4
            · simp only [tv_zp, tv_sp, List.cons_append]
              exact Or.inr ⟨_, rfl, Or.inl h4⟩
            · have := ih Q2 h4
              simp only [tv_zp, tv_sp, List.cons_append] at this ⊢
              exact Or.inr ⟨_, rfl, Or.inr this⟩
    exact key Q Q' hQ
/-- runs over fewer draws -/
theorem tv_dl_rn {c : Nat} : ∀ {E E' : tv_L} {m g k n d d' : Nat}, tv_dl E E' → tv_gd c E g k n → n ≤ d → d ≤ 500 → d' ≤ d → (∀ b, (tv_rn m E d).2.2.2 ≠ some (3, b)) →
    (tv_rn m E' d').1 = (tv_rn m E d).1 ∧ (tv_rn m E' d').2.1 = (tv_rn m E d).2.1 ∧ (tv_rn m E' d').2.2.2 = (tv_rn m E d).2.2.2 ∧ (tv_rn m E' d').2.2.1 ≤ (tv_rn m E d).2.2.1
  | E, E', 0, g, k, n, d, d', _, _, _, _, h, _ => by
    have e : tv_rn 0 E d = ([], [], d, none) := by cases E <;> rfl
    have e' : tv_rn 0 E' d' = ([], [], d', none) := by cases E' <;> rfl
    rw [e, e']; exact ⟨rfl, rfl, rfl, h⟩
  | [], E', m + 1, g, k, n, d, d', h, _, _, _, hd, _ => by
    have h : E' = [] := h
    subst h
    exact ⟨rfl, rfl, rfl, hd⟩
  | .inl v :: E, _, m + 1, g, k, n, d, d', h, hg, h1, h2, h3, h4 => by
    obtain ⟨E', rfl, h5⟩ := h
    obtain ⟨a1, a2, a3, a4⟩ := tv_dl_rn (m := m) h5 hg.2 h1 h2 h3 h4
    simp only [tv_rn, a1]
    exact ⟨trivial, a2, a3, a4⟩
  | .inr none :: E, E', m + 1, g, k, n, d, d', h, hg, h1, h2, h3, h4 => by
    have hg2 : tv_gd c E (g + 1) (k + c) (n + 1) := hg
    by_cases hd : d < 500
    · have e : tv_rn (m + 1) (.inr none :: E) d = tv_rn (m + 1) E (d + 1) := by simp only [tv_rn, if_pos hd]
      rw [e] at h4 ⊢
      rcases h with h | ⟨E', rfl, h5⟩
      · exact tv_dl_rn (E := E) h hg2 (by omega) (by omega) (by omega) h4
      · have e' : tv_rn (m + 1) (.inr none :: E') d' = tv_rn (m + 1) E' (d' + 1) := by simp only [tv_rn, if_pos (show d' < 500 by omega)]
        rw [e']
        exact tv_dl_rn (E := E) h5 hg2 (by omega) (by omega) (by omega) h4
    · exact absurd (by simp only [tv_rn, if_neg hd]) (h4 0)
  | .inr (some (t, a, b)) :: E, E', m + 1, g, k, n, d, d', h, hg, h1, h2, h3, h4 => by
    rcases hg with ⟨e, e1, e2⟩ | ⟨e, e1⟩ | ⟨e, e1⟩
    · rcases h with h | ⟨E', rfl, h5⟩
      · omega
      · rcases h5 with h5 | h5
        · omega
        · have e0 : tv_rn (m + 1) (.inr (some (t, a, b)) :: E) d = ((tv_rn (m + 1) E d).1, (a, b) :: (tv_rn (m + 1) E d).2.1, (tv_rn (m + 1) E d).2.2) := by simp only [tv_rn, if_pos e]
          have e0' : tv_rn (m + 1) (.inr (some (t, a, b)) :: E') d' = ((tv_rn (m + 1) E' d').1, (a, b) :: (tv_rn (m + 1) E' d').2.1, (tv_rn (m + 1) E' d').2.2) := by simp only [tv_rn, if_pos e]
          rw [e0] at h4 ⊢
          rw [e0']
          obtain ⟨a1, a2, a3, a4⟩ := tv_dl_rn h5 e2 h1 h2 h3 h4
          exact ⟨a1, by rw [a2], a3, a4⟩
    · rcases h with h | ⟨E', rfl, h5⟩
      · omega
      · simp only [tv_rn, if_neg (show ¬ t = 1 by omega)]
        exact ⟨trivial, trivial, trivial, h3⟩
    · omega
