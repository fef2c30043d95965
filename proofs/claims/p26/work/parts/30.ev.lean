/-! EVENTS: what a pipe does, as a list: it gives a number, draws one, writes one down (1), stops with a failure (2), or is cut (3: behind more draws than a run can have) -/
abbrev tv_E : Type := Int32 ⊕ Option (Nat × Int32 × Int32)
abbrev tv_L : Type := List tv_E
abbrev tv_g (v : Int32) : tv_E := .inl v
abbrev tv_d : tv_E := .inr none
abbrev tv_n (a v : Int32) : tv_E := .inr (some (1, a, v))
abbrev tv_s (c d : Int32) : tv_E := .inr (some (2, c, d))
abbrev tv_c : tv_E := .inr (some (3, 0, 0))
def tv_bnd (f : Int32 → tv_L) : tv_L → tv_L
  | [] => []
  | .inl v :: l => f v ++ tv_bnd f l
  | .inr o :: l => .inr o :: tv_bnd f l
def tv_tk : tv_L → Nat → tv_L
  | _, 0 => []
  | [], _ + 1 => []
  | .inl v :: l, n + 1 => .inl v :: tv_tk l n
  | .inr o :: l, n + 1 => .inr o :: tv_tk l (n + 1)
def tv_dr : tv_L → Nat → tv_L
  | l, 0 => l
  | [], _ + 1 => []
  | .inl _ :: l, n + 1 => tv_dr l n
  | .inr o :: l, n + 1 => .inr o :: tv_dr l (n + 1)
def tv_tw (p : Int32 → Bool) : tv_L → tv_L
  | [] => []
  | .inl v :: l => if p v = true then .inl v :: tv_tw p l else []
  | .inr o :: l => .inr o :: tv_tw p l
/-- up to the first number; it, and what is behind it -/
def tv_sp : tv_L → tv_L × Option (Int32 × tv_L)
  | [] => ([], none)
  | .inl v :: l => ([], some (v, l))
  | .inr o :: l => (.inr o :: (tv_sp l).1, (tv_sp l).2)
def tv_zp (j : Int32 → Int32 → Int32) : tv_L → tv_L → tv_L
  | [], _ => []
  | .inl v :: P, Q => (tv_sp Q).1 ++ (match (tv_sp Q).2 with
    | none => []
    | some (u, Q2) => .inl (j v u) :: tv_zp j P Q2)
  | .inr o :: P, Q => .inr o :: tv_zp j P Q
def tv_zh (j : Int32 → Int32 → Int32) (v : Int32) (P Q : tv_L) : tv_L := tv_zp j (.inl v :: P) Q
/-- asking for a number: what is written down, how many were drawn in all, and the number with what is left, or the failure (3: spent), or none -/
abbrev tv_A : Type := List (Int32 × Int32) × Nat × ((Int32 × tv_L) ⊕ Option (Int32 × Int32))
def tv_ak : tv_L → Nat → tv_A
  | [], d => ([], d, .inr none)
  | .inl v :: l, d => ([], d, .inl (v, l))
  | .inr none :: l, d => if d < 500 then tv_ak l (d + 1) else ([], 500, .inr (some (3, 0)))
  | .inr (some (t, a, b)) :: l, d => if t = 1 then ((a, b) :: (tv_ak l d).1, (tv_ak l d).2) else ([], d, .inr (some (a, b)))
/-- written down before -/
def tv_pre (N : List (Int32 × Int32)) (r : tv_A) : tv_A := (N ++ r.1, r.2)
theorem tv_pre_nil (r : tv_A) : tv_pre [] r = r := rfl
theorem tv_pre_pre (M N : List (Int32 × Int32)) (r : tv_A) : tv_pre M (tv_pre N r) = tv_pre (M ++ N) r := by simp [tv_pre]
/-- what comes behind an answer -/
def tv_kk (r : tv_A) (f : Int32 → tv_L → Nat → tv_A) : tv_A := match r with
  | (N, d, .inl (v, l)) => tv_pre N (f v l d)
  | (N, d, .inr o) => (N, d, .inr o)
def tv_ke (r : tv_A) (f : Nat → tv_A) (k : tv_L → tv_L) : tv_A := match r with
  | (N, d, .inl (v, l)) => (N, d, .inl (v, k l))
  | (N, d, .inr none) => tv_pre N (f d)
  | (N, d, .inr (some z)) => (N, d, .inr (some z))
theorem tv_kk_pre (N : List (Int32 × Int32)) (r : tv_A) (f : Int32 → tv_L → Nat → tv_A) : tv_kk (tv_pre N r) f = tv_pre N (tv_kk r f) := by
  obtain ⟨M, d, o⟩ := r
  rcases o with ⟨v, l⟩ | o
  · simp [tv_kk, tv_pre]
  · simp [tv_kk, tv_pre]
theorem tv_ke_pre (N : List (Int32 × Int32)) (r : tv_A) (f : Nat → tv_A) (k : tv_L → tv_L) : tv_ke (tv_pre N r) f k = tv_pre N (tv_ke r f k) := by
  obtain ⟨M, d, o⟩ := r
  rcases o with ⟨v, l⟩ | (_ | z)
  · simp [tv_ke, tv_pre]
  · simp [tv_ke, tv_pre]
  · simp [tv_ke, tv_pre]
theorem tv_ak_note (a b : Int32) (l : tv_L) (d : Nat) : tv_ak (tv_n a b :: l) d = tv_pre [(a, b)] (tv_ak l d) := by
  simp [tv_ak, tv_pre]
theorem tv_ak_app : ∀ (A B : tv_L) (d : Nat), tv_ak (A ++ B) d = tv_ke (tv_ak A d) (fun d2 => tv_ak B d2) (fun l => l ++ B)
  | [], B, d => by simp [tv_ak, tv_ke, tv_pre]
  | .inl v :: A, B, d => by simp [tv_ak, tv_ke]
  | .inr none :: A, B, d => by
    simp only [List.cons_append, tv_ak]
    split
    · exact tv_ak_app A B (d + 1)
    · rfl
  | .inr (some (t, a, b)) :: A, B, d => by
    simp only [List.cons_append, tv_ak]
    split
    · rw [tv_ak_app A B d]
      exact (tv_ke_pre [(a, b)] (tv_ak A d) _ _).symm
    · rfl
theorem tv_ak_bnd (f : Int32 → tv_L) : ∀ (E : tv_L) (d : Nat), tv_ak (tv_bnd f E) d = tv_kk (tv_ak E d) (fun v l d2 => tv_ak (f v ++ tv_bnd f l) d2)
  | [], d => rfl
  | .inl v :: l, d => by simp [tv_bnd, tv_ak, tv_kk, tv_pre]
  | .inr none :: l, d => by
    simp only [tv_bnd, tv_ak]
    split
    · exact tv_ak_bnd f l (d + 1)
    · rfl
  | .inr (some (t, a, b)) :: l, d => by
    simp only [tv_bnd, tv_ak]
    split
    · rw [tv_ak_bnd f l d]
      exact (tv_kk_pre [(a, b)] (tv_ak l d) _).symm
    · rfl
theorem tv_ak_tk0 (E : tv_L) (d : Nat) : tv_ak (tv_tk E 0) d = ([], d, .inr none) := by
  cases E <;> simp [tv_tk, tv_ak]
theorem tv_ak_tk (n : Nat) : ∀ (E : tv_L) (d : Nat), tv_ak (tv_tk E (n + 1)) d = tv_kk (tv_ak E d) (fun v l d2 => ([], d2, .inl (v, tv_tk l n)))
  | [], d => rfl
  | .inl v :: l, d => by simp [tv_tk, tv_ak, tv_kk, tv_pre]
  | .inr none :: l, d => by
    simp only [tv_tk, tv_ak]
    split
    · exact tv_ak_tk n l (d + 1)
    · rfl
  | .inr (some (t, a, b)) :: l, d => by
    simp only [tv_tk, tv_ak]
    split
    · rw [tv_ak_tk n l d]
      exact (tv_kk_pre [(a, b)] (tv_ak l d) _).symm
    · rfl
theorem tv_dr0 (E : tv_L) : tv_dr E 0 = E := by cases E <;> simp [tv_dr]
theorem tv_ak_dr (n : Nat) : ∀ (E : tv_L) (d : Nat), tv_ak (tv_dr E (n + 1)) d = tv_kk (tv_ak E d) (fun _ l d2 => tv_ak (tv_dr l n) d2)
  | [], d => rfl
  | .inl v :: l, d => by simp [tv_dr, tv_ak, tv_kk, tv_pre]
  | .inr none :: l, d => by
    simp only [tv_dr, tv_ak]
    split
    · exact tv_ak_dr n l (d + 1)
    · rfl
  | .inr (some (t, a, b)) :: l, d => by
    simp only [tv_dr, tv_ak]
    split
    · rw [tv_ak_dr n l d]
      exact (tv_kk_pre [(a, b)] (tv_ak l d) _).symm
    · rfl
theorem tv_ak_tw (p : Int32 → Bool) : ∀ (E : tv_L) (d : Nat), tv_ak (tv_tw p E) d = tv_kk (tv_ak E d) (fun v l d2 => if p v = true then ([], d2, .inl (v, tv_tw p l)) else ([], d2, .inr none))
  | [], d => rfl
  | .inl v :: l, d => by
    simp only [tv_tw, tv_ak, tv_kk, tv_pre]
    split
    · simp [tv_ak]
    · simp [tv_ak]
  | .inr none :: l, d => by
    simp only [tv_tw, tv_ak]
    split
    · exact tv_ak_tw p l (d + 1)
    · rfl
  | .inr (some (t, a, b)) :: l, d => by
    simp only [tv_tw, tv_ak]
    split
    · rw [tv_ak_tw p l d]
      exact (tv_kk_pre [(a, b)] (tv_ak l d) _).symm
    · rfl
theorem tv_ak_sp (j : Int32 → Int32 → Int32) (v : Int32) (P : tv_L) : ∀ (Q : tv_L) (d : Nat), tv_ak (tv_zh j v P Q) d = tv_kk (tv_ak Q d) (fun u l d2 => ([], d2, .inl (j v u, tv_zp j P l)))
  | [], d => by simp [tv_zh, tv_zp, tv_sp, tv_ak, tv_kk]
  | .inl u :: l, d => by simp [tv_zh, tv_zp, tv_sp, tv_ak, tv_kk, tv_pre]
  | .inr none :: l, d => by
    have ih := tv_ak_sp j v P l (d + 1)
    simp only [tv_zh, tv_zp] at ih
    simp only [tv_zh, tv_zp, tv_sp, List.cons_append, tv_ak]
    split
    · exact ih
    · rfl
  | .inr (some (t, a, b)) :: l, d => by
    have ih := tv_ak_sp j v P l d
    simp only [tv_zh, tv_zp] at ih
    simp only [tv_zh, tv_zp, tv_sp, List.cons_append, tv_ak]
    split
    · rw [ih]
      exact (tv_kk_pre [(a, b)] (tv_ak l d) _).symm
    · rfl
theorem tv_ak_zp (j : Int32 → Int32 → Int32) (Q : tv_L) : ∀ (P : tv_L) (d : Nat), tv_ak (tv_zp j P Q) d = tv_kk (tv_ak P d) (fun v l d2 => tv_ak (tv_zh j v l Q) d2)
  | [], d => rfl
  | .inl v :: l, d => by simp [tv_zh, tv_ak, tv_kk, tv_pre]
  | .inr none :: l, d => by
    simp only [tv_zp, tv_ak]
    split
    · exact tv_ak_zp j Q l (d + 1)
    · rfl
  | .inr (some (t, a, b)) :: l, d => by
    simp only [tv_zp, tv_ak]
    split
    · rw [tv_ak_zp j Q l d]
      exact (tv_kk_pre [(a, b)] (tv_ak l d) _).symm
    · rfl
/-- a whole run: the results, what is written down, how many are drawn, the failure -/
abbrev tv_R : Type := List Int32 × List (Int32 × Int32) × Nat × Option (Int32 × Int32)
def tv_rn : Nat → tv_L → Nat → tv_R
  | 0, _, d => ([], [], d, none)
  | _ + 1, [], d => ([], [], d, none)
  | m + 1, .inl v :: l, d => (v :: (tv_rn m l d).1, (tv_rn m l d).2)
  | m + 1, .inr none :: l, d => if d < 500 then tv_rn (m + 1) l (d + 1) else ([], [], 500, some (3, 0))
  | m + 1, .inr (some (t, a, b)) :: l, d => if t = 1 then ((tv_rn (m + 1) l d).1, (a, b) :: (tv_rn (m + 1) l d).2.1, (tv_rn (m + 1) l d).2.2) else ([], [], d, some (a, b))
def tv_rpre (N : List (Int32 × Int32)) (r : tv_R) : tv_R := (r.1, N ++ r.2.1, r.2.2)
def tv_rk (r : tv_A) (f : Int32 → tv_L → Nat → tv_R) : tv_R := match r with
  | (N, d, .inl (v, l)) => tv_rpre N (v :: (f v l d).1, (f v l d).2)
  | (N, d, .inr o) => ([], N, d, o)
theorem tv_rn_ak (m : Nat) : ∀ (E : tv_L) (d : Nat), tv_rn (m + 1) E d = tv_rk (tv_ak E d) (fun _ l d2 => tv_rn m l d2)
  | [], d => rfl
  | .inl v :: l, d => by simp [tv_rn, tv_ak, tv_rk, tv_rpre]
  | .inr none :: l, d => by
    simp only [tv_rn, tv_ak]
    split
    · exact tv_rn_ak m l (d + 1)
    · rfl
  | .inr (some (t, a, b)) :: l, d => by
    simp only [tv_rn, tv_ak]
    split
    · rw [tv_rn_ak m l d]
      generalize tv_ak l d = r
      obtain ⟨M, d2, o⟩ := r
      rcases o with ⟨v, l2⟩ | o
      · simp [tv_rk, tv_rpre]
      · simp [tv_rk]
    · rfl
theorem tv_rn_d : ∀ (E : tv_L) (m d : Nat), d ≤ 500 → d ≤ (tv_rn m E d).2.2.1 ∧ (tv_rn m E d).2.2.1 ≤ 500
  | E, 0, d, h => by cases E <;> simp [tv_rn, h]
  | [], m + 1, d, h => by simp [tv_rn, h]
  | .inl v :: l, m + 1, d, h => tv_rn_d l m d h
  | .inr none :: l, m + 1, d, h => by
    simp only [tv_rn]
    split
    · have := tv_rn_d l (m + 1) (d + 1) (by omega)
      omega
    · simp; omega
  | .inr (some (t, a, b)) :: l, m + 1, d, h => by
    simp only [tv_rn]
    split
    · exact tv_rn_d l (m + 1) d h
    · simp [h]
/-- a smaller limit gives the beginning -/
theorem tv_rn_less : ∀ (E : tv_L) (m k d : Nat), k ≤ m → d ≤ 500 → (tv_rn k E d).1 = (tv_rn m E d).1.take k ∧ (tv_rn k E d).2.2.1 ≤ (tv_rn m E d).2.2.1
  | E, m, 0, d, _, h => by
    have := tv_rn_d E m d h
    refine ⟨by cases E <;> simp [tv_rn], ?_⟩
    have e : tv_rn 0 E d = ([], [], d, none) := by cases E <;> rfl
    rw [e]; exact this.1
  | [], m + 1, k + 1, d, _, h => by simp [tv_rn]
  | .inl v :: l, m + 1, k + 1, d, hk, h => by
    obtain ⟨h1, h2⟩ := tv_rn_less l m k d (by omega) h
    simp only [tv_rn, List.take_succ_cons, h1]
    exact ⟨trivial, h2⟩
  | .inr none :: l, m + 1, k + 1, d, hk, h => by
    simp only [tv_rn]
    split
    · exact tv_rn_less l (m + 1) (k + 1) (d + 1) hk (by omega)
    · simp
  | .inr (some (t, a, b)) :: l, m + 1, k + 1, d, hk, h => by
    simp only [tv_rn]
    split
    · exact tv_rn_less l (m + 1) (k + 1) d hk h
    · simp
theorem tv_rn_len : ∀ (E : tv_L) (m d : Nat), (tv_rn m E d).1.length ≤ m
  | E, 0, d => by cases E <;> simp [tv_rn]
  | [], m + 1, d => by simp [tv_rn]
  | .inl v :: l, m + 1, d => by
    have := tv_rn_len l m d
    simp only [tv_rn, List.length_cons]; omega
  | .inr none :: l, m + 1, d => by
    simp only [tv_rn]
    split
    · exact tv_rn_len l (m + 1) (d + 1)
    · simp
  | .inr (some (t, a, b)) :: l, m + 1, d => by
    simp only [tv_rn]
    split
    · exact tv_rn_len l (m + 1) d
    · simp
