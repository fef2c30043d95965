/-! the stack of a text in Polish notation: for each pipe that is due, in how many Q of x it stands -/
def sc_uv (c : Int32) : Bool := decide (c = 117 ∨ c = 118)
def sc_push (c : Int32) (a : Nat) (st : List Nat) : List Nat := match sc_p c with
  | 0 => st
  | 1 => a :: st
  | _ => (if c = 120 then a + 1 else a) :: a :: st
def sc_stp (c : Int32) : List Nat → Option (List Nat)
  | [] => none
  | a :: st => if sc_uv c = true ∧ a = 0 then none else some (sc_push c a st)
def sc_st (L : Nat → Int32) : Nat → Option (List Nat)
  | 0 => some [0]
  | j + 1 => (sc_st L j).bind (sc_stp (L j))
theorem sc_p_le (c : Int32) : sc_p c ≤ 2 := by
  unfold sc_p
  repeat' split
  all_goals omega
theorem sc_st_succ {L : Nat → Int32} {j : Nat} {st : List Nat} (h : sc_st L (j + 1) = some st) : ∃ a X, sc_st L j = some (a :: X) ∧ ¬ (sc_uv (L j) = true ∧ a = 0) ∧ st = sc_push (L j) a X := by
  simp only [sc_st] at h
  cases e : sc_st L j with
  | none => rw [e] at h; cases h
  | some s =>
    rw [e, Option.bind_some] at h
    cases s with
    | nil => cases h
    | cons a X =>
      simp only [sc_stp] at h
      split at h
      · cases h
      · rename_i hn
        cases h
        exact ⟨a, X, rfl, hn, rfl⟩
theorem sc_st_some {L : Nat → Int32} : ∀ {n j : Nat} {st : List Nat}, sc_st L n = some st → j < n → ∃ a X, sc_st L j = some (a :: X)
  | 0, _, _, _, hj => absurd hj (Nat.not_lt_zero _)
  | n + 1, j, st, h, hj => by
    obtain ⟨a, X, h1, -⟩ := sc_st_succ h
    by_cases e : j = n
    · subst e; exact ⟨a, X, h1⟩
    · exact sc_st_some h1 (by omega)
theorem sc_st_next {L : Nat → Int32} {n j a : Nat} {X st : List Nat} (h : sc_st L n = some st) (hj : j < n) (hs : sc_st L j = some (a :: X)) : sc_st L (j + 1) = some (sc_push (L j) a X) ∧ ¬ (sc_uv (L j) = true ∧ a = 0) := by
  by_cases e : j + 1 = n
  · subst e
    obtain ⟨b, Y, h1, h2, h3⟩ := sc_st_succ h
    rw [hs] at h1; cases h1
    exact ⟨by rw [h, h3], h2⟩
  · obtain ⟨b, Y, h1⟩ := sc_st_some h (show j + 1 < n by omega)
    obtain ⟨b2, Y2, h4, h5, h6⟩ := sc_st_succ h1
    rw [hs] at h4; cases h4
    exact ⟨by rw [h1, h6], h5⟩
theorem sc_st_congr {L L' : Nat → Int32} : ∀ {n : Nat}, (∀ j, j < n → L' j = L j) → sc_st L' n = sc_st L n
  | 0, _ => rfl
  | n + 1, h => by
    simp only [sc_st]
    rw [sc_st_congr (n := n) (fun j hj => h j (by omega)), h n (by omega)]
/-- a whole pipe -/
def sc_G (n : Nat) (L : Nat → Int32) : Prop := sc_st L n = some []
theorem sc_G.pos {n : Nat} {L : Nat → Int32} (h : sc_G n L) : 0 < n := by
  cases n with
  | zero => simp [sc_G, sc_st] at h
  | succ n => omega
/-- the tree: where each node's pipe ends -/
def sc_Tk (n : Nat) (L : Nat → Int32) (E : Nat → Nat) (k : Nat) : Prop := ∃ a X, sc_st L k = some (a :: X) ∧ k < E k ∧ E k ≤ n ∧ sc_st L (E k) = some X ∧ (sc_p (L k) = 0 → E k = k + 1) ∧ (sc_p (L k) = 1 → k + 1 < n ∧ E k = E (k + 1) ∧ sc_st L (k + 1) = some (a :: X)) ∧
  (sc_p (L k) = 2 → k + 1 < n ∧ E (k + 1) < n ∧ E k = E (E (k + 1)) ∧ sc_st L (k + 1) = some ((if L k = 120 then a + 1 else a) :: a :: X) ∧ sc_st L (E (k + 1)) = some (a :: X)) ∧ ¬ (sc_uv (L k) = true ∧ a = 0)
def sc_T (n : Nat) (L : Nat → Int32) (E : Nat → Nat) : Prop := ∀ k, k < n → sc_Tk n L E k
theorem sc_G.lt {n j a : Nat} {L : Nat → Int32} {X : List Nat} (h : sc_G n L) (hj : j ≤ n) (hs : sc_st L j = some (a :: X)) : j < n := by
  rcases Nat.lt_or_eq_of_le hj with h1 | h1
  · exact h1
  · subst h1
    rw [sc_G] at h
    rw [h] at hs; cases hs
theorem sc_T_ex0 {n : Nat} {L : Nat → Int32} (h : sc_G n L) : ∀ r m, m + r = n → ∃ E : Nat → Nat, ∀ k, m ≤ k → k < n → sc_Tk n L E k := by
  intro r
  induction r with
  | zero => intro m hm; exact ⟨fun _ => 0, fun k h1 h2 => by omega⟩
  | succ r ih =>
    intro m hm
    obtain ⟨E, hE⟩ := ih (m + 1) (by omega)
    obtain ⟨a, X, hs⟩ := sc_st_some h (show m < n by omega)
    obtain ⟨hs1, huv⟩ := sc_st_next h (show m < n by omega) hs
    -- the new end
    have key : ∃ e, m < e ∧ e ≤ n ∧ sc_st L e = some X ∧ (sc_p (L m) = 0 → e = m + 1) ∧ (sc_p (L m) = 1 → m + 1 < n ∧ e = E (m + 1) ∧ sc_st L (m + 1) = some (a :: X)) ∧ (sc_p (L m) = 2 → m + 1 < n ∧ E (m + 1) < n ∧ m + 1 < E (m + 1) ∧ e = E (E (m + 1)) ∧ sc_st L (m + 1) = some ((if L m = 120 then a + 1 else a) :: a :: X) ∧ sc_st L (E (m + 1)) = some (a :: X)) := by
      have h2 := sc_p_le (L m)
      rcases (by omega : sc_p (L m) = 0 ∨ sc_p (L m) = 1 ∨ sc_p (L m) = 2) with hp | hp | hp
      · simp only [sc_push, hp] at hs1
        exact ⟨m + 1, by omega, by omega, hs1, fun _ => rfl, fun q => by omega, fun q => by omega⟩
      · simp only [sc_push, hp] at hs1
        have hlt := h.lt (by omega) hs1
        obtain ⟨b, Y, g1, g2, g3, g4, -⟩ := hE (m + 1) (by omega) hlt
        rw [hs1] at g1; cases g1
        exact ⟨E (m + 1), by omega, g3, g4, fun q => by omega, fun _ => ⟨hlt, rfl, hs1⟩, fun q => by omega⟩
      · simp only [sc_push, hp] at hs1
        have hlt := h.lt (by omega) hs1
        obtain ⟨b, Y, g1, g2, g3, g4, -⟩ := hE (m + 1) (by omega) hlt
        rw [hs1] at g1
        cases g1
        have hlt2 := h.lt g3 g4
        obtain ⟨b2, Y2, k1, k2, k3, k4, -⟩ := hE (E (m + 1)) (by omega) hlt2
        rw [g4] at k1; cases k1
        exact ⟨E (E (m + 1)), by omega, k3, k4, fun q => by omega, fun q => by omega, fun _ => ⟨hlt, hlt2, g2, rfl, hs1, g4⟩⟩
    obtain ⟨e, e1, e2, e3, e4, e5, e6⟩ := key
    refine ⟨fun k => if k = m then e else E k, fun k hk1 hk2 => ?_⟩
    by_cases hkm : k = m
    · subst hkm
      refine ⟨a, X, hs, ?_⟩
      simp only [if_true]
      refine ⟨e1, e2, e3, e4, fun q => ?_, fun q => ?_, huv⟩
      · obtain ⟨q1, q2, q3⟩ := e5 q
        rw [if_neg (by omega)]; exact ⟨q1, q2, q3⟩
      · obtain ⟨q1, q2, q3, q4, q5, q6⟩ := e6 q
        rw [if_neg (show ¬ k + 1 = k by omega), if_neg (show ¬ E (k + 1) = k by omega)]
        exact ⟨q1, q2, q4, q5, q6⟩
    · obtain ⟨b, Y, g1, g2, g3, g4, g5, g6, g7, g8⟩ := hE k (by omega) hk2
      refine ⟨b, Y, g1, ?_⟩
      simp only [if_neg hkm]
      refine ⟨g2, g3, g4, g5, fun q => ?_, fun q => ?_, g8⟩
      · obtain ⟨q1, q2, q3⟩ := g6 q
        rw [if_neg (by omega)]; exact ⟨q1, q2, q3⟩
      · obtain ⟨q1, q2, q3, q4, q5⟩ := g7 q
        obtain ⟨-, -, -, hh, -⟩ := hE (k + 1) (by omega) q1
        rw [if_neg (show ¬ k + 1 = m by omega), if_neg (show ¬ E (k + 1) = m by omega)]
        exact ⟨q1, q2, q3, q4, q5⟩
theorem sc_T_ex {n : Nat} {L : Nat → Int32} (h : sc_G n L) : ∃ E, sc_T n L E := by
  obtain ⟨E, hE⟩ := sc_T_ex0 h n 0 (by omega)
  exact ⟨E, fun k hk => hE k (Nat.zero_le k) hk⟩
theorem sc_T_0 {n : Nat} {L : Nat → Int32} {E : Nat → Nat} (h : sc_G n L) (hT : sc_T n L E) : E 0 = n := by
  obtain ⟨a, X, h1, h2, h3, h4, -⟩ := hT 0 h.pos
  have : a :: X = [0] := Option.some.inj (h1.symm.trans rfl)
  cases this
  rcases Nat.lt_or_eq_of_le h3 with h5 | h5
  · obtain ⟨b, Y, g1, -⟩ := hT (E 0) h5
    rw [h4] at g1; cases g1
  · exact h5
