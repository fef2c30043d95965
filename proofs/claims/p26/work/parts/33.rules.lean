/-! THE RULES on trees, and that they keep what a pipe does, but for draws -/
def tt_nil : tt_T := tt_nd (114, -1, 0, 0) .leaf .leaf
def tt_isnil : tt_T → Bool
  | .leaf => false
  | .inner _ c _ _ _ => decide (c.1 = 114 ∧ c.2.2.1 = 0 ∧ c.2.2.2 = 0)
def tt_pu : tt_T → Bool
  | .leaf => true
  | .inner _ c _ P Q => !sc_im c.1 && tt_pu P && tt_pu Q
def tt_pmd (L : Int32) : Bool := decide (L = 37 ∨ L = 42 ∨ L = 43)
/-- the rule at a node t, d, and at any, and what it makes of it -/
def tt_apt (c : tt_C) : tt_T → Option (Nat × tt_T)
  | .leaf => none
  | .inner _ e _ P Q =>
    if tt_pmd e.1 = true then some (3, tt_nd e (tt_nd c P .leaf) Q)
    else if e.1 = 114 then some (6, tt_nd (e.1, e.2.1, e.2.2.1, if e.2.2.1 + c.2.2.1 < e.2.2.2 then e.2.2.1 + c.2.2.1 else e.2.2.2) P Q)
    else if e.1 = 116 then some (1, tt_nd (e.1, e.2.1, (if e.2.2.1 < c.2.2.1 then e.2.2.1 else c.2.2.1), e.2.2.2) P Q)
    else if c.2.2.1 = 0 then some (9, tt_nil) else none
def tt_apd (c : tt_C) : tt_T → Option (Nat × tt_T)
  | .leaf => none
  | .inner z e u P Q =>
    if tt_pmd e.1 = true then some (4, tt_nd e (tt_nd c P .leaf) Q)
    else if e.1 = 100 then some (2, tt_nd (e.1, e.2.1, c.2.2.1 + e.2.2.1, e.2.2.2) P Q)
    else if e.1 = 105 then some (8, tt_nd (e.1, e.2.1, e.2.2.1 + c.2.2.1 * e.2.2.2, e.2.2.2) P Q)
    else if e.1 = 114 then some (7, tt_nd (e.1, e.2.1, (if e.2.2.1 + c.2.2.1 < e.2.2.2 then e.2.2.1 + c.2.2.1 else e.2.2.2), e.2.2.2) P Q)
    else if e.1 = 116 ∧ tt_pu P = true then some (5, tt_nd (e.1, e.2.1, (if 0 < e.2.2.1 - c.2.2.1 then e.2.2.1 - c.2.2.1 else 0), e.2.2.2) (tt_nd c P .leaf) Q)
    else if c.2.2.1 = 0 then some (10, .inner z e u P Q) else none
def tt_ap : tt_T → Option (Nat × tt_T)
  | .leaf => none
  | .inner _ c _ P Q =>
    if c.1 = 114 then (if c.2.2.2 ≤ c.2.2.1 ∧ ¬ (c.2.2.1 = 0 ∧ c.2.2.2 = 0) then some (0, tt_nil) else none)
    else if c.1 = 116 then tt_apt c P
    else if c.1 = 100 then tt_apd c P
    else if c.1 = 99 then (if tt_isnil P = true then some (12, Q) else if tt_isnil Q = true then some (12, P) else none)
    else if c.1 = 105 ∨ c.1 = 115 ∨ c.1 = 117 ∨ c.1 = 118 then none
    else if c.1 = 120 then (if tt_isnil Q = true then some (11, tt_nil) else none)
    else (if tt_isnil P = true then some (11, tt_nil) else none)
/-- codes: letters without a mark have none; t and d have no second number -/
def tt_vm (c : tt_C) : Prop := (c.1 = 114 → c.2.1 = -1) ∧ (c.1 = 116 ∨ c.1 = 100 → c.2.1 = -1 ∧ c.2.2.2 = 0)
/-- trees of pipes -/
def tt_wf : tt_T → Prop
  | .leaf => False
  | .inner s c _ P Q => s = 0 ∧ tt_vm c ∧ sc_il c.1 = true ∧ (sc_p c.1 = 0 → P = .leaf ∧ Q = .leaf) ∧ (sc_p c.1 = 1 → tt_wf P ∧ Q = .leaf) ∧ (sc_p c.1 = 2 → tt_wf P ∧ tt_wf Q)
/-- numbers in their bounds -/
def tt_nwc (c : tt_C) : Prop := (c.1 = 116 → 0 ≤ c.2.2.1.toInt ∧ c.2.2.1.toInt ≤ 100000) ∧ (c.1 = 100 → 0 ≤ c.2.2.1.toInt) ∧ (c.1 = 114 → -100000 ≤ c.2.2.1.toInt ∧ c.2.2.1.toInt ≤ 100000 ∧ -100000 ≤ c.2.2.2.toInt ∧ c.2.2.2.toInt ≤ 100000)
def tt_nw : tt_T → Prop
  | .leaf => True
  | .inner _ c _ P Q => tt_nwc c ∧ tt_nw P ∧ tt_nw Q
/-- the numbers of all d together -/
def tt_dw : tt_T → Nat
  | .leaf => 0
  | .inner _ c _ P Q => (if c.1 = 100 then c.2.2.1.toInt.toNat else 0) + tt_dw P + tt_dw Q
/-! lists -/
theorem tv_tk_nil (n : Nat) : tv_tk [] n = [] := by cases n <;> rfl
theorem tv_dr_nil (n : Nat) : tv_dr [] n = [] := by cases n <;> rfl
theorem tv_tk0 (E : tv_L) : tv_tk E 0 = [] := by cases E <;> rfl
theorem tv_tk_tk : ∀ (E : tv_L) (n m : Nat), tv_tk (tv_tk E m) n = tv_tk E (min n m)
  | E, 0, m => by rw [Nat.zero_min, tv_tk0, tv_tk0]
  | E, n + 1, 0 => by rw [Nat.min_zero, tv_tk0, tv_tk_nil]
  | [], n + 1, m + 1 => by rw [tv_tk_nil, tv_tk_nil, tv_tk_nil]
  | .inl v :: E, n + 1, m + 1 => by
    rw [Nat.succ_min_succ]
    simp only [tv_tk]
    rw [tv_tk_tk E n m]
  | .inr o :: E, n + 1, m + 1 => by
    have := tv_tk_tk E (n + 1) (m + 1)
    rw [Nat.succ_min_succ] at this ⊢
    simp only [tv_tk]
    rw [this]
theorem tv_dr_dr : ∀ (E : tv_L) (n m : Nat), tv_dr (tv_dr E m) n = tv_dr E (m + n)
  | E, n, 0 => by rw [Nat.zero_add, tv_dr0]
  | E, 0, m => by rw [tv_dr0, Nat.add_zero]
  | [], n + 1, m + 1 => by rw [tv_dr_nil, tv_dr_nil, tv_dr_nil]
  | .inl v :: E, n + 1, m + 1 => by
    rw [show m + 1 + (n + 1) = (m + (n + 1)) + 1 by omega]
    simp only [tv_dr]
    exact tv_dr_dr E (n + 1) m
  | .inr o :: E, n + 1, m + 1 => by
    have := tv_dr_dr E (n + 1) (m + 1)
    rw [show m + 1 + (n + 1) = (m + (n + 1)) + 1 by omega] at this ⊢
    simp only [tv_dr]
    rw [this]
theorem tv_tk_map {f : Int32 → tv_L} {h : Int32 → Int32} (hf : ∀ v, f v = [.inl (h v)]) : ∀ (E : tv_L) (n : Nat), tv_tk (tv_bnd f E) n = tv_bnd f (tv_tk E n)
  | E, 0 => by rw [tv_tk0, tv_tk0]; rfl
  | [], n + 1 => rfl
  | .inl v :: E, n + 1 => by
    simp only [tv_bnd, tv_tk, hf, List.cons_append, List.nil_append]
    rw [tv_tk_map hf E n]
  | .inr o :: E, n + 1 => by
    simp only [tv_bnd, tv_tk]
    rw [tv_tk_map hf E (n + 1)]
theorem tv_dr_map {f : Int32 → tv_L} {h : Int32 → Int32} (hf : ∀ v, f v = [.inl (h v)]) : ∀ (E : tv_L) (n : Nat), tv_dr (tv_bnd f E) n = tv_bnd f (tv_dr E n)
  | E, 0 => by rw [tv_dr0, tv_dr0]
  | [], n + 1 => rfl
  | .inl v :: E, n + 1 => by
    simp only [tv_bnd, tv_dr, hf, List.cons_append, List.nil_append]
    exact tv_dr_map hf E n
  | .inr o :: E, n + 1 => by
    simp only [tv_bnd, tv_dr]
    rw [tv_dr_map hf E (n + 1)]
theorem tv_bnd_nil (f : Int32 → tv_L) : tv_bnd f [] = [] := rfl
/-- draws, numbers and cuts alone -/
def tv_dg : tv_L → Prop
  | [] => True
  | .inl _ :: l => tv_dg l
  | .inr none :: l => tv_dg l
  | .inr (some (t, _, _)) :: l => t = 3
theorem tv_dl_5 : ∀ (E : tv_L) (n m : Nat), tv_dg E → tv_dl (tv_dr (tv_tk E m) n) (tv_tk (tv_dr E n) (m - n))
  | E, 0, m, _ => by rw [tv_dr0, tv_dr0, Nat.sub_zero]; exact tv_dl_rf _
  | E, n + 1, 0, _ => by rw [tv_tk0, tv_dr_nil, Nat.zero_sub, tv_tk0]; exact rfl
  | [], n + 1, m + 1, _ => by rw [tv_tk_nil, tv_dr_nil, tv_tk_nil]; exact rfl
  | .inl v :: E, n + 1, m + 1, h => by
    simp only [tv_tk, tv_dr]
    rw [Nat.succ_sub_succ]
    exact tv_dl_5 E n m h
  | .inr none :: E, n + 1, m + 1, h => by
    have ih := tv_dl_5 E (n + 1) (m + 1) h
    simp only [tv_tk, tv_dr]
    cases hk : m + 1 - (n + 1) with
    | zero => rw [hk, tv_tk0] at ih; rw [tv_tk0]; exact Or.inl ih
    | succ k => rw [hk] at ih; exact Or.inr ⟨_, rfl, ih⟩
  | .inr (some (t, a, b)) :: E, n + 1, m + 1, h => by
    simp only [tv_tk, tv_dr]
    exact Or.inl h
/-! producers -/
theorem tv_tk_pr (f : Nat → Int32) : ∀ (m i n : Nat), tv_tk (tv_pr f i m) n = tv_pr f i (min m n)
  | 0, i, n => by rw [Nat.zero_min]; exact tv_tk_nil n
  | m + 1, i, 0 => by rw [Nat.min_zero, tv_tk0]; rfl
  | m + 1, i, n + 1 => by
    rw [Nat.succ_min_succ]
    simp only [tv_pr, tv_tk]
    rw [tv_tk_pr f m (i + 1) n]
theorem tv_dr_pr (f : Nat → Int32) (X : tv_L) (hX : ∀ k, tv_dl (tv_dr X k) X) : ∀ (m i n : Nat), tv_dl (tv_dr (tv_pr f i m ++ X) n) (tv_pr f (i + min m n) (m - n) ++ X)
  | 0, i, n => by rw [Nat.zero_min, Nat.zero_sub]; exact hX n
  | m + 1, i, 0 => by rw [Nat.min_zero, Nat.sub_zero, tv_dr0]; exact tv_dl_rf _
  | m + 1, i, n + 1 => by
    rw [Nat.succ_min_succ, Nat.succ_sub_succ]
    simp only [tv_pr, List.cons_append, tv_dr]
    have := tv_dr_pr f X hX m (i + 1) n
    rw [show i + 1 + min m n = i + (min m n + 1) by omega] at this
    exact Or.inl this
theorem tv_pr_sh (f : Nat → Int32) (s : Nat) : ∀ (m i : Nat), tv_pr f (i + s) m = tv_pr (fun j => f (j + s)) i m
  | 0, _ => rfl
  | m + 1, i => by
    simp only [tv_pr]
    rw [show i + s + 1 = (i + 1) + s by omega, tv_pr_sh f s m (i + 1)]
theorem tv_pr_congr {f g : Nat → Int32} (h : ∀ j, f j = g j) (i m : Nat) : tv_pr f i m = tv_pr g i m := by rw [funext h]
theorem tv_pr_cut (f : Nat → Int32) (k : Nat) : ∀ (m i : Nat), tv_dl (tv_pr f i m ++ [tv_c]) (tv_pr f i (m + k) ++ [tv_c])
  | 0, _ => Or.inl rfl
  | m + 1, i => by
    rw [show m + 1 + k = (m + k) + 1 by omega]
    simp only [tv_pr, List.cons_append]
    exact Or.inr ⟨_, rfl, ⟨_, rfl, tv_pr_cut f k m (i + 1)⟩⟩
theorem tv_dg_pr (f : Nat → Int32) : ∀ (m i : Nat), tv_dg (tv_pr f i m)
  | 0, _ => trivial
  | m + 1, i => tv_dg_pr f m (i + 1)
theorem tv_dg_app : ∀ {A B : tv_L}, tv_dg A → tv_dg B → tv_dg (A ++ B)
  | [], _, _, h => h
  | .inl _ :: A, _, h, h2 => tv_dg_app (A := A) h h2
  | .inr none :: A, _, h, h2 => tv_dg_app (A := A) h h2
  | .inr (some (t, _, _)) :: A, _, h, _ => h
theorem tv_dg_bnd {f : Int32 → tv_L} (hf : ∀ v, tv_dg (f v)) : ∀ {A : tv_L}, tv_dg A → tv_dg (tv_bnd f A)
  | [], _ => trivial
  | .inl v :: A, h => tv_dg_app (hf v) (tv_dg_bnd hf (A := A) h)
  | .inr none :: A, h => tv_dg_bnd hf (A := A) h
  | .inr (some (t, _, _)) :: A, h => h
theorem tv_dg_tk : ∀ {A : tv_L} {n : Nat}, tv_dg A → tv_dg (tv_tk A n)
  | A, 0, _ => by rw [tv_tk0]; trivial
  | [], n + 1, _ => trivial
  | .inl v :: A, n + 1, h => tv_dg_tk (A := A) (n := n) h
  | .inr none :: A, n + 1, h => tv_dg_tk (A := A) (n := n + 1) h
  | .inr (some (t, _, _)) :: A, n + 1, h => h
theorem tv_dg_dr : ∀ {A : tv_L} {n : Nat}, tv_dg A → tv_dg (tv_dr A n)
  | A, 0, h => by rw [tv_dr0]; exact h
  | [], n + 1, _ => trivial
  | .inl v :: A, n + 1, h => tv_dg_dr (A := A) (n := n) h
  | .inr none :: A, n + 1, h => tv_dg_dr (A := A) (n := n + 1) h
  | .inr (some (t, _, _)) :: A, n + 1, h => h
theorem tv_dg_tw {p : Int32 → Bool} : ∀ {A : tv_L}, tv_dg A → tv_dg (tv_tw p A)
  | [], _ => trivial
  | .inl v :: A, h => by
    simp only [tv_tw]
    split
    · exact tv_dg_tw (A := A) h
    · trivial
  | .inr none :: A, h => tv_dg_tw (A := A) h
  | .inr (some (t, _, _)) :: A, h => h
theorem tv_dg_zp {j : Int32 → Int32 → Int32} : ∀ {P Q : tv_L}, tv_dg P → tv_dg Q → tv_dg (tv_zp j P Q)
  | [], _, _, _ => trivial
  | .inr none :: P, Q, h, hQ => tv_dg_zp (P := P) h hQ
  | .inr (some (t, _, _)) :: P, Q, h, hQ => h
  | .inl v :: P, Q, h, hQ => by
    have key : ∀ Q : tv_L, tv_dg Q → tv_dg (tv_zp j (.inl v :: P) Q) := by
      intro Q
      induction Q with
      | nil => intro _; trivial
      | cons e Q ih =>
        intro hQ
        rcases e with u | (_ | ⟨t, a, b⟩)
        · simp only [tv_zp, tv_sp, List.nil_append]
          exact tv_dg_zp (P := P) h hQ
        · have := ih hQ
          simp only [tv_zp, tv_sp, List.cons_append] at this ⊢
          exact this
        · simp only [tv_zp, tv_sp, List.cons_append]
          exact hQ
    exact key Q hQ
