/-! TREES of pipes: a node has its letter, mark and numbers; its pipes in the order of the text -/
abbrev tt_C : Type := Int32 × Int32 × Int32 × Int32
abbrev tt_T : Type := Std.DTreeMap.Internal.Impl tt_C (fun _ => Unit)
abbrev tt_nd (c : tt_C) (P Q : tt_T) : tt_T := .inner 0 c () P Q
def tt_sz : tt_T → Nat
  | .leaf => 0
  | .inner _ _ _ P Q => tt_sz P + tt_sz Q + 1
/-- what nodes do with numbers -/
def tt_md (x n : Int32) : Int32 := if n = 0 then 0 else if 0 ≤ (x ^^^ n) then x - x / n * n else if x - x / n * n = 0 then x - x / n * n else x - x / n * n + n
def tt_ps (c : tt_C) (v : Int32) : Bool := if c.1 = 107 then decide (tt_md v c.2.2.1 = 0) else if c.2.1 = 60 then decide (v < c.2.2.1) else if c.2.1 = 62 then decide (c.2.2.1 < v) else decide (v = c.2.2.1)
def tt_jn (c : tt_C) (x y : Int32) : Int32 := if c.2.1 = 43 then x + y else if c.2.1 = 42 then x * y else if y < x then y else x
def tt_op (c : tt_C) (o v : Int32) : tv_L :=
  if c.1 = 37 then [tv_g (tt_md v c.2.2.1)]
  else if c.1 = 42 then [tv_g (v * c.2.2.1)]
  else if c.1 = 43 then [tv_g (v + c.2.2.1)]
  else if c.1 = 47 then (if v = 0 then [tv_s 1 o] else [tv_g (c.2.2.1 / v)])
  else if c.1 = 108 then [tv_n c.2.1 v, tv_g v]
  else if tt_ps c v = true then [tv_g v] else []
/-- m numbers, from number i on -/
def tv_pr (f : Nat → Int32) : Nat → Nat → tv_L
  | _, 0 => []
  | i, m + 1 => tv_d :: tv_g (f i) :: tv_pr f (i + 1) m
/-- the sheets: none is lost -/
abbrev tt_S : Type := Int32 → Option (Nat × (Nat → Int32))
/-- a producer that has given i numbers; o: in how many Q it stands, w: the number that the innermost is opened for -/
def tt_lf (S : tt_S) (c : tt_C) (o w : Int32) (i : Nat) : tv_L :=
  if c.1 = 105 then tv_pr (fun j => c.2.2.1 + nI j * c.2.2.2) i (600 - i) ++ [tv_c]
  else if c.1 = 114 then tv_pr (fun j => c.2.2.1 + nI j) i ((c.2.2.2.toInt - c.2.2.1.toInt).toNat - i)
  else if c.1 = 115 then (match S c.2.1 with
    | none => [tv_s 2 o]
    | some (n, f) => tv_pr f i (n - i))
  else if c.1 = 117 then tv_pr (fun j => nI j) i (w.toInt.toNat - i)
  else if c.1 = 118 then tv_pr (fun _ => w) i (1 - i)
  else []
/-- all that a pipe does, from its beginning -/
def tt_sem (S : tt_S) : tt_T → Int32 → Int32 → tv_L
  | .leaf, _, _ => []
  | .inner _ c _ P Q, o, w =>
    if c.1 = 120 then tv_bnd (fun v => tt_sem S P (o + 1) v) (tt_sem S Q o w)
    else if c.1 = 99 then tt_sem S P o w ++ tt_sem S Q o w
    else if c.1 = 122 then tv_zp (tt_jn c) (tt_sem S P o w) (tt_sem S Q o w)
    else if c.1 = 116 then tv_tk (tt_sem S P o w) c.2.2.1.toNatClampNeg
    else if c.1 = 100 then tv_dr (tt_sem S P o w) c.2.2.1.toNatClampNeg
    else if c.1 = 119 then tv_tw (tt_ps c) (tt_sem S P o w)
    else if sc_p c.1 = 0 then tt_lf S c o w 0
    else tv_bnd (tt_op c o) (tt_sem S P o w)
theorem tt_op_one (c : tt_C) (o : Int32) : tv_one (tt_op c o) := by
  intro v
  unfold tt_op
  split
  · exact Or.inr (Or.inl ⟨_, rfl⟩)
  split
  · exact Or.inr (Or.inl ⟨_, rfl⟩)
  split
  · exact Or.inr (Or.inl ⟨_, rfl⟩)
  split
  · split
    · exact Or.inr (Or.inr (Or.inr ⟨_, rfl⟩))
    · exact Or.inr (Or.inl ⟨_, rfl⟩)
  split
  · exact Or.inr (Or.inr (Or.inl ⟨_, _, _, rfl⟩))
  split
  · exact Or.inr (Or.inl ⟨_, rfl⟩)
  · exact Or.inl rfl
theorem tv_gd_pr {c : Nat} (f : Nat → Int32) : ∀ (m i g k n : Nat), tv_gd c (tv_pr f i m) g k n
  | 0, _, _, _, _ => trivial
  | m + 1, i, g, k, n => ⟨Nat.le_add_left 1 g, by rw [Nat.add_sub_cancel]; exact tv_gd_pr f m (i + 1) g (k + c) (n + 1)⟩
theorem tv_gd_prc {c : Nat} (f : Nat → Int32) : ∀ (m i g k n : Nat), 501 ≤ n + m → tv_gd c (tv_pr f i m ++ [tv_c]) g k n
  | 0, _, _, _, _, h => Or.inr (Or.inr ⟨rfl, by omega⟩)
  | m + 1, i, g, k, n, h => ⟨Nat.le_add_left 1 g, by rw [Nat.add_sub_cancel]; exact tv_gd_prc f m (i + 1) g (k + c) (n + 1) (by omega)⟩
theorem tt_gd_lf (S : tt_S) (c : tt_C) (o w : Int32) : tv_gd 0 (tt_lf S c o w 0) 0 0 0 := by
  unfold tt_lf
  split
  · exact tv_gd_prc _ _ _ _ _ _ (by omega)
  split
  · exact tv_gd_pr _ _ _ _ _ _
  split
  · split
    · exact Or.inr (Or.inl ⟨rfl, Or.inr rfl⟩)
    · exact tv_gd_pr _ _ _ _ _ _
  split
  · exact tv_gd_pr _ _ _ _ _ _
  split
  · exact tv_gd_pr _ _ _ _ _ _
  · trivial
theorem tt_gd (S : tt_S) : ∀ (T : tt_T) (o w : Int32), tv_gd (tt_sz T) (tt_sem S T o w) 0 0 0
  | .leaf, _, _ => trivial
  | .inner _ c _ P Q, o, w => by
    have hP := tt_gd S P
    have hQ := tt_gd S Q
    have up : ∀ {l : tv_L} {x : Nat}, tv_gd x l 0 0 0 → x ≤ tt_sz P + tt_sz Q + 1 → tv_gd (tt_sz P + tt_sz Q + 1) l 0 0 0 := fun h hx => h.mono hx (Nat.le_refl _) (Nat.le_refl _) (Nat.le_refl _)
    simp only [tt_sem, tt_sz]
    split
    · exact tv_gd_bnd (c := tt_sz Q) (cq := tt_sz P) (by omega) (by omega) (fun v => hP (o + 1) v) (hQ o w)
    split
    · exact tv_gd_app (up (hQ o w) (by omega)) (up (hP o w) (by omega))
    split
    · exact up (tv_gd_zp (hP o w) (hQ o w) (Nat.le_refl _) (Nat.le_refl _) (Nat.le_refl _) (Nat.le_refl _)) (by omega)
    split
    · exact up (tv_gd_tk (hP o w)) (by omega)
    split
    · exact up (tv_gd_dr (hP o w)) (by omega)
    split
    · exact up (tv_gd_tw (hP o w)) (by omega)
    split
    · exact up (tt_gd_lf S c o w) (by omega)
    · exact up (tv_gd_one (tt_op_one c o) (hP o w)) (by omega)
