/-! THE SMALL MACHINE OF CONSTRUCTORS: a world that grows; references are places of its cells -/
abbrev sd_C : Type := (Nat × List Value) ⊕ (Nat × Nat × (Nat → Int32))
abbrev sd_D : Type := List sd_C
abbrev sd_R : Type := sd_D × Nat × Nat
abbrev sd_K : Type := Nat → sf_L → List Value → sd_D → Nat → Nat → Option sd_R
abbrev sd_J : Type := List Value → sd_D → (List Value → sd_D → Nat → Nat → Option sd_R) → Option sd_R
abbrev sd_bv (n : Nat) (v : Value) : Bool := match v with
  | .ref q => Nat.blt q n
  | _ => true
abbrev sd_bl (n : Nat) : List Value → Bool
  | [] => true
  | v :: r => match sd_bv n v with
    | true => sd_bl n r
    | false => false
abbrev sd_bL (n : Nat) : sf_L → Bool
  | [] => true
  | (_, some v) :: r => match sd_bv n v with
    | true => sd_bL n r
    | false => false
  | (_, none) :: r => sd_bL n r
abbrev sd_bD (n : Nat) : sd_D → Bool
  | [] => true
  | .inl (_, vs) :: r => match sd_bl n vs with
    | true => sd_bD n r
    | false => false
  | .inr _ :: r => sd_bD n r
/-- all references are places of cells -/
abbrev sd_b (L : sf_L) (st : List Value) (Δ : sd_D) : Bool := match sd_bL Δ.length L with
  | true => match sd_bl Δ.length st with
    | true => sd_bD Δ.length Δ
    | false => false
  | false => false
/-- the fields of an object that is new, by its class's place -/
abbrev sd_new (ci : Nat) : Option (List Value) := match ci with
  | 0 => some [.null, .null, .null, .null, .null, .null, .int 0]
  | 1 => some [.null, .null, .null, .null, .int 0, .null, .null]
  | 2 => some [.null, .null, .null, .null, .int 0, .null, .null, .null, .null, .null, .int 0, .int 0]
  | 3 => some [.null, .null, .int 0]
  | 4 => some [.null, .null, .int 0, .null, .int 0, .int 0, .int 0]
  | 5 => some [.null, .null, .int 0]
  | 6 => some [.null, .int 0, .int 0, .int 0, .int 0, .int 0, .int 0, .null, .null, .int 0]
  | 7 => some [.null, .null, .null]
  | 8 => some [.null, .null, .null, .null, .null, .null, .int 0, .null]
  | _ => none
abbrev sd_step (J : List (Nat × sd_J)) (e : sf_E) (pc : Nat) (L : sf_L) (st : List Value) (Δ : sd_D) (c s : Nat) (K : sd_K) : Option sd_R :=
  match e with
  | (ins, nx, tg, v, _, fp) =>
    match ins with
    | .iconst _ => K nx L (v :: st) Δ c s
    | .bipush _ => K nx L (v :: st) Δ c s
    | .sipush _ => K nx L (v :: st) Δ c s
    | .aload_n i => match sf_get L i with
      | some (.ref q) => K nx L (.ref q :: st) Δ c s
      | _ => none
    | .iload_n i => match sf_get L i with
      | some (.int x) => K nx L (.int x :: st) Δ c s
      | _ => none
    | .istore_n i => match st with
      | .int x :: r => K nx (sf_st1 L i (.int x)) r Δ c s
      | _ => none
    | .iinc i _ => match sf_get L i with
      | some (.int x) => match v with
        | .int d => K nx (sf_st1 L i (.int (x + d))) st Δ c s
        | _ => none
      | _ => none
    | .dup => match st with
      | .ref x :: r => K nx L (.ref x :: .ref x :: r) Δ c s
      | _ => none
    | .goto _ => K tg L st Δ c s
    | .if_icmp .ge _ => match st with
      | .int y :: .int x :: r => if y ≤ x then K tg L r Δ c s else K nx L r Δ c s
      | _ => none
    | .getfield _ => match st with
      | .ref q :: r => match Δ[q]? with
        | some (.inl (ci, fs)) => match sf_as fp ci with
          | some k => match fs[k]? with
            | some y => K nx L (y :: r) Δ c s
            | none => none
          | none => none
        | _ => none
      | _ => none
    | .putfield _ => match st with
      | y :: .ref q :: r => match Δ[q]? with
        | some (.inl (ci, fs)) => match sf_as fp ci with
          | some k => match Nat.blt k fs.length with
            | true => match y with
              | .ref z => match v with
                | .ref _ => K nx L r (Δ.set q (.inl (ci, fs.set k (.ref z)))) c s
                | _ => none
              | .int z => match v with
                | .null => K nx L r (Δ.set q (.inl (ci, fs.set k (.int z)))) c s
                | _ => none
              | _ => none
            | false => none
          | none => none
        | _ => none
      | _ => none
    | .iastore => match st with
      | .int x :: .int i :: .ref q :: r => match Δ[q]? with
        | some (.inr (0, n, f)) => match sf_in i n with
          | true => K nx L r (Δ.set q (.inr (0, n, upd f i.toNatClampNeg x))) c s
          | false => none
        | _ => none
      | _ => none
    | .new _ => match sd_b L st Δ with
      | true => match sd_new tg with
        | some fs => K nx L (.ref Δ.length :: st) (Δ ++ [.inl (tg, fs)]) (c + 1) (s + fs.length)
        | none => none
      | false => none
    | .newarray _ => match sd_b L st Δ with
      | true => match st with
        | .int n :: r => match decide (n < 0) with
          | false => match Nat.ble n.toNatClampNeg 2400 with
            | true => K nx L (.ref Δ.length :: r) (Δ ++ [.inr (tg, n.toNatClampNeg, fun _ => 0)]) (c + 1) (s + n.toNatClampNeg)
            | false => none
          | true => none
        | _ => none
      | false => none
    | .invokespecial _ => match sd_b L st Δ with
      | true => match sf_as J pc with
        | some j => j st Δ fun st2 Δ2 dc ds => K nx L st2 Δ2 (c + dc) (s + ds)
        | none => none
      | false => none
    | .return_ => match st with
      | [] => some (Δ, c, s)
      | _ => none
    | _ => none
abbrev sd_run (J : List (Nat × sd_J)) (tab : List (Nat × sf_E)) : Nat → sd_K
  | 0 => fun _ _ _ _ _ _ => none
  | n + 1 => fun pc L st Δ c s => match sf_as tab pc with
    | some e => sd_step J e pc L st Δ c s fun pc2 L2 st2 Δ2 c2 s2 => sd_run J tab n pc2 L2 st2 Δ2 c2 s2
    | none => none
def sd_ce (as : Nat → Nat) (cy : Nat → ClassId) : sd_C → va_E
  | .inl (ci, vs) => .inr (ci, vs.map (sf_v as))
  | .inr (t, n, f) => .inl (cy t, n, .inl f)
def sd_wd (as : Nat → Nat) (cy : Nat → ClassId) (Δ : sd_D) : va_W := Δ.mapIdx fun k x => (as k, sd_ce as cy x)
theorem sd_wd_at {as : Nat → Nat} {cy : Nat → ClassId} {Δ : sd_D} {k : Nat} {x : sd_C} (h : Δ[k]? = some x) : (sd_wd as cy Δ)[k]? = some (as k, sd_ce as cy x) := by
  simp [sd_wd, List.getElem?_mapIdx, h]
theorem sd_wd_set {as : Nat → Nat} {cy : Nat → ClassId} {Δ : sd_D} {k : Nat} {x : sd_C} : (sd_wd as cy Δ).set k (as k, sd_ce as cy x) = sd_wd as cy (Δ.set k x) := by
  apply List.ext_getElem?
  intro i
  by_cases hi : i = k
  · subst hi
    by_cases hl : i < Δ.length
    · rw [List.getElem?_set_self (by simpa [sd_wd] using hl)]
      exact (sd_wd_at (by rw [List.getElem?_set_self hl])).symm
    · rw [List.getElem?_eq_none (by simp [sd_wd]; omega), List.getElem?_eq_none (by simp [sd_wd]; omega)]
  · rw [List.getElem?_set_ne (Ne.symm hi)]
    simp [sd_wd, List.getElem?_mapIdx, List.getElem?_set_ne (Ne.symm hi)]
/-- a new cell's address, the others as they are -/
def sd_up (as : Nat → Nat) (n q : Nat) : Nat → Nat := fun k => if k = n then q else as k
theorem sd_up_v {as : Nat → Nat} {n q : Nat} {v : Value} (h : sd_bv n v = true) : sf_v (sd_up as n q) v = sf_v as v := by
  cases v with
  | ref z =>
    have hz : z + 1 ≤ n := Nat.le_of_ble_eq_true h
    have hne : ¬ z = n := Nat.ne_of_lt hz
    simp only [sf_v, sd_up]
    rw [if_neg hne]
  | _ => rfl
theorem sd_bl_all : ∀ {n : Nat} {l : List Value}, sd_bl n l = true → ∀ v ∈ l, sd_bv n v = true
  | _, [], _, v, h => by cases h
  | n, w :: r, h, v, hv => by
    simp only [sd_bl] at h
    split at h
    · rename_i hw
      rcases List.mem_cons.mp hv with rfl | hv
      · exact hw
      · exact sd_bl_all h v hv
    · cases h
theorem sd_bD_all : ∀ {n : Nat} {l : sd_D}, sd_bD n l = true → ∀ ci vs, (.inl (ci, vs) : sd_C) ∈ l → sd_bl n vs = true
  | _, [], _, ci, vs, h => by cases h
  | n, .inl (cj, ws) :: r, h, ci, vs, hv => by
    simp only [sd_bD] at h
    split at h
    · rename_i hw
      rcases List.mem_cons.mp hv with e | hv
      · cases e
        exact hw
      · exact sd_bD_all h ci vs hv
    · cases h
  | n, .inr z :: r, h, ci, vs, hv => by
    simp only [sd_bD] at h
    rcases List.mem_cons.mp hv with e | hv
    · cases e
    · exact sd_bD_all h ci vs hv
theorem sd_bL_all : ∀ {n : Nat} {l : sf_L}, sd_bL n l = true → ∀ i v, sf_get l i = some v → sd_bv n v = true
  | _, [], _, i, v, h => by simp [sf_get] at h
  | n, (k, some w) :: r, h, i, v, hg => by
    simp only [sd_bL] at h
    split at h
    · rename_i hw
      rcases sf_get_put hg with ⟨-, e⟩ | ⟨-, e, -⟩
      · cases e
        exact hw
      · exact sd_bL_all h i v e
    · cases h
  | n, (k, none) :: r, h, i, v, hg => by
    simp only [sd_bL] at h
    rcases sf_get_put hg with ⟨-, e⟩ | ⟨-, e, -⟩
    · cases e
    · exact sd_bL_all h i v e
theorem sd_map_up {as : Nat → Nat} {n q : Nat} {l : List Value} (h : sd_bl n l = true) : l.map (sf_v (sd_up as n q)) = l.map (sf_v as) := List.map_congr_left fun v hv => sd_up_v (sd_bl_all h v hv)
theorem sd_wd_up {as : Nat → Nat} {cy : Nat → ClassId} {q : Nat} {Δ : sd_D} (h : sd_bD Δ.length Δ = true) (x : sd_C) (hx : sd_ce (sd_up as Δ.length q) cy x = sd_ce as cy x) : sd_wd (sd_up as Δ.length q) cy (Δ ++ [x]) = sd_wd as cy Δ ++ [(q, sd_ce as cy x)] := by
  unfold sd_wd
  rw [List.mapIdx_append]
  congr 1
  · apply List.ext_getElem?
    intro i
    simp only [List.getElem?_mapIdx]
    cases hi : Δ[i]? with
    | none => rfl
    | some z =>
      have hl := (List.getElem?_eq_some_iff.mp hi).1
      simp only [Option.map_some, Option.some.injEq, Prod.mk.injEq]
      refine ⟨by simp [sd_up]; omega, ?_⟩
      cases z with
      | inl o =>
        obtain ⟨ci, vs⟩ := o
        simp only [sd_ce]
        rw [sd_map_up (sd_bD_all h ci vs (List.mem_of_getElem? hi))]
      | inr o => rfl
  · simp [sd_up, hx]
theorem sd_LV_up {as : Nat → Nat} {n q nL : Nat} {ls : Array Slot} {L : sf_L} (h : sd_bL n L = true) (hl : sf_LV ls nL as L) : sf_LV ls nL (sd_up as n q) L := ⟨hl.1, hl.2.1, fun i v hg => by rw [sd_up_v (sd_bL_all h i v hg)]; exact hl.2.2 i v hg⟩
