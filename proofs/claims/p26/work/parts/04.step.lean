/-! one instruction, and many: the machine does what the small machine says -/
def sf_len : Instr → Nat
  | .bipush _ => 2
  | .sipush _ => 3
  | .ldc _ => 2
  | .ldc_w _ => 3
  | .ldc2_w _ => 3
  | .iload _ => 2
  | .lload _ => 2
  | .aload _ => 2
  | .istore _ => 2
  | .lstore _ => 2
  | .iinc _ _ => 3
  | .goto _ => 3
  | .ifCond _ _ => 3
  | .if_icmp _ _ => 3
  | .getfield _ => 3
  | .putfield _ => 3
  | .invokevirtual _ => 3
  | .invokestatic _ => 3
  | .tableswitch _ _ _ _ => 0
  | .lookupswitch _ _ => 0
  | _ => 1
/-- fields of a class's code: entry of its pool, class in vwCl, place, kind (0 read alone, 1 int, 2 boolean) -/
abbrev sf_FL : Type := List (Nat × Nat × Nat × Nat)
def sf_hasf (fl : sf_FL) (idx : Nat) (kinds : List Nat) (fp : List (Nat × Nat)) : Bool := fp.all fun q => fl.any fun r => Nat.beq r.1 idx && Nat.beq r.2.1 q.1 && Nat.beq r.2.2.1 q.2 && kinds.any (fun k => Nat.beq k r.2.2.2)
/-- rows of a lookupswitch: keys and places as the instruction has them -/
def sf_lks (pc : Nat) : List (Int × Int) → List (Int32 × Nat) → Bool
  | [], [] => true
  | (a, o) :: r, (k, t) :: w => decide (k.toInt = a) && decide ((pc : Int) + o = (t : Int)) && sf_lks pc r w
  | _, _ => false
def sf_tbs (pc : Nat) (lo : Int) : List Int → List (Int32 × Nat) → Bool
  | [], [] => true
  | o :: r, (k, t) :: w => decide (k.toInt = lo) && decide ((pc : Int) + o = (t : Int)) && sf_tbs pc (lo + 1) r w
  | _, _ => false
def sf_ok1 (nL : Nat) (fl : sf_FL) (cl : List (Nat × Value)) (pc : Nat) (e : sf_E) : Bool :=
  match e with
  | (ins, nx, tg, v, sw, fp) =>
    match ins with
    | .iconst n => decide (v = .int (Int32.ofInt n))
    | .bipush n => decide (v = .int ((Int8.ofInt n).toInt32))
    | .sipush n => decide (v = .int ((Int16.ofInt n).toInt32))
    | .ldc i => decide ((i, v) ∈ cl) && (match v with | .int _ => true | _ => false)
    | .ldc_w i => decide ((i, v) ∈ cl) && (match v with | .int _ => true | _ => false)
    | .ldc2_w i => decide ((i, v) ∈ cl) && (match v with | .long _ => true | _ => false)
    | .lconst n => decide (v = .long (Int64.ofNat (n : Nat)))
    | .istore_n i => decide ((i : Nat) < nL)
    | .istore i => decide (i < nL)
    | .lstore_n i => decide ((i : Nat) + 1 < nL)
    | .lstore i => decide (i + 1 < nL)
    | .iinc _ n => decide (v = .int (Int32.ofInt n))
    | .goto o => decide ((pc : Int) + o = (tg : Int))
    | .ifCond _ o => decide ((pc : Int) + o = (tg : Int))
    | .if_icmp _ o => decide ((pc : Int) + o = (tg : Int))
    | .getfield i => sf_hasf fl i [0, 1, 2] fp
    | .putfield i => (match v with | .null => sf_hasf fl i [1] fp | _ => sf_hasf fl i [2] fp)
    | .tableswitch d lo hi offs => decide ((pc : Int) + d = (tg : Int)) && sf_tbs pc lo offs.toList sw && decide (hi = lo + (offs.size : Int) - 1)
    | .lookupswitch d ps => decide ((pc : Int) + d = (tg : Int)) && sf_lks pc ps.toList sw && (ps.toList.zip (ps.toList.drop 1)).all (fun (a, next) => decide (a.1 < next.1))
    | _ => true
def sf_dec (cc : ByteArray) (pc : Nat) (e : sf_E) : Bool := match decode cc pc with
  | .ok (i, n) => decide (i = e.1) && (Nat.beq (sf_len i) 0 || (Nat.beq n (sf_len i) && Nat.beq e.2.1 (pc + n)))
  | _ => false
def sf_chk (cc : ByteArray) (nL : Nat) (fl : sf_FL) (cl : List (Nat × Value)) (tab : List (Nat × sf_E)) : Bool := tab.all fun q => sf_dec cc q.1 q.2 && sf_ok1 nL fl cl q.1 q.2
theorem sf_as_mem {α : Type} : ∀ {l : List (Nat × α)} {n : Nat} {a : α}, sf_as l n = some a → (n, a) ∈ l
  | [], _, _, h => by simp [sf_as] at h
  | (k, b) :: l, n, a, h => by
    simp only [sf_as] at h
    split at h
    · rename_i hk
      cases h
      rw [Nat.eq_of_beq_eq_true hk]
      exact List.mem_cons_self
    · exact List.mem_cons_of_mem _ (sf_as_mem h)
theorem sf_dec_ok {cc : ByteArray} {pc : Nat} {e : sf_E} (h : sf_dec cc pc e = true) : ∃ n, decode cc pc = .ok (e.1, n) ∧ (sf_len e.1 = 0 ∨ (n = sf_len e.1 ∧ e.2.1 = pc + n)) := by
  unfold sf_dec at h
  split at h
  · rename_i i n hd
    simp only [Bool.and_eq_true, decide_eq_true_eq, Bool.or_eq_true] at h
    obtain ⟨rfl, h2⟩ := h
    refine ⟨n, hd, ?_⟩
    rcases h2 with h2 | ⟨h2, h3⟩
    · exact Or.inl (Nat.eq_of_beq_eq_true h2)
    · exact Or.inr ⟨Nat.eq_of_beq_eq_true h2, Nat.eq_of_beq_eq_true h3⟩
  · cases h
/-- what the tables say of a field that a class's code names -/
def sf_FF (s : State) (args : Array Value) (Ts : List Cond) (own : String) (idx ci k kd : Nat) : Prop := ∃ (C : String) (T : u_T) (N : Nat) (ref : String) (ty0 : Nat → FieldType), vwCl[ci]? = some (C, T, N) ∧ k < N ∧ (∀ w ∈ u_ws C T N, w ∈ Ts) ∧
  ((Cond.fieldLink own idx ref (T k).2.1 (T k).2.2.1).before args s = true ∨ ∃ host, (Cond.fieldLinkNest own idx ref (T k).2.1 (T k).2.2.1 host).before args s = true) ∧ (∀ x, s.fieldFound? (T k).1 (T k).2.1 (T k).2.2.1 = some x → s.fieldFound? ref (T k).2.1 (T k).2.2.1 = some x) ∧
  (∀ j, j < N → parseFieldDescriptor (T j).2.2.1 = some (ty0 j)) ∧ (∀ a, a < N → ∀ b, b < N → a ≠ b → (T a).2.1 ≠ (T b).2.1) ∧ (kd = 1 → (T k).2.2.2 = false ∧ ty0 k = .int) ∧ (kd = 2 → (T k).2.2.2 = false ∧ ty0 k = .boolean)
theorem sf_hasf_ok {fl : sf_FL} {idx : Nat} {kinds : List Nat} {fp : List (Nat × Nat)} (h : sf_hasf fl idx kinds fp = true) {c k : Nat} (hk : sf_as fp c = some k) : ∃ kd, (idx, c, k, kd) ∈ fl ∧ kd ∈ kinds := by
  have h1 := List.all_eq_true.mp h _ (sf_as_mem hk)
  obtain ⟨⟨a, b, d, kd⟩, h2, h3⟩ := List.any_eq_true.mp h1
  simp only [Bool.and_eq_true] at h3
  obtain ⟨⟨⟨e1, e2⟩, e3⟩, e4⟩ := h3
  obtain ⟨kk, e5, e6⟩ := List.any_eq_true.mp e4
  have e1 := Nat.eq_of_beq_eq_true e1
  have e2 := Nat.eq_of_beq_eq_true e2
  have e3 := Nat.eq_of_beq_eq_true e3
  have e6 := Nat.eq_of_beq_eq_true e6
  try dsimp only at e1 e2 e3 e6
  subst e1; subst e2; subst e3; subst e6
  exact ⟨kk, h2, e5⟩
def sf_fo (x : Int32) : Option Nat → Value
  | some q => .ref q
  | none => .int x
theorem sf_fo_v (ad : Nat → Nat) (x : Int32) (f : Option Nat) : sf_fv ad x f = sf_v ad (sf_fo x f) := by cases f <;> rfl
section SFW
variable {p : Program} {l : Launch} {e : Env} {R : Room} {s : State} {m : MethodId} {args : Array Value} {below : List Frame} {meth : Method} {c : Code} {Q : State → Prop} {cc : ByteArray} {nL : Nat} {lay : sf_Lay} {D : va_G} {cy : Nat → ClassId} {ad : Nat → Nat} {A : Nat → Prop} {own : String} {Ts : List Cond}
def sf_W (p : Program) (l : Launch) (e : Env) (R : Room) (s : State) (m : MethodId) (args : Array Value) (below : List Frame) (meth : Method) (c : Code) (Q : State → Prop) (nL : Nat) (lay : sf_Lay) (D : va_G) (cy : Nat → ClassId) (ad : Nat → Nat) (A : Nat → Prop) (pc : Nat) (L : sf_L) (st : List Value) (σ : sf_S) : Prop :=
  ∀ (H : Heap) (locs : List Loc) (ls : Array Slot), sf_LV ls nL ad L → va_P D vwCl (sf_wd lay ad cy σ) H → va_S A s.heap H locs → W p l e R s m args below meth c H locs 0 0 Q (F0 m pc ls (st.map (sf_v ad)))
/-- a step that touches neither locals nor heap -/
theorem sf_W.go {pc pc2 : Nat} {L : sf_L} {st st2 : List Value} {σ : sf_S} (k : sf_W p l e R s m args below meth c Q nL lay D cy ad A pc2 L st2 σ)
    (h : ∀ (H : Heap) (locs : List Loc) (ls : Array Slot), sf_LV ls nL ad L → W p l e R s m args below meth c H locs 0 0 Q (F0 m pc2 ls (st2.map (sf_v ad))) → W p l e R s m args below meth c H locs 0 0 Q (F0 m pc ls (st.map (sf_v ad)))) : sf_W p l e R s m args below meth c Q nL lay D cy ad A pc L st σ :=
  fun H locs ls hl hP hS => h H locs ls hl (k H locs ls hl hP hS)
theorem sf_W.mono {pc : Nat} {L L0 : sf_L} {st : List Value} {σ : sf_S} (k : sf_W p l e R s m args below meth c Q nL lay D cy ad A pc L0 st σ) (hm : ∀ i v, sf_get L0 i = some v → sf_get L i = some v) : sf_W p l e R s m args below meth c Q nL lay D cy ad A pc L st σ :=
  fun H locs ls hl hP hS => k H locs ls (hl.mono hm) hP hS
/-- what holds while a method's body runs -/
def sf_At (p : Program) (s : State) (m : MethodId) (args : Array Value) (c : Code) (own : String) (cc : ByteArray) (nL : Nat) (lay : sf_Lay) (D : va_G) (cy : Nat → ClassId) (ad : Nat → Nat) (A : Nat → Prop) (Ts : List Cond) : Prop :=
  p.tables.exec = Jvm.exec ∧ c.code = cc ∧ c.maxLocals = nL ∧ s.vm.findClass own = some m.cls ∧ (∀ w ∈ Ts, w.before args s = true) ∧ va_K D vwCl (sf_ty cy) s ∧ sf_inj lay ad ∧ (∀ k, k < lay.length → A (ad k)) ∧ (∀ q, s.heap.size ≤ q → A q)
theorem sf_row_ist (h0 : sf_At p s m args c own cc nL lay D cy ad A Ts) {pc q n : Nat} {i x : Int32} {L : sf_L} {r : List Value} {σ : sf_S} (hq : lay[q]? = some (.inr (0, n))) (hin : sf_in i n = true) (hd : decode cc pc = .ok (.iastore, 1)) (k : sf_W p l e R s m args below meth c Q nL lay D cy ad A (pc + 1) L r (sf_up σ q i.toNatClampNeg x)) : sf_W p l e R s m args below meth c Q nL lay D cy ad A pc L (.int x :: .int i :: .ref q :: r) σ := by
  obtain ⟨hx, hb, -, -, -, hK, hi, hA, -⟩ := h0
  intro H locs ls hl hP hS
  have hD : va_D A (sf_wd lay ad cy σ) := sf_wd_D cy σ hi hA
  refine va_iast hx hb hK hP hD hS q 0 (sf_wd_at hq) rfl (sf_in_iff hin) hd (fun H1 locs1 hP1 _ hS1 => k H1 locs1 ls hl ?_ hS1)
  rw [← sf_wd_row hq (sf_up_row σ q i.toNatClampNeg x) (sf_up_else σ q i.toNatClampNeg x)]
  exact hP1
theorem sf_row_zst (h0 : sf_At p s m args c own cc nL lay D cy ad A Ts) {pc q n : Nat} {i x : Int32} {L : sf_L} {r : List Value} {σ : sf_S} (hq : lay[q]? = some (.inr (1, n))) (hin : sf_in i n = true) (hd : decode cc pc = .ok (.bastore, 1)) (k : sf_W p l e R s m args below meth c Q nL lay D cy ad A (pc + 1) L r (sf_up σ q i.toNatClampNeg (vp_nar .boolean x))) : sf_W p l e R s m args below meth c Q nL lay D cy ad A pc L (.int x :: .int i :: .ref q :: r) σ := by
  obtain ⟨hx, hb, -, -, -, hK, hi, hA, -⟩ := h0
  intro H locs ls hl hP hS
  have hD : va_D A (sf_wd lay ad cy σ) := sf_wd_D cy σ hi hA
  refine va_zast hx hb hK hP hD hS q 1 (sf_wd_at hq) rfl (sf_in_iff hin) hd (fun H1 locs1 hP1 _ hS1 => k H1 locs1 ls hl ?_ hS1)
  rw [← sf_wd_row hq (sf_up_row σ q i.toNatClampNeg _) (sf_up_else σ q i.toNatClampNeg _)]
  exact hP1
theorem sf_row_bst (h0 : sf_At p s m args c own cc nL lay D cy ad A Ts) {pc q n : Nat} {i x : Int32} {L : sf_L} {r : List Value} {σ : sf_S} (hq : lay[q]? = some (.inr (2, n))) (hin : sf_in i n = true) (hd : decode cc pc = .ok (.bastore, 1)) (k : sf_W p l e R s m args below meth c Q nL lay D cy ad A (pc + 1) L r (sf_up σ q i.toNatClampNeg (vp_nar .byte x))) : sf_W p l e R s m args below meth c Q nL lay D cy ad A pc L (.int x :: .int i :: .ref q :: r) σ := by
  obtain ⟨hx, hb, -, -, -, hK, hi, hA, -⟩ := h0
  intro H locs ls hl hP hS
  have hD : va_D A (sf_wd lay ad cy σ) := sf_wd_D cy σ hi hA
  refine va_bast hx hb hK hP hD hS q 2 (sf_wd_at hq) rfl (sf_in_iff hin) hd (fun H1 locs1 hP1 _ hS1 => k H1 locs1 ls hl ?_ hS1)
  rw [← sf_wd_row hq (sf_up_row σ q i.toNatClampNeg _) (sf_up_else σ q i.toNatClampNeg _)]
  exact hP1
theorem sf_row_ild (h0 : sf_At p s m args c own cc nL lay D cy ad A Ts) {pc q n : Nat} {i : Int32} {L : sf_L} {r : List Value} {σ : sf_S} (hq : lay[q]? = some (.inr (0, n))) (hin : sf_in i n = true) (hd : decode cc pc = .ok (.iaload, 1)) (k : sf_W p l e R s m args below meth c Q nL lay D cy ad A (pc + 1) L (.int (σ q i.toNatClampNeg) :: r) σ) : sf_W p l e R s m args below meth c Q nL lay D cy ad A pc L (.int i :: .ref q :: r) σ := by
  obtain ⟨hx, hb, -, -, -, hK, hi, hA, -⟩ := h0
  intro H locs ls hl hP hS
  exact va_iald hx hb hK hP q 0 (sf_wd_at hq) rfl (sf_in_iff hin) hd (k H locs ls hl hP hS)
theorem sf_row_len (h0 : sf_At p s m args c own cc nL lay D cy ad A Ts) {pc q n : Nat} {L : sf_L} {r : List Value} {σ : sf_S} (hq : lay[q]? = some (.inr (0, n))) (hd : decode cc pc = .ok (.arraylength, 1)) (k : sf_W p l e R s m args below meth c Q nL lay D cy ad A (pc + 1) L (.int (Int32.ofNat n) :: r) σ) : sf_W p l e R s m args below meth c Q nL lay D cy ad A pc L (.ref q :: r) σ := by
  obtain ⟨hx, hb, -, -, -, hK, hi, hA, -⟩ := h0
  intro H locs ls hl hP hS
  exact va_alen hx hb hK hP q 0 (sf_wd_at hq) rfl rfl hd (k H locs ls hl hP hS)
theorem sf_row_zld (h0 : sf_At p s m args c own cc nL lay D cy ad A Ts) {pc q n : Nat} {i : Int32} {L : sf_L} {r : List Value} {σ : sf_S} (hq : lay[q]? = some (.inr (1, n))) (hin : sf_in i n = true) (hd : decode cc pc = .ok (.baload, 1)) (k : sf_W p l e R s m args below meth c Q nL lay D cy ad A (pc + 1) L (.int (σ q i.toNatClampNeg) :: r) σ) : sf_W p l e R s m args below meth c Q nL lay D cy ad A pc L (.int i :: .ref q :: r) σ := by
  obtain ⟨hx, hb, -, -, -, hK, hi, hA, -⟩ := h0
  intro H locs ls hl hP hS
  exact va_zald hx hb hK hP q 1 (sf_wd_at hq) rfl (sf_in_iff hin) hd (k H locs ls hl hP hS)
theorem sf_row_bld (h0 : sf_At p s m args c own cc nL lay D cy ad A Ts) {pc q n : Nat} {i : Int32} {L : sf_L} {r : List Value} {σ : sf_S} (hq : lay[q]? = some (.inr (2, n))) (hin : sf_in i n = true) (hd : decode cc pc = .ok (.baload, 1)) (k : sf_W p l e R s m args below meth c Q nL lay D cy ad A (pc + 1) L (.int (σ q i.toNatClampNeg) :: r) σ) : sf_W p l e R s m args below meth c Q nL lay D cy ad A pc L (.int i :: .ref q :: r) σ := by
  obtain ⟨hx, hb, -, -, -, hK, hi, hA, -⟩ := h0
  intro H locs ls hl hP hS
  exact va_bald hx hb hK hP q 2 (sf_wd_at hq) rfl (sf_in_iff hin) hd (k H locs ls hl hP hS)
theorem sf_row_get (h0 : sf_At p s m args c own cc nL lay D cy ad A Ts) {pc q idx ci k kd : Nat} {fs : List (Option Nat)} {f : Option Nat} {L : sf_L} {r : List Value} {σ : sf_S} (hq : lay[q]? = some (.inl (ci, fs))) (hf : fs[k]? = some f) (hF : sf_FF s args Ts own idx ci k kd) (hd : decode cc pc = .ok (.getfield idx, 3)) (kk : sf_W p l e R s m args below meth c Q nL lay D cy ad A (pc + 3) L (sf_fo (σ q k) f :: r) σ) : sf_W p l e R s m args below meth c Q nL lay D cy ad A pc L (.ref q :: r) σ := by
  obtain ⟨hx, hb, -, hown, hts, hK, hi, hA, -⟩ := h0
  obtain ⟨C, T, N, ref, ty0, hc, hk, hin, hlink, hsame, -, -, -, -⟩ := hF
  intro H locs ls hl hP hS
  have hv : (fs.mapIdx fun j f => sf_fv ad (σ q j) f)[k]? = some (sf_v ad (sf_fo (σ q k) f)) := by
    rw [List.getElem?_mapIdx, hf, ← sf_fo_v]
    rfl
  rcases hlink with hlink | ⟨host, hlink⟩
  · exact va_get hx hb hts hin hown hK hP q (sf_wd_at hq) hc k hk hlink hsame hv hd (kk H locs ls hl hP hS)
  · exact va_getN hx hb hts hin hown hK hP q (sf_wd_at hq) hc k hk hlink hsame hv hd (kk H locs ls hl hP hS)
theorem sf_row_put (h0 : sf_At p s m args c own cc nL lay D cy ad A Ts) {pc q idx ci k kd : Nat} {fs : List (Option Nat)} {L : sf_L} {r : List Value} {σ : sf_S} {x : Int32} (hq : lay[q]? = some (.inl (ci, fs))) (hf : fs[k]? = some none) (hF : sf_FF s args Ts own idx ci k kd) (hkd : kd = 1 ∨ (kd = 2 ∧ sf_01 x = true)) (hd : decode cc pc = .ok (.putfield idx, 3)) (kk : sf_W p l e R s m args below meth c Q nL lay D cy ad A (pc + 3) L r (sf_up σ q k x)) : sf_W p l e R s m args below meth c Q nL lay D cy ad A pc L (.int x :: .ref q :: r) σ := by
  obtain ⟨hx, hb, -, hown, hts, hK, hi, hA, -⟩ := h0
  obtain ⟨C, T, N, ref, ty0, hc, hk, hin, hlink, hsame, hty, hnm, h1, h2⟩ := hF
  intro H locs ls hl hP hS
  have hD : va_D A (sf_wd lay ad cy σ) := sf_wd_D cy σ hi hA
  have hfin : (T k).2.2.2 = false := by
    rcases hkd with e | ⟨e, -⟩
    · exact (h1 e).1
    · exact (h2 e).1
  have hlen : k < (fs.mapIdx fun j f => sf_fv ad (σ q j) f).length := by
    rw [List.length_mapIdx]; exact (List.getElem?_eq_some_iff.mp hf).1
  have hn : narrow (ty0 k) (.int x) = .int x ∧ fits (ty0 k) (.int x) = true := by
    rcases hkd with e | ⟨e, h01⟩
    · rw [(h1 e).2]
      exact ⟨vp_nar_int x, rfl⟩
    · rw [(h2 e).2]
      simp only [sf_01, Bool.or_eq_true, decide_eq_true_eq] at h01
      rcases h01 with rfl | rfl <;> exact ⟨by decide +kernel, by decide +kernel⟩
  rcases hlink with hlink | ⟨host, hlink⟩
  · refine va_put hx hb hts hin ty0 hty hnm hown hK hP hD hS q (sf_wd_at hq) hc k hk hlink hsame hfin (hty k hk) hn.1 hn.2 hlen hd (fun H1 locs1 hP1 _ hS1 => kk H1 locs1 ls hl ?_ hS1)
    rw [← sf_wd_put hq hf]
    exact hP1
  · refine va_putN hx hb hts hin ty0 hty hnm hown hK hP hD hS q (sf_wd_at hq) hc k hk hlink hsame hfin (hty k hk) hn.1 hn.2 hlen hd (fun H1 locs1 hP1 _ hS1 => kk H1 locs1 ls hl ?_ hS1)
    rw [← sf_wd_put hq hf]
    exact hP1
end SFW
