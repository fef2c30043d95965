/-! a constructor's contract out of its code -/
def sd_len : Instr → Nat
  | .new _ => 3
  | .newarray _ => 2
  | .invokespecial _ => 3
  | i => sf_len i
def sd_dec (cc : ByteArray) (pc : Nat) (e : sf_E) : Bool := match decode cc pc with
  | .ok (i, n) => decide (i = e.1) && Nat.beq n (sd_len i) && Nat.beq e.2.1 (pc + n)
  | _ => false
theorem sd_dec_ok {cc : ByteArray} {pc : Nat} {e : sf_E} (h : sd_dec cc pc e = true) : decode cc pc = .ok (e.1, sd_len e.1) ∧ e.2.1 = pc + sd_len e.1 := by
  unfold sd_dec at h
  split at h
  · rename_i i n hd
    simp only [Bool.and_eq_true, decide_eq_true_eq] at h
    obtain ⟨⟨rfl, h2⟩, h3⟩ := h
    have h2 := Nat.eq_of_beq_eq_true h2
    have h3 := Nat.eq_of_beq_eq_true h3
    subst h2
    exact ⟨hd, h3⟩
  · cases h
/-- what the tables say of a class that a constructor makes -/
def sd_FN (own : String) (idx ci : Nat) : Prop := ∃ (C : String) (T : u_T) (N : Nat) (ty0 : Nat → FieldType) (fs : List Value), vwCl[ci]? = some (C, T, N) ∧ (∀ w ∈ u_ws C T N, w ∈ sf_T) ∧ (∀ k, k < N → parseFieldDescriptor (T k).2.2.1 = some (ty0 k)) ∧ Cond.classLink own idx C ∈ sf_T ∧ Cond.instantiable C N ∈ sf_T ∧ Cond.initialized C ∈ sf_T ∧ sd_new ci = some fs ∧ (∀ j, j < N → defaultValue (ty0 j) = vp_V fs j) ∧ fs.length = N ∧ ∀ v ∈ fs, ∀ q, v ≠ .ref q
def sd_ok1 (nL : Nat) (fl : sf_FL) (rl : List (Nat × Nat × Nat)) (nl : List (Nat × Nat)) (pc : Nat) (e : sf_E) : Bool :=
  match e with
  | (ins, _, tg, v, _, fp) =>
    match ins with
    | .iconst n => decide (v = .int (Int32.ofInt n))
    | .bipush n => decide (v = .int ((Int8.ofInt n).toInt32))
    | .sipush n => decide (v = .int ((Int16.ofInt n).toInt32))
    | .istore_n i => decide ((i : Nat) < nL)
    | .iinc _ n => decide (v = .int (Int32.ofInt n))
    | .goto o => decide ((pc : Int) + o = (tg : Int))
    | .if_icmp _ o => decide ((pc : Int) + o = (tg : Int))
    | .getfield i => sf_hasf fl i [0, 1, 2] fp
    | .putfield i => (match v with
      | .null => sf_hasf fl i [1] fp
      | _ => sf_hasf fl i [0, 1, 2] fp && fp.all (fun q => rl.any fun r => Nat.beq r.1 i && Nat.beq r.2.1 q.1 && Nat.beq r.2.2 q.2))
    | .new i => nl.any fun r => Nat.beq r.1 i && Nat.beq r.2 tg
    | .newarray a => (match a with
      | .int => Nat.beq tg 0
      | .boolean => Nat.beq tg 1
      | .byte => Nat.beq tg 2
      | _ => false)
    | _ => true
def sd_chk (cc : ByteArray) (nL : Nat) (fl : sf_FL) (rl : List (Nat × Nat × Nat)) (nl : List (Nat × Nat)) (tab : List (Nat × sf_E)) : Bool := tab.all fun q => sd_dec cc q.1 q.2 && sd_ok1 nL fl rl nl q.1 q.2
theorem sd_rl_ok {rl : List (Nat × Nat × Nat)} {i : Nat} {fp : List (Nat × Nat)} (h : fp.all (fun q => rl.any fun r => Nat.beq r.1 i && Nat.beq r.2.1 q.1 && Nat.beq r.2.2 q.2) = true) {c k : Nat} (hk : sf_as fp c = some k) : (i, c, k) ∈ rl := by
  have h1 := List.all_eq_true.mp h _ (sf_as_mem hk)
  obtain ⟨⟨a, b, d⟩, h2, h3⟩ := List.any_eq_true.mp h1
  simp only [Bool.and_eq_true] at h3
  obtain ⟨⟨e1, e2⟩, e3⟩ := h3
  have e1 := Nat.eq_of_beq_eq_true e1
  have e2 := Nat.eq_of_beq_eq_true e2
  have e3 := Nat.eq_of_beq_eq_true e3
  subst e1; subst e2; subst e3
  exact h2
section SDS
variable {p : Program} {l : Launch} {e0 : Env} {R : Room} {s : State} {m : MethodId} {args : Array Value} {below : List Frame} {meth : Method} {c : Code} {Q : State → Prop} {cc : ByteArray} {nL : Nat} {D : va_G} {cy : Nat → ClassId} {A : Nat → Prop} {own : String} {n0 : Nat} {as0 : Nat → Nat}
set_option maxHeartbeats 4000000 in
theorem sd_step_ok {J : List (Nat × sd_J)} {tab : List (Nat × sf_E)} {fl : sf_FL} {rl : List (Nat × Nat × Nat)} {nl : List (Nat × Nat)} (h0 : sd_At p s m args c own cc nL D cy A) (hinit : meth.name = "<init>") (hchk : sd_chk cc nL fl rl nl tab = true) (hfl : ∀ q ∈ fl, sf_FF s args sf_T own q.1 q.2.1 q.2.2.1 q.2.2.2) (hrl : ∀ q ∈ rl, sd_FR own q.1 q.2.1 q.2.2) (hnl : ∀ q ∈ nl, sd_FN own q.1 q.2) (harr : Cond.arrayClass .int ∈ sf_T ∧ Cond.arrayClass .boolean ∈ sf_T ∧ Cond.arrayClass .byte ∈ sf_T)
    {r : sd_R} (hJ : ∀ (pc : Nat) (j : sd_J) (L : sf_L) (st : List Value) (Δ : sd_D) (k1 k2 : Nat) (K : List Value → sd_D → Nat → Nat → Option sd_R), sf_as J pc = some j → sd_b L st Δ = true → j st Δ K = some r → (∀ st2 Δ2 dc ds, K st2 Δ2 dc ds = some r → (k1 + dc ≤ r.2.1 ∧ k2 + ds ≤ r.2.2) ∧ sd_W p l e0 R s m args below meth c Q nL D cy A n0 as0 (pc + 3) L st2 Δ2 (k1 + dc) (k2 + ds)) → (k1 ≤ r.2.1 ∧ k2 ≤ r.2.2) ∧ sd_W p l e0 R s m args below meth c Q nL D cy A n0 as0 pc L st Δ k1 k2)
    (hR : R.cells = r.2.1 ∧ R.slots = r.2.2) (hret : ∀ pc L, decode cc pc = .ok (.return_, 1) → sd_W p l e0 R s m args below meth c Q nL D cy A n0 as0 pc L [] r.1 r.2.1 r.2.2)
    {pc : Nat} {e : sf_E} {L : sf_L} {st : List Value} {Δ : sd_D} {k1 k2 : Nat} {K : sd_K} (he : sf_as tab pc = some e) (hs : sd_step J e pc L st Δ k1 k2 K = some r) (hk : ∀ pc2 L2 st2 Δ2 c2 s2, K pc2 L2 st2 Δ2 c2 s2 = some r → (c2 ≤ r.2.1 ∧ s2 ≤ r.2.2) ∧ sd_W p l e0 R s m args below meth c Q nL D cy A n0 as0 pc2 L2 st2 Δ2 c2 s2) :
    (k1 ≤ r.2.1 ∧ k2 ≤ r.2.2) ∧ sd_W p l e0 R s m args below meth c Q nL D cy A n0 as0 pc L st Δ k1 k2 := by
  have hc := List.all_eq_true.mp hchk _ (sf_as_mem he)
  simp only [Bool.and_eq_true] at hc
  obtain ⟨hdec, hok⟩ := hc
  obtain ⟨hd, hn⟩ := sd_dec_ok hdec
  have h00 := h0
  obtain ⟨hx, hb, hml, hown, hts, hK, hAs⟩ := h00
  obtain ⟨ins, nx, tg, v, sw, fp⟩ := e
  dsimp only at hd hn
  subst hn
  cases ins with
  | iconst k =>
    obtain ⟨q, w⟩ := hk _ _ _ _ _ _ hs
    have hv := of_decide_eq_true hok
    subst hv
    exact ⟨q, w.go fun as H locs ls hl w => lv_iconst hx hb hd rfl w⟩
  | bipush k =>
    obtain ⟨q, w⟩ := hk _ _ _ _ _ _ hs
    have hv := of_decide_eq_true hok
    subst hv
    exact ⟨q, w.go fun as H locs ls hl w => lv_bipush hx hb hd rfl w⟩
  | sipush k =>
    obtain ⟨q, w⟩ := hk _ _ _ _ _ _ hs
    have hv := of_decide_eq_true hok
    subst hv
    exact ⟨q, w.go fun as H locs ls hl w => lv_sipush hx hb hd rfl w⟩
  | aload_n k =>
    simp only [sd_step] at hs
    split at hs
    · rename_i a hg
      obtain ⟨q, w⟩ := hk _ _ _ _ _ _ hs
      exact ⟨q, w.go fun as H locs ls hl w => lv_aload_n hx hb hd rfl (hl.2.2 _ _ hg) w⟩
    · cases hs
  | iload_n k =>
    simp only [sd_step] at hs
    split at hs
    · rename_i a hg
      obtain ⟨q, w⟩ := hk _ _ _ _ _ _ hs
      exact ⟨q, w.go fun as H locs ls hl w => lv_iload_n hx hb hd rfl (hl.2.2 _ _ hg) w⟩
    · cases hs
  | istore_n k =>
    simp only [sd_step] at hs
    split at hs
    · obtain ⟨q, w⟩ := hk _ _ _ _ _ _ hs
      exact ⟨q, fun as H locs ls h1 h2 hl hP hD hS => lv_istore_n hx hb hd rfl hl.has (of_decide_eq_true hok) rfl fun ls2 hl2 => w as H locs ls2 h1 h2 (hl.st1 rfl hl2) hP hD hS⟩
    · cases hs
  | iinc i d =>
    simp only [sd_step] at hs
    split at hs
    · rename_i x hg
      have hv := of_decide_eq_true hok
      subst hv
      obtain ⟨q, w⟩ := hk _ _ _ _ _ _ hs
      refine ⟨q, fun as H locs ls h1 h2 hl hP hD hS => ?_⟩
      obtain ⟨j, hj⟩ := List.getElem?_of_mem (sf_mem_prs (ad := as) (hl.lt hg) hg)
      exact lv_iinc hx hb hd hl.has hj rfl (hl.lt hg) rfl fun ls2 hl2 => w as H locs ls2 h1 h2 (hl.st1 rfl hl2) hP hD hS
    · cases hs
  | dup =>
    simp only [sd_step] at hs
    split at hs
    · obtain ⟨q, w⟩ := hk _ _ _ _ _ _ hs
      exact ⟨q, w.go fun as H locs ls hl w => lv_dup hx hb hd rfl w⟩
    · cases hs
  | goto o =>
    obtain ⟨q, w⟩ := hk _ _ _ _ _ _ hs
    exact ⟨q, w.go fun as H locs ls hl w => lv_goto hx hb hd (of_decide_eq_true hok) w⟩
  | if_icmp o d =>
    cases o with
    | ge =>
      simp only [sd_step] at hs
      split at hs
      · rename_i y x st2
        have ht := of_decide_eq_true hok
        by_cases h : y ≤ x
        · rw [if_pos h] at hs
          obtain ⟨q, w⟩ := hk _ _ _ _ _ _ hs
          exact ⟨q, fun as H locs ls h1 h2 hl hP hD hS => lv_icmp_ge hx hb hd ht (fun _ => w as H locs ls h1 h2 hl hP hD hS) (fun z => absurd h z)⟩
        · rw [if_neg h] at hs
          obtain ⟨q, w⟩ := hk _ _ _ _ _ _ hs
          exact ⟨q, fun as H locs ls h1 h2 hl hP hD hS => lv_icmp_ge hx hb hd ht (fun z => absurd z h) (fun _ => w as H locs ls h1 h2 hl hP hD hS)⟩
      · cases hs
    | _ => simp [sd_step] at hs
  | getfield k =>
    simp only [sd_step] at hs
    split at hs
    · split at hs
      · rename_i ci fs e1
        split at hs
        · rename_i j e2
          split at hs
          · rename_i y e3
            obtain ⟨q, w⟩ := hk _ _ _ _ _ _ hs
            obtain ⟨kd, e4, -⟩ := sf_hasf_ok hok e2
            exact ⟨q, sd_row_get h0 e1 e3 (hfl _ e4) hd w⟩
          · cases hs
        · cases hs
      · cases hs
    · cases hs
  | putfield k =>
    simp only [sd_step] at hs
    split at hs
    · split at hs
      · rename_i ci fs e1
        split at hs
        · rename_i j e2
          split at hs
          · rename_i e3
            have e3 : j < fs.length := Nat.le_of_ble_eq_true e3
            split at hs
            · split at hs
              · obtain ⟨q, w⟩ := hk _ _ _ _ _ _ hs
                simp only [sd_ok1, Bool.and_eq_true] at hok
                obtain ⟨kd, e4, -⟩ := sf_hasf_ok hok.1 e2
                exact ⟨q, sd_row_putR h0 hinit e1 e3 (hfl _ e4) (hrl _ (sd_rl_ok hok.2 e2)) hd w⟩
              · cases hs
            · split at hs
              · obtain ⟨q, w⟩ := hk _ _ _ _ _ _ hs
                obtain ⟨kd, e4, e5⟩ := sf_hasf_ok hok e2
                exact ⟨q, sd_row_putI h0 e1 e3 (hfl _ e4) (by simpa using e5) hd w⟩
              · cases hs
            · cases hs
          · cases hs
        · cases hs
      · cases hs
    · cases hs
  | iastore =>
    simp only [sd_step] at hs
    split at hs
    · split at hs
      · rename_i n f e1
        split at hs
        · rename_i hin
          obtain ⟨q, w⟩ := hk _ _ _ _ _ _ hs
          exact ⟨q, sd_row_ist h0 e1 hin hd w⟩
        · cases hs
      · cases hs
    · cases hs
  | new k =>
    simp only [sd_step] at hs
    split at hs
    · rename_i hbb
      split at hs
      · rename_i fs e1
        obtain ⟨q, w⟩ := hk _ _ _ _ _ _ hs
        obtain ⟨⟨a, b⟩, h2, h3⟩ := List.any_eq_true.mp hok
        simp only [Bool.and_eq_true] at h3
        have e2 := Nat.eq_of_beq_eq_true h3.1
        have e3 := Nat.eq_of_beq_eq_true h3.2
        subst e2; subst e3
        obtain ⟨C, T, N, ty0, fs2, f1, f2, f3, f4, f5, f6, f7, f8, f9, f10⟩ := hnl _ h2
        have hfs := Option.some.inj (e1.symm.trans f7)
        subst hfs
        exact ⟨⟨by omega, by omega⟩, sd_row_new h0 hbb f1 f2 f3 f4 f5 f6 f8 f9 f10 (by rw [hR.1]; exact q.1) (by rw [hR.2]; exact q.2) hd w⟩
      · cases hs
    · cases hs
  | newarray a =>
    simp only [sd_step] at hs
    split at hs
    · rename_i hbb
      split at hs
      · rename_i n st2
        split at hs
        · rename_i hneg
          split at hs
          · rename_i hle
            obtain ⟨q, w⟩ := hk _ _ _ _ _ _ hs
            have hneg := of_decide_eq_false hneg
            have hle := Nat.le_of_ble_eq_true hle
            refine ⟨⟨by omega, by omega⟩, ?_⟩
            cases a with
            | int =>
              have := Nat.eq_of_beq_eq_true hok
              subst this
              exact sd_row_newa (at0 := .int) (ty := .int) h0 hbb rfl rfl (Or.inl rfl) harr.1 hneg hle (by rw [hR.1]; exact q.1) (by rw [hR.2]; exact q.2) hd w
            | boolean =>
              have := Nat.eq_of_beq_eq_true hok
              subst this
              exact sd_row_newa (at0 := .boolean) (ty := .boolean) h0 hbb rfl rfl (Or.inr (Or.inl rfl)) harr.2.1 hneg hle (by rw [hR.1]; exact q.1) (by rw [hR.2]; exact q.2) hd w
            | byte =>
              have := Nat.eq_of_beq_eq_true hok
              subst this
              exact sd_row_newa (at0 := .byte) (ty := .byte) h0 hbb rfl rfl (Or.inr (Or.inr rfl)) harr.2.2 hneg hle (by rw [hR.1]; exact q.1) (by rw [hR.2]; exact q.2) hd w
            | _ => cases hok
          · cases hs
        · cases hs
      · cases hs
    · cases hs
  | invokespecial k =>
    simp only [sd_step] at hs
    split at hs
    · rename_i hbb
      split at hs
      · rename_i j hj
        exact hJ _ _ _ _ _ _ _ _ hj hbb hs (fun st2 Δ2 dc ds h => hk _ _ _ _ _ _ h)
      · cases hs
    · cases hs
  | return_ =>
    simp only [sd_step] at hs
    split at hs
    · cases hs
      exact ⟨⟨Nat.le_refl _, Nat.le_refl _⟩, hret _ _ hd⟩
    · cases hs
  | _ => simp [sd_step] at hs
end SDS
