/-! THE OUTER MACHINE: the methods of the law, over the joint world of both objects and the script (its last cell, read alone) -/
def so_A (lay : sf_Lay) (ad : Nat → Nat) (sz : Nat) : Nat → Prop := fun q => (∃ k, k + 1 < lay.length ∧ q = ad k) ∨ sz ≤ q
/-- the joint world but for its last cell; the last one is the script, of whatever class, read alone -/
def so_P (lay : sf_Lay) (D : va_G) (cy : Nat → ClassId) (ad : Nat → Nat) (σ : sf_S) (U : State) (H : Heap) : Prop := va_P D vwCl (sf_wd lay ad cy σ).dropLast H ∧ ∃ z n : Nat, z + 1 = lay.length ∧ lay[z]? = some (.inr (0, n)) ∧ va_X (ad z) n (σ z) U H
def so_V (lay : sf_Lay) (D : va_G) (cy : Nat → ClassId) (ad : Nat → Nat) (σ : sf_S) (H : Heap) : Prop := va_P D vwCl (sf_wd lay ad cy σ).dropLast H ∧ ∀ z n : Nat, z + 1 = lay.length → lay[z]? = some (.inr (0, n)) → ∃ scr : Cell, H[ad z]? = some scr ∧ ∀ j, j < n → scr.slots[j]? = some (.int (σ z j))
theorem sf_wd_len {lay : sf_Lay} {ad : Nat → Nat} {cy : Nat → ClassId} {σ : sf_S} : (sf_wd lay ad cy σ).length = lay.length := by simp [sf_wd]
theorem sf_wd_dl {lay : sf_Lay} {ad : Nat → Nat} {cy : Nat → ClassId} {σ : sf_S} {k : Nat} {sh : (Nat × List (Option Nat)) ⊕ (Nat × Nat)} (h : lay[k]? = some sh) (hk : k + 1 < lay.length) : (sf_wd lay ad cy σ).dropLast[k]? = some (ad k, sf_ce ad cy σ k sh) := by
  rw [List.getElem?_dropLast, if_pos (by rw [sf_wd_len]; omega)]
  exact sf_wd_at h
theorem sf_wd_dli {lay : sf_Lay} {ad : Nat → Nat} {cy : Nat → ClassId} {σ : sf_S} {k : Nat} {q : Nat × va_E} (h : (sf_wd lay ad cy σ).dropLast[k]? = some q) : k + 1 < lay.length ∧ (sf_wd lay ad cy σ)[k]? = some q := by
  rw [List.getElem?_dropLast, sf_wd_len] at h
  split at h
  · exact ⟨by omega, h⟩
  · cases h
theorem so_P.V {lay : sf_Lay} {D : va_G} {cy : Nat → ClassId} {ad : Nat → Nat} {σ : sf_S} {U : State} {H : Heap} (h : so_P lay D cy ad σ U H) : so_V lay D cy ad σ H := ⟨h.1, fun z n h1 h2 => by
  obtain ⟨z', n', e1, e2, scr, g1, -, -, -, g5⟩ := h.2
  have : z' = z := by omega
  subst this
  rw [e2] at h2
  cases h2
  exact ⟨scr, g1, g5⟩⟩
theorem so_P.st {lay : sf_Lay} {D : va_G} {cy : Nat → ClassId} {ad : Nat → Nat} {σ : sf_S} {U U' : State} {H : Heap} (h : so_P lay D cy ad σ U H) (hvm : U.vm.Alike U'.vm) : so_P lay D cy ad σ U' H := by
  obtain ⟨h1, z, n, e1, e2, h2⟩ := h
  exact ⟨h1, z, n, e1, e2, h2.moved hvm⟩
theorem so_P.inl {lay : sf_Lay} {D : va_G} {cy : Nat → ClassId} {ad : Nat → Nat} {σ : sf_S} {U : State} {H : Heap} (h : so_P lay D cy ad σ U H) {q : Nat} {o : Nat × List (Option Nat)} (hq : lay[q]? = some (.inl o)) : q + 1 < lay.length := by
  obtain ⟨-, z, n, e1, e2, -⟩ := h
  have h1 := (List.getElem?_eq_some_iff.mp hq).1
  have h2 : q ≠ z := fun e => by subst e; rw [e2] at hq; cases hq
  omega
theorem so_P.aft {lay : sf_Lay} {D : va_G} {cy : Nat → ClassId} {ad : Nat → Nat} {σ σ' : sf_S} {U : State} {H H' : Heap} (h : so_P lay D cy ad σ U H) (hinj : sf_inj lay ad) (hv : so_V lay D cy ad σ' H') (hk : ∀ q : Nat, q < H.size → ¬ so_A lay ad H.size q → H'[q]? = H[q]?) : so_P lay D cy ad σ' U H' := by
  obtain ⟨-, z, n, e1, e2, scr, g1, g2, g3, g4, g5⟩ := h
  have hlt : ad z < H.size := (Array.getElem?_eq_some_iff.mp g1).1
  have hkz := hk (ad z) hlt (fun hA => by
    rcases hA with ⟨k, hk, e⟩ | hA
    · have := hinj z k (by omega) (by omega) e
      omega
    · omega)
  obtain ⟨scr', k1, k2⟩ := hv.2 z n e1 e2
  rw [hkz, g1] at k1
  cases k1
  exact ⟨hv.1, z, n, e1, e2, scr, by rw [hkz]; exact g1, g2, g3, g4, k2⟩
section SFW
variable {p : Program} {l : Launch} {e : Env} {R : Room} {s : State} {m : MethodId} {args : Array Value} {below : List Frame} {meth : Method} {c : Code} {Q : State → Prop} {k1 k2 : Nat} {cc : ByteArray} {nL : Nat} {lay : sf_Lay} {D : va_G} {cy : Nat → ClassId} {ad : Nat → Nat} {A : Nat → Prop} {own : String} {Ts : List Cond}
def so_W (p : Program) (l : Launch) (e : Env) (R : Room) (s : State) (m : MethodId) (args : Array Value) (below : List Frame) (meth : Method) (c : Code) (Q : State → Prop) (k1 k2 : Nat) (nL : Nat) (lay : sf_Lay) (D : va_G) (cy : Nat → ClassId) (ad : Nat → Nat) (A : Nat → Prop) (pc : Nat) (L : sf_L) (st : List Value) (σ : sf_S) : Prop :=
  ∀ (H : Heap) (locs : List Loc) (ls : Array Slot), sf_LV ls nL ad L → so_P lay D cy ad σ s H → va_S A s.heap H locs → W p l e R s m args below meth c H locs k1 k2 Q (F0 m pc ls (st.map (sf_v ad)))
theorem so_W.go {pc pc2 : Nat} {L : sf_L} {st st2 : List Value} {σ : sf_S} (k : so_W p l e R s m args below meth c Q k1 k2 nL lay D cy ad A pc2 L st2 σ)
    (h : ∀ (H : Heap) (locs : List Loc) (ls : Array Slot), sf_LV ls nL ad L → W p l e R s m args below meth c H locs k1 k2 Q (F0 m pc2 ls (st2.map (sf_v ad))) → W p l e R s m args below meth c H locs k1 k2 Q (F0 m pc ls (st.map (sf_v ad)))) : so_W p l e R s m args below meth c Q k1 k2 nL lay D cy ad A pc L st σ :=
  fun H locs ls hl hP hS => h H locs ls hl (k H locs ls hl hP hS)
theorem so_W.mono {pc : Nat} {L L0 : sf_L} {st : List Value} {σ : sf_S} (k : so_W p l e R s m args below meth c Q k1 k2 nL lay D cy ad A pc L0 st σ) (hm : ∀ i v, sf_get L0 i = some v → sf_get L i = some v) : so_W p l e R s m args below meth c Q k1 k2 nL lay D cy ad A pc L st σ :=
  fun H locs ls hl hP hS => k H locs ls (hl.mono hm) hP hS
def so_At (p : Program) (s : State) (m : MethodId) (args : Array Value) (c : Code) (own : String) (cc : ByteArray) (nL : Nat) (lay : sf_Lay) (D : va_G) (cy : Nat → ClassId) (ad : Nat → Nat) (A : Nat → Prop) (Ts : List Cond) : Prop :=
  p.tables.exec = Jvm.exec ∧ c.code = cc ∧ c.maxLocals = nL ∧ s.vm.findClass own = some m.cls ∧ (∀ w ∈ Ts, w.before args s = true) ∧ va_K D vwCl (sf_ty cy) s ∧ sf_inj lay ad ∧ (∀ k, k + 1 < lay.length → A (ad k)) ∧ (∀ q, s.heap.size ≤ q → A q)
theorem so_row_ild (h0 : so_At p s m args c own cc nL lay D cy ad A Ts) {pc q n : Nat} {i : Int32} {L : sf_L} {r : List Value} {σ : sf_S} (hq : lay[q]? = some (.inr (0, n))) (hin : sf_in i n = true) (hd : decode cc pc = .ok (.iaload, 1)) (k : so_W p l e R s m args below meth c Q k1 k2 nL lay D cy ad A (pc + 1) L (.int (σ q i.toNatClampNeg) :: r) σ) : so_W p l e R s m args below meth c Q k1 k2 nL lay D cy ad A pc L (.int i :: .ref q :: r) σ := by
  obtain ⟨hx, hb, -, -, -, hK, hi, hA, -⟩ := h0
  intro H locs ls hl hP hS
  by_cases hql : q + 1 < lay.length
  · exact va_iald hx hb hK hP.1 q 0 (sf_wd_dl hq hql) rfl (sf_in_iff hin) hd (k H locs ls hl hP hS)
  · have kk := k H locs ls hl hP hS
    obtain ⟨-, z, n', e1, e2, scr, g1, g2, g3, g4, g5⟩ := hP
    have hlq := (List.getElem?_eq_some_iff.mp hq).1
    have : z = q := by omega
    subst this
    rw [e2] at hq
    cases hq
    have hlt : i.toNatClampNeg < n := Nat.not_le.mp fun h => sf_in_iff hin (Or.inr h)
    exact W.iald (v := .int (σ z i.toNatClampNeg)) hx hb g1 g2 g3 (by rw [g4]; exact sf_in_iff hin) (g5 _ hlt) rfl rfl hd kk
theorem so_row_len (h0 : so_At p s m args c own cc nL lay D cy ad A Ts) {pc q n : Nat} {L : sf_L} {r : List Value} {σ : sf_S} (hq : lay[q]? = some (.inr (0, n))) (hd : decode cc pc = .ok (.arraylength, 1)) (k : so_W p l e R s m args below meth c Q k1 k2 nL lay D cy ad A (pc + 1) L (.int (Int32.ofNat n) :: r) σ) : so_W p l e R s m args below meth c Q k1 k2 nL lay D cy ad A pc L (.ref q :: r) σ := by
  obtain ⟨hx, hb, -, -, -, hK, hi, hA, -⟩ := h0
  intro H locs ls hl hP hS
  by_cases hql : q + 1 < lay.length
  · exact va_alen hx hb hK hP.1 q 0 (sf_wd_dl hq hql) rfl rfl hd (k H locs ls hl hP hS)
  · have kk := k H locs ls hl hP hS
    obtain ⟨-, z, n', e1, e2, scr, g1, g2, g3, g4, g5⟩ := hP
    have hlq := (List.getElem?_eq_some_iff.mp hq).1
    have : z = q := by omega
    subst this
    rw [e2] at hq
    cases hq
    exact W.alen (n := Int32.ofNat n) hx hb g1 g2 (by rw [g4] <;> rfl) rfl rfl hd kk
end SFW
def so_oki : Instr → Bool
  | .putfield _ => false
  | .getfield _ => false
  | .iastore => false
  | .bastore => false
  | .baload => false
  | _ => true
section SFS
variable {p : Program} {l : Launch} {e0 : Env} {R : Room} {s : State} {m : MethodId} {args : Array Value} {below : List Frame} {meth : Method} {c : Code} {Q : State → Prop} {cc : ByteArray} {nL : Nat} {lay : sf_Lay} {D : va_G} {cy : Nat → ClassId} {ad : Nat → Nat} {A : Nat → Prop} {own : String} {Ts : List Cond}
set_option maxHeartbeats 4000000 in
theorem so_step_ok {ρ : Type} {k1 k2 : Nat} {rh : Option Value → sf_S → Option ρ} {J : List (Nat × sf_J ρ)} {tab : List (Nat × sf_E)} {Post : ρ → Prop} {fl : sf_FL} {cl : List (Nat × Value)} (h0 : so_At p s m args c own cc nL lay D cy ad A Ts) (hns : tab.all (fun q => so_oki q.2.1) = true) (hchk : sf_chk cc nL fl cl tab = true) (hfl : ∀ q ∈ fl, sf_FF s args Ts own q.1 q.2.1 q.2.2.1 q.2.2.2) (hcl : ∀ q ∈ cl, sf_CC s args own q.1 q.2)
    (hJ : ∀ (pc : Nat) (j : sf_J ρ) (L : sf_L) (st : List Value) (σ : sf_S) (K : List Value → sf_S → Option ρ) (r : ρ), sf_as J pc = some j → j st σ K = some r → (∀ st2 σ2, K st2 σ2 = some r → so_W p l e0 R s m args below meth c Q k1 k2 nL lay D cy ad A (pc + 3) L st2 σ2) → so_W p l e0 R s m args below meth c Q k1 k2 nL lay D cy ad A pc L st σ)
    (hret : ∀ (v : Option Value) (σ : sf_S) (r : ρ) (pc : Nat) (L : sf_L) (ins : Instr), rh v σ = some r → Post r → decode cc pc = .ok (ins, 1) → (ins = .ireturn ∧ (∃ x, v = some (.int x)) ∨ ins = .lreturn ∧ (∃ x, v = some (.long x)) ∨ ins = .return_ ∧ v = none) → so_W p l e0 R s m args below meth c Q k1 k2 nL lay D cy ad A pc L v.toList σ) :
    sf_Snd (so_W p l e0 R s m args below meth c Q k1 k2 nL lay D cy ad A) lay rh J tab Post := by
  intro pc e L st σ K r he hs hp hk
  have hc := List.all_eq_true.mp hchk _ (sf_as_mem he)
  simp only [Bool.and_eq_true] at hc
  obtain ⟨hdec, hok⟩ := hc
  obtain ⟨n, hd, hn⟩ := sf_dec_ok hdec
  have h00 := h0
  obtain ⟨hx, hb, hml, hown, hts, hK, hi, hA, hAs⟩ := h00
  obtain ⟨ins, nx, tg, v, sw, fp⟩ := e
  dsimp only at hd hn
  cases ins with
  | iconst k =>
    obtain ⟨rfl, rfl⟩ := hn.resolve_left (show ¬ sf_len (.iconst k) = 0 by simp [sf_len])
    have hs : K _ L (v :: st) σ = some r := hs
    have hv := of_decide_eq_true hok
    subst hv
    exact (hk _ _ _ _ hs).go fun H locs ls hl w => lv_iconst hx hb hd rfl w
  | bipush k =>
    obtain ⟨rfl, rfl⟩ := hn.resolve_left (show ¬ sf_len (.bipush k) = 0 by simp [sf_len])
    have hs : K _ L (v :: st) σ = some r := hs
    have hv := of_decide_eq_true hok
    subst hv
    exact (hk _ _ _ _ hs).go fun H locs ls hl w => lv_bipush hx hb hd rfl w
  | sipush k =>
    obtain ⟨rfl, rfl⟩ := hn.resolve_left (show ¬ sf_len (.sipush k) = 0 by simp [sf_len])
    have hs : K _ L (v :: st) σ = some r := hs
    have hv := of_decide_eq_true hok
    subst hv
    exact (hk _ _ _ _ hs).go fun H locs ls hl w => lv_sipush hx hb hd rfl w
  | lconst k =>
    obtain ⟨rfl, rfl⟩ := hn.resolve_left (show ¬ sf_len (.lconst k) = 0 by simp [sf_len])
    have hs : K _ L (v :: st) σ = some r := hs
    have hv := of_decide_eq_true hok
    subst hv
    exact (hk _ _ _ _ hs).go fun H locs ls hl w => lv_lconst hx hb hd rfl w
  | ldc k =>
    obtain ⟨rfl, rfl⟩ := hn.resolve_left (show ¬ sf_len (.ldc k) = 0 by simp [sf_len])
    have hs : K _ L (v :: st) σ = some r := hs
    simp only [sf_ok1, Bool.and_eq_true, decide_eq_true_eq] at hok
    obtain ⟨hm, hty⟩ := hok
    have hcc := hcl _ hm
    cases v with
    | int x => exact (hk _ _ _ _ hs).go fun H locs ls hl w => lv_ldc hx hb hown hcc hd w
    | _ => cases hty
  | ldc_w k =>
    obtain ⟨rfl, rfl⟩ := hn.resolve_left (show ¬ sf_len (.ldc_w k) = 0 by simp [sf_len])
    have hs : K _ L (v :: st) σ = some r := hs
    simp only [sf_ok1, Bool.and_eq_true, decide_eq_true_eq] at hok
    obtain ⟨hm, hty⟩ := hok
    have hcc := hcl _ hm
    cases v with
    | int x => exact (hk _ _ _ _ hs).go fun H locs ls hl w => lv_ldcw hx hb hown hcc hd w
    | _ => cases hty
  | ldc2_w k =>
    obtain ⟨rfl, rfl⟩ := hn.resolve_left (show ¬ sf_len (.ldc2_w k) = 0 by simp [sf_len])
    have hs : K _ L (v :: st) σ = some r := hs
    simp only [sf_ok1, Bool.and_eq_true, decide_eq_true_eq] at hok
    obtain ⟨hm, hty⟩ := hok
    have hcc := hcl _ hm
    cases v with
    | long x => exact (hk _ _ _ _ hs).go fun H locs ls hl w => lv_ldc2 hx hb hown hcc hd w
    | _ => cases hty
  | iload_n k =>
    obtain ⟨rfl, rfl⟩ := hn.resolve_left (show ¬ sf_len (.iload_n k) = 0 by simp [sf_len])
    obtain ⟨x, hg, hz⟩ := sf_ldi_inv hs
    exact (hk _ _ _ _ hz).go fun H locs ls hl w => lv_iload_n hx hb hd rfl (hl.2.2 _ _ hg) w
  | iload k =>
    obtain ⟨rfl, rfl⟩ := hn.resolve_left (show ¬ sf_len (.iload k) = 0 by simp [sf_len])
    obtain ⟨x, hg, hz⟩ := sf_ldi_inv hs
    exact (hk _ _ _ _ hz).go fun H locs ls hl w => lv_iload hx hb hd (hl.2.2 _ _ hg) w
  | lload_n k =>
    obtain ⟨rfl, rfl⟩ := hn.resolve_left (show ¬ sf_len (.lload_n k) = 0 by simp [sf_len])
    obtain ⟨x, hg, hz⟩ := sf_ldl_inv hs
    exact (hk _ _ _ _ hz).go fun H locs ls hl w => lv_lload_n hx hb hd rfl (hl.2.2 _ _ hg) w
  | lload k =>
    obtain ⟨rfl, rfl⟩ := hn.resolve_left (show ¬ sf_len (.lload k) = 0 by simp [sf_len])
    obtain ⟨x, hg, hz⟩ := sf_ldl_inv hs
    exact (hk _ _ _ _ hz).go fun H locs ls hl w => lv_lload hx hb hd (hl.2.2 _ _ hg) w
  | aload_n k =>
    obtain ⟨rfl, rfl⟩ := hn.resolve_left (show ¬ sf_len (.aload_n k) = 0 by simp [sf_len])
    obtain ⟨x, hg, hz⟩ := sf_lda_inv hs
    exact (hk _ _ _ _ hz).go fun H locs ls hl w => lv_aload_n hx hb hd rfl (hl.2.2 _ _ hg) w
  | aload k =>
    obtain ⟨rfl, rfl⟩ := hn.resolve_left (show ¬ sf_len (.aload k) = 0 by simp [sf_len])
    obtain ⟨x, hg, hz⟩ := sf_lda_inv hs
    exact (hk _ _ _ _ hz).go fun H locs ls hl w => lv_aload hx hb hd (hl.2.2 _ _ hg) w
  | istore_n k =>
    obtain ⟨rfl, rfl⟩ := hn.resolve_left (show ¬ sf_len (.istore_n k) = 0 by simp [sf_len])
    obtain ⟨x, q, rfl, hz⟩ := sf_i1_inv hs
    exact fun H locs ls hl hP hS => lv_istore_n hx hb hd rfl hl.has (of_decide_eq_true hok) rfl fun ls2 hl2 => hk _ _ _ _ hz H locs ls2 (hl.st1 rfl hl2) hP hS
  | istore k =>
    obtain ⟨rfl, rfl⟩ := hn.resolve_left (show ¬ sf_len (.istore k) = 0 by simp [sf_len])
    obtain ⟨x, q, rfl, hz⟩ := sf_i1_inv hs
    exact fun H locs ls hl hP hS => lv_istore hx hb hd hl.has (of_decide_eq_true hok) rfl fun ls2 hl2 => hk _ _ _ _ hz H locs ls2 (hl.st1 rfl hl2) hP hS
  | lstore_n k =>
    obtain ⟨rfl, rfl⟩ := hn.resolve_left (show ¬ sf_len (.lstore_n k) = 0 by simp [sf_len])
    obtain ⟨x, q, rfl, hz⟩ := sf_l1_inv hs
    exact fun H locs ls hl hP hS => lv_lstore_n hx hb hd rfl hl.has (of_decide_eq_true hok) rfl fun ls2 hl2 => hk _ _ _ _ hz H locs ls2 (hl.st2 rfl hl2) hP hS
  | lstore k =>
    obtain ⟨rfl, rfl⟩ := hn.resolve_left (show ¬ sf_len (.lstore k) = 0 by simp [sf_len])
    obtain ⟨x, q, rfl, hz⟩ := sf_l1_inv hs
    exact fun H locs ls hl hP hS => lv_lstore hx hb hd hl.has (of_decide_eq_true hok) rfl fun ls2 hl2 => hk _ _ _ _ hz H locs ls2 (hl.st2 rfl hl2) hP hS
  | iinc k d =>
    obtain ⟨rfl, rfl⟩ := hn.resolve_left (show ¬ sf_len (.iinc k d) = 0 by simp [sf_len])
    obtain ⟨x, hg, hz⟩ := sf_ldi_inv hs
    have hv := of_decide_eq_true hok
    subst hv
    intro H locs ls hl hP hS
    obtain ⟨j, hj⟩ := List.getElem?_of_mem (sf_mem_prs (ad := ad) (hl.lt hg) hg)
    exact lv_iinc hx hb hd hl.has hj rfl (hl.lt hg) rfl fun ls2 hl2 => hk _ _ _ _ hz H locs ls2 (hl.st1 rfl hl2) hP hS
  | iadd =>
    obtain ⟨rfl, rfl⟩ := hn.resolve_left (show ¬ sf_len (.iadd) = 0 by simp [sf_len])
    obtain ⟨x, y, q, rfl, hz⟩ := sf_i2_inv hs
    exact (hk _ _ _ _ hz).go fun H locs ls hl w => lv_iadd hx hb hd w
  | isub =>
    obtain ⟨rfl, rfl⟩ := hn.resolve_left (show ¬ sf_len (.isub) = 0 by simp [sf_len])
    obtain ⟨x, y, q, rfl, hz⟩ := sf_i2_inv hs
    exact (hk _ _ _ _ hz).go fun H locs ls hl w => lv_isub hx hb hd w
  | imul =>
    obtain ⟨rfl, rfl⟩ := hn.resolve_left (show ¬ sf_len (.imul) = 0 by simp [sf_len])
    obtain ⟨x, y, q, rfl, hz⟩ := sf_i2_inv hs
    exact (hk _ _ _ _ hz).go fun H locs ls hl w => lv_imul hx hb hd w
  | ixor =>
    obtain ⟨rfl, rfl⟩ := hn.resolve_left (show ¬ sf_len (.ixor) = 0 by simp [sf_len])
    obtain ⟨x, y, q, rfl, hz⟩ := sf_i2_inv hs
    exact (hk _ _ _ _ hz).go fun H locs ls hl w => lv_ixor hx hb hd w
  | ladd =>
    obtain ⟨rfl, rfl⟩ := hn.resolve_left (show ¬ sf_len (.ladd) = 0 by simp [sf_len])
    obtain ⟨x, y, q, rfl, hz⟩ := sf_l2_inv hs
    exact (hk _ _ _ _ hz).go fun H locs ls hl w => lv_ladd hx hb hd w
  | lsub =>
    obtain ⟨rfl, rfl⟩ := hn.resolve_left (show ¬ sf_len (.lsub) = 0 by simp [sf_len])
    obtain ⟨x, y, q, rfl, hz⟩ := sf_l2_inv hs
    exact (hk _ _ _ _ hz).go fun H locs ls hl w => lv_lsub hx hb hd w
  | lmul =>
    obtain ⟨rfl, rfl⟩ := hn.resolve_left (show ¬ sf_len (.lmul) = 0 by simp [sf_len])
    obtain ⟨x, y, q, rfl, hz⟩ := sf_l2_inv hs
    exact (hk _ _ _ _ hz).go fun H locs ls hl w => lv_lmul hx hb hd w
  | lcmp =>
    obtain ⟨rfl, rfl⟩ := hn.resolve_left (show ¬ sf_len (.lcmp) = 0 by simp [sf_len])
    obtain ⟨x, y, q, rfl, hz⟩ := sf_l2_inv hs
    exact (hk _ _ _ _ hz).go fun H locs ls hl w => W.lcmp hx hb hd w
  | idiv =>
    obtain ⟨rfl, rfl⟩ := hn.resolve_left (show ¬ sf_len (.idiv) = 0 by simp [sf_len])
    obtain ⟨x, y, q, rfl, hz⟩ := sf_i2_inv hs
    by_cases hy : y = 0
    · rw [if_pos hy] at hz; cases hz
    · rw [if_neg hy] at hz
      exact (hk _ _ _ _ hz).go fun H locs ls hl w => lv_idiv hx hb hd hy w
  | irem =>
    obtain ⟨rfl, rfl⟩ := hn.resolve_left (show ¬ sf_len (.irem) = 0 by simp [sf_len])
    obtain ⟨x, y, q, rfl, hz⟩ := sf_i2_inv hs
    by_cases hy : y = 0
    · rw [if_pos hy] at hz; cases hz
    · rw [if_neg hy] at hz
      exact (hk _ _ _ _ hz).go fun H locs ls hl w => lv_irem hx hb hd hy w
  | ldiv =>
    obtain ⟨rfl, rfl⟩ := hn.resolve_left (show ¬ sf_len (.ldiv) = 0 by simp [sf_len])
    obtain ⟨x, y, q, rfl, hz⟩ := sf_l2_inv hs
    by_cases hy : y = 0
    · rw [if_pos hy] at hz; cases hz
    · rw [if_neg hy] at hz
      exact (hk _ _ _ _ hz).go fun H locs ls hl w => lv_ldiv hx hb hd hy w
  | lrem =>
    obtain ⟨rfl, rfl⟩ := hn.resolve_left (show ¬ sf_len (.lrem) = 0 by simp [sf_len])
    obtain ⟨x, y, q, rfl, hz⟩ := sf_l2_inv hs
    by_cases hy : y = 0
    · rw [if_pos hy] at hz; cases hz
    · rw [if_neg hy] at hz
      exact (hk _ _ _ _ hz).go fun H locs ls hl w => lv_lrem hx hb hd hy w
  | iand =>
    obtain ⟨rfl, rfl⟩ := hn.resolve_left (show ¬ sf_len (.iand) = 0 by simp [sf_len])
    obtain ⟨x, y, q, rfl, hz⟩ := sf_i2_inv hs
    exact (hk _ _ _ _ hz).go fun H locs ls hl w => lv_iand hx hb hd w
  | ishl =>
    obtain ⟨rfl, rfl⟩ := hn.resolve_left (show ¬ sf_len (.ishl) = 0 by simp [sf_len])
    obtain ⟨x, y, q, rfl, hz⟩ := sf_i2_inv hs
    exact (hk _ _ _ _ hz).go fun H locs ls hl w => lv_ishl hx hb hd w
  | ishr =>
    obtain ⟨rfl, rfl⟩ := hn.resolve_left (show ¬ sf_len (.ishr) = 0 by simp [sf_len])
    obtain ⟨x, y, q, rfl, hz⟩ := sf_i2_inv hs
    exact (hk _ _ _ _ hz).go fun H locs ls hl w => lv_ishr hx hb hd w
  | land =>
    obtain ⟨rfl, rfl⟩ := hn.resolve_left (show ¬ sf_len (.land) = 0 by simp [sf_len])
    obtain ⟨x, y, q, rfl, hz⟩ := sf_l2_inv hs
    exact (hk _ _ _ _ hz).go fun H locs ls hl w => lv_land hx hb hd w
  | lor =>
    obtain ⟨rfl, rfl⟩ := hn.resolve_left (show ¬ sf_len (.lor) = 0 by simp [sf_len])
    obtain ⟨x, y, q, rfl, hz⟩ := sf_l2_inv hs
    exact (hk _ _ _ _ hz).go fun H locs ls hl w => lv_lor hx hb hd w
  | lshl =>
    obtain ⟨rfl, rfl⟩ := hn.resolve_left (show ¬ sf_len (.lshl) = 0 by simp [sf_len])
    simp only [sf_step] at hs
    split at hs
    · exact (hk _ _ _ _ hs).go fun H locs ls hl w => lv_lshl hx hb hd rfl w
    · cases hs
  | lshr =>
    obtain ⟨rfl, rfl⟩ := hn.resolve_left (show ¬ sf_len (.lshr) = 0 by simp [sf_len])
    simp only [sf_step] at hs
    split at hs
    · exact (hk _ _ _ _ hs).go fun H locs ls hl w => lv_lshr hx hb hd rfl w
    · cases hs
  | arraylength =>
    obtain ⟨rfl, rfl⟩ := hn.resolve_left (show ¬ sf_len (.arraylength) = 0 by simp [sf_len])
    simp only [sf_step] at hs
    split at hs
    · obtain ⟨t, z, e1, hz⟩ := sf_ar_inv hs
      split at hz
      · exact so_row_len h0 e1 hd (hk _ _ _ _ hz)
      · cases hz
    · cases hs
  | ineg =>
    obtain ⟨rfl, rfl⟩ := hn.resolve_left (show ¬ sf_len (.ineg) = 0 by simp [sf_len])
    obtain ⟨x, q, rfl, hz⟩ := sf_i1_inv hs
    exact (hk _ _ _ _ hz).go fun H locs ls hl w => lv_ineg hx hb hd w
  | lneg =>
    obtain ⟨rfl, rfl⟩ := hn.resolve_left (show ¬ sf_len (.lneg) = 0 by simp [sf_len])
    obtain ⟨x, q, rfl, hz⟩ := sf_l1_inv hs
    exact (hk _ _ _ _ hz).go fun H locs ls hl w => lv_lneg hx hb hd w
  | i2l =>
    obtain ⟨rfl, rfl⟩ := hn.resolve_left (show ¬ sf_len (.i2l) = 0 by simp [sf_len])
    obtain ⟨x, q, rfl, hz⟩ := sf_i1_inv hs
    exact (hk _ _ _ _ hz).go fun H locs ls hl w => lv_i2l hx hb hd rfl w
  | l2i =>
    obtain ⟨rfl, rfl⟩ := hn.resolve_left (show ¬ sf_len (.l2i) = 0 by simp [sf_len])
    obtain ⟨x, q, rfl, hz⟩ := sf_l1_inv hs
    exact (hk _ _ _ _ hz).go fun H locs ls hl w => lv_l2i hx hb hd rfl w
  | i2b =>
    obtain ⟨rfl, rfl⟩ := hn.resolve_left (show ¬ sf_len (.i2b) = 0 by simp [sf_len])
    obtain ⟨x, q, rfl, hz⟩ := sf_i1_inv hs
    exact (hk _ _ _ _ hz).go fun H locs ls hl w => lv_i2b hx hb hd rfl w
  | i2s =>
    obtain ⟨rfl, rfl⟩ := hn.resolve_left (show ¬ sf_len (.i2s) = 0 by simp [sf_len])
    obtain ⟨x, q, rfl, hz⟩ := sf_i1_inv hs
    exact (hk _ _ _ _ hz).go fun H locs ls hl w => lv_i2s hx hb hd rfl w
  | dup =>
    obtain ⟨rfl, rfl⟩ := hn.resolve_left (show ¬ sf_len (.dup) = 0 by simp [sf_len])
    simp only [sf_step] at hs
    split at hs
    · exact (hk _ _ _ _ hs).go fun H locs ls hl w => lv_dup hx hb hd rfl w
    · exact (hk _ _ _ _ hs).go fun H locs ls hl w => lv_dup hx hb hd rfl w
    · cases hs
  | dup2 =>
    obtain ⟨rfl, rfl⟩ := hn.resolve_left (show ¬ sf_len (.dup2) = 0 by simp [sf_len])
    simp only [sf_step] at hs
    split at hs
    · exact (hk _ _ _ _ hs).go fun H locs ls hl w => lv_dup2_11 hx hb hd rfl rfl w
    · cases hs
  | pop =>
    obtain ⟨rfl, rfl⟩ := hn.resolve_left (show ¬ sf_len (.pop) = 0 by simp [sf_len])
    simp only [sf_step] at hs
    split at hs
    · exact (hk _ _ _ _ hs).go fun H locs ls hl w => lv_pop hx hb hd rfl w
    · exact (hk _ _ _ _ hs).go fun H locs ls hl w => lv_pop hx hb hd rfl w
    · cases hs
  | goto o =>
    obtain ⟨rfl, rfl⟩ := hn.resolve_left (show ¬ sf_len (.goto o) = 0 by simp [sf_len])
    exact (hk _ _ _ _ hs).go fun H locs ls hl w => lv_goto hx hb hd (of_decide_eq_true hok) w
  | ifCond q o =>
    obtain ⟨rfl, rfl⟩ := hn.resolve_left (show ¬ sf_len (.ifCond q o) = 0 by simp [sf_len])
    have ht := of_decide_eq_true hok
    cases q with
    | eq =>
      obtain ⟨x, q, rfl, hz⟩ := sf_i1_inv hs
      intro H locs ls hl hP hS
      refine lv_if_eq hx hb hd ht (fun h => ?_) (fun h => ?_)
      · rw [if_pos h] at hz; exact hk _ _ _ _ hz H locs ls hl hP hS
      · rw [if_neg h] at hz; exact hk _ _ _ _ hz H locs ls hl hP hS
    | ne =>
      obtain ⟨x, q, rfl, hz⟩ := sf_i1_inv hs
      intro H locs ls hl hP hS
      refine lv_if_ne hx hb hd ht (fun h => ?_) (fun h => ?_)
      · rw [if_pos h] at hz; exact hk _ _ _ _ hz H locs ls hl hP hS
      · rw [if_neg (fun hn => hn h)] at hz; exact hk _ _ _ _ hz H locs ls hl hP hS
    | lt =>
      obtain ⟨x, q, rfl, hz⟩ := sf_i1_inv hs
      intro H locs ls hl hP hS
      refine lv_if_lt hx hb hd ht (fun h => ?_) (fun h => ?_)
      · rw [if_pos h] at hz; exact hk _ _ _ _ hz H locs ls hl hP hS
      · rw [if_neg h] at hz; exact hk _ _ _ _ hz H locs ls hl hP hS
    | ge =>
      obtain ⟨x, q, rfl, hz⟩ := sf_i1_inv hs
      intro H locs ls hl hP hS
      refine lv_if_ge hx hb hd ht (fun h => ?_) (fun h => ?_)
      · rw [if_pos h] at hz; exact hk _ _ _ _ hz H locs ls hl hP hS
      · rw [if_neg h] at hz; exact hk _ _ _ _ hz H locs ls hl hP hS
    | gt =>
      obtain ⟨x, q, rfl, hz⟩ := sf_i1_inv hs
      intro H locs ls hl hP hS
      refine lv_if_gt hx hb hd ht (fun h => ?_) (fun h => ?_)
      · rw [if_pos h] at hz; exact hk _ _ _ _ hz H locs ls hl hP hS
      · rw [if_neg h] at hz; exact hk _ _ _ _ hz H locs ls hl hP hS
    | le =>
      obtain ⟨x, q, rfl, hz⟩ := sf_i1_inv hs
      intro H locs ls hl hP hS
      refine lv_if_le hx hb hd ht (fun h => ?_) (fun h => ?_)
      · rw [if_pos h] at hz; exact hk _ _ _ _ hz H locs ls hl hP hS
      · rw [if_neg h] at hz; exact hk _ _ _ _ hz H locs ls hl hP hS
  | if_icmp q o =>
    obtain ⟨rfl, rfl⟩ := hn.resolve_left (show ¬ sf_len (.if_icmp q o) = 0 by simp [sf_len])
    have ht := of_decide_eq_true hok
    cases q with
    | eq =>
      obtain ⟨x, y, q, rfl, hz⟩ := sf_i2_inv hs
      intro H locs ls hl hP hS
      refine lv_icmp_eq hx hb hd ht (fun h => ?_) (fun h => ?_)
      · rw [if_pos h] at hz; exact hk _ _ _ _ hz H locs ls hl hP hS
      · rw [if_neg h] at hz; exact hk _ _ _ _ hz H locs ls hl hP hS
    | ne =>
      obtain ⟨x, y, q, rfl, hz⟩ := sf_i2_inv hs
      intro H locs ls hl hP hS
      refine lv_icmp_ne hx hb hd ht (fun h => ?_) (fun h => ?_)
      · rw [if_pos h] at hz; exact hk _ _ _ _ hz H locs ls hl hP hS
      · rw [if_neg (fun hn => hn h)] at hz; exact hk _ _ _ _ hz H locs ls hl hP hS
    | lt =>
      obtain ⟨x, y, q, rfl, hz⟩ := sf_i2_inv hs
      intro H locs ls hl hP hS
      refine lv_icmp_lt hx hb hd ht (fun h => ?_) (fun h => ?_)
      · rw [if_pos h] at hz; exact hk _ _ _ _ hz H locs ls hl hP hS
      · rw [if_neg h] at hz; exact hk _ _ _ _ hz H locs ls hl hP hS
    | ge =>
      obtain ⟨x, y, q, rfl, hz⟩ := sf_i2_inv hs
      intro H locs ls hl hP hS
      refine lv_icmp_ge hx hb hd ht (fun h => ?_) (fun h => ?_)
      · rw [if_pos h] at hz; exact hk _ _ _ _ hz H locs ls hl hP hS
      · rw [if_neg h] at hz; exact hk _ _ _ _ hz H locs ls hl hP hS
    | gt =>
      obtain ⟨x, y, q, rfl, hz⟩ := sf_i2_inv hs
      intro H locs ls hl hP hS
      refine lv_icmp_gt hx hb hd ht (fun h => ?_) (fun h => ?_)
      · rw [if_pos h] at hz; exact hk _ _ _ _ hz H locs ls hl hP hS
      · rw [if_neg h] at hz; exact hk _ _ _ _ hz H locs ls hl hP hS
    | le =>
      obtain ⟨x, y, q, rfl, hz⟩ := sf_i2_inv hs
      intro H locs ls hl hP hS
      refine lv_icmp_le hx hb hd ht (fun h => ?_) (fun h => ?_)
      · rw [if_pos h] at hz; exact hk _ _ _ _ hz H locs ls hl hP hS
      · rw [if_neg h] at hz; exact hk _ _ _ _ hz H locs ls hl hP hS
  | tableswitch d lo hi offs =>
    obtain ⟨x, q, rfl, hz⟩ := sf_i1_inv hs
    simp only [sf_ok1, Bool.and_eq_true, decide_eq_true_eq] at hok
    obtain ⟨⟨h1, h2⟩, h3⟩ := hok
    rcases sf_tbs_ok (K := fun t => K t L q σ) (d := tg) _ _ _ h2 hz with ⟨t2, off, a1, a2, a3, a4, a5⟩ | ⟨a1, a2⟩
    · exact (hk _ _ _ _ a5).go fun H locs ls hl w => lv_tableIn hx hb hd a1 (by rw [h3]; simp at a2; omega) (by rw [← a3]; simp) a4 w
    · exact (hk _ _ _ _ a2).go fun H locs ls hl w => lv_tableOut hx hb hd (by rw [h3]; simp at a1; omega) h1 w
  | lookupswitch d ps =>
    obtain ⟨x, q, rfl, hz⟩ := sf_i1_inv hs
    simp only [sf_ok1, Bool.and_eq_true, decide_eq_true_eq] at hok
    obtain ⟨⟨h1, h2⟩, h3⟩ := hok
    obtain ⟨t2, a1, a2⟩ := sf_lks_ok (K := fun t => K t L q σ) h1 _ _ h2 hz
    exact (hk _ _ _ _ a2).go fun H locs ls hl w => lv_lookup hx hb hd h3 rfl a1 w
  | getfield k => exact absurd (List.all_eq_true.mp hns _ (sf_as_mem he)) (by simp [so_oki])
  | putfield k => exact absurd (List.all_eq_true.mp hns _ (sf_as_mem he)) (by simp [so_oki])
  | iaload =>
    obtain ⟨rfl, rfl⟩ := hn.resolve_left (show ¬ sf_len (.iaload) = 0 by simp [sf_len])
    simp only [sf_step] at hs
    split at hs
    · obtain ⟨t, z, e1, hz⟩ := sf_ar_inv hs
      split at hz
      · split at hz
        · rename_i hin
          exact so_row_ild h0 e1 hin hd (hk _ _ _ _ hz)
        · cases hz
      · cases hz
    · cases hs
  | iastore => exact absurd (List.all_eq_true.mp hns _ (sf_as_mem he)) (by simp [so_oki])
  | baload => exact absurd (List.all_eq_true.mp hns _ (sf_as_mem he)) (by simp [so_oki])
  | bastore => exact absurd (List.all_eq_true.mp hns _ (sf_as_mem he)) (by simp [so_oki])
  | ireturn =>
    obtain ⟨rfl, rfl⟩ := hn.resolve_left (show ¬ sf_len (.ireturn) = 0 by simp [sf_len])
    simp only [sf_step] at hs
    split at hs
    · exact hret _ _ _ _ _ _ hs hp hd (Or.inl ⟨rfl, _, rfl⟩)
    · cases hs
  | lreturn =>
    obtain ⟨rfl, rfl⟩ := hn.resolve_left (show ¬ sf_len (.lreturn) = 0 by simp [sf_len])
    simp only [sf_step] at hs
    split at hs
    · exact hret _ _ _ _ _ _ hs hp hd (Or.inr (Or.inl ⟨rfl, _, rfl⟩))
    · cases hs
  | return_ =>
    obtain ⟨rfl, rfl⟩ := hn.resolve_left (show ¬ sf_len (.return_) = 0 by simp [sf_len])
    simp only [sf_step] at hs
    split at hs
    · exact hret _ _ _ _ _ _ hs hp hd (Or.inr (Or.inr ⟨rfl, rfl⟩))
    · cases hs
  | invokevirtual k =>
    obtain ⟨rfl, rfl⟩ := hn.resolve_left (show ¬ sf_len (.invokevirtual k) = 0 by simp [sf_len])
    simp only [sf_step] at hs
    split at hs
    · rename_i j hj
      exact hJ _ _ _ _ _ _ _ hj hs (fun st2 σ2 h => hk _ _ _ _ h)
    · cases hs
  | invokestatic k =>
    obtain ⟨rfl, rfl⟩ := hn.resolve_left (show ¬ sf_len (.invokestatic k) = 0 by simp [sf_len])
    simp only [sf_step] at hs
    split at hs
    · rename_i j hj
      exact hJ _ _ _ _ _ _ _ hj hs (fun st2 σ2 h => hk _ _ _ _ h)
    · cases hs
  | _ => simp [sf_step] at hs
end SFS
def so_Pc (lay : sf_Lay) (D : va_G) (cy : Nat → ClassId) (ad : Nat → Nat) (sz : Nat) (av : List Value) (σ : sf_S) : Array Value → State → Prop := va_Pc (av.map (sf_v ad)) fun U => U.heap.size = sz ∧ so_P lay D cy ad σ U U.heap ∧ va_K D vwCl (sf_ty cy) U ∧ ∀ w ∈ sf_N, va_Nw w U
def so_Qc (lay : sf_Lay) (D : va_G) (cy : Nat → ClassId) (ad : Nat → Nat) (A : Nat → Prop) (r : sf_Q) : Array Value → State → Outcome → State → Prop := fun _ st oc t => (oc = .returned (r.1.map (sf_v ad)) ∧ so_V lay D cy ad r.2 t.heap) ∧ va_F A st t
def so_C (l : Launch) (lay : sf_Lay) (y : MethodName) (cc : ByteArray) (nL : Nat) (ret : Option FieldType) (rm : Room) (F : List Value → sf_S → Option sf_Q) : Prop :=
  rm.cells = 0 ∧ rm.slots = 0 ∧ ∀ (D : va_G) (cy : Nat → ClassId) (ad : Nat → Nat) (sz : Nat) (av : List Value) (σ : sf_S) (r : sf_Q), sf_inj lay ad → F av σ = some r →
    Met l y (Cond.code y cc nL ret :: sf_T) rm (so_Pc lay D cy ad sz av σ) (so_Qc lay D cy ad (so_A lay ad sz) r) 0 0 (so_A lay ad sz)
theorem so_pc_blind {lay : sf_Lay} {D : va_G} {cy : Nat → ClassId} {ad : Nat → Nat} {sz : Nat} {av : List Value} {σ : sf_S} : FrameBlind (so_Pc lay D cy ad sz av σ) := by
  intro a U g mk h
  obtain ⟨h1, h2, h3, h4, h5⟩ := h
  exact ⟨h1, h2, so_P.st (U := U) (U' := U.calling g mk a) h3 (Vm.Alike.refl U.vm), va_K.moved (u := U) (U := U.calling g mk a) (Vm.Alike.refl U.vm) h4, sf_N_same (s := U) (U := U.calling g mk a) rfl h5⟩
section SFC
variable {p : Program} {l : Launch} {e0 : Env} {R : Room} {s : State} {m : MethodId} {args : Array Value} {below : List Frame} {meth : Method} {c : Code} {Q : State → Prop} {k1 k2 : Nat} {cc : ByteArray} {nL : Nat} {lay : sf_Lay} {D : va_G} {cy : Nat → ClassId} {ad : Nat → Nat} {A : Nat → Prop} {own : String}
theorem so_behind {pc : Nat} {L : sf_L} {st rest : List Value} {σ : sf_S} {r : sf_Q} {a : Array Value} (hinj : sf_inj lay ad) (hA : ∀ k, k + 1 < lay.length → A (ad k)) (hAs : ∀ q, s.heap.size ≤ q → A q)
    (hr : ∀ (H : Heap) (locs : List Loc) (ls : Array Slot), sf_LV ls nL ad L → so_P lay D cy ad σ s H → va_S A s.heap H locs → va_Run p l e0 R s m args below meth c H locs k1 k2 0 0 (F0 m pc ls (st.map (sf_v ad))) (rest.map (sf_v ad)) (so_Qc lay D cy ad (so_A lay ad H.size) r a) (so_A lay ad H.size))
    (kk : so_W p l e0 R s m args below meth c Q k1 k2 nL lay D cy ad A (pc + 3) L (r.1.toList ++ rest) r.2) : so_W p l e0 R s m args below meth c Q k1 k2 nL lay D cy ad A pc L st σ := by
  intro H locs ls hl hP hS T hT X
  obtain ⟨v, st₀, t, T', L', h0, X', hL, e1, e2, ⟨⟨hv, hw⟩, hz, hk⟩, stp⟩ := hr H locs ls hl hP hS T hT X
  have hv : v = r.1.map (sf_v ad) := by injection hv
  subst hv
  rw [h0] at hz hk
  have hfree : ∀ q, so_A lay ad H.size q → A q := by
    intro q hq
    rcases hq with ⟨k, h1, rfl⟩ | hq
    · exact hA k h1
    · exact hAs q (Nat.le_trans hS.1 hq)
  have hS1 : va_S A s.heap T'.heap (locs ++ L') := ⟨Nat.le_trans hS.1 (by rw [e1]; exact hz), fun q h1 h2 => by rw [e1, hk q (Nat.lt_of_lt_of_le h1 hS.1) (fun z => h2 (hfree q z))]; exact hS.2.1 q h1 h2, fun q hq => by
      rcases List.mem_append.mp hq with h | h
      · exact hS.2.2 q h
      · exact hfree _ (hL q h)⟩
  obtain ⟨t2, a1, b1⟩ := kk T'.heap (locs ++ L') ls hl (by rw [e1]; exact hP.aft hinj hw hk) hS1 T' rfl X'
  refine ⟨t2, stp t2 ?_, b1⟩
  have he : (r.1.toList ++ rest).map (sf_v ad) = (r.1.map (sf_v ad)).toList ++ rest.map (sf_v ad) := by
    rw [List.map_append]
    cases r.1 <;> rfl
  rw [he] at a1
  exact a1
end SFC
def so_JE {ρ : Type} (l : Launch) (own : String) (cc : ByteArray) (nL : Nat) (rm : Room) (lay : sf_Lay) (pc : Nat) (j : sf_J ρ) : Prop :=
  ∀ (p : Program) (e0 : Env) (s : State) (m : MethodId) (args : Array Value) (below : List Frame) (meth : Method) (c : Code) (Q : State → Prop) (k1 k2 : Nat) (hk1 : k1 ≤ rm.cells) (hk2 : k2 ≤ rm.slots) (D : va_G) (cy : Nat → ClassId) (ad : Nat → Nat) (A : Nat → Prop), so_At p s m args c own cc nL lay D cy ad A sf_T → (∀ w ∈ sf_N, va_Nw w s) →
    ∀ (L : sf_L) (st : List Value) (σ : sf_S) (K : List Value → sf_S → Option ρ) (r : ρ), j st σ K = some r → (∀ st2 σ2, K st2 σ2 = some r → so_W p l e0 rm s m args below meth c Q k1 k2 nL lay D cy ad A (pc + 3) L st2 σ2) → so_W p l e0 rm s m args below meth c Q k1 k2 nL lay D cy ad A pc L st σ
def so_JO {ρ : Type} (l : Launch) (own : String) (cc : ByteArray) (nL : Nat) (rm : Room) (lay : sf_Lay) (J : List (Nat × sf_J ρ)) : Prop := ∀ q ∈ J, so_JE l own cc nL rm lay q.1 q.2
theorem so_JO_nil {ρ : Type} {l : Launch} {own : String} {cc : ByteArray} {nL : Nat} {rm : Room} {lay : sf_Lay} : so_JO (ρ := ρ) l own cc nL rm lay [] := fun _ h => absurd h List.not_mem_nil
theorem so_JO_cons {ρ : Type} {l : Launch} {own : String} {cc : ByteArray} {nL : Nat} {rm : Room} {lay : sf_Lay} {pc : Nat} {j : sf_J ρ} {J : List (Nat × sf_J ρ)} (h : so_JE l own cc nL rm lay pc j) (h2 : so_JO l own cc nL rm lay J) : so_JO l own cc nL rm lay ((pc, j) :: J) := List.forall_mem_cons.mpr ⟨h, h2⟩
theorem so_pre {lay : sf_Lay} {D : va_G} {cy : Nat → ClassId} {ad : Nat → Nat} {s : State} {H : Heap} {av : List Value} {σ : sf_S} (hP : so_P lay D cy ad σ s H) (hK : va_K D vwCl (sf_ty cy) s) (hN : ∀ w ∈ sf_N, va_Nw w s) : ∀ U : State, U.heap = H → s.WarmedH U.vm → so_Pc lay D cy ad H.size av σ (av.map (sf_v ad)).toArray U :=
  fun U hU hW => ⟨rfl, by rw [hU], by rw [hU]; exact hP.st hW.alike, va_K.moved hW.alike hK, sf_N_warm hW hN⟩
def so_RM (rm rm2 : Room) (nL2 : Nat) : Prop := rm2.frames + 1 ≤ rm.frames ∧ 8 + (nL2 + 11) + rm2.locals ≤ rm.locals
theorem so_je_V {ρ τ : Type} {l : Launch} {own : String} {cc cc2 : ByteArray} {nL nL2 idx pc n : Nat} {rm rm2 : Room} {lay : sf_Lay} {y : MethodName} {ret : Option FieldType} {cs : List Nat} {g : List Value → sf_S → Option τ} {tv : τ → sf_Q} (hC : so_C l lay y cc2 nL2 ret rm2 fun av σ => (g av σ).map tv) (hw : sf_MW y cc2 nL2 ret) (hd : decode cc pc = .ok (.invokevirtual idx, 3)) (hl : Cond.methodLink own idx y ∈ sf_T) (hi : Cond.instanceMethod y ∈ sf_T) (hsel : Cond.selects y.cls y y ∈ sf_T)
    (hn : (parseMethodDescriptor y.desc).map (fun d => d.parameters.length) = some (n - 1)) (hn1 : 1 ≤ n) (hcs : cs ≠ []) (hcl : ∀ ci ∈ cs, ∃ T N, vwCl[ci]? = some (y.cls, T, N)) (hrm : so_RM rm rm2 nL2) : so_JE (ρ := ρ) l own cc nL rm lay pc (sf_jG lay cs n g tv) := by
  intro p e0 s m args below meth c Q k1 k2 hk1 hk2 D cy ad A h0 hN L st σ K r hj hk
  obtain ⟨hx, hb, hml, hown, hts, hK, hinj, hA, hAs⟩ := h0
  obtain ⟨hrc, u, hu, hr⟩ := sf_jG_inv hj
  obtain ⟨hlen, hrest, hq⟩ := sf_rc_inv hrc
  obtain ⟨-, q, ci, fs, hq1, hq2, hq3⟩ := hq.resolve_left hcs
  obtain ⟨T, N, hT⟩ := hcl ci hq3
  obtain ⟨e1, e2⟩ := sf_stack hn1 hlen hq1 ad
  obtain ⟨hc0, hs0, hMet⟩ := hC
  obtain ⟨w1, w2, w3, w4⟩ := hw
  obtain ⟨r1, r2⟩ := hrm
  refine so_behind (rest := st.drop n) (r := u) (a := (Value.ref (ad q) :: ((st.take (n - 1)).reverse.map (sf_v ad))).toArray) hinj hA hAs (fun H locs ls hl0 hP hS => ?_) (hk _ _ hr)
  have hM := hMet D cy ad H.size _ σ u hinj hu
  have hsz : (((st.take (n - 1)).reverse.map (sf_v ad)).length) = n - 1 := by simp; omega
  have cw : CallW rm s args own y.cls idx y cc2 nL2 ret (Cond.code y cc2 nL2 ret :: sf_T) rm2 0 0 (n - 1) :=
    ⟨callB_of (n - 1) hts (sf_T_code w1) rfl hc0 hs0 (hts _ w2) (hts _ hl) ⟨w3, w4, hn⟩ ⟨r1, r2⟩, hts _ hi, hts _ hsel⟩
  have hpre : PreV s H y.cls (ad q) (so_Pc lay D cy ad H.size (st.take n).reverse σ) ((st.take (n - 1)).reverse.map (sf_v ad)) := by
    refine ⟨so_pc_blind, va_recv hK hP.1 hT (sf_wd_dl hq2 (hP.inl hq2)), fun U hU hW => ?_⟩
    have := so_pre (av := (st.take n).reverse) hP hK hN U hU hW
    rw [e1] at this
    rw [e1]
    exact this
  exact va_runV (As := (st.take (n - 1)).reverse.map (sf_v ad)) (rest := (st.drop n).map (sf_v ad)) ⟨hx, hb, hml, hown, hts⟩ hM cw hpre rfl hsz hl0.1 e2 (lv_room (sf_cat4 ad _ hrest)) hd ⟨hk1, hk2⟩
theorem so_je_S {ρ τ : Type} {l : Launch} {own : String} {cc cc2 : ByteArray} {nL nL2 idx pc n : Nat} {rm rm2 : Room} {lay : sf_Lay} {y : MethodName} {ret : Option FieldType} {g : List Value → sf_S → Option τ} {tv : τ → sf_Q} (hC : so_C l lay y cc2 nL2 ret rm2 fun av σ => (g av σ).map tv) (hw : sf_MW y cc2 nL2 ret) (hd : decode cc pc = .ok (.invokestatic idx, 3)) (hl : Cond.methodLink own idx y ∈ sf_T) (hi : Cond.static y ∈ sf_T)
    (hn : (parseMethodDescriptor y.desc).map (fun d => d.parameters.length) = some n) (hrm : so_RM rm rm2 nL2) : so_JE (ρ := ρ) l own cc nL rm lay pc (sf_jG lay [] n g tv) := by
  intro p e0 s m args below meth c Q k1 k2 hk1 hk2 D cy ad A h0 hN L st σ K r hj hk
  obtain ⟨hx, hb, hml, hown, hts, hK, hinj, hA, hAs⟩ := h0
  obtain ⟨hrc, u, hu, hr⟩ := sf_jG_inv hj
  obtain ⟨hlen, hrest, -⟩ := sf_rc_inv hrc
  obtain ⟨hc0, hs0, hMet⟩ := hC
  obtain ⟨w1, w2, w3, w4⟩ := hw
  obtain ⟨r1, r2⟩ := hrm
  refine so_behind (rest := st.drop n) (r := u) (a := ((st.take n).reverse.map (sf_v ad)).toArray) hinj hA hAs (fun H locs ls hl0 hP hS => ?_) (hk _ _ hr)
  have hM := hMet D cy ad H.size _ σ u hinj hu
  have hsz : (((st.take n).reverse.map (sf_v ad)).length) = n := by simp; omega
  have cw : CallB rm s args own idx y cc2 nL2 ret (Cond.code y cc2 nL2 ret :: sf_T) rm2 0 0 n := callB_of n hts (sf_T_code w1) rfl hc0 hs0 (hts _ w2) (hts _ hl) ⟨w3, w4, hn⟩ ⟨r1, r2⟩
  have hpre : PreS s H (so_Pc lay D cy ad H.size (st.take n).reverse σ) ((st.take n).reverse.map (sf_v ad)) := ⟨so_pc_blind, so_pre (av := (st.take n).reverse) hP hK hN⟩
  exact va_runS (As := (st.take n).reverse.map (sf_v ad)) (rest := (st.drop n).map (sf_v ad)) ⟨hx, hb, hml, hown, hts⟩ hM ⟨cw, hts _ hi⟩ hpre rfl hsz hl0.1 (sf_stackS n st ad) (lv_room (sf_cat4 ad _ hrest)) hd ⟨hk1, hk2⟩
theorem so_met {ρ : Type} {l : Launch} {y : MethodName} {cc : ByteArray} {nL : Nat} {ret : Option FieldType} {rm : Room} {lay : sf_Lay} {rh : Option Value → sf_S → Option ρ} {tv : ρ → sf_Q} {tab : List (Nat × sf_E)} {J : List (Nat × sf_J ρ)} {fl : sf_FL} {cl : List (Nat × Value)} {g : List Value → sf_S → Option ρ} (hy : plainName y.cls = true) (hrm : rm.cells = 0 ∧ rm.slots = 0) (hrh : sf_RH ret rh tv) (hchk : (sf_chk cc nL fl cl tab && tab.all (fun q => so_oki q.2.1)) = true)
    (hfl : ∀ (s : State) (args : Array Value), (∀ w ∈ sf_T, w.before args s = true) → (∀ w ∈ sf_N, va_Nw w s) → ∀ q ∈ fl, sf_FF s args sf_T y.cls q.1 q.2.1 q.2.2.1 q.2.2.2)
    (hcl : ∀ (s : State) (args : Array Value), (∀ w ∈ sf_T, w.before args s = true) → ∀ q ∈ cl, sf_CC s args y.cls q.1 q.2) (hJ : so_JO l y.cls cc nL rm lay J)
    (hrun : ∀ (Wt : Nat → sf_L → List Value → sf_S → Prop) (Post : ρ → Prop), sf_Snd Wt lay rh J tab Post → sf_mono Wt → ∀ av σ u, g av σ = some u → Post u → (∀ ad, (lg_sl (av.map (sf_v ad))).length ≤ nL) ∧ Wt 0 (sf_ent 0 av) [] σ) : so_C l lay y cc nL ret rm fun av σ => (g av σ).map tv := by
  rw [Bool.and_eq_true] at hchk
  refine ⟨hrm.1, hrm.2, fun D cy ad sz av σ r hinj hr => ?_⟩
  cases hg : g av σ with
  | none => simp [hg] at hr
  | some u =>
  simp only [hg, Option.map_some, Option.some.injEq] at hr
  subst hr
  refine Met.ofW (cc := cc) (maxL := nL) (ret := ret) hy rfl ?_
  intro p e s m args below meth c s₁ B hml hv
  obtain ⟨rfl, hsz, hP, hK, hN⟩ := hv
  have hx := B.exec
  have hb := B.bytes
  have hr := B.returns
  have hts0 := atoms_spec (ws := Cond.code y cc nL ret :: sf_T) B.pre
  have hts : ∀ w ∈ sf_T, w.before (av.map (sf_v ad)).toArray s = true := fun w h => hts0 w (List.mem_cons_of_mem _ h)
  have hown : s.vm.findClass y.cls = some m.cls := findClass_of_methodNamed B.named
  have hlocks := B.notSynchronized
  subst hsz
  have h0 : so_At p s m (av.map (sf_v ad)).toArray c y.cls cc nL lay D cy ad (so_A lay ad s.heap.size) sf_T := ⟨hx, hb, hml, hown, hts, hK, hinj, fun k hk => Or.inl ⟨k, hk, rfl⟩, fun q hq => Or.inr hq⟩
  have hsnd := so_step_ok (l := l) (e0 := e) (R := rm) (below := below) (meth := meth) (Q := MQ below (so_Qc lay D cy ad (so_A lay ad s.heap.size) (tv u)) (av.map (sf_v ad)).toArray s 0 0 (so_A lay ad s.heap.size)) (rh := rh) (J := J) (tab := tab) (Post := fun z => z = u) h0 hchk.2 hchk.1 (hfl s _ hts hN) (hcl s _ hts)
    (fun pc j L st σ2 K r hj hjj hk => hJ (pc, j) (sf_as_mem hj) p e s m _ below meth c _ 0 0 (Nat.zero_le _) (Nat.zero_le _) D cy ad _ h0 hN L st σ2 K r hjj hk)
    (by
      intro v σ2 r pc L ins hrv hpost hd hins
      subst hpost
      obtain ⟨htv, hI, hL, hV⟩ := hrh v σ2 r hrv
      intro H locs ls hl hP2 hS
      have hq : ∀ t : State, t.heap = H → s.WarmedH t.vm → so_Qc lay D cy ad (so_A lay ad s.heap.size) (tv r) (av.map (sf_v ad)).toArray s (.returned (v.map (sf_v ad))) t := by
        intro t ht hW
        rw [htv]
        exact ⟨⟨rfl, by rw [ht]; exact hP2.V⟩, hS.F ht⟩
      rcases hins with ⟨rfl, x, rfl⟩ | ⟨rfl, x, rfl⟩ | ⟨rfl, rfl⟩
      · obtain ⟨ty, h1, h2⟩ := hI x rfl
        exact W.zret hx hb (hr.trans h1) h2 hq hS.2.2 hd
      · exact W.lret hx hb (hr.trans (hL x rfl)) hq hS.2.2 hd
      · exact W.vret hx hb (hr.trans (hV rfl)) hq hS.2.2 hd)
  obtain ⟨hlen, hgo⟩ := hrun _ _ hsnd (fun pc L0 L st σ2 hm k => k.mono hm) av σ u hg rfl
  rw [lg_entry_eq]
  exact hgo s.heap [] _ (sf_ent_LV ad (hlen ad)) hP va_S.rf
theorem so_RM_of {f o f2 o2 nL2 : Nat} (h1 : f2 + 1 ≤ f) (h2 : 8 + (nL2 + 11) + o2 ≤ o) : so_RM (sf_rm f o) (sf_rm f2 o2) nL2 := ⟨h1, h2⟩
theorem so_RMl {f2 o2 nL2 : Nat} (h1 : f2 + 1 ≤ 2048) (h2 : 8 + (nL2 + 11) + o2 ≤ 84000) : so_RM room_1 (sf_rm f2 o2) nL2 := ⟨h1, h2⟩
