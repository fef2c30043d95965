/-! the constructors' machine is sound -/
section SDW
variable {p : Program} {l : Launch} {e : Env} {R : Room} {s : State} {m : MethodId} {args : Array Value} {below : List Frame} {meth : Method} {c : Code} {Q : State → Prop} {cc : ByteArray} {nL : Nat} {D : va_G} {cy : Nat → ClassId} {A : Nat → Prop} {own : String} {n0 : Nat} {as0 : Nat → Nat}
def sd_W (p : Program) (l : Launch) (e : Env) (R : Room) (s : State) (m : MethodId) (args : Array Value) (below : List Frame) (meth : Method) (c : Code) (Q : State → Prop) (nL : Nat) (D : va_G) (cy : Nat → ClassId) (A : Nat → Prop) (n0 : Nat) (as0 : Nat → Nat) (pc : Nat) (L : sf_L) (st : List Value) (Δ : sd_D) (cells slots : Nat) : Prop :=
  ∀ (as : Nat → Nat) (H : Heap) (locs : List Loc) (ls : Array Slot), n0 ≤ Δ.length → (∀ k, k < n0 → as k = as0 k) → sf_LV ls nL as L → va_P D vwCl (sd_wd as cy Δ) H → va_D A (sd_wd as cy Δ) → va_S A s.heap H locs → W p l e R s m args below meth c H locs cells slots Q (F0 m pc ls (st.map (sf_v as)))
def sd_At (p : Program) (s : State) (m : MethodId) (args : Array Value) (c : Code) (own : String) (cc : ByteArray) (nL : Nat) (D : va_G) (cy : Nat → ClassId) (A : Nat → Prop) : Prop :=
  p.tables.exec = Jvm.exec ∧ c.code = cc ∧ c.maxLocals = nL ∧ s.vm.findClass own = some m.cls ∧ (∀ w ∈ sf_T, w.before args s = true) ∧ va_K D vwCl (sf_ty cy) s ∧ (∀ q, s.heap.size ≤ q → A q)
theorem sd_W.go {pc pc2 : Nat} {L : sf_L} {st st2 : List Value} {Δ : sd_D} {k1 k2 : Nat} (k : sd_W p l e R s m args below meth c Q nL D cy A n0 as0 pc2 L st2 Δ k1 k2)
    (h : ∀ (as : Nat → Nat) (H : Heap) (locs : List Loc) (ls : Array Slot), sf_LV ls nL as L → W p l e R s m args below meth c H locs k1 k2 Q (F0 m pc2 ls (st2.map (sf_v as))) → W p l e R s m args below meth c H locs k1 k2 Q (F0 m pc ls (st.map (sf_v as)))) : sd_W p l e R s m args below meth c Q nL D cy A n0 as0 pc L st Δ k1 k2 :=
  fun as H locs ls h0 h1 hl hP hD hS => h as H locs ls hl (k as H locs ls h0 h1 hl hP hD hS)
theorem sd_row_new (h0 : sd_At p s m args c own cc nL D cy A) {pc idx ci k1 k2 : Nat} {C : String} {T : u_T} {N : Nat} {ty0 : Nat → FieldType} {fs : List Value} {L : sf_L} {st : List Value} {Δ : sd_D} (hb0 : sd_b L st Δ = true) (hc : vwCl[ci]? = some (C, T, N)) (hin : ∀ w ∈ u_ws C T N, w ∈ sf_T) (hty : ∀ k, k < N → parseFieldDescriptor (T k).2.2.1 = some (ty0 k)) (hcl : Cond.classLink own idx C ∈ sf_T) (hinst : Cond.instantiable C N ∈ sf_T) (hini : Cond.initialized C ∈ sf_T) (hfs : ∀ j, j < N → defaultValue (ty0 j) = vp_V fs j) (hlen : fs.length = N) (hnv : ∀ v ∈ fs, ∀ q, v ≠ .ref q)
    (hr1 : k1 + 1 ≤ R.cells) (hr2 : k2 + fs.length ≤ R.slots) (hd : decode cc pc = .ok (.new idx, 3)) (k : sd_W p l e R s m args below meth c Q nL D cy A n0 as0 (pc + 3) L (.ref Δ.length :: st) (Δ ++ [.inl (ci, fs)]) (k1 + 1) (k2 + fs.length)) : sd_W p l e R s m args below meth c Q nL D cy A n0 as0 pc L st Δ k1 k2 := by
  obtain ⟨hx, hb, -, hown, hts, hK, hA⟩ := h0
  subst hlen
  simp only [sd_b] at hb0
  split at hb0
  · rename_i hbL
    split at hb0
    · rename_i hbS
      intro as H locs ls hn0 has hl hP hD hS
      refine va_new hx hb hts hin ty0 hty hown (hts _ hcl) (hts _ hinst) (hts _ hini) hK hP hD hS hA hc hfs hr1 hr2 hd (fun q H1 hP1 hD1 hS1 => ?_)
      have hce : sd_ce (sd_up as Δ.length q) cy (.inl (ci, fs)) = .inr (ci, fs) := by
        simp only [sd_ce]
        congr 2
        conv => rhs; rw [← List.map_id fs]
        exact List.map_congr_left fun v hv => sf_v_none _ (hnv v hv)
      have hce2 : sd_ce as cy (.inl (ci, fs)) = .inr (ci, fs) := by
        simp only [sd_ce]
        congr 2
        conv => rhs; rw [← List.map_id fs]
        exact List.map_congr_left fun v hv => sf_v_none _ (hnv v hv)
      have hw := sd_wd_up (as := as) (cy := cy) (q := q) hb0 (.inl (ci, fs)) (by rw [hce, hce2])
      rw [hce2] at hw
      have := k (sd_up as Δ.length q) H1 locs ls (by simp; omega) (fun z hz => by rw [← has z hz]; simp [sd_up]; omega) (sd_LV_up hbL hl) (by rw [hw]; exact hP1) (by rw [hw]; exact hD1) hS1
      have hst : (Value.ref Δ.length :: st).map (sf_v (sd_up as Δ.length q)) = .ref q :: st.map (sf_v as) := by
        rw [List.map_cons, sd_map_up hbS]
        simp [sf_v, sd_up]
      rw [hst] at this
      exact this
    · cases hb0
  · cases hb0
theorem sd_row_newa (h0 : sd_At p s m args c own cc nL D cy A) {pc t0 k1 k2 : Nat} {at0 : ArrayType} {ty : FieldType} {n : Int32} {L : sf_L} {st : List Value} {Δ : sd_D} (hb0 : sd_b L (.int n :: st) Δ = true) (hty : newarray.typeOf at0 = ty) (ht : (sf_ty cy)[t0]? = some (cy t0, ty)) (h3 : ty = .int ∨ ty = .boolean ∨ ty = .byte) (harr : Cond.arrayClass ty ∈ sf_T) (hn : ¬ n < 0) (hN : n.toNatClampNeg ≤ 2400)
    (hr1 : k1 + 1 ≤ R.cells) (hr2 : k2 + n.toNatClampNeg ≤ R.slots) (hd : decode cc pc = .ok (.newarray at0, 2)) (k : sd_W p l e R s m args below meth c Q nL D cy A n0 as0 (pc + 2) L (.ref Δ.length :: st) (Δ ++ [.inr (t0, n.toNatClampNeg, fun _ => 0)]) (k1 + 1) (k2 + n.toNatClampNeg)) : sd_W p l e R s m args below meth c Q nL D cy A n0 as0 pc L (.int n :: st) Δ k1 k2 := by
  obtain ⟨hx, hb, -, hown, hts, hK, hA⟩ := h0
  simp only [sd_b] at hb0
  split at hb0
  · rename_i hbL
    split at hb0
    · rename_i hbS
      have hbS2 : sd_bl Δ.length st = true := by
        simpa [sd_bl, sd_bv] using hbS
      intro as H locs ls hn0 has hl hP hD hS
      have hbytes : n.toNatClampNeg * componentBytes ty ≤ 536870912 := by
        rcases h3 with rfl | rfl | rfl <;> simp [componentBytes] <;> omega
      refine va_newa (a0 := (n.toNatClampNeg, .inl fun _ => 0)) hx hb (by rw [hty]; exact hts _ harr) hty hK hP hD hS hA (fun cA => ?_) hn rfl hbytes hr1 hr2 hd (fun q cA H1 hK1 hP1 hD1 hS1 => ?_)
      · rcases h3 with rfl | rfl | rfl <;> rfl
      · have hcA : cA = cy t0 := by
          have e1 := (hK.2 t0 _ ht).2
          have e2 := (hK1.2 (sf_ty cy).length (cA, ty) (by simp)).2
          rcases h3 with rfl | rfl | rfl <;> exact Option.some.inj (e2.symm.trans e1)
        subst hcA
        have hw := sd_wd_up (as := as) (cy := cy) (q := q) hb0 (.inr (t0, n.toNatClampNeg, fun _ => 0)) rfl
        have := k (sd_up as Δ.length q) H1 locs ls (by simp; omega) (fun z hz => by rw [← has z hz]; simp [sd_up]; omega) (sd_LV_up hbL hl) (by rw [hw]; exact hP1) (by rw [hw]; exact hD1) hS1
        have hst : (Value.ref Δ.length :: st).map (sf_v (sd_up as Δ.length q)) = .ref q :: st.map (sf_v as) := by
          rw [List.map_cons, sd_map_up hbS2]
          simp [sf_v, sd_up]
        rw [hst] at this
        exact this
    · cases hb0
  · cases hb0
theorem sd_row_ist (h0 : sd_At p s m args c own cc nL D cy A) {pc q n k1 k2 : Nat} {f : Nat → Int32} {i x : Int32} {L : sf_L} {r : List Value} {Δ : sd_D} (hq : Δ[q]? = some (.inr (0, n, f))) (hin : sf_in i n = true) (hd : decode cc pc = .ok (.iastore, 1)) (k : sd_W p l e R s m args below meth c Q nL D cy A n0 as0 (pc + 1) L r (Δ.set q (.inr (0, n, upd f i.toNatClampNeg x))) k1 k2) : sd_W p l e R s m args below meth c Q nL D cy A n0 as0 pc L (.int x :: .int i :: .ref q :: r) Δ k1 k2 := by
  obtain ⟨hx, hb, -, hown, hts, hK, hA⟩ := h0
  intro as H locs ls hn0 has hl hP hD hS
  refine va_iast hx hb hK hP hD hS q 0 (sd_wd_at hq) rfl (sf_in_iff hin) hd (fun H1 locs1 hP1 hD1 hS1 => k as H1 locs1 ls (by simpa using hn0) has hl ?_ ?_ hS1)
  · rw [← sd_wd_set]
    exact hP1
  · rw [← sd_wd_set]
    exact hD1
theorem sd_row_get (h0 : sd_At p s m args c own cc nL D cy A) {pc q idx ci k kd k1 k2 : Nat} {fs : List Value} {y : Value} {L : sf_L} {r : List Value} {Δ : sd_D} (hq : Δ[q]? = some (.inl (ci, fs))) (hf : fs[k]? = some y) (hF : sf_FF s args sf_T own idx ci k kd) (hd : decode cc pc = .ok (.getfield idx, 3)) (kk : sd_W p l e R s m args below meth c Q nL D cy A n0 as0 (pc + 3) L (y :: r) Δ k1 k2) : sd_W p l e R s m args below meth c Q nL D cy A n0 as0 pc L (.ref q :: r) Δ k1 k2 := by
  obtain ⟨hx, hb, -, hown, hts, hK, hA⟩ := h0
  obtain ⟨C, T, N, ref, ty0, hc, hk, hin, hlink, hsame, -, -, -, -⟩ := hF
  intro as H locs ls hn0 has hl hP hD hS
  have hv : (fs.map (sf_v as))[k]? = some (sf_v as y) := by simp [hf]
  rcases hlink with hlink | ⟨host, hlink⟩
  · exact va_get hx hb hts hin hown hK hP q (sd_wd_at hq) hc k hk hlink hsame hv hd (kk as H locs ls hn0 has hl hP hD hS)
  · exact va_getN hx hb hts hin hown hK hP q (sd_wd_at hq) hc k hk hlink hsame hv hd (kk as H locs ls hn0 has hl hP hD hS)
/-- a final field of references, in the constructor of its class -/
def sd_FR (own : String) (idx ci k : Nat) : Prop := ∃ (C : String) (T : u_T) (N : Nat) (ty : FieldType), vwCl[ci]? = some (C, T, N) ∧ (T k).2.2.2 = true ∧ (T k).1 = own ∧ parseFieldDescriptor (T k).2.2.1 = some ty ∧ ((∃ z, ty = .object z) ∨ ∃ z, ty = .array z) ∧ Cond.fieldLink own idx own (T k).2.1 (T k).2.2.1 ∈ sf_T
theorem sd_row_putR (h0 : sd_At p s m args c own cc nL D cy A) (hinit : meth.name = "<init>") {pc q idx ci k kd k1 k2 z : Nat} {fs : List Value} {L : sf_L} {r : List Value} {Δ : sd_D} (hq : Δ[q]? = some (.inl (ci, fs))) (hkl : k < fs.length) (hF : sf_FF s args sf_T own idx ci k kd) (hR : sd_FR own idx ci k) (hd : decode cc pc = .ok (.putfield idx, 3)) (kk : sd_W p l e R s m args below meth c Q nL D cy A n0 as0 (pc + 3) L r (Δ.set q (.inl (ci, fs.set k (.ref z)))) k1 k2) : sd_W p l e R s m args below meth c Q nL D cy A n0 as0 pc L (.ref z :: .ref q :: r) Δ k1 k2 := by
  obtain ⟨hx, hb, -, hown, hts, hK, hA⟩ := h0
  obtain ⟨C, T, N, ref, ty0, hc, hk, hin, hlink, hsame, hty, hnm, -, -⟩ := hF
  obtain ⟨C', T', N', ty, hc', hfin, hdecl, hpt, hkind, hlink2⟩ := hR
  have hE := Option.some.inj (hc.symm.trans hc')
  have hE1 : T = T' := (Prod.mk.inj (Prod.mk.inj hE).2).1
  subst hE1
  intro as H locs ls hn0 has hl hP hD hS
  have hn : narrow ty (.ref (as z)) = .ref (as z) ∧ fits ty (.ref (as z)) = true := by
    rcases hkind with ⟨w, rfl⟩ | ⟨w, rfl⟩ <;> exact ⟨rfl, rfl⟩
  refine va_putF hx hb hts hin ty0 hty hnm hown hK hP hD hS q (sd_wd_at hq) hc k hk (hts _ hlink2) (by rw [hdecl]; exact fun _ h => h) hfin hinit hdecl hpt hn.1 hn.2 (by simpa using hkl) hd (fun H1 locs1 hP1 hD1 hS1 => kk as H1 locs1 ls (by simpa using hn0) has hl ?_ ?_ hS1)
  · rw [← sd_wd_set]
    simpa [sd_ce, List.map_set, sf_v] using hP1
  · rw [← sd_wd_set]
    simpa [sd_ce, List.map_set, sf_v] using hD1
theorem sd_row_putI (h0 : sd_At p s m args c own cc nL D cy A) {pc q idx ci k kd k1 k2 : Nat} {z : Int32} {fs : List Value} {L : sf_L} {r : List Value} {Δ : sd_D} (hq : Δ[q]? = some (.inl (ci, fs))) (hkl : k < fs.length) (hF : sf_FF s args sf_T own idx ci k kd) (hkd : kd = 1) (hd : decode cc pc = .ok (.putfield idx, 3)) (kk : sd_W p l e R s m args below meth c Q nL D cy A n0 as0 (pc + 3) L r (Δ.set q (.inl (ci, fs.set k (.int z)))) k1 k2) : sd_W p l e R s m args below meth c Q nL D cy A n0 as0 pc L (.int z :: .ref q :: r) Δ k1 k2 := by
  obtain ⟨hx, hb, -, hown, hts, hK, hA⟩ := h0
  obtain ⟨C, T, N, ref, ty0, hc, hk, hin, hlink, hsame, hty, hnm, h1, -⟩ := hF
  intro as H locs ls hn0 has hl hP hD hS
  have hn : narrow (ty0 k) (.int z) = .int z ∧ fits (ty0 k) (.int z) = true := by
    rw [(h1 hkd).2]
    exact ⟨vp_nar_int z, rfl⟩
  rcases hlink with hlink | ⟨host, hlink⟩
  · refine va_put hx hb hts hin ty0 hty hnm hown hK hP hD hS q (sd_wd_at hq) hc k hk hlink hsame (h1 hkd).1 (hty k hk) hn.1 hn.2 (by simpa using hkl) hd (fun H1 locs1 hP1 hD1 hS1 => kk as H1 locs1 ls (by simpa using hn0) has hl ?_ ?_ hS1)
    · rw [← sd_wd_set]
      simpa [sd_ce, List.map_set, sf_v] using hP1
    · rw [← sd_wd_set]
      simpa [sd_ce, List.map_set, sf_v] using hD1
  · refine va_putN hx hb hts hin ty0 hty hnm hown hK hP hD hS q (sd_wd_at hq) hc k hk hlink hsame (h1 hkd).1 (hty k hk) hn.1 hn.2 (by simpa using hkl) hd (fun H1 locs1 hP1 hD1 hS1 => kk as H1 locs1 ls (by simpa using hn0) has hl ?_ ?_ hS1)
    · rw [← sd_wd_set]
      simpa [sd_ce, List.map_set, sf_v] using hP1
    · rw [← sd_wd_set]
      simpa [sd_ce, List.map_set, sf_v] using hD1
end SDW
