/-! the law makes its objects: the constructors' machine, with the locals kept (the script lies in one) -/
section SDW
variable {p : Program} {l : Launch} {e : Env} {R : Room} {s : State} {m : MethodId} {args : Array Value} {below : List Frame} {meth : Method} {c : Code} {Q : State → Prop} {cc : ByteArray} {nL : Nat} {D : va_G} {cy : Nat → ClassId} {A : Nat → Prop} {own : String} {n0 : Nat} {as0 : Nat → Nat}
def sd_Wl (Pl : Array Slot → Prop) (p : Program) (l : Launch) (e : Env) (R : Room) (s : State) (m : MethodId) (args : Array Value) (below : List Frame) (meth : Method) (c : Code) (Q : State → Prop) (nL : Nat) (D : va_G) (cy : Nat → ClassId) (A : Nat → Prop) (n0 : Nat) (as0 : Nat → Nat) (pc : Nat) (L : sf_L) (st : List Value) (Δ : sd_D) (cells slots : Nat) : Prop :=
  ∀ (as : Nat → Nat) (H : Heap) (locs : List Loc) (ls : Array Slot), Pl ls → n0 ≤ Δ.length → (∀ k, k < n0 → as k = as0 k) → sf_LV ls nL as L → va_P D vwCl (sd_wd as cy Δ) H → va_D A (sd_wd as cy Δ) → va_S A s.heap H locs → W p l e R s m args below meth c H locs cells slots Q (F0 m pc ls (st.map (sf_v as)))
theorem sd_Wl.go {Pl : Array Slot → Prop} {pc pc2 : Nat} {L : sf_L} {st st2 : List Value} {Δ : sd_D} {k1 k2 : Nat} (k : sd_Wl Pl p l e R s m args below meth c Q nL D cy A n0 as0 pc2 L st2 Δ k1 k2)
    (h : ∀ (as : Nat → Nat) (H : Heap) (locs : List Loc) (ls : Array Slot), Pl ls → sf_LV ls nL as L → W p l e R s m args below meth c H locs k1 k2 Q (F0 m pc2 ls (st2.map (sf_v as))) → W p l e R s m args below meth c H locs k1 k2 Q (F0 m pc ls (st.map (sf_v as)))) : sd_Wl Pl p l e R s m args below meth c Q nL D cy A n0 as0 pc L st Δ k1 k2 :=
  fun as H locs ls hp h0 h1 hl hP hD hS => h as H locs ls hp hl (k as H locs ls hp h0 h1 hl hP hD hS)
theorem sd_rowl_new {Pl : Array Slot → Prop} (h0 : sd_At p s m args c own cc nL D cy A) {pc idx ci k1 k2 : Nat} {C : String} {T : u_T} {N : Nat} {ty0 : Nat → FieldType} {fs : List Value} {L : sf_L} {st : List Value} {Δ : sd_D} (hb0 : sd_b L st Δ = true) (hc : vwCl[ci]? = some (C, T, N)) (hin : ∀ w ∈ u_ws C T N, w ∈ sf_T) (hty : ∀ k, k < N → parseFieldDescriptor (T k).2.2.1 = some (ty0 k)) (hcl : Cond.classLink own idx C ∈ sf_T) (hinst : Cond.instantiable C N ∈ sf_T) (hini : Cond.initialized C ∈ sf_T) (hfs : ∀ j, j < N → defaultValue (ty0 j) = vp_V fs j) (hlen : fs.length = N) (hnv : ∀ v ∈ fs, ∀ q, v ≠ .ref q)
    (hr1 : k1 + 1 ≤ R.cells) (hr2 : k2 + fs.length ≤ R.slots) (hd : decode cc pc = .ok (.new idx, 3)) (k : sd_Wl Pl p l e R s m args below meth c Q nL D cy A n0 as0 (pc + 3) L (.ref Δ.length :: st) (Δ ++ [.inl (ci, fs)]) (k1 + 1) (k2 + fs.length)) : sd_Wl Pl p l e R s m args below meth c Q nL D cy A n0 as0 pc L st Δ k1 k2 := by
  obtain ⟨hx, hb, -, hown, hts, hK, hA⟩ := h0
  subst hlen
  simp only [sd_b] at hb0
  split at hb0
  · rename_i hbL
    split at hb0
    · rename_i hbS
      intro as H locs ls hp hn0 has hl hP hD hS
      refine va_new hx hb hts hin ty0 hty hown (hts _ hcl) (hts _ hinst) (hts _ hini) hK hP hD hS hA hc hfs hr1 hr2 hd (fun q H1 hP1 hD1 hS1 => ?_)
      have hce : sd_ce (sd_up as Δ.length q) cy (.inl (ci, fs)) = .inr (ci, fs) := by
        simp only [sd_ce]
        congr 2
        conv => rhs; rw [← List.map_id fs]
        exact List.map_congr_left fun v hv => sf_v_none _ (hnv v hv)
      have hce2 : sd_ce as cy (.inl (ci, fs)) = .inr (ci, fs) := by
        simp only [sd_ce]
        congr 2
        conv => rhs; rw [← List.map_id fs]
        exact List.map_congr_left fun v hv => sf_v_none _ (hnv v hv)
      have hw := sd_wd_up (as := as) (cy := cy) (q := q) hb0 (.inl (ci, fs)) (by rw [hce, hce2])
      rw [hce2] at hw
      have := k (sd_up as Δ.length q) H1 locs ls hp (by simp; omega) (fun z hz => by rw [← has z hz]; simp [sd_up]; omega) (sd_LV_up hbL hl) (by rw [hw]; exact hP1) (by rw [hw]; exact hD1) hS1
      have hst : (Value.ref Δ.length :: st).map (sf_v (sd_up as Δ.length q)) = .ref q :: st.map (sf_v as) := by
        rw [List.map_cons, sd_map_up hbS]
        simp [sf_v, sd_up]
      rw [hst] at this
      exact this
    · cases hb0
  · cases hb0
end SDW
def sd_JEl (Pl : Array Slot → Prop) (l : Launch) (own : String) (cc : ByteArray) (nL : Nat) (rm : Room) (pc : Nat) (j : sd_J) : Prop :=
  ∀ (p : Program) (e0 : Env) (s : State) (m : MethodId) (args : Array Value) (below : List Frame) (meth : Method) (c : Code) (Q : State → Prop) (D : va_G) (cy : Nat → ClassId) (A : Nat → Prop) (n0 : Nat) (as0 : Nat → Nat), sd_At p s m args c own cc nL D cy A → (∀ w ∈ sf_N, va_Nw w s) →
    ∀ (L : sf_L) (st : List Value) (Δ : sd_D) (k1 k2 : Nat) (K : List Value → sd_D → Nat → Nat → Option sd_R) (r : sd_R), rm.cells = r.2.1 → rm.slots = r.2.2 → sd_b L st Δ = true → j st Δ K = some r → (∀ st2 Δ2 dc ds, K st2 Δ2 dc ds = some r → (k1 + dc ≤ r.2.1 ∧ k2 + ds ≤ r.2.2) ∧ sd_Wl Pl p l e0 rm s m args below meth c Q nL D cy A n0 as0 (pc + 3) L st2 Δ2 (k1 + dc) (k2 + ds)) → (k1 ≤ r.2.1 ∧ k2 ≤ r.2.2) ∧ sd_Wl Pl p l e0 rm s m args below meth c Q nL D cy A n0 as0 pc L st Δ k1 k2
theorem sd_jel_I {Pl : Array Slot → Prop} {l : Launch} {own : String} {cc cc2 : ByteArray} {nL nL2 idx pc n mc ms : Nat} {rm rm2 : Room} {y : MethodName} {F : List Value → sd_D → Option sd_R} (hC : sd_CT l y cc2 nL2 rm2 F) (hrm2 : rm2.cells = mc ∧ rm2.slots = ms) (hd : decode cc pc = .ok (.invokespecial idx, 3))
    (hy1 : y.name = "<init>") (hcode : Cond.code y cc2 nL2 none ∈ sf_T) (hini : Cond.initialized y.cls ∈ sf_T) (hinst : Cond.instanceMethod y ∈ sf_T) (hlink : Cond.methodLink own idx y ∈ sf_T ∨ ∃ host, Cond.methodLinkNest own idx y host ∈ sf_N) (hnm : y.cls ≠ "java/lang/invoke/MethodHandle" ∧ y.cls ≠ "java/lang/invoke/VarHandle") (hn : (parseMethodDescriptor y.desc).map (fun d => d.parameters.length) = some n)
    (hr1 : rm2.frames + 1 ≤ rm.frames) (hr2 : 8 + (nL2 + 11) + rm2.locals ≤ rm.locals) (hrecv : ∀ av Δ r, F av Δ = some r → ∃ z tl, av = .ref z :: tl) : sd_JEl Pl l own cc nL rm pc (sd_jc (n + 1) mc ms F) := by
  intro p e0 s m args below meth c Q D cy A n0 as0 h0 hN L st Δ k1 k2 K r hm1 hm2 hbb hj hk
  obtain ⟨hx, hb, hml, hown, hts, hK, hA⟩ := h0
  obtain ⟨hlen, h4, Δ2, hF, hr⟩ := sd_jc_inv hj
  obtain ⟨q, w⟩ := hk _ _ _ _ hr
  refine ⟨⟨by omega, by omega⟩, fun as H locs ls hp e1 e2 hl hP hD hS => ?_⟩
  have hz : ∃ z, st[n]? = some (.ref z) := by
    obtain ⟨z, tl, ha⟩ := hrecv _ _ _ hF
    have h6 : (st.take (n + 1)).reverse[0]? = some (.ref z) := by rw [ha]; rfl
    have hl6 : (st.take (n + 1)).length = n + 1 := by simp; omega
    rw [List.getElem?_reverse (by omega), hl6, List.getElem?_take_of_lt (by omega)] at h6
    exact ⟨z, by simpa using h6⟩
  obtain ⟨z, hz⟩ := hz
  obtain ⟨t1, t2⟩ := sf_stack (n := n + 1) (by omega) hlen hz as
  simp only [Nat.add_sub_cancel] at t1 t2
  have hM := hC D cy as H.size _ Δ _ hF hrm2.1 hrm2.2 ⟨hD.1, fun _ _ _ => trivial⟩
  simp only [sd_b] at hbb
  split at hbb
  · rename_i hbL
    split at hbb
    · rename_i hbS
      have hsz : (((st.take n).reverse.map (sf_v as)).length) = n := by simp; omega
      have hpre : PreS s H (sd_Pc D cy as H.size (st.take (n + 1)).reverse Δ) (.ref (as z) :: (st.take n).reverse.map (sf_v as)) := by
        refine ⟨sd_pc_blind, fun U hU hW => ?_⟩
        rw [t1]
        exact ⟨rfl, by rw [hU], by rw [hU]; exact hP, va_K.moved hW.alike hK, sf_N_warm hW hN⟩
      have hroom : k1 + mc ≤ rm.cells ∧ k2 + ms ≤ rm.slots := ⟨by rw [hm1]; exact q.1, by rw [hm2]; exact q.2⟩
      have hcat := lv_room (pc := pc) (ls := ls) (m := m) (rest := st.map (sf_v as)) (sf_cat4 as _ (sf_cw_ok _ _ h4))
      have hrunv : va_Run p l e0 rm s m args below meth c H locs k1 k2 mc ms (F0 m pc ls (st.map (sf_v as))) ((st.drop (n + 1)).map (sf_v as)) (sd_Qc D cy (sd_A as Δ.length H.size) Δ.length as Δ2 (Value.ref (as z) :: (st.take n).reverse.map (sf_v as)).toArray) (sd_A as Δ.length H.size) := by
        rcases hlink with hlink | ⟨host, hlink⟩
        · have cw : CallB rm s args own idx y cc2 nL2 none (Cond.code y cc2 nL2 none :: sf_T) rm2 mc ms n := callB_of n hts (sf_T_code hcode) rfl hrm2.1 hrm2.2 (hts _ hini) (hts _ hlink) ⟨hnm.1, hnm.2, hn⟩ ⟨hr1, hr2⟩
          exact va_runI (As := (st.take n).reverse.map (sf_v as)) (rest := (st.drop (n + 1)).map (sf_v as)) ⟨hx, hb, hml, hown, hts⟩ hM ⟨cw, hy1, hts _ hinst⟩ hpre rfl hsz hl.1 t2 hcat hd hroom
        · have cw : va_CN rm s args own idx y host cc2 nL2 none (Cond.code y cc2 nL2 none :: sf_T) rm2 mc ms n := va_cnB n hts (sf_T_code hcode) rfl hrm2.1 hrm2.2 (hN _ hlink) (hts _ hini) ⟨hnm.1, hnm.2, hn⟩ ⟨hr1, hr2⟩
          exact va_runIN (As := (st.take n).reverse.map (sf_v as)) (rest := (st.drop (n + 1)).map (sf_v as)) ⟨hx, hb, hml, hown, hts⟩ hM ⟨cw, hy1, hts _ hinst⟩ hpre rfl hsz hl.1 t2 hcat hd hroom
      intro T hT X
      obtain ⟨v, st₀, t, T', L', g0, X', hL, g1, g2, ⟨⟨hv, as2, hn2, has2, hP2, hD2⟩, hzz, hkk⟩, stp⟩ := hrunv T hT X
      have hv : v = none := by injection hv
      subst hv
      rw [g0] at hzz hkk
      have hfree : ∀ q, sd_A as Δ.length H.size q → A q := by
        intro q hq
        rcases hq with ⟨k, f1, rfl⟩ | hq
        · obtain ⟨x, hx1⟩ : ∃ x, Δ[k]? = some x := ⟨_, List.getElem?_eq_getElem f1⟩
          exact hD.2 k _ (sd_wd_at hx1)
        · exact hA q (Nat.le_trans hS.1 hq)
      have hS1 : va_S A s.heap T'.heap (locs ++ L') := ⟨Nat.le_trans hS.1 (by rw [g1]; exact hzz), fun q f1 f2 => by rw [g1, hkk q (Nat.lt_of_lt_of_le f1 hS.1) (fun zz => f2 (hfree q zz))]; exact hS.2.1 q f1 f2, fun q hq => by
          rcases List.mem_append.mp hq with h | h
          · exact hS.2.2 q h
          · exact hfree _ (hL q h)⟩
      have hl2 : sf_LV ls nL as2 L := ⟨hl.1, hl.2.1, fun i v hg => by rw [sd_v_eq has2 (sd_bL_all hbL i v hg)]; exact hl.2.2 i v hg⟩
      obtain ⟨t3, a1, b1⟩ := w as2 T'.heap (locs ++ L') ls hp (Nat.le_trans e1 hn2) (fun k hk => by rw [has2 k (Nat.lt_of_lt_of_le hk e1)]; exact e2 k hk) hl2 (by rw [g1]; exact hP2) ⟨hD2.1, fun k q hq => hfree _ (hD2.2 k q hq)⟩ hS1 T' rfl X'
      refine ⟨t3, stp t3 ?_, b1⟩
      have he : (st.drop (n + 1)).map (sf_v as2) = (st.drop (n + 1)).map (sf_v as) := List.map_congr_left fun v hv => sd_v_eq has2 (sd_bl_all (sd_bl_drop (n + 1) hbS) v hv)
      rw [he] at a1
      exact a1
    · cases hbb
  · cases hbb
/-! the law's opening: its first object -/
theorem sd_make {p : Program} {l : Launch} {e : Env} {s : State} {m : MethodId} {args : Array Value} {below : List Frame} {meth : Method} {c : Code} {Q : State → Prop} {D : va_G} {cy : Nat → ClassId} {A : Nat → Prop} {as0 : Nat → Nat} {Pl : Array Slot → Prop} {own : String} {cc : ByteArray} {nL pc mc ms k1 k2 z : Nat} {n0 : Nat} {L : sf_L} {rm : Room} {F : List Value → sd_D → Option sd_R} {Δ0 Δ2 : sd_D} (hj : sd_JEl Pl l own cc nL rm pc (sd_jc 1 mc ms F)) (h0 : sd_At p s m args c own cc nL D cy A) (hN : ∀ w ∈ sf_N, va_Nw w s)
    (hF : F [.ref z] Δ0 = some (Δ2, mc, ms)) (hb : sd_b L [.ref z, .ref z] Δ0 = true) (h1 : k1 + mc ≤ rm.cells) (h2 : k2 + ms ≤ rm.slots)
    (k : sd_Wl Pl p l e rm s m args below meth c Q nL D cy A n0 as0 (pc + 3) L [.ref z] Δ2 (k1 + mc) (k2 + ms)) : sd_Wl Pl p l e rm s m args below meth c Q nL D cy A n0 as0 pc L [.ref z, .ref z] Δ0 k1 k2 := by
  have hq := hj p e s m args below meth c Q D cy A n0 as0 h0 hN L [.ref z, .ref z] Δ0 k1 k2 (fun st2 Δ' dc ds => if st2 = [.ref z] ∧ dc = mc ∧ ds = ms then some (Δ', rm.cells, rm.slots) else none) (Δ2, rm.cells, rm.slots) rfl rfl hb
    (by simp [sd_jc, sf_pop, sf_l4, hF])
    (by
      intro st2 Δ' dc ds h
      split at h
      · rename_i h3
        obtain ⟨rfl, rfl, rfl⟩ := h3
        have e1 : Δ' = Δ2 := congrArg Prod.fst (Option.some.inj h)
        subst e1
        exact ⟨⟨h1, h2⟩, k⟩
      · cases h)
  exact hq.2
