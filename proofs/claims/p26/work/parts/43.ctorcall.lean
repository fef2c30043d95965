/-! constructors' contracts, calls of constructors -/
def sd_A (as : Nat → Nat) (n sz : Nat) : Nat → Prop := fun q => (∃ k, k < n ∧ q = as k) ∨ sz ≤ q
def sd_Pc (D : va_G) (cy : Nat → ClassId) (as : Nat → Nat) (sz : Nat) (av : List Value) (Δ : sd_D) : Array Value → State → Prop := va_Pc (av.map (sf_v as)) fun U => U.heap.size = sz ∧ va_P D vwCl (sd_wd as cy Δ) U.heap ∧ va_K D vwCl (sf_ty cy) U ∧ ∀ w ∈ sf_N, va_Nw w U
def sd_Qc (D : va_G) (cy : Nat → ClassId) (A : Nat → Prop) (n0 : Nat) (as0 : Nat → Nat) (Δ : sd_D) : Array Value → State → Outcome → State → Prop := fun _ st oc t => (oc = .returned none ∧ ∃ as : Nat → Nat, n0 ≤ Δ.length ∧ (∀ k, k < n0 → as k = as0 k) ∧ va_P D vwCl (sd_wd as cy Δ) t.heap ∧ va_D A (sd_wd as cy Δ)) ∧ va_F A st t
def sd_CT (l : Launch) (y : MethodName) (cc : ByteArray) (nL : Nat) (rm : Room) (F : List Value → sd_D → Option sd_R) : Prop :=
  ∀ (D : va_G) (cy : Nat → ClassId) (as : Nat → Nat) (sz : Nat) (av : List Value) (Δ : sd_D) (r : sd_R), F av Δ = some r → rm.cells = r.2.1 → rm.slots = r.2.2 → va_D (fun _ => True) (sd_wd as cy Δ) →
    Met l y (Cond.code y cc nL none :: sf_T) rm (sd_Pc D cy as sz av Δ) (sd_Qc D cy (sd_A as Δ.length sz) Δ.length as r.1) r.2.1 r.2.2 (sd_A as Δ.length sz)
theorem sd_pc_blind {D : va_G} {cy : Nat → ClassId} {as : Nat → Nat} {sz : Nat} {av : List Value} {Δ : sd_D} : FrameBlind (sd_Pc D cy as sz av Δ) := by
  intro a U g mk h
  obtain ⟨h1, h2, h3, h4, h5⟩ := h
  exact ⟨h1, h2, h3, va_K.moved (u := U) (U := U.calling g mk a) (Vm.Alike.refl U.vm) h4, sf_N_same (s := U) (U := U.calling g mk a) rfl h5⟩
theorem sd_wd_inv {as : Nat → Nat} {cy : Nat → ClassId} {Δ : sd_D} {k : Nat} {q : Nat × va_E} (h : (sd_wd as cy Δ)[k]? = some q) : k < Δ.length ∧ q.1 = as k := by
  simp only [sd_wd, List.getElem?_mapIdx, Option.map_eq_some_iff] at h
  obtain ⟨sh, h1, h2⟩ := h
  exact ⟨(List.getElem?_eq_some_iff.mp h1).1, by rw [← h2]⟩
theorem sd_D_self {as : Nat → Nat} {cy : Nat → ClassId} {Δ : sd_D} {A : Nat → Prop} (h : va_D A (sd_wd as cy Δ)) (sz : Nat) : va_D (sd_A as Δ.length sz) (sd_wd as cy Δ) := ⟨h.1, fun k q hk => by
  obtain ⟨h1, h2⟩ := sd_wd_inv hk
  exact Or.inl ⟨k, h1, h2⟩⟩
/-- a call of a constructor: it makes mc cells of ms slots -/
abbrev sd_jc (n mc ms : Nat) (F : List Value → sd_D → Option sd_R) : sd_J := fun st Δ K => sf_pop n [] st fun av r => match sf_l4 r with
  | true => (F av Δ).bind fun z => match Nat.beq z.2.1 mc with
    | true => match Nat.beq z.2.2 ms with
      | true => K r z.1 mc ms
      | false => none
    | false => none
  | false => none
/-- Object's own -/
abbrev sd_jo : sd_J := fun st Δ K => match st with
  | .ref _ :: r => match sf_l4 r with
    | true => K r Δ 0 0
    | false => none
  | _ => none
def sd_JE (l : Launch) (own : String) (cc : ByteArray) (nL : Nat) (rm : Room) (pc : Nat) (j : sd_J) : Prop :=
  ∀ (p : Program) (e0 : Env) (s : State) (m : MethodId) (args : Array Value) (below : List Frame) (meth : Method) (c : Code) (Q : State → Prop) (D : va_G) (cy : Nat → ClassId) (A : Nat → Prop) (n0 : Nat) (as0 : Nat → Nat), sd_At p s m args c own cc nL D cy A → (∀ w ∈ sf_N, va_Nw w s) →
    ∀ (L : sf_L) (st : List Value) (Δ : sd_D) (k1 k2 : Nat) (K : List Value → sd_D → Nat → Nat → Option sd_R) (r : sd_R), rm.cells = r.2.1 → rm.slots = r.2.2 → sd_b L st Δ = true → j st Δ K = some r → (∀ st2 Δ2 dc ds, K st2 Δ2 dc ds = some r → (k1 + dc ≤ r.2.1 ∧ k2 + ds ≤ r.2.2) ∧ sd_W p l e0 rm s m args below meth c Q nL D cy A n0 as0 (pc + 3) L st2 Δ2 (k1 + dc) (k2 + ds)) → (k1 ≤ r.2.1 ∧ k2 ≤ r.2.2) ∧ sd_W p l e0 rm s m args below meth c Q nL D cy A n0 as0 pc L st Δ k1 k2
def sd_JO (l : Launch) (own : String) (cc : ByteArray) (nL : Nat) (rm : Room) (J : List (Nat × sd_J)) : Prop := ∀ q ∈ J, sd_JE l own cc nL rm q.1 q.2
theorem sd_JO_nil {l : Launch} {own : String} {cc : ByteArray} {nL : Nat} {rm : Room} : sd_JO l own cc nL rm [] := fun _ h => absurd h List.not_mem_nil
theorem sd_JO_cons {l : Launch} {own : String} {cc : ByteArray} {nL : Nat} {rm : Room} {pc : Nat} {j : sd_J} {J : List (Nat × sd_J)} (h : sd_JE l own cc nL rm pc j) (h2 : sd_JO l own cc nL rm J) : sd_JO l own cc nL rm ((pc, j) :: J) := List.forall_mem_cons.mpr ⟨h, h2⟩
theorem sd_je_O {l : Launch} {own : String} {cc : ByteArray} {nL idx pc : Nat} {rm : Room} (hd : decode cc pc = .ok (.invokespecial idx, 3)) (hlk : Cond.methodLink own idx objectInit ∈ sf_T) (h1 : Cond.instanceMethod objectInit ∈ sf_T) (h2 : Cond.code objectInit ⟨#[0xb1]⟩ 1 none ∈ sf_T) (hr1 : 1 ≤ rm.frames) (hr2 : 20 ≤ rm.locals) : sd_JE l own cc nL rm pc sd_jo := by
  intro p e0 s m args below meth c Q D cy A n0 as0 h0 hN L st Δ k1 k2 K r hm1 hm2 hbb hj hk
  obtain ⟨hx, hb, hml, hown, hts, hK, hA⟩ := h0
  simp only [sd_jo] at hj
  split at hj
  · rename_i a rest
    split at hj
    · rename_i h4
      obtain ⟨q, w⟩ := hk _ _ _ _ hj
      refine ⟨q, fun as H locs ls e1 e2 hl hP hD hS => ?_⟩
      have hcat := sf_cat4 as rest (sf_cw_ok _ _ h4)
      refine W.objInit hx hb hown (hts _ hlk) (hts _ h1) (hts _ h2) rfl (hl.1.trans hml.symm) rfl hd hr1 ?_ ?_
      · have := lv_room (pc := pc) (ls := ls) (m := m) (rest := (Value.ref a :: rest).map (sf_v as)) hcat
        omega
      · exact w as H locs ls e1 e2 hl hP hD hS
    · cases hj
  · cases hj
theorem sd_jc_inv {n mc ms : Nat} {F : List Value → sd_D → Option sd_R} {st : List Value} {Δ : sd_D} {K : List Value → sd_D → Nat → Nat → Option sd_R} {r : sd_R} (h : sd_jc n mc ms F st Δ K = some r) : n ≤ st.length ∧ sf_l4 (st.drop n) = true ∧ ∃ Δ2, F (st.take n).reverse Δ = some (Δ2, mc, ms) ∧ K (st.drop n) Δ2 mc ms = some r := by
  unfold sd_jc at h
  obtain ⟨h1, h⟩ := sf_pop_inv n [] st h
  rw [List.append_nil] at h
  split at h
  · rename_i h4
    refine ⟨h1, h4, ?_⟩
    cases hF : F (st.take n).reverse Δ with
    | none => rw [hF] at h; cases h
    | some z =>
      rw [hF] at h
      simp only [Option.bind_some] at h
      split at h
      · rename_i q1
        split at h
        · rename_i q2
          have q1 := Nat.eq_of_beq_eq_true q1
          have q2 := Nat.eq_of_beq_eq_true q2
          obtain ⟨z1, z2, z3⟩ := z
          dsimp only at q1 q2 h
          subst q1; subst q2
          exact ⟨z1, rfl, h⟩
        · cases h
      · cases h
  · cases h
theorem sd_bl_drop {n : Nat} : ∀ {l : List Value} (k : Nat), sd_bl n l = true → sd_bl n (l.drop k) = true
  | l, 0, h => by simpa using h
  | [], k + 1, h => by simp [sd_bl]
  | v :: r, k + 1, h => by
    simp only [sd_bl] at h
    split at h
    · simpa using sd_bl_drop k h
    · cases h
theorem sd_v_eq {n : Nat} {as as2 : Nat → Nat} (hq : ∀ k, k < n → as2 k = as k) {v : Value} (h : sd_bv n v = true) : sf_v as2 v = sf_v as v := by
  cases v with
  | ref z =>
    have hz : z + 1 ≤ n := Nat.le_of_ble_eq_true h
    simp only [sf_v]
    rw [hq z hz]
  | _ => rfl
theorem sd_je_I {l : Launch} {own : String} {cc cc2 : ByteArray} {nL nL2 idx pc n mc ms : Nat} {rm rm2 : Room} {y : MethodName} {F : List Value → sd_D → Option sd_R} (hC : sd_CT l y cc2 nL2 rm2 F) (hrm2 : rm2.cells = mc ∧ rm2.slots = ms) (hd : decode cc pc = .ok (.invokespecial idx, 3))
    (hy1 : y.name = "<init>") (hcode : Cond.code y cc2 nL2 none ∈ sf_T) (hini : Cond.initialized y.cls ∈ sf_T) (hinst : Cond.instanceMethod y ∈ sf_T) (hlink : Cond.methodLink own idx y ∈ sf_T ∨ ∃ host, Cond.methodLinkNest own idx y host ∈ sf_N) (hnm : y.cls ≠ "java/lang/invoke/MethodHandle" ∧ y.cls ≠ "java/lang/invoke/VarHandle") (hn : (parseMethodDescriptor y.desc).map (fun d => d.parameters.length) = some n)
    (hr1 : rm2.frames + 1 ≤ rm.frames) (hr2 : 8 + (nL2 + 11) + rm2.locals ≤ rm.locals) (hrecv : ∀ av Δ r, F av Δ = some r → ∃ z tl, av = .ref z :: tl) : sd_JE l own cc nL rm pc (sd_jc (n + 1) mc ms F) := by
  intro p e0 s m args below meth c Q D cy A n0 as0 h0 hN L st Δ k1 k2 K r hm1 hm2 hbb hj hk
  obtain ⟨hx, hb, hml, hown, hts, hK, hA⟩ := h0
  obtain ⟨hlen, h4, Δ2, hF, hr⟩ := sd_jc_inv hj
  obtain ⟨q, w⟩ := hk _ _ _ _ hr
  refine ⟨⟨by omega, by omega⟩, fun as H locs ls e1 e2 hl hP hD hS => ?_⟩
  have hz : ∃ z, st[n]? = some (.ref z) := by
    obtain ⟨z, tl, ha⟩ := hrecv _ _ _ hF
    have h6 : (st.take (n + 1)).reverse[0]? = some (.ref z) := by rw [ha]; rfl
    have hl6 : (st.take (n + 1)).length = n + 1 := by simp; omega
    rw [List.getElem?_reverse (by omega), hl6, List.getElem?_take_of_lt (by omega)] at h6
    exact ⟨z, by simpa using h6⟩
  obtain ⟨z, hz⟩ := hz
  obtain ⟨t1, t2⟩ := sf_stack (n := n + 1) (by omega) hlen hz as
  simp only [Nat.add_sub_cancel] at t1 t2
  have hM := hC D cy as H.size _ Δ _ hF hrm2.1 hrm2.2 ⟨hD.1, fun _ _ _ => trivial⟩
  simp only [sd_b] at hbb
  split at hbb
  · rename_i hbL
    split at hbb
    · rename_i hbS
      have hsz : (((st.take n).reverse.map (sf_v as)).length) = n := by simp; omega
      have hpre : PreS s H (sd_Pc D cy as H.size (st.take (n + 1)).reverse Δ) (.ref (as z) :: (st.take n).reverse.map (sf_v as)) := by
        refine ⟨sd_pc_blind, fun U hU hW => ?_⟩
        rw [t1]
        exact ⟨rfl, by rw [hU], by rw [hU]; exact hP, va_K.moved hW.alike hK, sf_N_warm hW hN⟩
      have hroom : k1 + mc ≤ rm.cells ∧ k2 + ms ≤ rm.slots := ⟨by rw [hm1]; exact q.1, by rw [hm2]; exact q.2⟩
      have hcat := lv_room (pc := pc) (ls := ls) (m := m) (rest := st.map (sf_v as)) (sf_cat4 as _ (sf_cw_ok _ _ h4))
      have hrunv : va_Run p l e0 rm s m args below meth c H locs k1 k2 mc ms (F0 m pc ls (st.map (sf_v as))) ((st.drop (n + 1)).map (sf_v as)) (sd_Qc D cy (sd_A as Δ.length H.size) Δ.length as Δ2 (Value.ref (as z) :: (st.take n).reverse.map (sf_v as)).toArray) (sd_A as Δ.length H.size) := by
        rcases hlink with hlink | ⟨host, hlink⟩
        · have cw : CallB rm s args own idx y cc2 nL2 none (Cond.code y cc2 nL2 none :: sf_T) rm2 mc ms n := callB_of n hts (sf_T_code hcode) rfl hrm2.1 hrm2.2 (hts _ hini) (hts _ hlink) ⟨hnm.1, hnm.2, hn⟩ ⟨hr1, hr2⟩
          exact va_runI (As := (st.take n).reverse.map (sf_v as)) (rest := (st.drop (n + 1)).map (sf_v as)) ⟨hx, hb, hml, hown, hts⟩ hM ⟨cw, hy1, hts _ hinst⟩ hpre rfl hsz hl.1 t2 hcat hd hroom
        · have cw : va_CN rm s args own idx y host cc2 nL2 none (Cond.code y cc2 nL2 none :: sf_T) rm2 mc ms n := va_cnB n hts (sf_T_code hcode) rfl hrm2.1 hrm2.2 (hN _ hlink) (hts _ hini) ⟨hnm.1, hnm.2, hn⟩ ⟨hr1, hr2⟩
          exact va_runIN (As := (st.take n).reverse.map (sf_v as)) (rest := (st.drop (n + 1)).map (sf_v as)) ⟨hx, hb, hml, hown, hts⟩ hM ⟨cw, hy1, hts _ hinst⟩ hpre rfl hsz hl.1 t2 hcat hd hroom
      intro T hT X
      obtain ⟨v, st₀, t, T', L', g0, X', hL, g1, g2, ⟨⟨hv, as2, hn2, has2, hP2, hD2⟩, hzz, hkk⟩, stp⟩ := hrunv T hT X
      have hv : v = none := by injection hv
      subst hv
      rw [g0] at hzz hkk
      have hfree : ∀ q, sd_A as Δ.length H.size q → A q := by
        intro q hq
        rcases hq with ⟨k, f1, rfl⟩ | hq
        · obtain ⟨x, hx1⟩ : ∃ x, Δ[k]? = some x := ⟨_, List.getElem?_eq_getElem f1⟩
          exact hD.2 k _ (sd_wd_at hx1)
        · exact hA q (Nat.le_trans hS.1 hq)
      have hS1 : va_S A s.heap T'.heap (locs ++ L') := ⟨Nat.le_trans hS.1 (by rw [g1]; exact hzz), fun q f1 f2 => by rw [g1, hkk q (Nat.lt_of_lt_of_le f1 hS.1) (fun zz => f2 (hfree q zz))]; exact hS.2.1 q f1 f2, fun q hq => by
          rcases List.mem_append.mp hq with h | h
          · exact hS.2.2 q h
          · exact hfree _ (hL q h)⟩
      have hl2 : sf_LV ls nL as2 L := ⟨hl.1, hl.2.1, fun i v hg => by rw [sd_v_eq has2 (sd_bL_all hbL i v hg)]; exact hl.2.2 i v hg⟩
      obtain ⟨t3, a1, b1⟩ := w as2 T'.heap (locs ++ L') ls (Nat.le_trans e1 hn2) (fun k hk => by rw [has2 k (Nat.lt_of_lt_of_le hk e1)]; exact e2 k hk) hl2 (by rw [g1]; exact hP2) ⟨hD2.1, fun k q hq => hfree _ (hD2.2 k q hq)⟩ hS1 T' rfl X'
      refine ⟨t3, stp t3 ?_, b1⟩
      have he : (st.drop (n + 1)).map (sf_v as2) = (st.drop (n + 1)).map (sf_v as) := List.map_congr_left fun v hv => sd_v_eq has2 (sd_bl_all (sd_bl_drop (n + 1) hbS) v hv)
      rw [he] at a1
      exact a1
    · cases hbb
  · cases hbb
