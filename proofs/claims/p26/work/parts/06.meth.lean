/-! a method's contract, in the small machine's words; calls -/
theorem sf_T_good : GoodIn sf_T sf_T := fun w h => ⟨h, good_of_word (List.mem_filter.mp h).2⟩
theorem sf_T_code {y : MethodName} {cc : ByteArray} {nL : Nat} {ret : Option FieldType} (h : Cond.code y cc nL ret ∈ sf_T) : GoodIn sf_T (Cond.code y cc nL ret :: sf_T) := fun w hw => by
  rcases List.mem_cons.mp hw with rfl | hw
  · exact sf_T_good _ h
  · exact sf_T_good _ hw
theorem sf_N_warm {s U : State} (hW : s.WarmedH U.vm) (h : ∀ w ∈ sf_N, va_Nw w s) : ∀ w ∈ sf_N, va_Nw w U := by
  intro w hw
  have h1 := (List.mem_filter.mp hw).2
  have h2 := h w hw
  cases w with
  | fieldLinkNest a b c d e f => exact va_Nw.warmF hW h2
  | methodLinkNest a b c d => exact va_Nw.warmM hW h2
  | _ => cases h1
theorem sf_N_same {s U : State} (hv : s.vm = U.vm) (h : ∀ w ∈ sf_N, va_Nw w s) : ∀ w ∈ sf_N, va_Nw w U := by
  intro w hw
  have h1 := (List.mem_filter.mp hw).2
  have h2 := h w hw
  cases w with
  | fieldLinkNest a b c d e f => exact va_Nw.same rfl hv h2
  | methodLinkNest a b c d => exact va_Nw.same rfl hv h2
  | _ => cases h1
/-- a method's start and end -/
def sf_Pc (lay : sf_Lay) (D : va_G) (cy : Nat → ClassId) (ad : Nat → Nat) (sz : Nat) (av : List Value) (σ : sf_S) : Array Value → State → Prop := va_Pc (av.map (sf_v ad)) fun U => U.heap.size = sz ∧ va_P D vwCl (sf_wd lay ad cy σ) U.heap ∧ va_K D vwCl (sf_ty cy) U ∧ ∀ w ∈ sf_N, va_Nw w U
def sf_Qc (lay : sf_Lay) (D : va_G) (cy : Nat → ClassId) (ad : Nat → Nat) (A : Nat → Prop) (r : sf_Q) : Array Value → State → Outcome → State → Prop := fun _ st oc t => (oc = .returned (r.1.map (sf_v ad)) ∧ va_P D vwCl (sf_wd lay ad cy r.2) t.heap) ∧ va_F A st t
def sf_C (l : Launch) (lay : sf_Lay) (y : MethodName) (cc : ByteArray) (nL : Nat) (ret : Option FieldType) (rm : Room) (F : List Value → sf_S → Option sf_Q) : Prop :=
  rm.cells = 0 ∧ rm.slots = 0 ∧ ∀ (D : va_G) (cy : Nat → ClassId) (ad : Nat → Nat) (sz : Nat) (av : List Value) (σ : sf_S) (r : sf_Q), sf_inj lay ad → F av σ = some r →
    Met l y (Cond.code y cc nL ret :: sf_T) rm (sf_Pc lay D cy ad sz av σ) (sf_Qc lay D cy ad (sf_A lay ad sz) r) 0 0 (sf_A lay ad sz)
theorem sf_pc_blind {lay : sf_Lay} {D : va_G} {cy : Nat → ClassId} {ad : Nat → Nat} {sz : Nat} {av : List Value} {σ : sf_S} : FrameBlind (sf_Pc lay D cy ad sz av σ) := by
  intro a U g mk h
  obtain ⟨h1, h2, h3, h4, h5⟩ := h
  exact ⟨h1, h2, h3, va_K.moved (u := U) (U := U.calling g mk a) (Vm.Alike.refl U.vm) h4, sf_N_same (s := U) (U := U.calling g mk a) rfl h5⟩
theorem sf_v_none {v : Value} (ad : Nat → Nat) (h : ∀ q, v ≠ .ref q) : sf_v ad v = v := by
  cases v with
  | ref q => exact absurd rfl (h q)
  | _ => rfl
theorem sf_cw_ok : ∀ (r : List Value) (n : Nat), sf_cw r n = true → (r.map fun v => v.category).sum ≤ n
  | [], n, _ => Nat.zero_le n
  | v :: r, n, h => by
    simp only [sf_cw] at h
    simp only [List.map_cons, List.sum_cons]
    split at h
    · have := sf_cw_ok r _ h
      show 1 + _ ≤ _
      omega
    · have := sf_cw_ok r _ h
      show 1 + _ ≤ _
      omega
    · have := sf_cw_ok r _ h
      show 2 + _ ≤ _
      omega
    · cases h
theorem sf_cat_v (ad : Nat → Nat) (r : List Value) : ((r.map (sf_v ad)).map fun v => v.category).sum = (r.map fun v => v.category).sum := by
  rw [List.map_map]
  congr 1
  exact List.map_congr_left fun v _ => sf_v_cat ad v
theorem sf_cat4 (ad : Nat → Nat) (r : List Value) (h : (r.map fun v => v.category).sum ≤ 8) : ((r.map (sf_v ad)).map fun v => v.category).sum ≤ 8 := by
  rw [sf_cat_v]
  exact h
section SFC
variable {p : Program} {l : Launch} {e0 : Env} {R : Room} {s : State} {m : MethodId} {args : Array Value} {below : List Frame} {meth : Method} {c : Code} {Q : State → Prop} {cc : ByteArray} {nL : Nat} {lay : sf_Lay} {D : va_G} {cy : Nat → ClassId} {ad : Nat → Nat} {A : Nat → Prop} {own : String}
/-- behind a call -/
theorem sf_behind {pc : Nat} {L : sf_L} {st rest : List Value} {σ : sf_S} {r : sf_Q} {a : Array Value} (hA : ∀ k, k < lay.length → A (ad k)) (hAs : ∀ q, s.heap.size ≤ q → A q)
    (hr : ∀ (H : Heap) (locs : List Loc) (ls : Array Slot), sf_LV ls nL ad L → va_P D vwCl (sf_wd lay ad cy σ) H → va_S A s.heap H locs → va_Run p l e0 R s m args below meth c H locs 0 0 0 0 (F0 m pc ls (st.map (sf_v ad))) (rest.map (sf_v ad)) (sf_Qc lay D cy ad (sf_A lay ad H.size) r a) (sf_A lay ad H.size))
    (kk : sf_W p l e0 R s m args below meth c Q nL lay D cy ad A (pc + 3) L (r.1.toList ++ rest) r.2) : sf_W p l e0 R s m args below meth c Q nL lay D cy ad A pc L st σ := by
  intro H locs ls hl hP hS T hT X
  obtain ⟨v, st₀, t, T', L', h0, X', hL, e1, e2, ⟨⟨hv, hw⟩, hz, hk⟩, stp⟩ := hr H locs ls hl hP hS T hT X
  have hv : v = r.1.map (sf_v ad) := by injection hv
  subst hv
  rw [h0] at hz hk
  have hfree : ∀ q, sf_A lay ad H.size q → A q := by
    intro q hq
    rcases hq with ⟨k, h1, rfl⟩ | hq
    · exact hA k h1
    · exact hAs q (Nat.le_trans hS.1 hq)
  have hS1 : va_S A s.heap T'.heap (locs ++ L') := ⟨Nat.le_trans hS.1 (by rw [e1]; exact hz), fun q h1 h2 => by rw [e1, hk q (Nat.lt_of_lt_of_le h1 hS.1) (fun z => h2 (hfree q z))]; exact hS.2.1 q h1 h2, fun q hq => by
      rcases List.mem_append.mp hq with h | h
      · exact hS.2.2 q h
      · exact hfree _ (hL q h)⟩
  obtain ⟨t2, a1, b1⟩ := kk T'.heap (locs ++ L') ls hl (by rw [e1]; exact hw) hS1 T' rfl X'
  refine ⟨t2, stp t2 ?_, b1⟩
  have he : (r.1.toList ++ rest).map (sf_v ad) = (r.1.map (sf_v ad)).toList ++ rest.map (sf_v ad) := by
    rw [List.map_append]
    cases r.1 <;> rfl
  rw [he] at a1
  exact a1
end SFC
/-- in every body of a method: its calls are sound (at the place pc) -/
def sf_JE {ρ : Type} (l : Launch) (own : String) (cc : ByteArray) (nL : Nat) (rm : Room) (lay : sf_Lay) (pc : Nat) (j : sf_J ρ) : Prop :=
  ∀ (p : Program) (e0 : Env) (s : State) (m : MethodId) (args : Array Value) (below : List Frame) (meth : Method) (c : Code) (Q : State → Prop) (D : va_G) (cy : Nat → ClassId) (ad : Nat → Nat) (A : Nat → Prop), sf_At p s m args c own cc nL lay D cy ad A sf_T → (∀ w ∈ sf_N, va_Nw w s) →
    ∀ (L : sf_L) (st : List Value) (σ : sf_S) (K : List Value → sf_S → Option ρ) (r : ρ), j st σ K = some r → (∀ st2 σ2, K st2 σ2 = some r → sf_W p l e0 rm s m args below meth c Q nL lay D cy ad A (pc + 3) L st2 σ2) → sf_W p l e0 rm s m args below meth c Q nL lay D cy ad A pc L st σ
def sf_JO {ρ : Type} (l : Launch) (own : String) (cc : ByteArray) (nL : Nat) (rm : Room) (lay : sf_Lay) (J : List (Nat × sf_J ρ)) : Prop := ∀ q ∈ J, sf_JE l own cc nL rm lay q.1 q.2
theorem sf_JO_nil {ρ : Type} {l : Launch} {own : String} {cc : ByteArray} {nL : Nat} {rm : Room} {lay : sf_Lay} : sf_JO (ρ := ρ) l own cc nL rm lay [] := fun _ h => absurd h List.not_mem_nil
theorem sf_JO_cons {ρ : Type} {l : Launch} {own : String} {cc : ByteArray} {nL : Nat} {rm : Room} {lay : sf_Lay} {pc : Nat} {j : sf_J ρ} {J : List (Nat × sf_J ρ)} (h : sf_JE l own cc nL rm lay pc j) (h2 : sf_JO l own cc nL rm lay J) : sf_JO l own cc nL rm lay ((pc, j) :: J) := List.forall_mem_cons.mpr ⟨h, h2⟩
def sf_jG {ρ τ : Type} (lay : sf_Lay) (cs : List Nat) (n : Nat) (g : List Value → sf_S → Option τ) (tv : τ → sf_Q) : sf_J ρ := fun st σ K => sf_pop n [] st fun av r => match sf_rc lay cs av r with
  | true => (g av σ).bind fun u => K ((tv u).1.toList ++ r) (tv u).2
  | false => none
/-- what a call hands over -/
theorem sf_pre {lay : sf_Lay} {D : va_G} {cy : Nat → ClassId} {ad : Nat → Nat} {s : State} {H : Heap} {av : List Value} {σ : sf_S} (hP : va_P D vwCl (sf_wd lay ad cy σ) H) (hK : va_K D vwCl (sf_ty cy) s) (hN : ∀ w ∈ sf_N, va_Nw w s) : ∀ U : State, U.heap = H → s.WarmedH U.vm → sf_Pc lay D cy ad H.size av σ (av.map (sf_v ad)).toArray U :=
  fun U hU hW => ⟨rfl, by rw [hU], by rw [hU]; exact hP, va_K.moved hW.alike hK, sf_N_warm hW hN⟩
theorem sf_pop_inv {ρ : Type} {f : List Value → List Value → Option ρ} {r : ρ} : ∀ (n : Nat) (acc st : List Value), sf_pop n acc st f = some r → n ≤ st.length ∧ f ((st.take n).reverse ++ acc) (st.drop n) = some r
  | 0, acc, st, h => ⟨Nat.zero_le _, by simpa [sf_pop] using h⟩
  | n + 1, acc, [], h => by simp [sf_pop] at h
  | n + 1, acc, v :: st, h => by
    obtain ⟨h1, h2⟩ := sf_pop_inv n (v :: acc) st (by simpa [sf_pop] using h)
    exact ⟨by simp; omega, by simpa using h2⟩
theorem sf_jG_inv {ρ τ : Type} {lay : sf_Lay} {cs : List Nat} {n : Nat} {g : List Value → sf_S → Option τ} {tv : τ → sf_Q} {st : List Value} {σ : sf_S} {K : List Value → sf_S → Option ρ} {r : ρ} (h : sf_jG lay cs n g tv st σ K = some r) : (n ≤ st.length ∧ sf_rc lay cs (st.take n).reverse (st.drop n) = true) ∧ ∃ u, (g (st.take n).reverse σ).map tv = some u ∧ K (u.1.toList ++ st.drop n) u.2 = some r := by
  unfold sf_jG at h
  obtain ⟨h1, h⟩ := sf_pop_inv n [] st h
  rw [List.append_nil] at h
  split at h
  · rename_i hr
    refine ⟨⟨h1, hr⟩, ?_⟩
    cases hg : g (st.take n).reverse σ with
    | none => rw [hg] at h; cases h
    | some u =>
      rw [hg] at h
      exact ⟨tv u, rfl, h⟩
  · cases h
theorem sf_rc_inv {lay : sf_Lay} {cs : List Nat} {n : Nat} {st : List Value} (h : n ≤ st.length ∧ sf_rc lay cs (st.take n).reverse (st.drop n) = true) : n ≤ st.length ∧ ((st.drop n).map fun v => v.category).sum ≤ 8 ∧ (cs = [] ∨ (1 ≤ n ∧ ∃ q ci fs, st[n - 1]? = some (.ref q) ∧ lay[q]? = some (.inl (ci, fs)) ∧ ci ∈ cs)) := by
  obtain ⟨h1, h⟩ := h
  unfold sf_rc at h
  split at h
  · cases h
  · rename_i h4
    refine ⟨h1, sf_cw_ok _ _ h4, ?_⟩
    split at h
    · exact Or.inl rfl
    · split at h
      · rename_i q tl hq
        split at h
        · rename_i ci fs hl
          obtain ⟨z, hz, e⟩ := List.any_eq_true.mp h
          rw [Nat.eq_of_beq_eq_true e] at hz
          have hn : 1 ≤ n := by
            cases n with
            | zero => simp at hq
            | succ n => omega
          have h6 : (st.take n).reverse[0]? = some (.ref q) := by rw [hq]; rfl
          have hlen : (st.take n).length = n := by simp; omega
          rw [List.getElem?_reverse (by omega), hlen, List.getElem?_take_of_lt (by omega)] at h6
          exact Or.inr ⟨hn, q, ci, fs, by simpa using h6, hl, hz⟩
        · cases h
      · cases h
theorem sf_stack {n : Nat} {st : List Value} {q : Nat} (hn : 1 ≤ n) (hl : n ≤ st.length) (h : st[n - 1]? = some (.ref q)) (ad : Nat → Nat) : (st.take n).reverse = .ref q :: (st.take (n - 1)).reverse ∧ st.map (sf_v ad) = ((st.take (n - 1)).reverse.map (sf_v ad)).reverse ++ .ref (ad q) :: (st.drop n).map (sf_v ad) := by
  have h1 : st.take n = st.take (n - 1) ++ [.ref q] := by
    have : n = (n - 1) + 1 := by omega
    rw [this, List.take_succ, Nat.add_sub_cancel, h]
    rfl
  refine ⟨by rw [h1, List.reverse_append]; rfl, ?_⟩
  have h2 : st = st.take n ++ st.drop n := (List.take_append_drop n st).symm
  conv => lhs; rw [h2, h1]
  simp [sf_v]
/-- the words of a call of a method y, whose code is known -/
def sf_MW (y : MethodName) (cc : ByteArray) (nL : Nat) (ret : Option FieldType) : Prop := Cond.code y cc nL ret ∈ sf_T ∧ Cond.initialized y.cls ∈ sf_T ∧ y.cls ≠ "java/lang/invoke/MethodHandle" ∧ y.cls ≠ "java/lang/invoke/VarHandle"
def sf_RM (rm rm2 : Room) (nL2 : Nat) : Prop := rm2.frames + 1 ≤ rm.frames ∧ 8 + (nL2 + 11) + rm2.locals ≤ rm.locals ∧ rm.cells = 0 ∧ rm.slots = 0
theorem sf_je_V {ρ τ : Type} {l : Launch} {own : String} {cc cc2 : ByteArray} {nL nL2 idx pc n : Nat} {rm rm2 : Room} {lay : sf_Lay} {y : MethodName} {ret : Option FieldType} {cs : List Nat} {g : List Value → sf_S → Option τ} {tv : τ → sf_Q} (hC : sf_C l lay y cc2 nL2 ret rm2 fun av σ => (g av σ).map tv) (hw : sf_MW y cc2 nL2 ret) (hd : decode cc pc = .ok (.invokevirtual idx, 3)) (hl : Cond.methodLink own idx y ∈ sf_T) (hi : Cond.instanceMethod y ∈ sf_T) (hsel : Cond.selects y.cls y y ∈ sf_T)
    (hn : (parseMethodDescriptor y.desc).map (fun d => d.parameters.length) = some (n - 1)) (hn1 : 1 ≤ n) (hcs : cs ≠ []) (hcl : ∀ ci ∈ cs, ∃ T N, vwCl[ci]? = some (y.cls, T, N)) (hrm : sf_RM rm rm2 nL2) : sf_JE (ρ := ρ) l own cc nL rm lay pc (sf_jG lay cs n g tv) := by
  intro p e0 s m args below meth c Q D cy ad A h0 hN L st σ K r hj hk
  obtain ⟨hx, hb, hml, hown, hts, hK, hinj, hA, hAs⟩ := h0
  obtain ⟨hrc, u, hu, hr⟩ := sf_jG_inv hj
  obtain ⟨hlen, hrest, hq⟩ := sf_rc_inv hrc
  obtain ⟨-, q, ci, fs, hq1, hq2, hq3⟩ := hq.resolve_left hcs
  obtain ⟨T, N, hT⟩ := hcl ci hq3
  obtain ⟨e1, e2⟩ := sf_stack hn1 hlen hq1 ad
  obtain ⟨hc0, hs0, hMet⟩ := hC
  obtain ⟨w1, w2, w3, w4⟩ := hw
  obtain ⟨r1, r2, r3, r4⟩ := hrm
  refine sf_behind (rest := st.drop n) (r := u) (a := (Value.ref (ad q) :: ((st.take (n - 1)).reverse.map (sf_v ad))).toArray) hA hAs (fun H locs ls hl0 hP hS => ?_) (hk _ _ hr)
  have hM := hMet D cy ad H.size _ σ u hinj hu
  have hsz : (((st.take (n - 1)).reverse.map (sf_v ad)).length) = n - 1 := by simp; omega
  have cw : CallW rm s args own y.cls idx y cc2 nL2 ret (Cond.code y cc2 nL2 ret :: sf_T) rm2 0 0 (n - 1) :=
    ⟨callB_of (n - 1) hts (sf_T_code w1) rfl hc0 hs0 (hts _ w2) (hts _ hl) ⟨w3, w4, hn⟩ ⟨r1, r2⟩, hts _ hi, hts _ hsel⟩
  have hpre : PreV s H y.cls (ad q) (sf_Pc lay D cy ad H.size (st.take n).reverse σ) ((st.take (n - 1)).reverse.map (sf_v ad)) := by
    refine ⟨sf_pc_blind, va_recv hK hP hT (sf_wd_at hq2), fun U hU hW => ?_⟩
    have := sf_pre (av := (st.take n).reverse) hP hK hN U hU hW
    rw [e1] at this
    rw [e1]
    exact this
  exact va_runV (As := (st.take (n - 1)).reverse.map (sf_v ad)) (rest := (st.drop n).map (sf_v ad)) ⟨hx, hb, hml, hown, hts⟩ hM cw hpre rfl hsz hl0.1 e2 (lv_room (sf_cat4 ad _ hrest)) hd ⟨by rw [r3]; exact Nat.zero_le _, by rw [r4]; exact Nat.zero_le _⟩
