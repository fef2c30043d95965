/-! the other kinds of calls; a method's contract out of its code -/
theorem sf_je_N {ρ τ : Type} {l : Launch} {own : String} {cc cc2 : ByteArray} {nL nL2 idx pc n : Nat} {rm rm2 : Room} {lay : sf_Lay} {y : MethodName} {ret : Option FieldType} {cs : List Nat} {g : List Value → sf_S → Option τ} {tv : τ → sf_Q} (host : String) (hC : sf_C l lay y cc2 nL2 ret rm2 fun av σ => (g av σ).map tv) (hw : sf_MW y cc2 nL2 ret) (hd : decode cc pc = .ok (.invokevirtual idx, 3)) (hl : Cond.methodLinkNest own idx y host ∈ sf_N) (hi : Cond.instanceMethod y ∈ sf_T) (hsel : Cond.selects y.cls y y ∈ sf_T)
    (hn : (parseMethodDescriptor y.desc).map (fun d => d.parameters.length) = some (n - 1)) (hn1 : 1 ≤ n) (hcs : cs ≠ []) (hcl : ∀ ci ∈ cs, ∃ T N, vwCl[ci]? = some (y.cls, T, N)) (hrm : sf_RM rm rm2 nL2) : sf_JE (ρ := ρ) l own cc nL rm lay pc (sf_jG lay cs n g tv) := by
  intro p e0 s m args below meth c Q D cy ad A h0 hN L st σ K r hj hk
  obtain ⟨hx, hb, hml, hown, hts, hK, hinj, hA, hAs⟩ := h0
  obtain ⟨hrc, u, hu, hr⟩ := sf_jG_inv hj
  obtain ⟨hlen, hrest, hq⟩ := sf_rc_inv hrc
  obtain ⟨-, q, ci, fs, hq1, hq2, hq3⟩ := hq.resolve_left hcs
  obtain ⟨T, N, hT⟩ := hcl ci hq3
  obtain ⟨e1, e2⟩ := sf_stack hn1 hlen hq1 ad
  obtain ⟨hc0, hs0, hMet⟩ := hC
  obtain ⟨w1, w2, w3, w4⟩ := hw
  obtain ⟨r1, r2, r3, r4⟩ := hrm
  refine sf_behind (rest := st.drop n) (r := u) (a := (Value.ref (ad q) :: ((st.take (n - 1)).reverse.map (sf_v ad))).toArray) hA hAs (fun H locs ls hl0 hP hS => ?_) (hk _ _ hr)
  have hM := hMet D cy ad H.size _ σ u hinj hu
  have hsz : (((st.take (n - 1)).reverse.map (sf_v ad)).length) = n - 1 := by simp; omega
  have cw : va_CN rm s args own idx y host cc2 nL2 ret (Cond.code y cc2 nL2 ret :: sf_T) rm2 0 0 (n - 1) :=
    va_cnB (n - 1) hts (sf_T_code w1) rfl hc0 hs0 (hN _ hl) (hts _ w2) ⟨w3, w4, hn⟩ ⟨r1, r2⟩
  have hpre : PreV s H y.cls (ad q) (sf_Pc lay D cy ad H.size (st.take n).reverse σ) ((st.take (n - 1)).reverse.map (sf_v ad)) := by
    refine ⟨sf_pc_blind, va_recv hK hP hT (sf_wd_at hq2), fun U hU hW => ?_⟩
    have := sf_pre (av := (st.take n).reverse) hP hK hN U hU hW
    rw [e1] at this
    rw [e1]
    exact this
  exact va_runVN (As := (st.take (n - 1)).reverse.map (sf_v ad)) (rest := (st.drop n).map (sf_v ad)) ⟨hx, hb, hml, hown, hts⟩ hM ⟨cw, hts _ hi, hts _ hsel⟩ hpre rfl hsz hl0.1 e2 (lv_room (sf_cat4 ad _ hrest)) hd ⟨by rw [r3]; exact Nat.zero_le _, by rw [r4]; exact Nat.zero_le _⟩
theorem sf_je_U {ρ τ : Type} {l : Launch} {own : String} {cc cc2 : ByteArray} {nL nL2 idx pc n : Nat} {rm rm2 : Room} {lay : sf_Lay} {x y : MethodName} {ret : Option FieldType} {cs : List Nat} {g : List Value → sf_S → Option τ} {tv : τ → sf_Q} (hC : sf_C l lay y cc2 nL2 ret rm2 fun av σ => (g av σ).map tv) (hw : sf_MW y cc2 nL2 ret) (hd : decode cc pc = .ok (.invokevirtual idx, 3)) (hl : Cond.methodLink own idx x ∈ sf_T) (hi : Cond.instanceMethod y ∈ sf_T) (hsm : Cond.sameMethod x.cls y.cls x.name x.desc ∈ sf_T) (hyx : y = ⟨y.cls, x.name, x.desc⟩)
    (hn : (parseMethodDescriptor x.desc).map (fun d => d.parameters.length) = some (n - 1)) (hn1 : 1 ≤ n) (hcs : cs ≠ []) (hcl : ∀ ci ∈ cs, ∃ C T N, vwCl[ci]? = some (C, T, N) ∧ Cond.selects C x y ∈ sf_T) (hrm : sf_RM rm rm2 nL2) : sf_JE (ρ := ρ) l own cc nL rm lay pc (sf_jG lay cs n g tv) := by
  intro p e0 s m args below meth c Q D cy ad A h0 hN L st σ K r hj hk
  obtain ⟨hx, hb, hml, hown, hts, hK, hinj, hA, hAs⟩ := h0
  obtain ⟨hrc, u, hu, hr⟩ := sf_jG_inv hj
  obtain ⟨hlen, hrest, hq⟩ := sf_rc_inv hrc
  obtain ⟨-, q, ci, fs, hq1, hq2, hq3⟩ := hq.resolve_left hcs
  obtain ⟨C, T, N, hT, hsel⟩ := hcl ci hq3
  obtain ⟨e1, e2⟩ := sf_stack hn1 hlen hq1 ad
  obtain ⟨hc0, hs0, hMet⟩ := hC
  obtain ⟨w1, w2, w3, w4⟩ := hw
  obtain ⟨r1, r2, r3, r4⟩ := hrm
  refine sf_behind (rest := st.drop n) (r := u) (a := (Value.ref (ad q) :: ((st.take (n - 1)).reverse.map (sf_v ad))).toArray) hA hAs (fun H locs ls hl0 hP hS => ?_) (hk _ _ hr)
  have hM := hMet D cy ad H.size _ σ u hinj hu
  have hsz : (((st.take (n - 1)).reverse.map (sf_v ad)).length) = n - 1 := by simp; omega
  have cw : va_CU rm s args own C y.cls idx x y cc2 nL2 ret (Cond.code y cc2 nL2 ret :: sf_T) rm2 0 0 (n - 1) := by
    refine ⟨⟨hc0, hs0, r1, r2, pay_in hts (sf_T_code w1), List.mem_cons_self⟩, hts _ w1, hts _ w2, ⟨w3, w4⟩, fun sig h => ?_, hts _ hl, hts _ hsm, ?_, hts _ hsel, hts _ hi⟩
    · rw [h] at hn
      exact (Option.some.inj hn).symm
    · rw [← hyx]
      exact va_Decl.of (hts _ hi) (hts _ w1)
  have hpre : PreV s H C (ad q) (sf_Pc lay D cy ad H.size (st.take n).reverse σ) ((st.take (n - 1)).reverse.map (sf_v ad)) := by
    refine ⟨sf_pc_blind, va_recv hK hP hT (sf_wd_at hq2), fun U hU hW => ?_⟩
    have := sf_pre (av := (st.take n).reverse) hP hK hN U hU hW
    rw [e1] at this
    rw [e1]
    exact this
  exact va_runU (As := (st.take (n - 1)).reverse.map (sf_v ad)) (rest := (st.drop n).map (sf_v ad)) ⟨hx, hb, hml, hown, hts⟩ hM cw hpre rfl hsz hl0.1 e2 (lv_room (sf_cat4 ad _ hrest)) hd ⟨by rw [r3]; exact Nat.zero_le _, by rw [r4]; exact Nat.zero_le _⟩
theorem sf_stackS (n : Nat) (st : List Value) (ad : Nat → Nat) : st.map (sf_v ad) = ((st.take n).reverse.map (sf_v ad)).reverse ++ (st.drop n).map (sf_v ad) := by
  conv => lhs; rw [← List.take_append_drop n st]
  simp
theorem sf_je_S {ρ τ : Type} {l : Launch} {own : String} {cc cc2 : ByteArray} {nL nL2 idx pc n : Nat} {rm rm2 : Room} {lay : sf_Lay} {y : MethodName} {ret : Option FieldType} {g : List Value → sf_S → Option τ} {tv : τ → sf_Q} (hC : sf_C l lay y cc2 nL2 ret rm2 fun av σ => (g av σ).map tv) (hw : sf_MW y cc2 nL2 ret) (hd : decode cc pc = .ok (.invokestatic idx, 3)) (hl : Cond.methodLink own idx y ∈ sf_T) (hi : Cond.static y ∈ sf_T)
    (hn : (parseMethodDescriptor y.desc).map (fun d => d.parameters.length) = some n) (hrm : sf_RM rm rm2 nL2) : sf_JE (ρ := ρ) l own cc nL rm lay pc (sf_jG lay [] n g tv) := by
  intro p e0 s m args below meth c Q D cy ad A h0 hN L st σ K r hj hk
  obtain ⟨hx, hb, hml, hown, hts, hK, hinj, hA, hAs⟩ := h0
  obtain ⟨hrc, u, hu, hr⟩ := sf_jG_inv hj
  obtain ⟨hlen, hrest, -⟩ := sf_rc_inv hrc
  obtain ⟨hc0, hs0, hMet⟩ := hC
  obtain ⟨w1, w2, w3, w4⟩ := hw
  obtain ⟨r1, r2, r3, r4⟩ := hrm
  refine sf_behind (rest := st.drop n) (r := u) (a := ((st.take n).reverse.map (sf_v ad)).toArray) hA hAs (fun H locs ls hl0 hP hS => ?_) (hk _ _ hr)
  have hM := hMet D cy ad H.size _ σ u hinj hu
  have hsz : (((st.take n).reverse.map (sf_v ad)).length) = n := by simp; omega
  have cw : CallB rm s args own idx y cc2 nL2 ret (Cond.code y cc2 nL2 ret :: sf_T) rm2 0 0 n := callB_of n hts (sf_T_code w1) rfl hc0 hs0 (hts _ w2) (hts _ hl) ⟨w3, w4, hn⟩ ⟨r1, r2⟩
  have hpre : PreS s H (sf_Pc lay D cy ad H.size (st.take n).reverse σ) ((st.take n).reverse.map (sf_v ad)) := ⟨sf_pc_blind, sf_pre (av := (st.take n).reverse) hP hK hN⟩
  exact va_runS (As := (st.take n).reverse.map (sf_v ad)) (rest := (st.drop n).map (sf_v ad)) ⟨hx, hb, hml, hown, hts⟩ hM ⟨cw, hts _ hi⟩ hpre rfl hsz hl0.1 (sf_stackS n st ad) (lv_room (sf_cat4 ad _ hrest)) hd ⟨by rw [r3]; exact Nat.zero_le _, by rw [r4]; exact Nat.zero_le _⟩
theorem sf_je_SN {ρ τ : Type} {l : Launch} {own : String} {cc cc2 : ByteArray} {nL nL2 idx pc n : Nat} {rm rm2 : Room} {lay : sf_Lay} {y : MethodName} {ret : Option FieldType} {g : List Value → sf_S → Option τ} {tv : τ → sf_Q} (host : String) (hC : sf_C l lay y cc2 nL2 ret rm2 fun av σ => (g av σ).map tv) (hw : sf_MW y cc2 nL2 ret) (hd : decode cc pc = .ok (.invokestatic idx, 3)) (hl : Cond.methodLinkNest own idx y host ∈ sf_N) (hi : Cond.static y ∈ sf_T)
    (hn : (parseMethodDescriptor y.desc).map (fun d => d.parameters.length) = some n) (hrm : sf_RM rm rm2 nL2) : sf_JE (ρ := ρ) l own cc nL rm lay pc (sf_jG lay [] n g tv) := by
  intro p e0 s m args below meth c Q D cy ad A h0 hN L st σ K r hj hk
  obtain ⟨hx, hb, hml, hown, hts, hK, hinj, hA, hAs⟩ := h0
  obtain ⟨hrc, u, hu, hr⟩ := sf_jG_inv hj
  obtain ⟨hlen, hrest, -⟩ := sf_rc_inv hrc
  obtain ⟨hc0, hs0, hMet⟩ := hC
  obtain ⟨w1, w2, w3, w4⟩ := hw
  obtain ⟨r1, r2, r3, r4⟩ := hrm
  refine sf_behind (rest := st.drop n) (r := u) (a := ((st.take n).reverse.map (sf_v ad)).toArray) hA hAs (fun H locs ls hl0 hP hS => ?_) (hk _ _ hr)
  have hM := hMet D cy ad H.size _ σ u hinj hu
  have hsz : (((st.take n).reverse.map (sf_v ad)).length) = n := by simp; omega
  have cw : va_CN rm s args own idx y host cc2 nL2 ret (Cond.code y cc2 nL2 ret :: sf_T) rm2 0 0 n := va_cnB n hts (sf_T_code w1) rfl hc0 hs0 (hN _ hl) (hts _ w2) ⟨w3, w4, hn⟩ ⟨r1, r2⟩
  have hpre : PreS s H (sf_Pc lay D cy ad H.size (st.take n).reverse σ) ((st.take n).reverse.map (sf_v ad)) := ⟨sf_pc_blind, sf_pre (av := (st.take n).reverse) hP hK hN⟩
  exact va_runSN (As := (st.take n).reverse.map (sf_v ad)) (rest := (st.drop n).map (sf_v ad)) ⟨hx, hb, hml, hown, hts⟩ hM ⟨cw, hts _ hi, trivial⟩ hpre rfl hsz hl0.1 (sf_stackS n st ad) (lv_room (sf_cat4 ad _ hrest)) hd ⟨by rw [r3]; exact Nat.zero_le _, by rw [r4]; exact Nat.zero_le _⟩
/-- Math's own -/
def sf_RB (rm : Room) : Prop := 1 ≤ rm.frames ∧ 63 ≤ rm.locals ∧ rm.cells = 0 ∧ rm.slots = 0
theorem sf_room4 {r : List Value} {ad : Nat → Nat} (h : sf_l4 r = true) : ((r.map (sf_v ad)).map fun v => v.category).sum ≤ 8 := sf_cat4 ad _ (sf_cw_ok _ _ h)
theorem sf_je_max {ρ : Type} {l : Launch} {own : String} {cc : ByteArray} {nL idx pc : Nat} {rm : Room} {lay : sf_Lay} (hd : decode cc pc = .ok (.invokestatic idx, 3)) (hl : Cond.methodLink own idx Lib.Math.max.name ∈ sf_T) (w1 : Cond.static Lib.Math.max.name ∈ sf_T) (w2 : Cond.initialized "java/lang/Math" ∈ sf_T) (w3 : Cond.code Lib.Math.max.name Lib.Math.max.code 2 (some .int) ∈ sf_T) (hrm : sf_RB rm) : sf_JE (ρ := ρ) l own cc nL rm lay pc sf_jmax := by
  intro p e0 s m args below meth c Q D cy ad A h0 hN L st σ K r hj hk
  obtain ⟨hx, hb, hml, hown, hts, hK, hinj, hA, hAs⟩ := h0
  obtain ⟨r1, r2, r3, r4⟩ := hrm
  simp only [sf_jmax] at hj
  split at hj
  · split at hj
    · rename_i hlen
      refine fun H locs ls hl0 hP hS => va_mmax hx hb (hml.trans hl0.1.symm) hown (hts _ hl) (hts _ w1) (hts _ w2) (hts _ w3) r1 ?_ (Nat.zero_le _) (Nat.zero_le _) hd (hk _ _ hj H locs ls hl0 hP hS)
      have := sf_room4 (ad := ad) hlen
      omega
    · cases hj
  · cases hj
theorem sf_je_min {ρ : Type} {l : Launch} {own : String} {cc : ByteArray} {nL idx pc : Nat} {rm : Room} {lay : sf_Lay} (hd : decode cc pc = .ok (.invokestatic idx, 3)) (hl : Cond.methodLink own idx Lib.Math.min.name ∈ sf_T) (w1 : Cond.static Lib.Math.min.name ∈ sf_T) (w2 : Cond.initialized "java/lang/Math" ∈ sf_T) (w3 : Cond.code Lib.Math.min.name Lib.Math.min.code 2 (some .int) ∈ sf_T) (hrm : sf_RB rm) : sf_JE (ρ := ρ) l own cc nL rm lay pc sf_jmin := by
  intro p e0 s m args below meth c Q D cy ad A h0 hN L st σ K r hj hk
  obtain ⟨hx, hb, hml, hown, hts, hK, hinj, hA, hAs⟩ := h0
  obtain ⟨r1, r2, r3, r4⟩ := hrm
  simp only [sf_jmin] at hj
  split at hj
  · split at hj
    · rename_i hlen
      refine fun H locs ls hl0 hP hS => va_mmin hx hb (hml.trans hl0.1.symm) hown (hts _ hl) (hts _ w1) (hts _ w2) (hts _ w3) r1 ?_ (Nat.zero_le _) (Nat.zero_le _) hd (hk _ _ hj H locs ls hl0 hP hS)
      have := sf_room4 (ad := ad) hlen
      omega
    · cases hj
  · cases hj
theorem sf_je_maxL {ρ : Type} {l : Launch} {own : String} {cc : ByteArray} {nL idx pc : Nat} {rm : Room} {lay : sf_Lay} (hd : decode cc pc = .ok (.invokestatic idx, 3)) (hl : Cond.methodLink own idx Lib.MathLoose.max_long.x ∈ sf_T) (w1 : Cond.static Lib.MathLoose.max_long.x ∈ sf_T) (w2 : Cond.initialized "java/lang/Math" ∈ sf_T) (w3 : Cond.code Lib.MathLoose.max_long.x Lib.MathLoose.max_long.code 4 (some .long) ∈ sf_T) (hrm : sf_RB rm) : sf_JE (ρ := ρ) l own cc nL rm lay pc sf_jmaxL := by
  intro p e0 s m args below meth c Q D cy ad A h0 hN L st σ K r hj hk
  obtain ⟨hx, hb, hml, hown, hts, hK, hinj, hA, hAs⟩ := h0
  obtain ⟨r1, r2, r3, r4⟩ := hrm
  simp only [sf_jmaxL] at hj
  split at hj
  · split at hj
    · rename_i hlen
      refine fun H locs ls hl0 hP hS => va_mmax_long hx hb (hml.trans hl0.1.symm) hown (hts _ hl) (hts _ w1) (hts _ w2) (hts _ w3) r1 ?_ (Nat.zero_le _) (Nat.zero_le _) hd (hk _ _ hj H locs ls hl0 hP hS)
      have := sf_room4 (ad := ad) hlen
      omega
    · cases hj
  · cases hj
theorem sf_je_absL {ρ : Type} {l : Launch} {own : String} {cc : ByteArray} {nL idx pc : Nat} {rm : Room} {lay : sf_Lay} (hd : decode cc pc = .ok (.invokestatic idx, 3)) (hl : Cond.methodLink own idx Lib.MathLoose.abs_long.x ∈ sf_T) (w1 : Cond.static Lib.MathLoose.abs_long.x ∈ sf_T) (w2 : Cond.initialized "java/lang/Math" ∈ sf_T) (w3 : Cond.code Lib.MathLoose.abs_long.x Lib.MathLoose.abs_long.code 2 (some .long) ∈ sf_T) (hrm : sf_RB rm) : sf_JE (ρ := ρ) l own cc nL rm lay pc sf_jabsL := by
  intro p e0 s m args below meth c Q D cy ad A h0 hN L st σ K r hj hk
  obtain ⟨hx, hb, hml, hown, hts, hK, hinj, hA, hAs⟩ := h0
  obtain ⟨r1, r2, r3, r4⟩ := hrm
  simp only [sf_jabsL] at hj
  split at hj
  · split at hj
    · rename_i hlen
      refine fun H locs ls hl0 hP hS => va_mabs_long hx hb (hml.trans hl0.1.symm) hown (hts _ hl) (hts _ w1) (hts _ w2) (hts _ w3) r1 ?_ (Nat.zero_le _) (Nat.zero_le _) hd (hk _ _ hj H locs ls hl0 hP hS)
      have := sf_room4 (ad := ad) hlen
      omega
    · cases hj
  · cases hj
theorem sf_je_cpy {ρ : Type} {l : Launch} {own : String} {cc : ByteArray} {nL idx pc : Nat} {rm : Room} {lay : sf_Lay} (hd : decode cc pc = .ok (.invokestatic idx, 3)) (hl : Cond.methodLink own idx arraycopyName ∈ sf_T) (w1 : Cond.native arraycopyName ∈ sf_T) (w2 : Cond.static arraycopyName ∈ sf_T) (w3 : Cond.initialized "java/lang/System" ∈ sf_T) (hrm : sf_RB rm) (hwords : 8 + (nativeFrameWords "java/lang/System" "arraycopy" 5 + 11) ≤ rm.locals) : sf_JE (ρ := ρ) l own cc nL rm lay pc (sf_jcpy lay) := by
  intro p e0 s m args below meth c Q D cy ad A h0 hN L st σ K r hj hk
  obtain ⟨hx, hb, hml, hown, hts, hK, hinj, hA, hAs⟩ := h0
  obtain ⟨r1, r2, r3, r4⟩ := hrm
  simp only [sf_jcpy] at hj
  split at hj
  · split at hj
    · rename_i n j q i q2 r0 hlen
      simp only [Bool.and_eq_true] at hlen
      obtain ⟨hlen, hqq⟩ := hlen
      have hqq := Nat.eq_of_beq_eq_true hqq
      subst hqq
      obtain ⟨t, N, hq, hj⟩ := sf_ar_inv hj
      split at hj
      · split at hj
        · rename_i hin
          simp only [Bool.and_eq_true, Bool.not_eq_true', decide_eq_false_iff_not] at hin
          obtain ⟨⟨⟨⟨z1, z2⟩, z3⟩, z4⟩, z5⟩ := hin
          intro H locs ls hl0 hP hS
          have hD : va_D A (sf_wd lay ad cy σ) := sf_wd_D cy σ hinj hA
          refine va_copyi hx hb (hml.trans hl0.1.symm) hown (hts _ hl) (hts _ w1) (hts _ w2) (hts _ w3) hK hP hD hS q q 0 0 (sf_wd_at hq) (sf_wd_at hq) rfl rfl rfl z1 z2 z3 (Nat.le_of_ble_eq_true z4) (Nat.le_of_ble_eq_true z5) (fun _ _ => rfl) r1 ?_ hd (fun H1 locs1 hP1 _ hS1 => hk _ _ hj H1 locs1 ls hl0 ?_ hS1)
          · have := sf_room4 (ad := ad) hlen
            omega
          · rw [← sf_wd_row (σ := σ) (f := va_cpy (σ q) (σ q) i.toNatClampNeg j.toNatClampNeg n.toNatClampNeg) hq (by funext b; simp [sf_cpy]) (fun a ha => by funext b; simp [sf_cpy, ha])]
            exact hP1
        · cases hj
      · cases hj
    · cases hj
  · cases hj
/-! a method's contract out of its code -/
abbrev sf_ent : Nat → List Value → sf_L
  | _, [] => []
  | i, .long x :: r => (i, some (.long x)) :: sf_ent (i + 2) r
  | i, .double x :: r => (i, some (.double x)) :: sf_ent (i + 2) r
  | i, v :: r => (i, some v) :: sf_ent (i + 1) r
theorem sf_ent_ok (ad : Nat → Nat) : ∀ (av : List Value) (i j : Nat) (v : Value), sf_get (sf_ent i av) j = some v → i ≤ j ∧ (lg_sl (av.map (sf_v ad)))[j - i]? = some (.val (sf_v ad v)) := by
  intro av
  induction av with
  | nil => intro i j v h; simp [sf_ent, sf_get] at h
  | cons x r ih =>
    intro i j v h
    have one : x.category = 1 → sf_ent i (x :: r) = (i, some x) :: sf_ent (i + 1) r → i ≤ j ∧ (lg_sl ((x :: r).map (sf_v ad)))[j - i]? = some (.val (sf_v ad v)) := by
      intro hc he
      have e : lg_sl ((x :: r).map (sf_v ad)) = .val (sf_v ad x) :: lg_sl (r.map (sf_v ad)) := by
        simp [lg_sl, List.flatMap_cons, sf_v_cat, hc]
      rw [e]
      rw [he] at h
      rcases sf_get_put h with ⟨h1, h2⟩ | ⟨-, h2, -⟩
      · cases h2
        subst h1
        exact ⟨Nat.le_refl _, by rw [Nat.sub_self]; rfl⟩
      · obtain ⟨h3, h4⟩ := ih (i + 1) j v h2
        refine ⟨by omega, ?_⟩
        rw [show j - i = (j - (i + 1)) + 1 by omega]
        exact h4
    have two : x.category = 2 → sf_ent i (x :: r) = (i, some x) :: sf_ent (i + 2) r → i ≤ j ∧ (lg_sl ((x :: r).map (sf_v ad)))[j - i]? = some (.val (sf_v ad v)) := by
      intro hc he
      have e : lg_sl ((x :: r).map (sf_v ad)) = .val (sf_v ad x) :: .second :: lg_sl (r.map (sf_v ad)) := by
        simp [lg_sl, List.flatMap_cons, sf_v_cat, hc]
      rw [e]
      rw [he] at h
      rcases sf_get_put h with ⟨h1, h2⟩ | ⟨-, h2, -⟩
      · cases h2
        subst h1
        exact ⟨Nat.le_refl _, by rw [Nat.sub_self]; rfl⟩
      · obtain ⟨h3, h4⟩ := ih (i + 2) j v h2
        refine ⟨by omega, ?_⟩
        rw [show j - i = (j - (i + 2)) + 1 + 1 by omega]
        exact h4
    cases x <;> first | exact one rfl rfl | exact two rfl rfl
theorem sf_ent_LV (ad : Nat → Nat) {av : List Value} {n : Nat} (h : (lg_sl (av.map (sf_v ad))).length ≤ n) : sf_LV ((lg_sl (av.map (sf_v ad)) ++ List.replicate (n - (lg_sl (av.map (sf_v ad))).length) Slot.unset).toArray) n ad (sf_ent 0 av) := by
  obtain ⟨h1, h2, -⟩ := lv_entry (av.map (sf_v ad)) h
  refine ⟨h1, h2, fun i v hg => ?_⟩
  have := (sf_ent_ok ad av 0 i v hg).2
  rw [Nat.sub_zero] at this
  have hl := (List.getElem?_eq_some_iff.mp this).1
  simp only [List.getElem?_toArray]
  rw [List.getElem?_append_left hl]
  exact this
def sf_RH {ρ : Type} (ret : Option FieldType) (rh : Option Value → sf_S → Option ρ) (tv : ρ → sf_Q) : Prop := ∀ v σ u, rh v σ = some u → tv u = (v, σ) ∧ (∀ x, v = some (.int x) → ∃ ty, ret = some ty ∧ narrow ty (.int x) = .int x) ∧ (∀ x, v = some (.long x) → ret = some .long) ∧ (v = none → ret = none)
theorem sf_RH_I : sf_RH (some .int) sf_hI sf_vI := by
  intro v σ u h
  unfold sf_hI at h
  split at h
  · cases h
    exact ⟨rfl, fun x hx => ⟨.int, rfl, vp_nar_int x⟩, fun x hx => (by cases hx), fun hx => (by cases hx)⟩
  · cases h
theorem sf_RH_Z : sf_RH (some .boolean) sf_hZ sf_vI := by
  intro v σ u h
  unfold sf_hZ at h
  split at h
  · rename_i x
    split at h
    · rename_i h01
      cases h
      refine ⟨rfl, fun y hy => ⟨.boolean, rfl, ?_⟩, fun x hx => (by cases hx), fun hx => (by cases hx)⟩
      cases hy
      simp only [sf_01, Bool.or_eq_true, decide_eq_true_eq] at h01
      rcases h01 with rfl | rfl <;> decide +kernel
    · cases h
  · cases h
theorem sf_RH_L : sf_RH (some .long) sf_hL sf_vL := by
  intro v σ u h
  unfold sf_hL at h
  split at h
  · cases h
    exact ⟨rfl, fun x hx => (by cases hx), fun x hx => rfl, fun hx => (by cases hx)⟩
  · cases h
theorem sf_RH_V : sf_RH none sf_hV sf_vV := by
  intro v σ u h
  unfold sf_hV at h
  split at h
  · cases h
    exact ⟨rfl, fun x hx => (by cases hx), fun x hx => (by cases hx), fun _ => rfl⟩
  · cases h
def sf_mono (Wt : Nat → sf_L → List Value → sf_S → Prop) : Prop := ∀ (pc : Nat) (L0 L : sf_L) (st : List Value) (σ : sf_S), (∀ i v, sf_get L0 i = some v → sf_get L i = some v) → Wt pc L0 st σ → Wt pc L st σ
theorem sf_met {ρ : Type} {l : Launch} {y : MethodName} {cc : ByteArray} {nL : Nat} {ret : Option FieldType} {rm : Room} {lay : sf_Lay} {rh : Option Value → sf_S → Option ρ} {tv : ρ → sf_Q} {tab : List (Nat × sf_E)} {J : List (Nat × sf_J ρ)} {fl : sf_FL} {cl : List (Nat × Value)} {g : List Value → sf_S → Option ρ} (hy : plainName y.cls = true) (hrm : rm.cells = 0 ∧ rm.slots = 0) (hrh : sf_RH ret rh tv) (hchk : sf_chk cc nL fl cl tab = true)
    (hfl : ∀ (s : State) (args : Array Value), (∀ w ∈ sf_T, w.before args s = true) → (∀ w ∈ sf_N, va_Nw w s) → ∀ q ∈ fl, sf_FF s args sf_T y.cls q.1 q.2.1 q.2.2.1 q.2.2.2)
    (hcl : ∀ (s : State) (args : Array Value), (∀ w ∈ sf_T, w.before args s = true) → ∀ q ∈ cl, sf_CC s args y.cls q.1 q.2) (hJ : sf_JO l y.cls cc nL rm lay J)
    (hrun : ∀ (Wt : Nat → sf_L → List Value → sf_S → Prop) (Post : ρ → Prop), sf_Snd Wt lay rh J tab Post → sf_mono Wt → ∀ av σ u, g av σ = some u → Post u → (∀ ad, (lg_sl (av.map (sf_v ad))).length ≤ nL) ∧ Wt 0 (sf_ent 0 av) [] σ) : sf_C l lay y cc nL ret rm fun av σ => (g av σ).map tv := by
  refine ⟨hrm.1, hrm.2, fun D cy ad sz av σ r hinj hr => ?_⟩
  cases hg : g av σ with
  | none => simp [hg] at hr
  | some u =>
  simp only [hg, Option.map_some, Option.some.injEq] at hr
  subst hr
  refine Met.ofW (cc := cc) (maxL := nL) (ret := ret) hy rfl ?_
  intro p e s m args below meth c s₁ B hml hv
  obtain ⟨rfl, hsz, hP, hK, hN⟩ := hv
  have hx := B.exec
  have hb := B.bytes
  have hr := B.returns
  have hts0 := atoms_spec (ws := Cond.code y cc nL ret :: sf_T) B.pre
  have hts : ∀ w ∈ sf_T, w.before (av.map (sf_v ad)).toArray s = true := fun w h => hts0 w (List.mem_cons_of_mem _ h)
  have hown : s.vm.findClass y.cls = some m.cls := findClass_of_methodNamed B.named
  have hlocks := B.notSynchronized
  subst hsz
  have h0 : sf_At p s m (av.map (sf_v ad)).toArray c y.cls cc nL lay D cy ad (sf_A lay ad s.heap.size) sf_T := ⟨hx, hb, hml, hown, hts, hK, hinj, fun k hk => Or.inl ⟨k, hk, rfl⟩, fun q hq => Or.inr hq⟩
  have hsnd := sf_step_ok (l := l) (e0 := e) (R := rm) (below := below) (meth := meth) (Q := MQ below (sf_Qc lay D cy ad (sf_A lay ad s.heap.size) (tv u)) (av.map (sf_v ad)).toArray s 0 0 (sf_A lay ad s.heap.size)) (rh := rh) (J := J) (tab := tab) (Post := fun z => z = u) h0 hchk (hfl s _ hts hN) (hcl s _ hts)
    (fun pc j L st σ2 K r hj hjj hk => hJ (pc, j) (sf_as_mem hj) p e s m _ below meth c _ D cy ad _ h0 hN L st σ2 K r hjj hk)
    (by
      intro v σ2 r pc L ins hrv hpost hd hins
      subst hpost
      obtain ⟨htv, hI, hL, hV⟩ := hrh v σ2 r hrv
      intro H locs ls hl hP2 hS
      have hq : ∀ t : State, t.heap = H → s.WarmedH t.vm → sf_Qc lay D cy ad (sf_A lay ad s.heap.size) (tv r) (av.map (sf_v ad)).toArray s (.returned (v.map (sf_v ad))) t := by
        intro t ht hW
        rw [htv]
        exact ⟨⟨rfl, by rw [ht]; exact hP2⟩, hS.F ht⟩
      rcases hins with ⟨rfl, x, rfl⟩ | ⟨rfl, x, rfl⟩ | ⟨rfl, rfl⟩
      · obtain ⟨ty, h1, h2⟩ := hI x rfl
        exact W.zret hx hb (hr.trans h1) h2 hq hS.2.2 hd
      · exact W.lret hx hb (hr.trans (hL x rfl)) hq hS.2.2 hd
      · exact W.vret hx hb (hr.trans (hV rfl)) hq hS.2.2 hd)
  obtain ⟨hlen, hgo⟩ := hrun _ _ hsnd (fun pc L0 L st σ2 hm k => k.mono hm) av σ u hg rfl
  rw [lg_entry_eq]
  exact hgo s.heap [] _ (sf_ent_LV ad (hlen ad)) hP va_S.rf
