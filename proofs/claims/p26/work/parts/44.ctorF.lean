/-! a constructor out of its table -/
abbrev sd_rf : List Value → Nat → Bool
  | [], _ => true
  | .ref _ :: r, n + 1 => sd_rf r n
  | _, _ => false
abbrev sd_F (J : List (Nat × sd_J)) (tab : List (Nat × sf_E)) (nL fuel : Nat) (av : List Value) (Δ : sd_D) : Option sd_R := match av with
  | .ref z :: tl => match sd_rf (.ref z :: tl) nL with
    | true => sd_run J tab fuel 0 (sf_ent 0 (.ref z :: tl)) [] Δ 0 0
    | false => none
  | _ => none
theorem sd_F_ref {J : List (Nat × sd_J)} {tab : List (Nat × sf_E)} {nL fuel : Nat} {av : List Value} {Δ : sd_D} {r : sd_R} (h : sd_F J tab nL fuel av Δ = some r) : ∃ z tl, av = .ref z :: tl := by
  unfold sd_F at h
  split at h
  · exact ⟨_, _, rfl⟩
  · cases h
theorem sd_rf_len (as : Nat → Nat) : ∀ (av : List Value) (n : Nat), sd_rf av n = true → (lg_sl (av.map (sf_v as))).length ≤ n
  | [], n, _ => Nat.zero_le n
  | .ref z :: r, n + 1, h => by
    have := sd_rf_len as r n (by simpa [sd_rf] using h)
    have e : lg_sl ((Value.ref z :: r).map (sf_v as)) = .val (.ref (as z)) :: lg_sl (r.map (sf_v as)) := rfl
    rw [e, List.length_cons]
    omega
  | .ref z :: r, 0, h => by simp [sd_rf] at h
  | .int z :: r, n, h => by simp [sd_rf] at h
  | .long z :: r, n, h => by simp [sd_rf] at h
  | .float z :: r, n, h => by simp [sd_rf] at h
  | .double z :: r, n, h => by simp [sd_rf] at h
  | .null :: r, n, h => by simp [sd_rf] at h
  | .retAddr z :: r, n, h => by simp [sd_rf] at h
theorem sd_run_ok {p : Program} {l : Launch} {e0 : Env} {R : Room} {s : State} {m : MethodId} {args : Array Value} {below : List Frame} {meth : Method} {c : Code} {Q : State → Prop} {nL : Nat} {D : va_G} {cy : Nat → ClassId} {A : Nat → Prop} {n0 : Nat} {as0 : Nat → Nat} {J : List (Nat × sd_J)} {tab : List (Nat × sf_E)} {r : sd_R}
    (hstep : ∀ (pc : Nat) (e : sf_E) (L : sf_L) (st : List Value) (Δ : sd_D) (k1 k2 : Nat) (K : sd_K), sf_as tab pc = some e → sd_step J e pc L st Δ k1 k2 K = some r → (∀ pc2 L2 st2 Δ2 c2 s2, K pc2 L2 st2 Δ2 c2 s2 = some r → (c2 ≤ r.2.1 ∧ s2 ≤ r.2.2) ∧ sd_W p l e0 R s m args below meth c Q nL D cy A n0 as0 pc2 L2 st2 Δ2 c2 s2) → (k1 ≤ r.2.1 ∧ k2 ≤ r.2.2) ∧ sd_W p l e0 R s m args below meth c Q nL D cy A n0 as0 pc L st Δ k1 k2) :
    ∀ (n pc : Nat) (L : sf_L) (st : List Value) (Δ : sd_D) (k1 k2 : Nat), sd_run J tab n pc L st Δ k1 k2 = some r → (k1 ≤ r.2.1 ∧ k2 ≤ r.2.2) ∧ sd_W p l e0 R s m args below meth c Q nL D cy A n0 as0 pc L st Δ k1 k2
  | 0, _, _, _, _, _, _, h => by simp [sd_run] at h
  | n + 1, pc, L, st, Δ, k1, k2, h => by
    simp only [sd_run] at h
    split at h
    · rename_i e he
      exact hstep pc e L st Δ k1 k2 _ he h (fun pc2 L2 st2 Δ2 c2 s2 h2 => sd_run_ok hstep n pc2 L2 st2 Δ2 c2 s2 h2)
    · cases h
theorem sd_met {l : Launch} {y : MethodName} {cc : ByteArray} {nL fuel : Nat} {rm : Room} {J : List (Nat × sd_J)} {tab : List (Nat × sf_E)} {fl : sf_FL} {rl : List (Nat × Nat × Nat)} {nl : List (Nat × Nat)} (hy : plainName y.cls = true) (hyn : y.name = "<init>") (hchk : sd_chk cc nL fl rl nl tab = true)
    (hfl : ∀ (s : State) (args : Array Value), (∀ w ∈ sf_T, w.before args s = true) → (∀ w ∈ sf_N, va_Nw w s) → ∀ q ∈ fl, sf_FF s args sf_T y.cls q.1 q.2.1 q.2.2.1 q.2.2.2) (hrl : ∀ q ∈ rl, sd_FR y.cls q.1 q.2.1 q.2.2) (hnl : ∀ q ∈ nl, sd_FN y.cls q.1 q.2) (harr : Cond.arrayClass .int ∈ sf_T ∧ Cond.arrayClass .boolean ∈ sf_T ∧ Cond.arrayClass .byte ∈ sf_T) (hJ : sd_JO l y.cls cc nL rm J) : sd_CT l y cc nL rm (sd_F J tab nL fuel) := by
  intro D cy as sz av Δ r hF hm1 hm2 hD0
  obtain ⟨z, tl, rfl⟩ := sd_F_ref hF
  simp only [sd_F] at hF
  split at hF
  · rename_i hrf
    refine Met.ofW (cc := cc) (maxL := nL) (ret := none) hy rfl ?_
    intro p e s m args below meth c s₁ B hml hv
    obtain ⟨rfl, hsz, hP, hK, hN⟩ := hv
    have hx := B.exec
    have hb := B.bytes
    have hr := B.returns
    have hts0 := atoms_spec (ws := Cond.code y cc nL none :: sf_T) B.pre
    have hts : ∀ w ∈ sf_T, w.before ((Value.ref z :: tl).map (sf_v as)).toArray s = true := fun w h => hts0 w (List.mem_cons_of_mem _ h)
    have hown : s.vm.findClass y.cls = some m.cls := findClass_of_methodNamed B.named
    have hlocks := B.notSynchronized
    have hinit : meth.name = "<init>" := (name_of_methodNamed B.named B.method).1.trans hyn
    subst hsz
    have h0 : sd_At p s m ((Value.ref z :: tl).map (sf_v as)).toArray c y.cls cc nL D cy (sd_A as Δ.length s.heap.size) := ⟨hx, hb, hml, hown, hts, hK, fun q hq => Or.inr hq⟩
    have hret : ∀ pc L, decode cc pc = .ok (.return_, 1) → sd_W p l e rm s m ((Value.ref z :: tl).map (sf_v as)).toArray below meth c (MQ below (sd_Qc D cy (sd_A as Δ.length s.heap.size) Δ.length as r.1) ((Value.ref z :: tl).map (sf_v as)).toArray s r.2.1 r.2.2 (sd_A as Δ.length s.heap.size)) nL D cy (sd_A as Δ.length s.heap.size) Δ.length as pc L [] r.1 r.2.1 r.2.2 := by
      intro pc L hd as2 H locs ls e1 e2 hl hP2 hD2 hS
      exact W.vret hx hb hr (fun t ht hW => ⟨⟨rfl, as2, e1, e2, by rw [ht]; exact hP2, hD2⟩, hS.F ht⟩) hS.2.2 hd
    have hgo := sd_run_ok (l := l) (fun pc e2 L st Δ2 k1 k2 K he hs hk => sd_step_ok (l := l) (e0 := e) (R := rm) (below := below) (meth := meth) h0 hinit hchk (hfl s _ hts hN) hrl hnl harr
      (fun pc j L st Δ3 k1 k2 K hj hbb hjj hk2 => hJ (pc, j) (sf_as_mem hj) p e s m _ below meth c _ D cy _ Δ.length as h0 hN L st Δ3 k1 k2 K r hm1 hm2 hbb hjj hk2) ⟨hm1, hm2⟩ hret he hs hk) fuel 0 _ _ _ 0 0 hF
    rw [lg_entry_eq]
    exact hgo.2 as s.heap [] _ (Nat.le_refl _) (fun _ _ => rfl) (sf_ent_LV as (sd_rf_len as _ _ hrf)) hP (sd_D_self hD0 _) va_S.rf
  · cases hF
