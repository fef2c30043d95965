/-! the step is sound -/
def sf_CC (s : State) (args : Array Value) (own : String) (i : Nat) (v : Value) : Prop := match v with
  | .int x => (Cond.constant own i x).before args s = true
  | .long x => (Cond.constantLong own i x).before args s = true
  | _ => True
def sf_Snd {ρ : Type} (Wt : Nat → sf_L → List Value → sf_S → Prop) (lay : sf_Lay) (rh : Option Value → sf_S → Option ρ) (J : List (Nat × sf_J ρ)) (tab : List (Nat × sf_E)) (Post : ρ → Prop) : Prop :=
  ∀ (pc : Nat) (e : sf_E) (L : sf_L) (st : List Value) (σ : sf_S) (K : sf_K ρ) (r : ρ), sf_as tab pc = some e → sf_step lay rh J e pc L st σ K = some r → Post r → (∀ pc2 L2 st2 σ2, K pc2 L2 st2 σ2 = some r → Wt pc2 L2 st2 σ2) → Wt pc L st σ
theorem sf_i1_inv {ρ : Type} {st : List Value} {f : Int32 → List Value → Option ρ} {r : ρ} (h : sf_i1 st f = some r) : ∃ x q, st = .int x :: q ∧ f x q = some r := by
  unfold sf_i1 at h
  split at h
  · exact ⟨_, _, rfl, h⟩
  · cases h
theorem sf_i2_inv {ρ : Type} {st : List Value} {f : Int32 → Int32 → List Value → Option ρ} {r : ρ} (h : sf_i2 st f = some r) : ∃ x y q, st = .int y :: .int x :: q ∧ f x y q = some r := by
  unfold sf_i2 at h
  split at h
  · exact ⟨_, _, _, rfl, h⟩
  · cases h
theorem sf_l1_inv {ρ : Type} {st : List Value} {f : Int64 → List Value → Option ρ} {r : ρ} (h : sf_l1 st f = some r) : ∃ x q, st = .long x :: q ∧ f x q = some r := by
  unfold sf_l1 at h
  split at h
  · exact ⟨_, _, rfl, h⟩
  · cases h
theorem sf_l2_inv {ρ : Type} {st : List Value} {f : Int64 → Int64 → List Value → Option ρ} {r : ρ} (h : sf_l2 st f = some r) : ∃ x y q, st = .long y :: .long x :: q ∧ f x y q = some r := by
  unfold sf_l2 at h
  split at h
  · exact ⟨_, _, _, rfl, h⟩
  · cases h
theorem sf_ldi_inv {ρ : Type} {L : sf_L} {i : Nat} {f : Int32 → Option ρ} {r : ρ} (h : sf_ldi L i f = some r) : ∃ x, sf_get L i = some (.int x) ∧ f x = some r := by
  unfold sf_ldi at h
  split at h
  · rename_i x hx
    exact ⟨x, hx, h⟩
  · cases h
theorem sf_ldl_inv {ρ : Type} {L : sf_L} {i : Nat} {f : Int64 → Option ρ} {r : ρ} (h : sf_ldl L i f = some r) : ∃ x, sf_get L i = some (.long x) ∧ f x = some r := by
  unfold sf_ldl at h
  split at h
  · rename_i x hx
    exact ⟨x, hx, h⟩
  · cases h
theorem sf_lda_inv {ρ : Type} {L : sf_L} {i : Nat} {f : Nat → Option ρ} {r : ρ} (h : sf_lda L i f = some r) : ∃ x, sf_get L i = some (.ref x) ∧ f x = some r := by
  unfold sf_lda at h
  split at h
  · rename_i x hx
    exact ⟨x, hx, h⟩
  · cases h
theorem sf_ar_inv {ρ : Type} {lay : sf_Lay} {q : Nat} {f : Nat → Nat → Option ρ} {r : ρ} (h : sf_ar lay q f = some r) : ∃ t n, lay[q]? = some (.inr (t, n)) ∧ f t n = some r := by
  unfold sf_ar at h
  split at h
  · rename_i t n hq
    exact ⟨t, n, hq, h⟩
  · cases h
theorem sf_ob_inv {ρ : Type} {lay : sf_Lay} {q : Nat} {f : Nat → List (Option Nat) → Option ρ} {r : ρ} (h : sf_ob lay q f = some r) : ∃ t n, lay[q]? = some (.inl (t, n)) ∧ f t n = some r := by
  unfold sf_ob at h
  split at h
  · rename_i t n hq
    exact ⟨t, n, hq, h⟩
  · cases h
theorem sf_getf_inv {ρ : Type} {lay : sf_Lay} {fp : List (Nat × Nat)} {q : Nat} {σ : sf_S} {f : Value → Option ρ} {r : ρ} (h : sf_getf lay fp q σ f = some r) : ∃ ci fs k x, lay[q]? = some (.inl (ci, fs)) ∧ sf_as fp ci = some k ∧ fs[k]? = some x ∧ f (sf_fo (σ q k) x) = some r := by
  obtain ⟨ci, fs, h1, h2⟩ := sf_ob_inv h
  split at h2
  · rename_i k hk
    split at h2
    · rename_i q2 hq2
      exact ⟨ci, fs, k, _, h1, hk, hq2, h2⟩
    · rename_i hq2
      exact ⟨ci, fs, k, _, h1, hk, hq2, h2⟩
    · cases h2
  · cases h2
theorem sf_putf_inv {ρ : Type} {lay : sf_Lay} {fp : List (Nat × Nat)} {q : Nat} {f : Nat → Option ρ} {r : ρ} (h : sf_putf lay fp q f = some r) : ∃ ci fs k, lay[q]? = some (.inl (ci, fs)) ∧ sf_as fp ci = some k ∧ fs[k]? = some none ∧ f k = some r := by
  obtain ⟨ci, fs, h1, h2⟩ := sf_ob_inv h
  split at h2
  · rename_i k hk
    split at h2
    · rename_i hq2
      exact ⟨ci, fs, k, h1, hk, hq2, h2⟩
    · cases h2
  · cases h2
theorem sf_lks_ok {ρ : Type} {pc d : Nat} {x : Int32} {K : Nat → Option ρ} {r : ρ} {D : Int} (hd : (pc : Int) + D = (d : Int)) : ∀ (ps : List (Int × Int)) (sw : List (Int32 × Nat)), sf_lks pc ps sw = true → sf_sw K x d sw = some r → ∃ tg : Nat, (pc : Int) + Op.lookupswitch.offset ps D x.toInt = (tg : Int) ∧ K tg = some r
  | [], [], _, h => ⟨d, hd, h⟩
  | (a, o) :: ps, (k, t) :: sw, hc, h => by
    simp only [sf_lks, Bool.and_eq_true, decide_eq_true_eq] at hc
    obtain ⟨⟨h1, h2⟩, h3⟩ := hc
    simp only [sf_sw] at h
    rw [Op.lookupswitch.offset_cons]
    by_cases hx : x = k
    · subst hx
      rw [if_pos rfl] at h
      rw [if_pos h1.symm]
      exact ⟨t, h2, h⟩
    · rw [if_neg hx] at h
      rw [if_neg (fun q => lv_neT hx h1 q.symm)]
      exact sf_lks_ok hd ps sw h3 h
  | [], _ :: _, hc, _ => by simp [sf_lks] at hc
  | _ :: _, [], hc, _ => by simp [sf_lks] at hc
theorem sf_tbs_ok {ρ : Type} {pc d : Nat} {x : Int32} {K : Nat → Option ρ} {r : ρ} : ∀ (os : List Int) (lo : Int) (sw : List (Int32 × Nat)), sf_tbs pc lo os sw = true → sf_sw K x d sw = some r → (∃ (tg : Nat) (off : Int), ¬ x.toInt < lo ∧ x.toInt < lo + (os.length : Int) ∧ os[(x.toInt - lo).toNat]? = some off ∧ (pc : Int) + off = (tg : Int) ∧ K tg = some r) ∨ ((x.toInt < lo ∨ lo + (os.length : Int) ≤ x.toInt) ∧ K d = some r)
  | [], lo, [], _, h => Or.inr ⟨by simp; omega, h⟩
  | o :: os, lo, (k, t) :: sw, hc, h => by
    simp only [sf_tbs, Bool.and_eq_true, decide_eq_true_eq] at hc
    obtain ⟨⟨h1, h2⟩, h3⟩ := hc
    simp only [sf_sw] at h
    by_cases hx : x = k
    · subst hx
      rw [if_pos rfl] at h
      exact Or.inl ⟨t, o, by omega, by simp; omega, by rw [h1, Int.sub_self]; rfl, h2, h⟩
    · rw [if_neg hx] at h
      have hne : ¬ x.toInt = lo := lv_neT hx h1
      rcases sf_tbs_ok os (lo + 1) sw h3 h with ⟨tg, off, a1, a2, a3, a4, a5⟩ | ⟨a1, a2⟩
      · refine Or.inl ⟨tg, off, by omega, by simp; omega, ?_, a4, a5⟩
        rw [show (x.toInt - lo).toNat = (x.toInt - (lo + 1)).toNat + 1 by omega]
        exact a3
      · exact Or.inr ⟨by simp; omega, a2⟩
  | [], _, _ :: _, hc, _ => by simp [sf_tbs] at hc
  | _ :: _, _, [], hc, _ => by simp [sf_tbs] at hc
section SFS
variable {p : Program} {l : Launch} {e0 : Env} {R : Room} {s : State} {m : MethodId} {args : Array Value} {below : List Frame} {meth : Method} {c : Code} {Q : State → Prop} {cc : ByteArray} {nL : Nat} {lay : sf_Lay} {D : va_G} {cy : Nat → ClassId} {ad : Nat → Nat} {A : Nat → Prop} {own : String} {Ts : List Cond}
set_option maxHeartbeats 4000000 in
theorem sf_step_ok {ρ : Type} {rh : Option Value → sf_S → Option ρ} {J : List (Nat × sf_J ρ)} {tab : List (Nat × sf_E)} {Post : ρ → Prop} {fl : sf_FL} {cl : List (Nat × Value)} (h0 : sf_At p s m args c own cc nL lay D cy ad A Ts) (hchk : sf_chk cc nL fl cl tab = true) (hfl : ∀ q ∈ fl, sf_FF s args Ts own q.1 q.2.1 q.2.2.1 q.2.2.2) (hcl : ∀ q ∈ cl, sf_CC s args own q.1 q.2)
    (hJ : ∀ (pc : Nat) (j : sf_J ρ) (L : sf_L) (st : List Value) (σ : sf_S) (K : List Value → sf_S → Option ρ) (r : ρ), sf_as J pc = some j → j st σ K = some r → (∀ st2 σ2, K st2 σ2 = some r → sf_W p l e0 R s m args below meth c Q nL lay D cy ad A (pc + 3) L st2 σ2) → sf_W p l e0 R s m args below meth c Q nL lay D cy ad A pc L st σ)
    (hret : ∀ (v : Option Value) (σ : sf_S) (r : ρ) (pc : Nat) (L : sf_L) (ins : Instr), rh v σ = some r → Post r → decode cc pc = .ok (ins, 1) → (ins = .ireturn ∧ (∃ x, v = some (.int x)) ∨ ins = .lreturn ∧ (∃ x, v = some (.long x)) ∨ ins = .return_ ∧ v = none) → sf_W p l e0 R s m args below meth c Q nL lay D cy ad A pc L v.toList σ) :
    sf_Snd (sf_W p l e0 R s m args below meth c Q nL lay D cy ad A) lay rh J tab Post := by
  intro pc e L st σ K r he hs hp hk
  have hc := List.all_eq_true.mp hchk _ (sf_as_mem he)
  simp only [Bool.and_eq_true] at hc
  obtain ⟨hdec, hok⟩ := hc
  obtain ⟨n, hd, hn⟩ := sf_dec_ok hdec
  have h00 := h0
  obtain ⟨hx, hb, hml, hown, hts, hK, hi, hA, hAs⟩ := h00
  obtain ⟨ins, nx, tg, v, sw, fp⟩ := e
  dsimp only at hd hn
  cases ins with
  | iconst k =>
    obtain ⟨rfl, rfl⟩ := hn.resolve_left (show ¬ sf_len (.iconst k) = 0 by simp [sf_len])
    have hs : K _ L (v :: st) σ = some r := hs
    have hv := of_decide_eq_true hok
    subst hv
    exact (hk _ _ _ _ hs).go fun H locs ls hl w => lv_iconst hx hb hd rfl w
  | bipush k =>
    obtain ⟨rfl, rfl⟩ := hn.resolve_left (show ¬ sf_len (.bipush k) = 0 by simp [sf_len])
    have hs : K _ L (v :: st) σ = some r := hs
    have hv := of_decide_eq_true hok
    subst hv
    exact (hk _ _ _ _ hs).go fun H locs ls hl w => lv_bipush hx hb hd rfl w
  | sipush k =>
    obtain ⟨rfl, rfl⟩ := hn.resolve_left (show ¬ sf_len (.sipush k) = 0 by simp [sf_len])
    have hs : K _ L (v :: st) σ = some r := hs
    have hv := of_decide_eq_true hok
    subst hv
    exact (hk _ _ _ _ hs).go fun H locs ls hl w => lv_sipush hx hb hd rfl w
  | lconst k =>
    obtain ⟨rfl, rfl⟩ := hn.resolve_left (show ¬ sf_len (.lconst k) = 0 by simp [sf_len])
    have hs : K _ L (v :: st) σ = some r := hs
    have hv := of_decide_eq_true hok
    subst hv
    exact (hk _ _ _ _ hs).go fun H locs ls hl w => lv_lconst hx hb hd rfl w
  | ldc k =>
    obtain ⟨rfl, rfl⟩ := hn.resolve_left (show ¬ sf_len (.ldc k) = 0 by simp [sf_len])
    have hs : K _ L (v :: st) σ = some r := hs
    simp only [sf_ok1, Bool.and_eq_true, decide_eq_true_eq] at hok
    obtain ⟨hm, hty⟩ := hok
    have hcc := hcl _ hm
    cases v with
    | int x => exact (hk _ _ _ _ hs).go fun H locs ls hl w => lv_ldc hx hb hown hcc hd w
    | _ => cases hty
  | ldc_w k =>
    obtain ⟨rfl, rfl⟩ := hn.resolve_left (show ¬ sf_len (.ldc_w k) = 0 by simp [sf_len])
    have hs : K _ L (v :: st) σ = some r := hs
    simp only [sf_ok1, Bool.and_eq_true, decide_eq_true_eq] at hok
    obtain ⟨hm, hty⟩ := hok
    have hcc := hcl _ hm
    cases v with
    | int x => exact (hk _ _ _ _ hs).go fun H locs ls hl w => lv_ldcw hx hb hown hcc hd w
    | _ => cases hty
  | ldc2_w k =>
    obtain ⟨rfl, rfl⟩ := hn.resolve_left (show ¬ sf_len (.ldc2_w k) = 0 by simp [sf_len])
    have hs : K _ L (v :: st) σ = some r := hs
    simp only [sf_ok1, Bool.and_eq_true, decide_eq_true_eq] at hok
    obtain ⟨hm, hty⟩ := hok
    have hcc := hcl _ hm
    cases v with
    | long x => exact (hk _ _ _ _ hs).go fun H locs ls hl w => lv_ldc2 hx hb hown hcc hd w
    | _ => cases hty
  | iload_n k =>
    obtain ⟨rfl, rfl⟩ := hn.resolve_left (show ¬ sf_len (.iload_n k) = 0 by simp [sf_len])
    obtain ⟨x, hg, hz⟩ := sf_ldi_inv hs
    exact (hk _ _ _ _ hz).go fun H locs ls hl w => lv_iload_n hx hb hd rfl (hl.2.2 _ _ hg) w
  | iload k =>
    obtain ⟨rfl, rfl⟩ := hn.resolve_left (show ¬ sf_len (.iload k) = 0 by simp [sf_len])
    obtain ⟨x, hg, hz⟩ := sf_ldi_inv hs
    exact (hk _ _ _ _ hz).go fun H locs ls hl w => lv_iload hx hb hd (hl.2.2 _ _ hg) w
  | lload_n k =>
    obtain ⟨rfl, rfl⟩ := hn.resolve_left (show ¬ sf_len (.lload_n k) = 0 by simp [sf_len])
    obtain ⟨x, hg, hz⟩ := sf_ldl_inv hs
    exact (hk _ _ _ _ hz).go fun H locs ls hl w => lv_lload_n hx hb hd rfl (hl.2.2 _ _ hg) w
  | lload k =>
    obtain ⟨rfl, rfl⟩ := hn.resolve_left (show ¬ sf_len (.lload k) = 0 by simp [sf_len])
    obtain ⟨x, hg, hz⟩ := sf_ldl_inv hs
    exact (hk _ _ _ _ hz).go fun H locs ls hl w => lv_lload hx hb hd (hl.2.2 _ _ hg) w
  | aload_n k =>
    obtain ⟨rfl, rfl⟩ := hn.resolve_left (show ¬ sf_len (.aload_n k) = 0 by simp [sf_len])
    obtain ⟨x, hg, hz⟩ := sf_lda_inv hs
    exact (hk _ _ _ _ hz).go fun H locs ls hl w => lv_aload_n hx hb hd rfl (hl.2.2 _ _ hg) w
  | aload k =>
    obtain ⟨rfl, rfl⟩ := hn.resolve_left (show ¬ sf_len (.aload k) = 0 by simp [sf_len])
    obtain ⟨x, hg, hz⟩ := sf_lda_inv hs
    exact (hk _ _ _ _ hz).go fun H locs ls hl w => lv_aload hx hb hd (hl.2.2 _ _ hg) w
  | istore_n k =>
    obtain ⟨rfl, rfl⟩ := hn.resolve_left (show ¬ sf_len (.istore_n k) = 0 by simp [sf_len])
    obtain ⟨x, q, rfl, hz⟩ := sf_i1_inv hs
    exact fun H locs ls hl hP hS => lv_istore_n hx hb hd rfl hl.has (of_decide_eq_true hok) rfl fun ls2 hl2 => hk _ _ _ _ hz H locs ls2 (hl.st1 rfl hl2) hP hS
  | istore k =>
    obtain ⟨rfl, rfl⟩ := hn.resolve_left (show ¬ sf_len (.istore k) = 0 by simp [sf_len])
    obtain ⟨x, q, rfl, hz⟩ := sf_i1_inv hs
    exact fun H locs ls hl hP hS => lv_istore hx hb hd hl.has (of_decide_eq_true hok) rfl fun ls2 hl2 => hk _ _ _ _ hz H locs ls2 (hl.st1 rfl hl2) hP hS
  | lstore_n k =>
    obtain ⟨rfl, rfl⟩ := hn.resolve_left (show ¬ sf_len (.lstore_n k) = 0 by simp [sf_len])
    obtain ⟨x, q, rfl, hz⟩ := sf_l1_inv hs
    exact fun H locs ls hl hP hS => lv_lstore_n hx hb hd rfl hl.has (of_decide_eq_true hok) rfl fun ls2 hl2 => hk _ _ _ _ hz H locs ls2 (hl.st2 rfl hl2) hP hS
  | lstore k =>
    obtain ⟨rfl, rfl⟩ := hn.resolve_left (show ¬ sf_len (.lstore k) = 0 by simp [sf_len])
    obtain ⟨x, q, rfl, hz⟩ := sf_l1_inv hs
    exact fun H locs ls hl hP hS => lv_lstore hx hb hd hl.has (of_decide_eq_true hok) rfl fun ls2 hl2 => hk _ _ _ _ hz H locs ls2 (hl.st2 rfl hl2) hP hS
  | iinc k d =>
    obtain ⟨rfl, rfl⟩ := hn.resolve_left (show ¬ sf_len (.iinc k d) = 0 by simp [sf_len])
    obtain ⟨x, hg, hz⟩ := sf_ldi_inv hs
    have hv := of_decide_eq_true hok
    subst hv
    intro H locs ls hl hP hS
    obtain ⟨j, hj⟩ := List.getElem?_of_mem (sf_mem_prs (ad := ad) (hl.lt hg) hg)
    exact lv_iinc hx hb hd hl.has hj rfl (hl.lt hg) rfl fun ls2 hl2 => hk _ _ _ _ hz H locs ls2 (hl.st1 rfl hl2) hP hS
  | iadd =>
    obtain ⟨rfl, rfl⟩ := hn.resolve_left (show ¬ sf_len (.iadd) = 0 by simp [sf_len])
    obtain ⟨x, y, q, rfl, hz⟩ := sf_i2_inv hs
    exact (hk _ _ _ _ hz).go fun H locs ls hl w => lv_iadd hx hb hd w
  | isub =>
    obtain ⟨rfl, rfl⟩ := hn.resolve_left (show ¬ sf_len (.isub) = 0 by simp [sf_len])
    obtain ⟨x, y, q, rfl, hz⟩ := sf_i2_inv hs
    exact (hk _ _ _ _ hz).go fun H locs ls hl w => lv_isub hx hb hd w
  | imul =>
    obtain ⟨rfl, rfl⟩ := hn.resolve_left (show ¬ sf_len (.imul) = 0 by simp [sf_len])
    obtain ⟨x, y, q, rfl, hz⟩ := sf_i2_inv hs
    exact (hk _ _ _ _ hz).go fun H locs ls hl w => lv_imul hx hb hd w
  | ixor =>
    obtain ⟨rfl, rfl⟩ := hn.resolve_left (show ¬ sf_len (.ixor) = 0 by simp [sf_len])
    obtain ⟨x, y, q, rfl, hz⟩ := sf_i2_inv hs
    exact (hk _ _ _ _ hz).go fun H locs ls hl w => lv_ixor hx hb hd w
  | ladd =>
    obtain ⟨rfl, rfl⟩ := hn.resolve_left (show ¬ sf_len (.ladd) = 0 by simp [sf_len])
    obtain ⟨x, y, q, rfl, hz⟩ := sf_l2_inv hs
    exact (hk _ _ _ _ hz).go fun H locs ls hl w => lv_ladd hx hb hd w
  | lsub =>
    obtain ⟨rfl, rfl⟩ := hn.resolve_left (show ¬ sf_len (.lsub) = 0 by simp [sf_len])
    obtain ⟨x, y, q, rfl, hz⟩ := sf_l2_inv hs
    exact (hk _ _ _ _ hz).go fun H locs ls hl w => lv_lsub hx hb hd w
  | lmul =>
    obtain ⟨rfl, rfl⟩ := hn.resolve_left (show ¬ sf_len (.lmul) = 0 by simp [sf_len])
    obtain ⟨x, y, q, rfl, hz⟩ := sf_l2_inv hs
    exact (hk _ _ _ _ hz).go fun H locs ls hl w => lv_lmul hx hb hd w
  | lcmp =>
    obtain ⟨rfl, rfl⟩ := hn.resolve_left (show ¬ sf_len (.lcmp) = 0 by simp [sf_len])
    obtain ⟨x, y, q, rfl, hz⟩ := sf_l2_inv hs
    exact (hk _ _ _ _ hz).go fun H locs ls hl w => W.lcmp hx hb hd w
  | idiv =>
    obtain ⟨rfl, rfl⟩ := hn.resolve_left (show ¬ sf_len (.idiv) = 0 by simp [sf_len])
    obtain ⟨x, y, q, rfl, hz⟩ := sf_i2_inv hs
    by_cases hy : y = 0
    · rw [if_pos hy] at hz; cases hz
    · rw [if_neg hy] at hz
      exact (hk _ _ _ _ hz).go fun H locs ls hl w => lv_idiv hx hb hd hy w
  | irem =>
    obtain ⟨rfl, rfl⟩ := hn.resolve_left (show ¬ sf_len (.irem) = 0 by simp [sf_len])
    obtain ⟨x, y, q, rfl, hz⟩ := sf_i2_inv hs
    by_cases hy : y = 0
    · rw [if_pos hy] at hz; cases hz
    · rw [if_neg hy] at hz
      exact (hk _ _ _ _ hz).go fun H locs ls hl w => lv_irem hx hb hd hy w
  | ldiv =>
    obtain ⟨rfl, rfl⟩ := hn.resolve_left (show ¬ sf_len (.ldiv) = 0 by simp [sf_len])
    obtain ⟨x, y, q, rfl, hz⟩ := sf_l2_inv hs
    by_cases hy : y = 0
    · rw [if_pos hy] at hz; cases hz
    · rw [if_neg hy] at hz
      exact (hk _ _ _ _ hz).go fun H locs ls hl w => lv_ldiv hx hb hd hy w
  | lrem =>
    obtain ⟨rfl, rfl⟩ := hn.resolve_left (show ¬ sf_len (.lrem) = 0 by simp [sf_len])
    obtain ⟨x, y, q, rfl, hz⟩ := sf_l2_inv hs
    by_cases hy : y = 0
    · rw [if_pos hy] at hz; cases hz
    · rw [if_neg hy] at hz
      exact (hk _ _ _ _ hz).go fun H locs ls hl w => lv_lrem hx hb hd hy w
  | iand =>
    obtain ⟨rfl, rfl⟩ := hn.resolve_left (show ¬ sf_len (.iand) = 0 by simp [sf_len])
    obtain ⟨x, y, q, rfl, hz⟩ := sf_i2_inv hs
    exact (hk _ _ _ _ hz).go fun H locs ls hl w => lv_iand hx hb hd w
  | ishl =>
    obtain ⟨rfl, rfl⟩ := hn.resolve_left (show ¬ sf_len (.ishl) = 0 by simp [sf_len])
    obtain ⟨x, y, q, rfl, hz⟩ := sf_i2_inv hs
    exact (hk _ _ _ _ hz).go fun H locs ls hl w => lv_ishl hx hb hd w
  | ishr =>
    obtain ⟨rfl, rfl⟩ := hn.resolve_left (show ¬ sf_len (.ishr) = 0 by simp [sf_len])
    obtain ⟨x, y, q, rfl, hz⟩ := sf_i2_inv hs
    exact (hk _ _ _ _ hz).go fun H locs ls hl w => lv_ishr hx hb hd w
  | land =>
    obtain ⟨rfl, rfl⟩ := hn.resolve_left (show ¬ sf_len (.land) = 0 by simp [sf_len])
    obtain ⟨x, y, q, rfl, hz⟩ := sf_l2_inv hs
    exact (hk _ _ _ _ hz).go fun H locs ls hl w => lv_land hx hb hd w
  | lor =>
    obtain ⟨rfl, rfl⟩ := hn.resolve_left (show ¬ sf_len (.lor) = 0 by simp [sf_len])
    obtain ⟨x, y, q, rfl, hz⟩ := sf_l2_inv hs
    exact (hk _ _ _ _ hz).go fun H locs ls hl w => lv_lor hx hb hd w
  | lshl =>
    obtain ⟨rfl, rfl⟩ := hn.resolve_left (show ¬ sf_len (.lshl) = 0 by simp [sf_len])
    simp only [sf_step] at hs
    split at hs
    · exact (hk _ _ _ _ hs).go fun H locs ls hl w => lv_lshl hx hb hd rfl w
    · cases hs
  | lshr =>
    obtain ⟨rfl, rfl⟩ := hn.resolve_left (show ¬ sf_len (.lshr) = 0 by simp [sf_len])
    simp only [sf_step] at hs
    split at hs
    · exact (hk _ _ _ _ hs).go fun H locs ls hl w => lv_lshr hx hb hd rfl w
    · cases hs
  | arraylength =>
    obtain ⟨rfl, rfl⟩ := hn.resolve_left (show ¬ sf_len (.arraylength) = 0 by simp [sf_len])
    simp only [sf_step] at hs
    split at hs
    · obtain ⟨t, z, e1, hz⟩ := sf_ar_inv hs
      split at hz
      · exact sf_row_len h0 e1 hd (hk _ _ _ _ hz)
      · cases hz
    · cases hs
  | ineg =>
    obtain ⟨rfl, rfl⟩ := hn.resolve_left (show ¬ sf_len (.ineg) = 0 by simp [sf_len])
    obtain ⟨x, q, rfl, hz⟩ := sf_i1_inv hs
    exact (hk _ _ _ _ hz).go fun H locs ls hl w => lv_ineg hx hb hd w
  | lneg =>
    obtain ⟨rfl, rfl⟩ := hn.resolve_left (show ¬ sf_len (.lneg) = 0 by simp [sf_len])
    obtain ⟨x, q, rfl, hz⟩ := sf_l1_inv hs
    exact (hk _ _ _ _ hz).go fun H locs ls hl w => lv_lneg hx hb hd w
  | i2l =>
    obtain ⟨rfl, rfl⟩ := hn.resolve_left (show ¬ sf_len (.i2l) = 0 by simp [sf_len])
    obtain ⟨x, q, rfl, hz⟩ := sf_i1_inv hs
    exact (hk _ _ _ _ hz).go fun H locs ls hl w => lv_i2l hx hb hd rfl w
  | l2i =>
    obtain ⟨rfl, rfl⟩ := hn.resolve_left (show ¬ sf_len (.l2i) = 0 by simp [sf_len])
    obtain ⟨x, q, rfl, hz⟩ := sf_l1_inv hs
    exact (hk _ _ _ _ hz).go fun H locs ls hl w => lv_l2i hx hb hd rfl w
  | i2b =>
    obtain ⟨rfl, rfl⟩ := hn.resolve_left (show ¬ sf_len (.i2b) = 0 by simp [sf_len])
    obtain ⟨x, q, rfl, hz⟩ := sf_i1_inv hs
    exact (hk _ _ _ _ hz).go fun H locs ls hl w => lv_i2b hx hb hd rfl w
  | i2s =>
    obtain ⟨rfl, rfl⟩ := hn.resolve_left (show ¬ sf_len (.i2s) = 0 by simp [sf_len])
    obtain ⟨x, q, rfl, hz⟩ := sf_i1_inv hs
    exact (hk _ _ _ _ hz).go fun H locs ls hl w => lv_i2s hx hb hd rfl w
  | dup =>
    obtain ⟨rfl, rfl⟩ := hn.resolve_left (show ¬ sf_len (.dup) = 0 by simp [sf_len])
    simp only [sf_step] at hs
    split at hs
    · exact (hk _ _ _ _ hs).go fun H locs ls hl w => lv_dup hx hb hd rfl w
    · exact (hk _ _ _ _ hs).go fun H locs ls hl w => lv_dup hx hb hd rfl w
    · cases hs
  | dup2 =>
    obtain ⟨rfl, rfl⟩ := hn.resolve_left (show ¬ sf_len (.dup2) = 0 by simp [sf_len])
    simp only [sf_step] at hs
    split at hs
    · exact (hk _ _ _ _ hs).go fun H locs ls hl w => lv_dup2_11 hx hb hd rfl rfl w
    · cases hs
  | pop =>
    obtain ⟨rfl, rfl⟩ := hn.resolve_left (show ¬ sf_len (.pop) = 0 by simp [sf_len])
    simp only [sf_step] at hs
    split at hs
    · exact (hk _ _ _ _ hs).go fun H locs ls hl w => lv_pop hx hb hd rfl w
    · exact (hk _ _ _ _ hs).go fun H locs ls hl w => lv_pop hx hb hd rfl w
    · cases hs
  | goto o =>
    obtain ⟨rfl, rfl⟩ := hn.resolve_left (show ¬ sf_len (.goto o) = 0 by simp [sf_len])
    exact (hk _ _ _ _ hs).go fun H locs ls hl w => lv_goto hx hb hd (of_decide_eq_true hok) w
  | ifCond q o =>
    obtain ⟨rfl, rfl⟩ := hn.resolve_left (show ¬ sf_len (.ifCond q o) = 0 by simp [sf_len])
    have ht := of_decide_eq_true hok
    cases q with
    | eq =>
      obtain ⟨x, q, rfl, hz⟩ := sf_i1_inv hs
      intro H locs ls hl hP hS
      refine lv_if_eq hx hb hd ht (fun h => ?_) (fun h => ?_)
      · rw [if_pos h] at hz; exact hk _ _ _ _ hz H locs ls hl hP hS
      · rw [if_neg h] at hz; exact hk _ _ _ _ hz H locs ls hl hP hS
    | ne =>
      obtain ⟨x, q, rfl, hz⟩ := sf_i1_inv hs
      intro H locs ls hl hP hS
      refine lv_if_ne hx hb hd ht (fun h => ?_) (fun h => ?_)
      · rw [if_pos h] at hz; exact hk _ _ _ _ hz H locs ls hl hP hS
      · rw [if_neg (fun hn => hn h)] at hz; exact hk _ _ _ _ hz H locs ls hl hP hS
    | lt =>
      obtain ⟨x, q, rfl, hz⟩ := sf_i1_inv hs
      intro H locs ls hl hP hS
      refine lv_if_lt hx hb hd ht (fun h => ?_) (fun h => ?_)
      · rw [if_pos h] at hz; exact hk _ _ _ _ hz H locs ls hl hP hS
      · rw [if_neg h] at hz; exact hk _ _ _ _ hz H locs ls hl hP hS
    | ge =>
      obtain ⟨x, q, rfl, hz⟩ := sf_i1_inv hs
      intro H locs ls hl hP hS
      refine lv_if_ge hx hb hd ht (fun h => ?_) (fun h => ?_)
      · rw [if_pos h] at hz; exact hk _ _ _ _ hz H locs ls hl hP hS
      · rw [if_neg h] at hz; exact hk _ _ _ _ hz H locs ls hl hP hS
    | gt =>
      obtain ⟨x, q, rfl, hz⟩ := sf_i1_inv hs
      intro H locs ls hl hP hS
      refine lv_if_gt hx hb hd ht (fun h => ?_) (fun h => ?_)
      · rw [if_pos h] at hz; exact hk _ _ _ _ hz H locs ls hl hP hS
      · rw [if_neg h] at hz; exact hk _ _ _ _ hz H locs ls hl hP hS
    | le =>
      obtain ⟨x, q, rfl, hz⟩ := sf_i1_inv hs
      intro H locs ls hl hP hS
      refine lv_if_le hx hb hd ht (fun h => ?_) (fun h => ?_)
      · rw [if_pos h] at hz; exact hk _ _ _ _ hz H locs ls hl hP hS
      · rw [if_neg h] at hz; exact hk _ _ _ _ hz H locs ls hl hP hS
  | if_icmp q o =>
    obtain ⟨rfl, rfl⟩ := hn.resolve_left (show ¬ sf_len (.if_icmp q o) = 0 by simp [sf_len])
    have ht := of_decide_eq_true hok
    cases q with
    | eq =>
      obtain ⟨x, y, q, rfl, hz⟩ := sf_i2_inv hs
      intro H locs ls hl hP hS
      refine lv_icmp_eq hx hb hd ht (fun h => ?_) (fun h => ?_)
      · rw [if_pos h] at hz; exact hk _ _ _ _ hz H locs ls hl hP hS
      · rw [if_neg h] at hz; exact hk _ _ _ _ hz H locs ls hl hP hS
    | ne =>
      obtain ⟨x, y, q, rfl, hz⟩ := sf_i2_inv hs
      intro H locs ls hl hP hS
      refine lv_icmp_ne hx hb hd ht (fun h => ?_) (fun h => ?_)
      · rw [if_pos h] at hz; exact hk _ _ _ _ hz H locs ls hl hP hS
      · rw [if_neg (fun hn => hn h)] at hz; exact hk _ _ _ _ hz H locs ls hl hP hS
    | lt =>
      obtain ⟨x, y, q, rfl, hz⟩ := sf_i2_inv hs
      intro H locs ls hl hP hS
      refine lv_icmp_lt hx hb hd ht (fun h => ?_) (fun h => ?_)
      · rw [if_pos h] at hz; exact hk _ _ _ _ hz H locs ls hl hP hS
      · rw [if_neg h] at hz; exact hk _ _ _ _ hz H locs ls hl hP hS
    | ge =>
      obtain ⟨x, y, q, rfl, hz⟩ := sf_i2_inv hs
      intro H locs ls hl hP hS
      refine lv_icmp_ge hx hb hd ht (fun h => ?_) (fun h => ?_)
      · rw [if_pos h] at hz; exact hk _ _ _ _ hz H locs ls hl hP hS
      · rw [if_neg h] at hz; exact hk _ _ _ _ hz H locs ls hl hP hS
    | gt =>
      obtain ⟨x, y, q, rfl, hz⟩ := sf_i2_inv hs
      intro H locs ls hl hP hS
      refine lv_icmp_gt hx hb hd ht (fun h => ?_) (fun h => ?_)
      · rw [if_pos h] at hz; exact hk _ _ _ _ hz H locs ls hl hP hS
      · rw [if_neg h] at hz; exact hk _ _ _ _ hz H locs ls hl hP hS
    | le =>
      obtain ⟨x, y, q, rfl, hz⟩ := sf_i2_inv hs
      intro H locs ls hl hP hS
      refine lv_icmp_le hx hb hd ht (fun h => ?_) (fun h => ?_)
      · rw [if_pos h] at hz; exact hk _ _ _ _ hz H locs ls hl hP hS
      · rw [if_neg h] at hz; exact hk _ _ _ _ hz H locs ls hl hP hS
  | tableswitch d lo hi offs =>
    obtain ⟨x, q, rfl, hz⟩ := sf_i1_inv hs
    simp only [sf_ok1, Bool.and_eq_true, decide_eq_true_eq] at hok
    obtain ⟨⟨h1, h2⟩, h3⟩ := hok
    rcases sf_tbs_ok (K := fun t => K t L q σ) (d := tg) _ _ _ h2 hz with ⟨t2, off, a1, a2, a3, a4, a5⟩ | ⟨a1, a2⟩
    · exact (hk _ _ _ _ a5).go fun H locs ls hl w => lv_tableIn hx hb hd a1 (by rw [h3]; simp at a2; omega) (by rw [← a3]; simp) a4 w
    · exact (hk _ _ _ _ a2).go fun H locs ls hl w => lv_tableOut hx hb hd (by rw [h3]; simp at a1; omega) h1 w
  | lookupswitch d ps =>
    obtain ⟨x, q, rfl, hz⟩ := sf_i1_inv hs
    simp only [sf_ok1, Bool.and_eq_true, decide_eq_true_eq] at hok
    obtain ⟨⟨h1, h2⟩, h3⟩ := hok
    obtain ⟨t2, a1, a2⟩ := sf_lks_ok (K := fun t => K t L q σ) h1 _ _ h2 hz
    exact (hk _ _ _ _ a2).go fun H locs ls hl w => lv_lookup hx hb hd h3 rfl a1 w
  | getfield k =>
    obtain ⟨rfl, rfl⟩ := hn.resolve_left (show ¬ sf_len (.getfield k) = 0 by simp [sf_len])
    simp only [sf_step] at hs
    split at hs
    · obtain ⟨ci, fs, j, x, e1, e2, e3, hz⟩ := sf_getf_inv hs
      obtain ⟨kd, e4, -⟩ := sf_hasf_ok hok e2
      exact sf_row_get h0 e1 e3 (hfl _ e4) hd (hk _ _ _ _ hz)
    · cases hs
  | putfield k =>
    obtain ⟨rfl, rfl⟩ := hn.resolve_left (show ¬ sf_len (.putfield k) = 0 by simp [sf_len])
    simp only [sf_step] at hs
    split at hs
    · obtain ⟨ci, fs, j, e1, e2, e3, hz⟩ := sf_putf_inv hs
      split at hz
      · obtain ⟨kd, e4, e5⟩ := sf_hasf_ok hok e2
        have e6 : kd = 1 := by simpa using e5
        exact sf_row_put h0 e1 e3 (hfl _ e4) (Or.inl e6) hd (hk _ _ _ _ hz)
      · rename_i hnv
        have hok2 : sf_hasf fl k [2] fp = true := by
          cases v with
          | null => exact absurd rfl hnv
          | _ => exact hok
        obtain ⟨kd, e4, e5⟩ := sf_hasf_ok hok2 e2
        have e6 : kd = 2 := by simpa using e5
        split at hz
        · rename_i h01
          exact sf_row_put h0 e1 e3 (hfl _ e4) (Or.inr ⟨e6, h01⟩) hd (hk _ _ _ _ hz)
        · cases hz
    · cases hs
  | iaload =>
    obtain ⟨rfl, rfl⟩ := hn.resolve_left (show ¬ sf_len (.iaload) = 0 by simp [sf_len])
    simp only [sf_step] at hs
    split at hs
    · obtain ⟨t, z, e1, hz⟩ := sf_ar_inv hs
      split at hz
      · split at hz
        · rename_i hin
          exact sf_row_ild h0 e1 hin hd (hk _ _ _ _ hz)
        · cases hz
      · cases hz
    · cases hs
  | iastore =>
    obtain ⟨rfl, rfl⟩ := hn.resolve_left (show ¬ sf_len (.iastore) = 0 by simp [sf_len])
    simp only [sf_step] at hs
    split at hs
    · obtain ⟨t, z, e1, hz⟩ := sf_ar_inv hs
      split at hz
      · split at hz
        · rename_i hin
          exact sf_row_ist h0 e1 hin hd (hk _ _ _ _ hz)
        · cases hz
      · cases hz
    · cases hs
  | baload =>
    obtain ⟨rfl, rfl⟩ := hn.resolve_left (show ¬ sf_len (.baload) = 0 by simp [sf_len])
    simp only [sf_step] at hs
    split at hs
    · obtain ⟨t, z, e1, hz⟩ := sf_ar_inv hs
      split at hz
      · split at hz
        · rename_i hin
          exact sf_row_zld h0 e1 hin hd (hk _ _ _ _ hz)
        · cases hz
      · split at hz
        · rename_i hin
          exact sf_row_bld h0 e1 hin hd (hk _ _ _ _ hz)
        · cases hz
      · cases hz
    · cases hs
  | bastore =>
    obtain ⟨rfl, rfl⟩ := hn.resolve_left (show ¬ sf_len (.bastore) = 0 by simp [sf_len])
    simp only [sf_step] at hs
    split at hs
    · obtain ⟨t, z, e1, hz⟩ := sf_ar_inv hs
      split at hz
      · split at hz
        · rename_i hin
          exact sf_row_zst h0 e1 hin hd (hk _ _ _ _ hz)
        · cases hz
      · split at hz
        · rename_i hin
          exact sf_row_bst h0 e1 hin hd (hk _ _ _ _ hz)
        · cases hz
      · cases hz
    · cases hs
  | ireturn =>
    obtain ⟨rfl, rfl⟩ := hn.resolve_left (show ¬ sf_len (.ireturn) = 0 by simp [sf_len])
    simp only [sf_step] at hs
    split at hs
    · exact hret _ _ _ _ _ _ hs hp hd (Or.inl ⟨rfl, _, rfl⟩)
    · cases hs
  | lreturn =>
    obtain ⟨rfl, rfl⟩ := hn.resolve_left (show ¬ sf_len (.lreturn) = 0 by simp [sf_len])
    simp only [sf_step] at hs
    split at hs
    · exact hret _ _ _ _ _ _ hs hp hd (Or.inr (Or.inl ⟨rfl, _, rfl⟩))
    · cases hs
  | return_ =>
    obtain ⟨rfl, rfl⟩ := hn.resolve_left (show ¬ sf_len (.return_) = 0 by simp [sf_len])
    simp only [sf_step] at hs
    split at hs
    · exact hret _ _ _ _ _ _ hs hp hd (Or.inr (Or.inr ⟨rfl, rfl⟩))
    · cases hs
  | invokevirtual k =>
    obtain ⟨rfl, rfl⟩ := hn.resolve_left (show ¬ sf_len (.invokevirtual k) = 0 by simp [sf_len])
    simp only [sf_step] at hs
    split at hs
    · rename_i j hj
      exact hJ _ _ _ _ _ _ _ hj hs (fun st2 σ2 h => hk _ _ _ _ h)
    · cases hs
  | invokestatic k =>
    obtain ⟨rfl, rfl⟩ := hn.resolve_left (show ¬ sf_len (.invokestatic k) = 0 by simp [sf_len])
    simp only [sf_step] at hs
    split at hs
    · rename_i j hj
      exact hJ _ _ _ _ _ _ _ hj hs (fun st2 σ2 h => hk _ _ _ _ h)
    · cases hs
  | _ => simp [sf_step] at hs
theorem sf_run_ok {ρ : Type} {Wt : Nat → sf_L → List Value → sf_S → Prop} {rh : Option Value → sf_S → Option ρ} {J : List (Nat × sf_J ρ)} {tab : List (Nat × sf_E)} {Post : ρ → Prop} {sm : List (Nat × sf_M ρ)} (hsnd : sf_Snd Wt lay rh J tab Post) (hsm : ∀ pc f L st σ r, sf_as sm pc = some f → f L st σ = some r → Post r → Wt pc L st σ) : ∀ (n pc : Nat) (L : sf_L) (st : List Value) (σ : sf_S) (r : ρ), sf_run lay rh J tab sm n pc L st σ = some r → Post r → Wt pc L st σ
  | 0, _, _, _, _, _, h, _ => by simp [sf_run] at h
  | n + 1, pc, L, st, σ, r, h, hp => by
    simp only [sf_run] at h
    split at h
    · rename_i e he
      refine hsnd pc e L st σ _ r he h hp (fun pc2 L2 st2 σ2 h2 => ?_)
      try dsimp only at h2
      split at h2
      · rename_i f hf
        exact hsm _ _ _ _ _ _ hf h2 hp
      · exact sf_run_ok hsnd hsm n pc2 L2 st2 σ2 r h2 hp
    · cases h
end SFS
