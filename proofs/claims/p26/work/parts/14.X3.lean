/-! ===== 14.X3 ===== -/
-- ===== StreamFuser$Printer.put(I)V =====
abbrev tX3_put : List (Nat × sf_E) := [(0, (.aload_n 0, 1, 0, .null, [], [])), (1, (.getfield 17, 4, 0, .null, [], [(3, 2)])), (4, (.sipush 400, 7, 0, .int (400), [], [])), (7, (.if_icmp .lt 4, 10, 11, .null, [], [])), (10, (.return_, 11, 0, .null, [], [])), (11, (.aload_n 0, 12, 0, .null, [], [])), (12, (.getfield 9, 15, 0, .null, [], [(3, 1)])), (15, (.aload_n 0, 16, 0, .null, [], [])), (16, (.getfield 17, 19, 0, .null, [], [(3, 2)])), (19, (.iload_n 1, 20, 0, .null, [], [])), (20, (.i2b, 21, 0, .null, [], [])), (21, (.bastore, 22, 0, .null, [], [])), (22, (.aload_n 0, 23, 0, .null, [], [])), (23, (.dup, 24, 0, .null, [], [])), (24, (.getfield 17, 27, 0, .null, [], [(3, 2)])), (27, (.iconst 1, 28, 0, .int (1), [], [])), (28, (.iadd, 29, 0, .null, [], [])), (29, (.putfield 17, 32, 0, .null, [], [(3, 2)])), (32, (.return_, 33, 0, .null, [], []))]
noncomputable abbrev jX3_put : List (Nat × sf_J sf_S) := []
noncomputable def dX3_put (x1 : Int32) (σ : sf_S) : Option sf_S :=
  if (σ 11 2) < (400 : Int32) then
    let v1 := (σ 11 2)
    if sf_in v1 400 then
      let s2 := sf_up σ 12 v1.toNatClampNeg (vp_nar .byte (x1).toInt8.toInt32)
      let s3 := sf_up s2 11 2 ((s2 11 2) + (1 : Int32))
      some s3
    else
      none
  else
    some σ
noncomputable abbrev gX3_put (av : List Value) (σ : sf_S) : Option sf_S := match av with
  | [.ref q, .int x1] => (match sf_rv [11] q with | true => dX3_put x1 σ | false => none)
  | _ => none
set_option maxRecDepth 100000 in
set_option maxHeartbeats 4000000 in
theorem rX3_put {Wt : Nat → sf_L → List Value → sf_S → Prop} {Post : sf_S → Prop} (hs : sf_Snd Wt sf_layC sf_hV jX3_put tX3_put Post) (hm : sf_mono Wt) : ∀ av σ u, gX3_put av σ = some u → Post u → (∀ ad, (lg_sl (av.map (sf_v ad))).length ≤ 2) ∧ Wt 0 (sf_ent 0 av) [] σ := by
  intro av σ u h hp
  unfold gX3_put at h
  split at h
  · rename_i q x1
    split at h
    · rename_i hq
      have hq : q = 11 := by simpa using sf_rv_mem hq
      subst hq
      refine ⟨fun ad => Nat.le_of_ble_eq_true rfl, ?_⟩
      exact sf_run_ok hs sf_sm_nil 24 0 _ _ σ u h hp
    · cases h
  · cases h
theorem kX3_put (l : Launch) : sf_C l sf_layC yX3_put cX3_put 2 none (sf_rm 1 100) (fun av σ => (gX3_put av σ).map sf_vV) :=
  sf_met (tab := tX3_put) (J := jX3_put) (fl := sf_fl3) (cl := sf_cl3) (by decide +kernel) ⟨rfl, rfl⟩ sf_RH_V (by decide +kernel) sf_fl3_ok sf_cl3_ok
    (sf_JO_nil)
    (fun Wt Post hs hm => rX3_put hs hm)
-- ===== StreamFuser$Printer.putNumber(I)V =====
abbrev tX3_putNumber : List (Nat × sf_E) := [(0, (.iload_n 1, 1, 0, .null, [], [])), (1, (.i2l, 2, 0, .null, [], [])), (2, (.invokestatic 62, 5, 0, .null, [], [])), (5, (.lstore_n 2, 6, 0, .null, [], [])), (6, (.lconst 1, 7, 0, .long 1, [], [])), (7, (.lstore 4, 9, 0, .null, [], [])), (9, (.iconst 0, 10, 0, .int (0), [], [])), (10, (.istore 6, 12, 0, .null, [], [])), (12, (.iload 6, 14, 0, .null, [], [])), (14, (.bipush 10, 16, 0, .int (10), [], [])), (16, (.if_icmp .ge 28, 19, 44, .null, [], [])), (19, (.lload 4, 21, 0, .null, [], [])), (21, (.ldc2_w 68, 24, 0, .long (10), [], [])), (24, (.lmul, 25, 0, .null, [], [])), (25, (.lload_n 2, 26, 0, .null, [], [])), (26, (.lcmp, 27, 0, .null, [], [])), (27, (.ifCond .gt 17, 30, 44, .null, [], [])), (30, (.lload 4, 32, 0, .null, [], [])), (32, (.ldc2_w 68, 35, 0, .long (10), [], [])), (35, (.lmul, 36, 0, .null, [], [])), (36, (.lstore 4, 38, 0, .null, [], [])), (38, (.iinc 6 1, 41, 0, .int (1), [], [])), (41, (.goto (-29), 44, 12, .null, [], [])), (44, (.iload_n 1, 45, 0, .null, [], [])), (45, (.ifCond .ge 9, 48, 54, .null, [], [])), (48, (.aload_n 0, 49, 0, .null, [], [])), (49, (.bipush 45, 51, 0, .int (45), [], [])), (51, (.invokevirtual 38, 54, 0, .null, [], [])), (54, (.iconst 0, 55, 0, .int (0), [], [])), (55, (.istore 6, 57, 0, .null, [], [])), (57, (.iload 6, 59, 0, .null, [], [])), (59, (.bipush 11, 61, 0, .int (11), [], [])), (61, (.if_icmp .ge 40, 64, 101, .null, [], [])), (64, (.lload 4, 66, 0, .null, [], [])), (66, (.lconst 0, 67, 0, .long 0, [], [])), (67, (.lcmp, 68, 0, .null, [], [])), (68, (.ifCond .le 33, 71, 101, .null, [], [])), (71, (.aload_n 0, 72, 0, .null, [], [])), (72, (.bipush 48, 74, 0, .int (48), [], [])), (74, (.lload_n 2, 75, 0, .null, [], [])), (75, (.lload 4, 77, 0, .null, [], [])), (77, (.ldiv, 78, 0, .null, [], [])), (78, (.ldc2_w 68, 81, 0, .long (10), [], [])), (81, (.lrem, 82, 0, .null, [], [])), (82, (.l2i, 83, 0, .null, [], [])), (83, (.iadd, 84, 0, .null, [], [])), (84, (.invokevirtual 38, 87, 0, .null, [], [])), (87, (.lload 4, 89, 0, .null, [], [])), (89, (.ldc2_w 68, 92, 0, .long (10), [], [])), (92, (.ldiv, 93, 0, .null, [], [])), (93, (.lstore 4, 95, 0, .null, [], [])), (95, (.iinc 6 1, 98, 0, .int (1), [], [])), (98, (.goto (-41), 101, 57, .null, [], [])), (101, (.aload_n 0, 102, 0, .null, [], [])), (102, (.bipush 59, 104, 0, .int (59), [], [])), (104, (.invokevirtual 38, 107, 0, .null, [], [])), (107, (.return_, 108, 0, .null, [], []))]
noncomputable abbrev jX3_putNumber : List (Nat × sf_J sf_S) := [(2, sf_jabsL), (51, sf_jV sf_layC [3] 2 gX3_put), (84, sf_jV sf_layC [3] 2 gX3_put), (104, sf_jV sf_layC [3] 2 gX3_put)]
abbrev wX3_putNumber_57 {ρ : Type} (k : Int64 → Int64 → Int32 → sf_S → Option ρ) : sf_M ρ := fun L st σ => sf_lda L 0 fun a0 => sf_eq a0 11 (sf_ldl L 2 fun x2 => sf_ldl L 4 fun x4 => sf_ldi L 6 fun x6 => sf_nil st (k x2 x4 x6 σ))
theorem wX3_putNumber_57_ok {ρ : Type} {Wt : Nat → sf_L → List Value → sf_S → Prop} {Post : ρ → Prop} (hm : sf_mono Wt) {k : Int64 → Int64 → Int32 → sf_S → Option ρ} (h : ∀ (x2 : Int64) (x4 : Int64) (x6 : Int32) (σ : sf_S) (u : ρ), k x2 x4 x6 σ = some u → Post u → Wt 57 [(0, some (.ref 11)), (2, some (.long x2)), (4, some (.long x4)), (6, some (.int x6))] [] σ) : sf_CK Wt Post 57 (wX3_putNumber_57 k) := by
  intro L st σ u hf hp
  unfold wX3_putNumber_57 at hf
  have hf0 := hf
  obtain ⟨a0, e0, hf1⟩ := sf_lda_inv hf0
  obtain ⟨rfl, hf2⟩ := sf_eq_inv hf1
  obtain ⟨x2, e2, hf3⟩ := sf_ldl_inv hf2
  obtain ⟨x4, e4, hf4⟩ := sf_ldl_inv hf3
  obtain ⟨x6, e6, hf5⟩ := sf_ldi_inv hf4
  obtain ⟨rfl, hz⟩ := sf_nil_inv hf5
  exact hm _ [(0, some (.ref _)), (2, some (.long x2)), (4, some (.long x4)), (6, some (.int x6))] _ _ _ (sf_le_ok (And.intro e0 (And.intro e2 (And.intro e4 (And.intro e6 trivial))))) (h _ _ _ _ _ hz hp)
abbrev wX3_putNumber_44 {ρ : Type} (k : Int32 → Int64 → Int64 → sf_S → Option ρ) : sf_M ρ := fun L st σ => sf_lda L 0 fun a0 => sf_eq a0 11 (sf_ldi L 1 fun x1 => sf_ldl L 2 fun x2 => sf_ldl L 4 fun x4 => sf_nil st (k x1 x2 x4 σ))
theorem wX3_putNumber_44_ok {ρ : Type} {Wt : Nat → sf_L → List Value → sf_S → Prop} {Post : ρ → Prop} (hm : sf_mono Wt) {k : Int32 → Int64 → Int64 → sf_S → Option ρ} (h : ∀ (x1 : Int32) (x2 : Int64) (x4 : Int64) (σ : sf_S) (u : ρ), k x1 x2 x4 σ = some u → Post u → Wt 44 [(0, some (.ref 11)), (1, some (.int x1)), (2, some (.long x2)), (4, some (.long x4))] [] σ) : sf_CK Wt Post 44 (wX3_putNumber_44 k) := by
  intro L st σ u hf hp
  unfold wX3_putNumber_44 at hf
  have hf0 := hf
  obtain ⟨a0, e0, hf1⟩ := sf_lda_inv hf0
  obtain ⟨rfl, hf2⟩ := sf_eq_inv hf1
  obtain ⟨x1, e1, hf3⟩ := sf_ldi_inv hf2
  obtain ⟨x2, e2, hf4⟩ := sf_ldl_inv hf3
  obtain ⟨x4, e4, hf5⟩ := sf_ldl_inv hf4
  obtain ⟨rfl, hz⟩ := sf_nil_inv hf5
  exact hm _ [(0, some (.ref _)), (1, some (.int x1)), (2, some (.long x2)), (4, some (.long x4))] _ _ _ (sf_le_ok (And.intro e0 (And.intro e1 (And.intro e2 (And.intro e4 trivial))))) (h _ _ _ _ _ hz hp)
abbrev wX3_putNumber_12 {ρ : Type} (k : Int32 → Int64 → Int64 → Int32 → sf_S → Option ρ) : sf_M ρ := fun L st σ => sf_lda L 0 fun a0 => sf_eq a0 11 (sf_ldi L 1 fun x1 => sf_ldl L 2 fun x2 => sf_ldl L 4 fun x4 => sf_ldi L 6 fun x6 => sf_nil st (k x1 x2 x4 x6 σ))
theorem wX3_putNumber_12_ok {ρ : Type} {Wt : Nat → sf_L → List Value → sf_S → Prop} {Post : ρ → Prop} (hm : sf_mono Wt) {k : Int32 → Int64 → Int64 → Int32 → sf_S → Option ρ} (h : ∀ (x1 : Int32) (x2 : Int64) (x4 : Int64) (x6 : Int32) (σ : sf_S) (u : ρ), k x1 x2 x4 x6 σ = some u → Post u → Wt 12 [(0, some (.ref 11)), (1, some (.int x1)), (2, some (.long x2)), (4, some (.long x4)), (6, some (.int x6))] [] σ) : sf_CK Wt Post 12 (wX3_putNumber_12 k) := by
  intro L st σ u hf hp
  unfold wX3_putNumber_12 at hf
  have hf0 := hf
  obtain ⟨a0, e0, hf1⟩ := sf_lda_inv hf0
  obtain ⟨rfl, hf2⟩ := sf_eq_inv hf1
  obtain ⟨x1, e1, hf3⟩ := sf_ldi_inv hf2
  obtain ⟨x2, e2, hf4⟩ := sf_ldl_inv hf3
  obtain ⟨x4, e4, hf5⟩ := sf_ldl_inv hf4
  obtain ⟨x6, e6, hf6⟩ := sf_ldi_inv hf5
  obtain ⟨rfl, hz⟩ := sf_nil_inv hf6
  exact hm _ [(0, some (.ref _)), (1, some (.int x1)), (2, some (.long x2)), (4, some (.long x4)), (6, some (.int x6))] _ _ _ (sf_le_ok (And.intro e0 (And.intro e1 (And.intro e2 (And.intro e4 (And.intro e6 trivial)))))) (h _ _ _ _ _ _ hz hp)
noncomputable def dX3_putNumber_57 : Nat → Int64 → Int64 → Int32 → sf_S → Option sf_S
  | 0 => fun _ _ _ _ => none
  | n + 1 => fun x2 x4 x6 σ =>
    if (11 : Int32) ≤ x6 then
      (dX3_put (59 : Int32) σ).bind fun u1 =>
      some u1
    else
      if (lg_cmp x4 (0 : Int64)) ≤ 0 then
        (dX3_put (59 : Int32) σ).bind fun u2 =>
        some u2
      else
        if x4 = 0 then
          none
        else
          let v3 := (x2 / x4)
          if (10 : Int64) = 0 then
            none
          else
            (dX3_put ((48 : Int32) + ((v3 - v3 / (10 : Int64) * (10 : Int64))).toInt32) σ).bind fun u4 =>
            if (10 : Int64) = 0 then
              none
            else
              let v5 := (x4 / (10 : Int64))
              dX3_putNumber_57 n x2 v5 (x6 + (1 : Int32)) u4
set_option maxRecDepth 100000 in
set_option maxHeartbeats 4000000 in
theorem rX3_putNumber_57 {Wt : Nat → sf_L → List Value → sf_S → Prop} {Post : sf_S → Prop} (hs : sf_Snd Wt sf_layC sf_hV jX3_putNumber tX3_putNumber Post) (hm : sf_mono Wt) : ∀ n : Nat, sf_CK Wt Post 57 (wX3_putNumber_57 (dX3_putNumber_57 n)) := by
  intro n
  induction n with
  | zero => exact wX3_putNumber_57_ok hm (fun x2 x4 x6 σ u h _ => by simp [dX3_putNumber_57] at h)
  | succ n ih =>
    refine wX3_putNumber_57_ok hm ?_
    intro x2 x4 x6 σ u h hp
    exact sf_run_ok hs (sf_sm_cons ih sf_sm_nil) 62 57 _ _ σ u h hp
noncomputable def dX3_putNumber_44 (x1 : Int32) (x2 : Int64) (x4 : Int64) (σ : sf_S) : Option sf_S :=
  if 0 ≤ x1 then
    dX3_putNumber_57 sf_F x2 x4 (0 : Int32) σ
  else
    (dX3_put (45 : Int32) σ).bind fun u1 =>
    dX3_putNumber_57 sf_F x2 x4 (0 : Int32) u1
set_option maxRecDepth 100000 in
set_option maxHeartbeats 4000000 in
theorem rX3_putNumber_44 {Wt : Nat → sf_L → List Value → sf_S → Prop} {Post : sf_S → Prop} (hs : sf_Snd Wt sf_layC sf_hV jX3_putNumber tX3_putNumber Post) (hm : sf_mono Wt) : sf_CK Wt Post 44 (wX3_putNumber_44 (dX3_putNumber_44)) := by
  refine wX3_putNumber_44_ok hm ?_
  intro x1 x2 x4 σ u h hp
  exact sf_run_ok hs (sf_sm_cons (rX3_putNumber_57 hs hm sf_F) sf_sm_nil) 62 44 _ _ σ u h hp
noncomputable def dX3_putNumber_12 : Nat → Int32 → Int64 → Int64 → Int32 → sf_S → Option sf_S
  | 0 => fun _ _ _ _ _ => none
  | n + 1 => fun x1 x2 x4 x6 σ =>
    if (10 : Int32) ≤ x6 then
      dX3_putNumber_44 x1 x2 x4 σ
    else
      if 0 < (lg_cmp (x4 * (10 : Int64)) x2) then
        dX3_putNumber_44 x1 x2 x4 σ
      else
        let v1 := (x4 * (10 : Int64))
        dX3_putNumber_12 n x1 x2 v1 (x6 + (1 : Int32)) σ
set_option maxRecDepth 100000 in
set_option maxHeartbeats 4000000 in
theorem rX3_putNumber_12 {Wt : Nat → sf_L → List Value → sf_S → Prop} {Post : sf_S → Prop} (hs : sf_Snd Wt sf_layC sf_hV jX3_putNumber tX3_putNumber Post) (hm : sf_mono Wt) : ∀ n : Nat, sf_CK Wt Post 12 (wX3_putNumber_12 (dX3_putNumber_12 n)) := by
  intro n
  induction n with
  | zero => exact wX3_putNumber_12_ok hm (fun x1 x2 x4 x6 σ u h _ => by simp [dX3_putNumber_12] at h)
  | succ n ih =>
    refine wX3_putNumber_12_ok hm ?_
    intro x1 x2 x4 x6 σ u h hp
    exact sf_run_ok hs (sf_sm_cons ih (sf_sm_cons (rX3_putNumber_44 hs hm) sf_sm_nil)) 62 12 _ _ σ u h hp
noncomputable def dX3_putNumber (x1 : Int32) (σ : sf_S) : Option sf_S :=
  let v1 := (if 0 < x1.toInt64 then x1.toInt64 else -x1.toInt64)
  dX3_putNumber_12 sf_F x1 v1 (1 : Int64) (0 : Int32) σ
noncomputable abbrev gX3_putNumber (av : List Value) (σ : sf_S) : Option sf_S := match av with
  | [.ref q, .int x1] => (match sf_rv [11] q with | true => dX3_putNumber x1 σ | false => none)
  | _ => none
set_option maxRecDepth 100000 in
set_option maxHeartbeats 4000000 in
theorem rX3_putNumber {Wt : Nat → sf_L → List Value → sf_S → Prop} {Post : sf_S → Prop} (hs : sf_Snd Wt sf_layC sf_hV jX3_putNumber tX3_putNumber Post) (hm : sf_mono Wt) : ∀ av σ u, gX3_putNumber av σ = some u → Post u → (∀ ad, (lg_sl (av.map (sf_v ad))).length ≤ 7) ∧ Wt 0 (sf_ent 0 av) [] σ := by
  intro av σ u h hp
  unfold gX3_putNumber at h
  split at h
  · rename_i q x1
    split at h
    · rename_i hq
      have hq : q = 11 := by simpa using sf_rv_mem hq
      subst hq
      refine ⟨fun ad => Nat.le_of_ble_eq_true rfl, ?_⟩
      exact sf_run_ok hs (sf_sm_cons (rX3_putNumber_12 hs hm sf_F) sf_sm_nil) 62 0 _ _ σ u h hp
    · cases h
  · cases h
theorem kX3_putNumber (l : Launch) : sf_C l sf_layC yX3_putNumber cX3_putNumber 7 none (sf_rm 2 121) (fun av σ => (gX3_putNumber av σ).map sf_vV) :=
  sf_met (tab := tX3_putNumber) (J := jX3_putNumber) (fl := sf_fl3) (cl := sf_cl3) (by decide +kernel) ⟨rfl, rfl⟩ sf_RH_V (by decide +kernel) sf_fl3_ok sf_cl3_ok
    (sf_JO_cons (sf_je_absL (by decide +kernel : decode cX3_putNumber 2 = .ok (.invokestatic 62, 3)) wt_603 wt_604 wt_89 wt_605 (sf_RB_of (by omega) (by omega))) (sf_JO_cons (sf_je_V (n := 2) (cs := [3]) (tv := sf_vV) (kX3_put l) mwX3_put (by decide +kernel : decode cX3_putNumber 51 = .ok (.invokevirtual 38, 3)) wt_588 wt_590 wt_23 (by decide +kernel) (by decide) (by decide) (List.forall_mem_cons.mpr ⟨⟨_, _, rfl⟩, fun _ h => absurd h List.not_mem_nil⟩) (sf_RM_of (by omega) (by omega))) (sf_JO_cons (sf_je_V (n := 2) (cs := [3]) (tv := sf_vV) (kX3_put l) mwX3_put (by decide +kernel : decode cX3_putNumber 84 = .ok (.invokevirtual 38, 3)) wt_588 wt_590 wt_23 (by decide +kernel) (by decide) (by decide) (List.forall_mem_cons.mpr ⟨⟨_, _, rfl⟩, fun _ h => absurd h List.not_mem_nil⟩) (sf_RM_of (by omega) (by omega))) (sf_JO_cons (sf_je_V (n := 2) (cs := [3]) (tv := sf_vV) (kX3_put l) mwX3_put (by decide +kernel : decode cX3_putNumber 104 = .ok (.invokevirtual 38, 3)) wt_588 wt_590 wt_23 (by decide +kernel) (by decide) (by decide) (List.forall_mem_cons.mpr ⟨⟨_, _, rfl⟩, fun _ h => absurd h List.not_mem_nil⟩) (sf_RM_of (by omega) (by omega))) (sf_JO_nil)))))
    (fun Wt Post hs hm => rX3_putNumber hs hm)
-- ===== StreamFuser$Printer.printNode(I)V =====
abbrev tX3_printNode : List (Nat × sf_E) := [(0, (.aload_n 0, 1, 0, .null, [], [])), (1, (.getfield 13, 4, 0, .null, [], [(3, 0)])), (4, (.getfield 30, 7, 0, .null, [], [(2, 0)])), (7, (.iload_n 1, 8, 0, .null, [], [])), (8, (.iaload, 9, 0, .null, [], [])), (9, (.istore_n 2, 10, 0, .null, [], [])), (10, (.iload_n 2, 11, 0, .null, [], [])), (11, (.invokestatic 34, 14, 0, .null, [], [])), (14, (.istore_n 3, 15, 0, .null, [], [])), (15, (.aload_n 0, 16, 0, .null, [], [])), (16, (.iload_n 2, 17, 0, .null, [], [])), (17, (.invokevirtual 38, 20, 0, .null, [], [])), (20, (.iload_n 2, 21, 0, .null, [], [])), (21, (.invokestatic 41, 24, 0, .null, [], [])), (24, (.ifCond .eq 22, 27, 46, .null, [], [])), (27, (.aload_n 0, 28, 0, .null, [], [])), (28, (.bipush 48, 30, 0, .int (48), [], [])), (30, (.aload_n 0, 31, 0, .null, [], [])), (31, (.getfield 13, 34, 0, .null, [], [(3, 0)])), (34, (.getfield 47, 37, 0, .null, [], [(2, 1)])), (37, (.iload_n 1, 38, 0, .null, [], [])), (38, (.iaload, 39, 0, .null, [], [])), (39, (.iadd, 40, 0, .null, [], [])), (40, (.invokevirtual 38, 43, 0, .null, [], [])), (43, (.goto 23, 46, 66, .null, [], [])), (46, (.iload_n 2, 47, 0, .null, [], [])), (47, (.invokestatic 50, 50, 0, .null, [], [])), (50, (.ifCond .eq 16, 53, 66, .null, [], [])), (53, (.aload_n 0, 54, 0, .null, [], [])), (54, (.aload_n 0, 55, 0, .null, [], [])), (55, (.getfield 13, 58, 0, .null, [], [(3, 0)])), (58, (.getfield 47, 61, 0, .null, [], [(2, 1)])), (61, (.iload_n 1, 62, 0, .null, [], [])), (62, (.iaload, 63, 0, .null, [], [])), (63, (.invokevirtual 38, 66, 0, .null, [], [])), (66, (.iload_n 3, 67, 0, .null, [], [])), (67, (.ifCond .le 16, 70, 83, .null, [], [])), (70, (.aload_n 0, 71, 0, .null, [], [])), (71, (.aload_n 0, 72, 0, .null, [], [])), (72, (.getfield 13, 75, 0, .null, [], [(3, 0)])), (75, (.getfield 53, 78, 0, .null, [], [(2, 2)])), (78, (.iload_n 1, 79, 0, .null, [], [])), (79, (.iaload, 80, 0, .null, [], [])), (80, (.invokevirtual 56, 83, 0, .null, [], [])), (83, (.iload_n 3, 84, 0, .null, [], [])), (84, (.iconst 1, 85, 0, .int (1), [], [])), (85, (.if_icmp .le 16, 88, 101, .null, [], [])), (88, (.aload_n 0, 89, 0, .null, [], [])), (89, (.aload_n 0, 90, 0, .null, [], [])), (90, (.getfield 13, 93, 0, .null, [], [(3, 0)])), (93, (.getfield 59, 96, 0, .null, [], [(2, 3)])), (96, (.iload_n 1, 97, 0, .null, [], [])), (97, (.iaload, 98, 0, .null, [], [])), (98, (.invokevirtual 56, 101, 0, .null, [], [])), (101, (.return_, 102, 0, .null, [], []))]
noncomputable abbrev jX3_printNode : List (Nat × sf_J sf_S) := [(11, sf_jI sf_layC [] 1 gX2_numbersOf), (17, sf_jV sf_layC [3] 2 gX3_put), (21, sf_jI sf_layC [] 1 gX4_hasDigit), (40, sf_jV sf_layC [3] 2 gX3_put), (47, sf_jI sf_layC [] 1 gX4_hasMark), (63, sf_jV sf_layC [3] 2 gX3_put), (80, sf_jV sf_layC [3] 2 gX3_putNumber), (98, sf_jV sf_layC [3] 2 gX3_putNumber)]
abbrev wX3_printNode_83 {ρ : Type} (k : Int32 → Int32 → sf_S → Option ρ) : sf_M ρ := fun L st σ => sf_lda L 0 fun a0 => sf_eq a0 11 (sf_ldi L 1 fun x1 => sf_ldi L 3 fun x3 => sf_nil st (k x1 x3 σ))
theorem wX3_printNode_83_ok {ρ : Type} {Wt : Nat → sf_L → List Value → sf_S → Prop} {Post : ρ → Prop} (hm : sf_mono Wt) {k : Int32 → Int32 → sf_S → Option ρ} (h : ∀ (x1 : Int32) (x3 : Int32) (σ : sf_S) (u : ρ), k x1 x3 σ = some u → Post u → Wt 83 [(0, some (.ref 11)), (1, some (.int x1)), (3, some (.int x3))] [] σ) : sf_CK Wt Post 83 (wX3_printNode_83 k) := by
  intro L st σ u hf hp
  unfold wX3_printNode_83 at hf
  have hf0 := hf
  obtain ⟨a0, e0, hf1⟩ := sf_lda_inv hf0
  obtain ⟨rfl, hf2⟩ := sf_eq_inv hf1
  obtain ⟨x1, e1, hf3⟩ := sf_ldi_inv hf2
  obtain ⟨x3, e3, hf4⟩ := sf_ldi_inv hf3
  obtain ⟨rfl, hz⟩ := sf_nil_inv hf4
  exact hm _ [(0, some (.ref _)), (1, some (.int x1)), (3, some (.int x3))] _ _ _ (sf_le_ok (And.intro e0 (And.intro e1 (And.intro e3 trivial)))) (h _ _ _ _ hz hp)
abbrev wX3_printNode_66 {ρ : Type} (k : Int32 → Int32 → sf_S → Option ρ) : sf_M ρ := fun L st σ => sf_lda L 0 fun a0 => sf_eq a0 11 (sf_ldi L 1 fun x1 => sf_ldi L 3 fun x3 => sf_nil st (k x1 x3 σ))
theorem wX3_printNode_66_ok {ρ : Type} {Wt : Nat → sf_L → List Value → sf_S → Prop} {Post : ρ → Prop} (hm : sf_mono Wt) {k : Int32 → Int32 → sf_S → Option ρ} (h : ∀ (x1 : Int32) (x3 : Int32) (σ : sf_S) (u : ρ), k x1 x3 σ = some u → Post u → Wt 66 [(0, some (.ref 11)), (1, some (.int x1)), (3, some (.int x3))] [] σ) : sf_CK Wt Post 66 (wX3_printNode_66 k) := by
  intro L st σ u hf hp
  unfold wX3_printNode_66 at hf
  have hf0 := hf
  obtain ⟨a0, e0, hf1⟩ := sf_lda_inv hf0
  obtain ⟨rfl, hf2⟩ := sf_eq_inv hf1
  obtain ⟨x1, e1, hf3⟩ := sf_ldi_inv hf2
  obtain ⟨x3, e3, hf4⟩ := sf_ldi_inv hf3
  obtain ⟨rfl, hz⟩ := sf_nil_inv hf4
  exact hm _ [(0, some (.ref _)), (1, some (.int x1)), (3, some (.int x3))] _ _ _ (sf_le_ok (And.intro e0 (And.intro e1 (And.intro e3 trivial)))) (h _ _ _ _ hz hp)
noncomputable def dX3_printNode_83 (x1 : Int32) (x3 : Int32) (σ : sf_S) : Option sf_S :=
  if x3 ≤ (1 : Int32) then
    some σ
  else
    if sf_in x1 40 then
      (dX3_putNumber (σ 5 x1.toNatClampNeg) σ).bind fun u1 =>
      some u1
    else
      none
set_option maxRecDepth 100000 in
set_option maxHeartbeats 4000000 in
theorem rX3_printNode_83 {Wt : Nat → sf_L → List Value → sf_S → Prop} {Post : sf_S → Prop} (hs : sf_Snd Wt sf_layC sf_hV jX3_printNode tX3_printNode Post) (hm : sf_mono Wt) : sf_CK Wt Post 83 (wX3_printNode_83 (dX3_printNode_83)) := by
  refine wX3_printNode_83_ok hm ?_
  intro x1 x3 σ u h hp
  exact sf_run_ok hs sf_sm_nil 60 83 _ _ σ u h hp
noncomputable def dX3_printNode_66 (x1 : Int32) (x3 : Int32) (σ : sf_S) : Option sf_S :=
  if x3 ≤ 0 then
    dX3_printNode_83 x1 x3 σ
  else
    if sf_in x1 40 then
      (dX3_putNumber (σ 4 x1.toNatClampNeg) σ).bind fun u1 =>
      dX3_printNode_83 x1 x3 u1
    else
      none
set_option maxRecDepth 100000 in
set_option maxHeartbeats 4000000 in
theorem rX3_printNode_66 {Wt : Nat → sf_L → List Value → sf_S → Prop} {Post : sf_S → Prop} (hs : sf_Snd Wt sf_layC sf_hV jX3_printNode tX3_printNode Post) (hm : sf_mono Wt) : sf_CK Wt Post 66 (wX3_printNode_66 (dX3_printNode_66)) := by
  refine wX3_printNode_66_ok hm ?_
  intro x1 x3 σ u h hp
  exact sf_run_ok hs (sf_sm_cons (rX3_printNode_83 hs hm) sf_sm_nil) 60 66 _ _ σ u h hp
noncomputable def dX3_printNode (x1 : Int32) (σ : sf_S) : Option sf_S :=
  if sf_in x1 40 then
    let v1 := (σ 2 x1.toNatClampNeg)
    (dX2_numbersOf v1 σ).bind fun u2 =>
    (dX3_put v1 u2.2).bind fun u3 =>
    (dX4_hasDigit v1 u3).bind fun u4 =>
    if u4.1 = 0 then
      (dX4_hasMark v1 u4.2).bind fun u5 =>
      if u5.1 = 0 then
        dX3_printNode_66 x1 u2.1 u5.2
      else
        if sf_in x1 40 then
          (dX3_put (u5.2 3 x1.toNatClampNeg) u5.2).bind fun u6 =>
          dX3_printNode_66 x1 u2.1 u6
        else
          none
    else
      if sf_in x1 40 then
        (dX3_put ((48 : Int32) + (u4.2 3 x1.toNatClampNeg)) u4.2).bind fun u7 =>
        dX3_printNode_66 x1 u2.1 u7
      else
        none
  else
    none
noncomputable abbrev gX3_printNode (av : List Value) (σ : sf_S) : Option sf_S := match av with
  | [.ref q, .int x1] => (match sf_rv [11] q with | true => dX3_printNode x1 σ | false => none)
  | _ => none
set_option maxRecDepth 100000 in
set_option maxHeartbeats 4000000 in
theorem rX3_printNode {Wt : Nat → sf_L → List Value → sf_S → Prop} {Post : sf_S → Prop} (hs : sf_Snd Wt sf_layC sf_hV jX3_printNode tX3_printNode Post) (hm : sf_mono Wt) : ∀ av σ u, gX3_printNode av σ = some u → Post u → (∀ ad, (lg_sl (av.map (sf_v ad))).length ≤ 4) ∧ Wt 0 (sf_ent 0 av) [] σ := by
  intro av σ u h hp
  unfold gX3_printNode at h
  split at h
  · rename_i q x1
    split at h
    · rename_i hq
      have hq : q = 11 := by simpa using sf_rv_mem hq
      subst hq
      refine ⟨fun ad => Nat.le_of_ble_eq_true rfl, ?_⟩
      exact sf_run_ok hs (sf_sm_cons (rX3_printNode_66 hs hm) sf_sm_nil) 60 0 _ _ σ u h hp
    · cases h
  · cases h
theorem kX3_printNode (l : Launch) : sf_C l sf_layC yX3_printNode cX3_printNode 4 none (sf_rm 3 147) (fun av σ => (gX3_printNode av σ).map sf_vV) :=
  sf_met (tab := tX3_printNode) (J := jX3_printNode) (fl := sf_fl3) (cl := sf_cl3) (by decide +kernel) ⟨rfl, rfl⟩ sf_RH_V (by decide +kernel) sf_fl3_ok sf_cl3_ok
    (sf_JO_cons (sf_je_SN (n := 1) (tv := sf_vI) "StreamFuser" (kX2_numbersOf l) mwX2_numbersOf (by decide +kernel : decode cX3_printNode 11 = .ok (.invokestatic 34, 3)) wt_585 wt_586 (by decide +kernel) (sf_RM_of (by omega) (by omega))) (sf_JO_cons (sf_je_V (n := 2) (cs := [3]) (tv := sf_vV) (kX3_put l) mwX3_put (by decide +kernel : decode cX3_printNode 17 = .ok (.invokevirtual 38, 3)) wt_588 wt_590 wt_23 (by decide +kernel) (by decide) (by decide) (List.forall_mem_cons.mpr ⟨⟨_, _, rfl⟩, fun _ h => absurd h List.not_mem_nil⟩) (sf_RM_of (by omega) (by omega))) (sf_JO_cons (sf_je_SN (n := 1) (tv := sf_vI) "StreamFuser" (kX4_hasDigit l) mwX4_hasDigit (by decide +kernel : decode cX3_printNode 21 = .ok (.invokestatic 41, 3)) wt_592 wt_593 (by decide +kernel) (sf_RM_of (by omega) (by omega))) (sf_JO_cons (sf_je_V (n := 2) (cs := [3]) (tv := sf_vV) (kX3_put l) mwX3_put (by decide +kernel : decode cX3_printNode 40 = .ok (.invokevirtual 38, 3)) wt_588 wt_590 wt_23 (by decide +kernel) (by decide) (by decide) (List.forall_mem_cons.mpr ⟨⟨_, _, rfl⟩, fun _ h => absurd h List.not_mem_nil⟩) (sf_RM_of (by omega) (by omega))) (sf_JO_cons (sf_je_SN (n := 1) (tv := sf_vI) "StreamFuser" (kX4_hasMark l) mwX4_hasMark (by decide +kernel : decode cX3_printNode 47 = .ok (.invokestatic 50, 3)) wt_595 wt_596 (by decide +kernel) (sf_RM_of (by omega) (by omega))) (sf_JO_cons (sf_je_V (n := 2) (cs := [3]) (tv := sf_vV) (kX3_put l) mwX3_put (by decide +kernel : decode cX3_printNode 63 = .ok (.invokevirtual 38, 3)) wt_588 wt_590 wt_23 (by decide +kernel) (by decide) (by decide) (List.forall_mem_cons.mpr ⟨⟨_, _, rfl⟩, fun _ h => absurd h List.not_mem_nil⟩) (sf_RM_of (by omega) (by omega))) (sf_JO_cons (sf_je_V (n := 2) (cs := [3]) (tv := sf_vV) (kX3_putNumber l) mwX3_putNumber (by decide +kernel : decode cX3_printNode 80 = .ok (.invokevirtual 56, 3)) wt_599 wt_601 wt_24 (by decide +kernel) (by decide) (by decide) (List.forall_mem_cons.mpr ⟨⟨_, _, rfl⟩, fun _ h => absurd h List.not_mem_nil⟩) (sf_RM_of (by omega) (by omega))) (sf_JO_cons (sf_je_V (n := 2) (cs := [3]) (tv := sf_vV) (kX3_putNumber l) mwX3_putNumber (by decide +kernel : decode cX3_printNode 98 = .ok (.invokevirtual 56, 3)) wt_599 wt_601 wt_24 (by decide +kernel) (by decide) (by decide) (List.forall_mem_cons.mpr ⟨⟨_, _, rfl⟩, fun _ h => absurd h List.not_mem_nil⟩) (sf_RM_of (by omega) (by omega))) (sf_JO_nil)))))))))
    (fun Wt Post hs hm => rX3_printNode hs hm)
-- ===== StreamFuser$Printer.print()V =====
abbrev tX3_print : List (Nat × sf_E) := [(0, (.aload_n 0, 1, 0, .null, [], [])), (1, (.iconst 0, 2, 0, .int (0), [], [])), (2, (.putfield 17, 5, 0, .null, [], [(3, 2)])), (5, (.iconst 0, 6, 0, .int (0), [], [])), (6, (.istore_n 1, 7, 0, .null, [], [])), (7, (.iload_n 1, 8, 0, .null, [], [])), (8, (.aload_n 0, 9, 0, .null, [], [])), (9, (.getfield 13, 12, 0, .null, [], [(3, 0)])), (12, (.getfield 21, 15, 0, .null, [], [(2, 4)])), (15, (.if_icmp .ge 14, 18, 29, .null, [], [])), (18, (.aload_n 0, 19, 0, .null, [], [])), (19, (.iload_n 1, 20, 0, .null, [], [])), (20, (.invokevirtual 26, 23, 0, .null, [], [])), (23, (.iinc 1 1, 26, 0, .int (1), [], [])), (26, (.goto (-19), 29, 7, .null, [], [])), (29, (.return_, 30, 0, .null, [], []))]
noncomputable abbrev jX3_print : List (Nat × sf_J sf_S) := [(20, sf_jV sf_layC [3] 2 gX3_printNode)]
abbrev wX3_print_7 {ρ : Type} (k : Int32 → sf_S → Option ρ) : sf_M ρ := fun L st σ => sf_lda L 0 fun a0 => sf_eq a0 11 (sf_ldi L 1 fun x1 => sf_nil st (k x1 σ))
theorem wX3_print_7_ok {ρ : Type} {Wt : Nat → sf_L → List Value → sf_S → Prop} {Post : ρ → Prop} (hm : sf_mono Wt) {k : Int32 → sf_S → Option ρ} (h : ∀ (x1 : Int32) (σ : sf_S) (u : ρ), k x1 σ = some u → Post u → Wt 7 [(0, some (.ref 11)), (1, some (.int x1))] [] σ) : sf_CK Wt Post 7 (wX3_print_7 k) := by
  intro L st σ u hf hp
  unfold wX3_print_7 at hf
  have hf0 := hf
  obtain ⟨a0, e0, hf1⟩ := sf_lda_inv hf0
  obtain ⟨rfl, hf2⟩ := sf_eq_inv hf1
  obtain ⟨x1, e1, hf3⟩ := sf_ldi_inv hf2
  obtain ⟨rfl, hz⟩ := sf_nil_inv hf3
  exact hm _ [(0, some (.ref _)), (1, some (.int x1))] _ _ _ (sf_le_ok (And.intro e0 (And.intro e1 trivial))) (h _ _ _ hz hp)
noncomputable def dX3_print_7 : Nat → Int32 → sf_S → Option sf_S
  | 0 => fun _ _ => none
  | n + 1 => fun x1 σ =>
    if (σ 1 4) ≤ x1 then
      some σ
    else
      (dX3_printNode x1 σ).bind fun u1 =>
      dX3_print_7 n (x1 + (1 : Int32)) u1
set_option maxRecDepth 100000 in
set_option maxHeartbeats 4000000 in
theorem rX3_print_7 {Wt : Nat → sf_L → List Value → sf_S → Prop} {Post : sf_S → Prop} (hs : sf_Snd Wt sf_layC sf_hV jX3_print tX3_print Post) (hm : sf_mono Wt) : ∀ n : Nat, sf_CK Wt Post 7 (wX3_print_7 (dX3_print_7 n)) := by
  intro n
  induction n with
  | zero => exact wX3_print_7_ok hm (fun x1 σ u h _ => by simp [dX3_print_7] at h)
  | succ n ih =>
    refine wX3_print_7_ok hm ?_
    intro x1 σ u h hp
    exact sf_run_ok hs (sf_sm_cons ih sf_sm_nil) 21 7 _ _ σ u h hp
noncomputable def dX3_print (σ : sf_S) : Option sf_S :=
  let s1 := sf_up σ 11 2 (0 : Int32)
  dX3_print_7 sf_F (0 : Int32) s1
noncomputable abbrev gX3_print (av : List Value) (σ : sf_S) : Option sf_S := match av with
  | [.ref q] => (match sf_rv [11] q with | true => dX3_print σ | false => none)
  | _ => none
set_option maxRecDepth 100000 in
set_option maxHeartbeats 4000000 in
theorem rX3_print {Wt : Nat → sf_L → List Value → sf_S → Prop} {Post : sf_S → Prop} (hs : sf_Snd Wt sf_layC sf_hV jX3_print tX3_print Post) (hm : sf_mono Wt) : ∀ av σ u, gX3_print av σ = some u → Post u → (∀ ad, (lg_sl (av.map (sf_v ad))).length ≤ 2) ∧ Wt 0 (sf_ent 0 av) [] σ := by
  intro av σ u h hp
  unfold gX3_print at h
  split at h
  · rename_i q
    split at h
    · rename_i hq
      have hq : q = 11 := by simpa using sf_rv_mem hq
      subst hq
      refine ⟨fun ad => Nat.le_of_ble_eq_true rfl, ?_⟩
      exact sf_run_ok hs (sf_sm_cons (rX3_print_7 hs hm sf_F) sf_sm_nil) 21 0 _ _ σ u h hp
    · cases h
  · cases h
theorem kX3_print (l : Launch) : sf_C l sf_layC yX3_print cX3_print 2 none (sf_rm 4 170) (fun av σ => (gX3_print av σ).map sf_vV) :=
  sf_met (tab := tX3_print) (J := jX3_print) (fl := sf_fl3) (cl := sf_cl3) (by decide +kernel) ⟨rfl, rfl⟩ sf_RH_V (by decide +kernel) sf_fl3_ok sf_cl3_ok
    (sf_JO_cons (sf_je_V (n := 2) (cs := [3]) (tv := sf_vV) (kX3_printNode l) mwX3_printNode (by decide +kernel : decode cX3_print 20 = .ok (.invokevirtual 26, 3)) wt_581 wt_583 wt_22 (by decide +kernel) (by decide) (by decide) (List.forall_mem_cons.mpr ⟨⟨_, _, rfl⟩, fun _ h => absurd h List.not_mem_nil⟩) (sf_RM_of (by omega) (by omega))) (sf_JO_nil))
    (fun Wt Post hs hm => rX3_print hs hm)
