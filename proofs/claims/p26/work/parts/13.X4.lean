/-! ===== 13.X4 ===== -/
-- ===== StreamFuser$Reader.append(I)Z =====
abbrev tX4_append : List (Nat × sf_E) := [(0, (.aload_n 0, 1, 0, .null, [], [])), (1, (.getfield 22, 4, 0, .null, [], [(4, 2)])), (4, (.bipush 40, 6, 0, .int (40), [], [])), (6, (.if_icmp .lt 5, 9, 11, .null, [], [])), (9, (.iconst 0, 10, 0, .int (0), [], [])), (10, (.ireturn, 11, 0, .null, [], [])), (11, (.aload_n 0, 12, 0, .null, [], [])), (12, (.getfield 9, 15, 0, .null, [], [(4, 1)])), (15, (.aload_n 0, 16, 0, .null, [], [])), (16, (.getfield 22, 19, 0, .null, [], [(4, 2)])), (19, (.iload_n 1, 20, 0, .null, [], [])), (20, (.iastore, 21, 0, .null, [], [])), (21, (.aload_n 0, 22, 0, .null, [], [])), (22, (.dup, 23, 0, .null, [], [])), (23, (.getfield 22, 26, 0, .null, [], [(4, 2)])), (26, (.iconst 1, 27, 0, .int (1), [], [])), (27, (.iadd, 28, 0, .null, [], [])), (28, (.putfield 22, 31, 0, .null, [], [(4, 2)])), (31, (.iconst 1, 32, 0, .int (1), [], [])), (32, (.ireturn, 33, 0, .null, [], []))]
noncomputable abbrev jX4_append : List (Nat × sf_J (Int32 × sf_S)) := []
noncomputable def dX4_append (x1 : Int32) (σ : sf_S) : Option (Int32 × sf_S) :=
  if (σ 46 2) < (40 : Int32) then
    let v1 := (σ 46 2)
    if sf_in v1 40 then
      let s2 := sf_up σ 47 v1.toNatClampNeg x1
      let s3 := sf_up s2 46 2 ((s2 46 2) + (1 : Int32))
      some ((1 : Int32), s3)
    else
      none
  else
    some ((0 : Int32), σ)
noncomputable abbrev gX4_append (av : List Value) (σ : sf_S) : Option (Int32 × sf_S) := match av with
  | [.ref q, .int x1] => (match sf_rv [46] q with | true => dX4_append x1 σ | false => none)
  | _ => none
set_option maxRecDepth 100000 in
set_option maxHeartbeats 4000000 in
theorem rX4_append {Wt : Nat → sf_L → List Value → sf_S → Prop} {Post : (Int32 × sf_S) → Prop} (hs : sf_Snd Wt sf_layC sf_hZ jX4_append tX4_append Post) (hm : sf_mono Wt) : ∀ av σ u, gX4_append av σ = some u → Post u → (∀ ad, (lg_sl (av.map (sf_v ad))).length ≤ 2) ∧ Wt 0 (sf_ent 0 av) [] σ := by
  intro av σ u h hp
  unfold gX4_append at h
  split at h
  · rename_i q x1
    split at h
    · rename_i hq
      have hq : q = 46 := by simpa using sf_rv_mem hq
      subst hq
      refine ⟨fun ad => Nat.le_of_ble_eq_true rfl, ?_⟩
      exact sf_run_ok hs sf_sm_nil 25 0 _ _ σ u h hp
    · cases h
  · cases h
theorem kX4_append (l : Launch) : sf_C l sf_layC yX4_append cX4_append 2 (some .boolean) (sf_rm 1 100) (fun av σ => (gX4_append av σ).map sf_vI) :=
  sf_met (tab := tX4_append) (J := jX4_append) (fl := sf_fl4) (cl := sf_cl4) (by decide +kernel) ⟨rfl, rfl⟩ sf_RH_Z (by decide +kernel) sf_fl4_ok sf_cl4_ok
    (sf_JO_nil)
    (fun Wt Post hs hm => rX4_append hs hm)
-- ===== StreamFuser$Reader.expect(I)V =====
abbrev tX4_expect : List (Nat × sf_E) := [(0, (.aload_n 0, 1, 0, .null, [], [])), (1, (.getfield 37, 4, 0, .null, [], [(4, 4)])), (4, (.bipush 40, 6, 0, .int (40), [], [])), (6, (.if_icmp .le 4, 9, 10, .null, [], [])), (9, (.return_, 10, 0, .null, [], [])), (10, (.aload_n 0, 11, 0, .null, [], [])), (11, (.getfield 15, 14, 0, .null, [], [(4, 3)])), (14, (.aload_n 0, 15, 0, .null, [], [])), (15, (.getfield 37, 18, 0, .null, [], [(4, 4)])), (18, (.iload_n 1, 19, 0, .null, [], [])), (19, (.iastore, 20, 0, .null, [], [])), (20, (.aload_n 0, 21, 0, .null, [], [])), (21, (.dup, 22, 0, .null, [], [])), (22, (.getfield 37, 25, 0, .null, [], [(4, 4)])), (25, (.iconst 1, 26, 0, .int (1), [], [])), (26, (.iadd, 27, 0, .null, [], [])), (27, (.putfield 37, 30, 0, .null, [], [(4, 4)])), (30, (.return_, 31, 0, .null, [], []))]
noncomputable abbrev jX4_expect : List (Nat × sf_J sf_S) := []
noncomputable def dX4_expect (x1 : Int32) (σ : sf_S) : Option sf_S :=
  if (σ 46 4) ≤ (40 : Int32) then
    let v1 := (σ 46 4)
    if sf_in v1 41 then
      let s2 := sf_up σ 48 v1.toNatClampNeg x1
      let s3 := sf_up s2 46 4 ((s2 46 4) + (1 : Int32))
      some s3
    else
      none
  else
    some σ
noncomputable abbrev gX4_expect (av : List Value) (σ : sf_S) : Option sf_S := match av with
  | [.ref q, .int x1] => (match sf_rv [46] q with | true => dX4_expect x1 σ | false => none)
  | _ => none
set_option maxRecDepth 100000 in
set_option maxHeartbeats 4000000 in
theorem rX4_expect {Wt : Nat → sf_L → List Value → sf_S → Prop} {Post : sf_S → Prop} (hs : sf_Snd Wt sf_layC sf_hV jX4_expect tX4_expect Post) (hm : sf_mono Wt) : ∀ av σ u, gX4_expect av σ = some u → Post u → (∀ ad, (lg_sl (av.map (sf_v ad))).length ≤ 2) ∧ Wt 0 (sf_ent 0 av) [] σ := by
  intro av σ u h hp
  unfold gX4_expect at h
  split at h
  · rename_i q x1
    split at h
    · rename_i hq
      have hq : q = 46 := by simpa using sf_rv_mem hq
      subst hq
      refine ⟨fun ad => Nat.le_of_ble_eq_true rfl, ?_⟩
      exact sf_run_ok hs sf_sm_nil 23 0 _ _ σ u h hp
    · cases h
  · cases h
theorem kX4_expect (l : Launch) : sf_C l sf_layC yX4_expect cX4_expect 2 none (sf_rm 1 100) (fun av σ => (gX4_expect av σ).map sf_vV) :=
  sf_met (tab := tX4_expect) (J := jX4_expect) (fl := sf_fl4) (cl := sf_cl4) (by decide +kernel) ⟨rfl, rfl⟩ sf_RH_V (by decide +kernel) sf_fl4_ok sf_cl4_ok
    (sf_JO_nil)
    (fun Wt Post hs hm => rX4_expect hs hm)
-- ===== StreamFuser$Reader.expectParts(II)V =====
abbrev tX4_expectParts : List (Nat × sf_E) := [(0, (.iload_n 1, 1, 0, .null, [], [])), (1, (.invokestatic 81, 4, 0, .null, [], [])), (4, (.istore_n 3, 5, 0, .null, [], [])), (5, (.iload_n 3, 6, 0, .null, [], [])), (6, (.iconst 1, 7, 0, .int (1), [], [])), (7, (.if_icmp .le 8, 10, 15, .null, [], [])), (10, (.aload_n 0, 11, 0, .null, [], [])), (11, (.iload_n 2, 12, 0, .null, [], [])), (12, (.invokevirtual 40, 15, 0, .null, [], [])), (15, (.iload_n 3, 16, 0, .null, [], [])), (16, (.ifCond .le 20, 19, 36, .null, [], [])), (19, (.aload_n 0, 20, 0, .null, [], [])), (20, (.iload_n 1, 21, 0, .null, [], [])), (21, (.bipush 120, 23, 0, .int (120), [], [])), (23, (.if_icmp .ne 9, 26, 32, .null, [], [])), (26, (.iload_n 2, 27, 0, .null, [], [])), (27, (.iconst 1, 28, 0, .int (1), [], [])), (28, (.iadd, 29, 0, .null, [], [])), (29, (.goto 4, 32, 33, .null, [], [])), (32, (.iload_n 2, 33, 0, .null, [], [])), (33, (.invokevirtual 40, 36, 0, .null, [], [])), (36, (.return_, 37, 0, .null, [], []))]
noncomputable abbrev jX4_expectParts : List (Nat × sf_J sf_S) := [(1, sf_jI sf_layC [] 1 gX2_partsOf), (12, sf_jV sf_layC [4] 2 gX4_expect), (33, sf_jV sf_layC [4] 2 gX4_expect)]
abbrev wX4_expectParts_15 {ρ : Type} (k : Int32 → Int32 → Int32 → sf_S → Option ρ) : sf_M ρ := fun L st σ => sf_lda L 0 fun a0 => sf_eq a0 46 (sf_ldi L 1 fun x1 => sf_ldi L 2 fun x2 => sf_ldi L 3 fun x3 => sf_nil st (k x1 x2 x3 σ))
theorem wX4_expectParts_15_ok {ρ : Type} {Wt : Nat → sf_L → List Value → sf_S → Prop} {Post : ρ → Prop} (hm : sf_mono Wt) {k : Int32 → Int32 → Int32 → sf_S → Option ρ} (h : ∀ (x1 : Int32) (x2 : Int32) (x3 : Int32) (σ : sf_S) (u : ρ), k x1 x2 x3 σ = some u → Post u → Wt 15 [(0, some (.ref 46)), (1, some (.int x1)), (2, some (.int x2)), (3, some (.int x3))] [] σ) : sf_CK Wt Post 15 (wX4_expectParts_15 k) := by
  intro L st σ u hf hp
  unfold wX4_expectParts_15 at hf
  have hf0 := hf
  obtain ⟨a0, e0, hf1⟩ := sf_lda_inv hf0
  obtain ⟨rfl, hf2⟩ := sf_eq_inv hf1
  obtain ⟨x1, e1, hf3⟩ := sf_ldi_inv hf2
  obtain ⟨x2, e2, hf4⟩ := sf_ldi_inv hf3
  obtain ⟨x3, e3, hf5⟩ := sf_ldi_inv hf4
  obtain ⟨rfl, hz⟩ := sf_nil_inv hf5
  exact hm _ [(0, some (.ref _)), (1, some (.int x1)), (2, some (.int x2)), (3, some (.int x3))] _ _ _ (sf_le_ok (And.intro e0 (And.intro e1 (And.intro e2 (And.intro e3 trivial))))) (h _ _ _ _ _ hz hp)
noncomputable def dX4_expectParts_15 (x1 : Int32) (x2 : Int32) (x3 : Int32) (σ : sf_S) : Option sf_S :=
  if x3 ≤ 0 then
    some σ
  else
    if ¬ x1 = (120 : Int32) then
      (dX4_expect x2 σ).bind fun u1 =>
      some u1
    else
      (dX4_expect (x2 + (1 : Int32)) σ).bind fun u2 =>
      some u2
set_option maxRecDepth 100000 in
set_option maxHeartbeats 4000000 in
theorem rX4_expectParts_15 {Wt : Nat → sf_L → List Value → sf_S → Prop} {Post : sf_S → Prop} (hs : sf_Snd Wt sf_layC sf_hV jX4_expectParts tX4_expectParts Post) (hm : sf_mono Wt) : sf_CK Wt Post 15 (wX4_expectParts_15 (dX4_expectParts_15)) := by
  refine wX4_expectParts_15_ok hm ?_
  intro x1 x2 x3 σ u h hp
  exact sf_run_ok hs sf_sm_nil 27 15 _ _ σ u h hp
noncomputable def dX4_expectParts (x1 : Int32) (x2 : Int32) (σ : sf_S) : Option sf_S :=
  (dX2_partsOf x1 σ).bind fun u1 =>
  if u1.1 ≤ (1 : Int32) then
    dX4_expectParts_15 x1 x2 u1.1 u1.2
  else
    (dX4_expect x2 u1.2).bind fun u2 =>
    dX4_expectParts_15 x1 x2 u1.1 u2
noncomputable abbrev gX4_expectParts (av : List Value) (σ : sf_S) : Option sf_S := match av with
  | [.ref q, .int x1, .int x2] => (match sf_rv [46] q with | true => dX4_expectParts x1 x2 σ | false => none)
  | _ => none
set_option maxRecDepth 100000 in
set_option maxHeartbeats 4000000 in
theorem rX4_expectParts {Wt : Nat → sf_L → List Value → sf_S → Prop} {Post : sf_S → Prop} (hs : sf_Snd Wt sf_layC sf_hV jX4_expectParts tX4_expectParts Post) (hm : sf_mono Wt) : ∀ av σ u, gX4_expectParts av σ = some u → Post u → (∀ ad, (lg_sl (av.map (sf_v ad))).length ≤ 4) ∧ Wt 0 (sf_ent 0 av) [] σ := by
  intro av σ u h hp
  unfold gX4_expectParts at h
  split at h
  · rename_i q x1 x2
    split at h
    · rename_i hq
      have hq : q = 46 := by simpa using sf_rv_mem hq
      subst hq
      refine ⟨fun ad => Nat.le_of_ble_eq_true rfl, ?_⟩
      exact sf_run_ok hs (sf_sm_cons (rX4_expectParts_15 hs hm) sf_sm_nil) 27 0 _ _ σ u h hp
    · cases h
  · cases h
theorem kX4_expectParts (l : Launch) : sf_C l sf_layC yX4_expectParts cX4_expectParts 4 none (sf_rm 2 121) (fun av σ => (gX4_expectParts av σ).map sf_vV) :=
  sf_met (tab := tX4_expectParts) (J := jX4_expectParts) (fl := sf_fl4) (cl := sf_cl4) (by decide +kernel) ⟨rfl, rfl⟩ sf_RH_V (by decide +kernel) sf_fl4_ok sf_cl4_ok
    (sf_JO_cons (sf_je_SN (n := 1) (tv := sf_vI) "StreamFuser" (kX2_partsOf l) mwX2_partsOf (by decide +kernel : decode cX4_expectParts 1 = .ok (.invokestatic 81, 3)) wt_980 wt_570 (by decide +kernel) (sf_RM_of (by omega) (by omega))) (sf_JO_cons (sf_je_V (n := 2) (cs := [4]) (tv := sf_vV) (kX4_expect l) mwX4_expect (by decide +kernel : decode cX4_expectParts 12 = .ok (.invokevirtual 40, 3)) wt_965 wt_967 wt_63 (by decide +kernel) (by decide) (by decide) (List.forall_mem_cons.mpr ⟨⟨_, _, rfl⟩, fun _ h => absurd h List.not_mem_nil⟩) (sf_RM_of (by omega) (by omega))) (sf_JO_cons (sf_je_V (n := 2) (cs := [4]) (tv := sf_vV) (kX4_expect l) mwX4_expect (by decide +kernel : decode cX4_expectParts 33 = .ok (.invokevirtual 40, 3)) wt_965 wt_967 wt_63 (by decide +kernel) (by decide) (by decide) (List.forall_mem_cons.mpr ⟨⟨_, _, rfl⟩, fun _ h => absurd h List.not_mem_nil⟩) (sf_RM_of (by omega) (by omega))) (sf_JO_nil))))
    (fun Wt Post hs hm => rX4_expectParts hs hm)
-- ===== StreamFuser$Reader.peek()I =====
abbrev tX4_peek : List (Nat × sf_E) := [(0, (.aload_n 0, 1, 0, .null, [], [])), (1, (.getfield 31, 4, 0, .null, [], [(4, 5)])), (4, (.ifCond .lt 26, 7, 30, .null, [], [])), (7, (.aload_n 0, 8, 0, .null, [], [])), (8, (.getfield 31, 11, 0, .null, [], [(4, 5)])), (11, (.aload_n 0, 12, 0, .null, [], [])), (12, (.getfield 22, 15, 0, .null, [], [(4, 2)])), (15, (.if_icmp .ge 15, 18, 30, .null, [], [])), (18, (.aload_n 0, 19, 0, .null, [], [])), (19, (.getfield 9, 22, 0, .null, [], [(4, 1)])), (22, (.aload_n 0, 23, 0, .null, [], [])), (23, (.getfield 31, 26, 0, .null, [], [(4, 5)])), (26, (.iaload, 27, 0, .null, [], [])), (27, (.goto 4, 30, 31, .null, [], [])), (30, (.iconst (-1), 31, 0, .int (-1), [], [])), (31, (.ireturn, 32, 0, .null, [], []))]
noncomputable abbrev jX4_peek : List (Nat × sf_J (Int32 × sf_S)) := []
noncomputable def dX4_peek (σ : sf_S) : Option (Int32 × sf_S) :=
  if (σ 46 5) < 0 then
    some ((-1 : Int32), σ)
  else
    if (σ 46 2) ≤ (σ 46 5) then
      some ((-1 : Int32), σ)
    else
      let v1 := (σ 46 5)
      if sf_in v1 40 then
        some ((σ 47 v1.toNatClampNeg), σ)
      else
        none
noncomputable abbrev gX4_peek (av : List Value) (σ : sf_S) : Option (Int32 × sf_S) := match av with
  | [.ref q] => (match sf_rv [46] q with | true => dX4_peek σ | false => none)
  | _ => none
set_option maxRecDepth 100000 in
set_option maxHeartbeats 4000000 in
theorem rX4_peek {Wt : Nat → sf_L → List Value → sf_S → Prop} {Post : (Int32 × sf_S) → Prop} (hs : sf_Snd Wt sf_layC sf_hI jX4_peek tX4_peek Post) (hm : sf_mono Wt) : ∀ av σ u, gX4_peek av σ = some u → Post u → (∀ ad, (lg_sl (av.map (sf_v ad))).length ≤ 1) ∧ Wt 0 (sf_ent 0 av) [] σ := by
  intro av σ u h hp
  unfold gX4_peek at h
  split at h
  · rename_i q
    split at h
    · rename_i hq
      have hq : q = 46 := by simpa using sf_rv_mem hq
      subst hq
      refine ⟨fun ad => Nat.le_of_ble_eq_true rfl, ?_⟩
      exact sf_run_ok hs sf_sm_nil 21 0 _ _ σ u h hp
    · cases h
  · cases h
theorem kX4_peek (l : Launch) : sf_C l sf_layC yX4_peek cX4_peek 1 (some .int) (sf_rm 1 100) (fun av σ => (gX4_peek av σ).map sf_vI) :=
  sf_met (tab := tX4_peek) (J := jX4_peek) (fl := sf_fl4) (cl := sf_cl4) (by decide +kernel) ⟨rfl, rfl⟩ sf_RH_I (by decide +kernel) sf_fl4_ok sf_cl4_ok
    (sf_JO_nil)
    (fun Wt Post hs hm => rX4_peek hs hm)
-- ===== StreamFuser$Reader.accept(Z)V =====
abbrev tX4_accept : List (Nat × sf_E) := [(0, (.aload_n 0, 1, 0, .null, [], [])), (1, (.getfield 34, 4, 0, .null, [], [(4, 6)])), (4, (.iconst (-1), 5, 0, .int (-1), [], [])), (5, (.if_icmp .eq 4, 8, 9, .null, [], [])), (8, (.return_, 9, 0, .null, [], [])), (9, (.iload_n 1, 10, 0, .null, [], [])), (10, (.ifCond .eq 27, 13, 37, .null, [], [])), (13, (.aload_n 0, 14, 0, .null, [], [])), (14, (.getfield 31, 17, 0, .null, [], [(4, 5)])), (17, (.aload_n 0, 18, 0, .null, [], [])), (18, (.getfield 22, 21, 0, .null, [], [(4, 2)])), (21, (.if_icmp .ge 16, 24, 37, .null, [], [])), (24, (.aload_n 0, 25, 0, .null, [], [])), (25, (.dup, 26, 0, .null, [], [])), (26, (.getfield 31, 29, 0, .null, [], [(4, 5)])), (29, (.iconst 1, 30, 0, .int (1), [], [])), (30, (.iadd, 31, 0, .null, [], [])), (31, (.putfield 31, 34, 0, .null, [], [(4, 5)])), (34, (.goto 11, 37, 45, .null, [], [])), (37, (.aload_n 0, 38, 0, .null, [], [])), (38, (.aload_n 0, 39, 0, .null, [], [])), (39, (.getfield 31, 42, 0, .null, [], [(4, 5)])), (42, (.putfield 34, 45, 0, .null, [], [(4, 6)])), (45, (.return_, 46, 0, .null, [], []))]
noncomputable abbrev jX4_accept : List (Nat × sf_J sf_S) := []
noncomputable def dX4_accept (x1 : Int32) (σ : sf_S) : Option sf_S :=
  if (σ 46 6) = (-1 : Int32) then
    if x1 = 0 then
      let s1 := sf_up σ 46 6 (σ 46 5)
      some s1
    else
      if (σ 46 2) ≤ (σ 46 5) then
        let s2 := sf_up σ 46 6 (σ 46 5)
        some s2
      else
        let s3 := sf_up σ 46 5 ((σ 46 5) + (1 : Int32))
        some s3
  else
    some σ
noncomputable abbrev gX4_accept (av : List Value) (σ : sf_S) : Option sf_S := match av with
  | [.ref q, .int x1] => (match sf_rv [46] q with | true => dX4_accept x1 σ | false => none)
  | _ => none
set_option maxRecDepth 100000 in
set_option maxHeartbeats 4000000 in
theorem rX4_accept {Wt : Nat → sf_L → List Value → sf_S → Prop} {Post : sf_S → Prop} (hs : sf_Snd Wt sf_layC sf_hV jX4_accept tX4_accept Post) (hm : sf_mono Wt) : ∀ av σ u, gX4_accept av σ = some u → Post u → (∀ ad, (lg_sl (av.map (sf_v ad))).length ≤ 2) ∧ Wt 0 (sf_ent 0 av) [] σ := by
  intro av σ u h hp
  unfold gX4_accept at h
  split at h
  · rename_i q x1
    split at h
    · rename_i hq
      have hq : q = 46 := by simpa using sf_rv_mem hq
      subst hq
      refine ⟨fun ad => Nat.le_of_ble_eq_true rfl, ?_⟩
      exact sf_run_ok hs sf_sm_nil 29 0 _ _ σ u h hp
    · cases h
  · cases h
theorem kX4_accept (l : Launch) : sf_C l sf_layC yX4_accept cX4_accept 2 none (sf_rm 1 100) (fun av σ => (gX4_accept av σ).map sf_vV) :=
  sf_met (tab := tX4_accept) (J := jX4_accept) (fl := sf_fl4) (cl := sf_cl4) (by decide +kernel) ⟨rfl, rfl⟩ sf_RH_V (by decide +kernel) sf_fl4_ok sf_cl4_ok
    (sf_JO_nil)
    (fun Wt Post hs hm => rX4_accept hs hm)
-- ===== StreamFuser$Reader.isLetter(II)Z =====
abbrev tX4_isLetter : List (Nat × sf_E) := [(0, (.iload_n 0, 1, 0, .null, [], [])), (1, (.bipush 117, 3, 0, .int (117), [], [])), (3, (.if_icmp .eq 9, 6, 12, .null, [], [])), (6, (.iload_n 0, 7, 0, .null, [], [])), (7, (.bipush 118, 9, 0, .int (118), [], [])), (9, (.if_icmp .ne 13, 12, 22, .null, [], [])), (12, (.iload_n 1, 13, 0, .null, [], [])), (13, (.ifCond .le 7, 16, 20, .null, [], [])), (16, (.iconst 1, 17, 0, .int (1), [], [])), (17, (.goto 4, 20, 21, .null, [], [])), (20, (.iconst 0, 21, 0, .int (0), [], [])), (21, (.ireturn, 22, 0, .null, [], [])), (22, (.iload_n 0, 23, 0, .null, [], [])), (23, (.bipush 115, 25, 0, .int (115), [], [])), (25, (.if_icmp .eq 17, 28, 42, .null, [], [])), (28, (.iload_n 0, 29, 0, .null, [], [])), (29, (.invokestatic 81, 32, 0, .null, [], [])), (32, (.ifCond .gt 10, 35, 42, .null, [], [])), (35, (.iload_n 0, 36, 0, .null, [], [])), (36, (.invokestatic 67, 39, 0, .null, [], [])), (39, (.ifCond .le 7, 42, 46, .null, [], [])), (42, (.iconst 1, 43, 0, .int (1), [], [])), (43, (.goto 4, 46, 47, .null, [], [])), (46, (.iconst 0, 47, 0, .int (0), [], [])), (47, (.ireturn, 48, 0, .null, [], []))]
noncomputable abbrev jX4_isLetter : List (Nat × sf_J (Int32 × sf_S)) := [(29, sf_jI sf_layC [] 1 gX2_partsOf), (36, sf_jI sf_layC [] 1 gX2_numbersOf)]
noncomputable def dX4_isLetter (x0 : Int32) (x1 : Int32) (σ : sf_S) : Option (Int32 × sf_S) :=
  if x0 = (117 : Int32) then
    if x1 ≤ 0 then
      some ((0 : Int32), σ)
    else
      some ((1 : Int32), σ)
  else
    if ¬ x0 = (118 : Int32) then
      if x0 = (115 : Int32) then
        some ((1 : Int32), σ)
      else
        (dX2_partsOf x0 σ).bind fun u1 =>
        if 0 < u1.1 then
          some ((1 : Int32), u1.2)
        else
          (dX2_numbersOf x0 u1.2).bind fun u2 =>
          if u2.1 ≤ 0 then
            some ((0 : Int32), u2.2)
          else
            some ((1 : Int32), u2.2)
    else
      if x1 ≤ 0 then
        some ((0 : Int32), σ)
      else
        some ((1 : Int32), σ)
noncomputable abbrev gX4_isLetter (av : List Value) (σ : sf_S) : Option (Int32 × sf_S) := match av with
  | [.int x0, .int x1] => dX4_isLetter x0 x1 σ
  | _ => none
set_option maxRecDepth 100000 in
set_option maxHeartbeats 4000000 in
theorem rX4_isLetter {Wt : Nat → sf_L → List Value → sf_S → Prop} {Post : (Int32 × sf_S) → Prop} (hs : sf_Snd Wt sf_layC sf_hZ jX4_isLetter tX4_isLetter Post) (hm : sf_mono Wt) : ∀ av σ u, gX4_isLetter av σ = some u → Post u → (∀ ad, (lg_sl (av.map (sf_v ad))).length ≤ 2) ∧ Wt 0 (sf_ent 0 av) [] σ := by
  intro av σ u h hp
  unfold gX4_isLetter at h
  split at h
  · rename_i x0 x1
    refine ⟨fun ad => Nat.le_of_ble_eq_true rfl, ?_⟩
    exact sf_run_ok hs sf_sm_nil 30 0 _ _ σ u h hp
  · cases h
theorem kX4_isLetter (l : Launch) : sf_C l sf_layC yX4_isLetter cX4_isLetter 2 (some .boolean) (sf_rm 2 120) (fun av σ => (gX4_isLetter av σ).map sf_vI) :=
  sf_met (tab := tX4_isLetter) (J := jX4_isLetter) (fl := sf_fl4) (cl := sf_cl4) (by decide +kernel) ⟨rfl, rfl⟩ sf_RH_Z (by decide +kernel) sf_fl4_ok sf_cl4_ok
    (sf_JO_cons (sf_je_SN (n := 1) (tv := sf_vI) "StreamFuser" (kX2_partsOf l) mwX2_partsOf (by decide +kernel : decode cX4_isLetter 29 = .ok (.invokestatic 81, 3)) wt_980 wt_570 (by decide +kernel) (sf_RM_of (by omega) (by omega))) (sf_JO_cons (sf_je_SN (n := 1) (tv := sf_vI) "StreamFuser" (kX2_numbersOf l) mwX2_numbersOf (by decide +kernel : decode cX4_isLetter 36 = .ok (.invokestatic 67, 3)) wt_981 wt_586 (by decide +kernel) (sf_RM_of (by omega) (by omega))) (sf_JO_nil)))
    (fun Wt Post hs hm => rX4_isLetter hs hm)
-- ===== StreamFuser$Reader.hasDigit(I)Z =====
abbrev tX4_hasDigit : List (Nat × sf_E) := [(0, (.iload_n 0, 1, 0, .null, [], [])), (1, (.bipush 115, 3, 0, .int (115), [], [])), (3, (.if_icmp .eq 9, 6, 12, .null, [], [])), (6, (.iload_n 0, 7, 0, .null, [], [])), (7, (.bipush 108, 9, 0, .int (108), [], [])), (9, (.if_icmp .ne 7, 12, 16, .null, [], [])), (12, (.iconst 1, 13, 0, .int (1), [], [])), (13, (.goto 4, 16, 17, .null, [], [])), (16, (.iconst 0, 17, 0, .int (0), [], [])), (17, (.ireturn, 18, 0, .null, [], []))]
noncomputable abbrev jX4_hasDigit : List (Nat × sf_J (Int32 × sf_S)) := []
noncomputable def dX4_hasDigit (x0 : Int32) (σ : sf_S) : Option (Int32 × sf_S) :=
  if x0 = (115 : Int32) then
    some ((1 : Int32), σ)
  else
    if ¬ x0 = (108 : Int32) then
      some ((0 : Int32), σ)
    else
      some ((1 : Int32), σ)
noncomputable abbrev gX4_hasDigit (av : List Value) (σ : sf_S) : Option (Int32 × sf_S) := match av with
  | [.int x0] => dX4_hasDigit x0 σ
  | _ => none
set_option maxRecDepth 100000 in
set_option maxHeartbeats 4000000 in
theorem rX4_hasDigit {Wt : Nat → sf_L → List Value → sf_S → Prop} {Post : (Int32 × sf_S) → Prop} (hs : sf_Snd Wt sf_layC sf_hZ jX4_hasDigit tX4_hasDigit Post) (hm : sf_mono Wt) : ∀ av σ u, gX4_hasDigit av σ = some u → Post u → (∀ ad, (lg_sl (av.map (sf_v ad))).length ≤ 1) ∧ Wt 0 (sf_ent 0 av) [] σ := by
  intro av σ u h hp
  unfold gX4_hasDigit at h
  split at h
  · rename_i x0
    refine ⟨fun ad => Nat.le_of_ble_eq_true rfl, ?_⟩
    exact sf_run_ok hs sf_sm_nil 15 0 _ _ σ u h hp
  · cases h
theorem kX4_hasDigit (l : Launch) : sf_C l sf_layC yX4_hasDigit cX4_hasDigit 1 (some .boolean) (sf_rm 1 100) (fun av σ => (gX4_hasDigit av σ).map sf_vI) :=
  sf_met (tab := tX4_hasDigit) (J := jX4_hasDigit) (fl := sf_fl4) (cl := sf_cl4) (by decide +kernel) ⟨rfl, rfl⟩ sf_RH_Z (by decide +kernel) sf_fl4_ok sf_cl4_ok
    (sf_JO_nil)
    (fun Wt Post hs hm => rX4_hasDigit hs hm)
-- ===== StreamFuser$Reader.hasMark(I)Z =====
abbrev tX4_hasMark : List (Nat × sf_E) := [(0, (.iload_n 0, 1, 0, .null, [], [])), (1, (.bipush 63, 3, 0, .int (63), [], [])), (3, (.if_icmp .eq 22, 6, 25, .null, [], [])), (6, (.iload_n 0, 7, 0, .null, [], [])), (7, (.bipush 119, 9, 0, .int (119), [], [])), (9, (.if_icmp .eq 16, 12, 25, .null, [], [])), (12, (.iload_n 0, 13, 0, .null, [], [])), (13, (.bipush 122, 15, 0, .int (122), [], [])), (15, (.if_icmp .eq 10, 18, 25, .null, [], [])), (18, (.iload_n 0, 19, 0, .null, [], [])), (19, (.invokestatic 84, 22, 0, .null, [], [])), (22, (.ifCond .eq 7, 25, 29, .null, [], [])), (25, (.iconst 1, 26, 0, .int (1), [], [])), (26, (.goto 4, 29, 30, .null, [], [])), (29, (.iconst 0, 30, 0, .int (0), [], [])), (30, (.ireturn, 31, 0, .null, [], []))]
noncomputable abbrev jX4_hasMark : List (Nat × sf_J (Int32 × sf_S)) := [(19, sf_jI sf_layC [] 1 gX4_hasDigit)]
noncomputable def dX4_hasMark (x0 : Int32) (σ : sf_S) : Option (Int32 × sf_S) :=
  if x0 = (63 : Int32) then
    some ((1 : Int32), σ)
  else
    if x0 = (119 : Int32) then
      some ((1 : Int32), σ)
    else
      if x0 = (122 : Int32) then
        some ((1 : Int32), σ)
      else
        (dX4_hasDigit x0 σ).bind fun u1 =>
        if u1.1 = 0 then
          some ((0 : Int32), u1.2)
        else
          some ((1 : Int32), u1.2)
noncomputable abbrev gX4_hasMark (av : List Value) (σ : sf_S) : Option (Int32 × sf_S) := match av with
  | [.int x0] => dX4_hasMark x0 σ
  | _ => none
set_option maxRecDepth 100000 in
set_option maxHeartbeats 4000000 in
theorem rX4_hasMark {Wt : Nat → sf_L → List Value → sf_S → Prop} {Post : (Int32 × sf_S) → Prop} (hs : sf_Snd Wt sf_layC sf_hZ jX4_hasMark tX4_hasMark Post) (hm : sf_mono Wt) : ∀ av σ u, gX4_hasMark av σ = some u → Post u → (∀ ad, (lg_sl (av.map (sf_v ad))).length ≤ 1) ∧ Wt 0 (sf_ent 0 av) [] σ := by
  intro av σ u h hp
  unfold gX4_hasMark at h
  split at h
  · rename_i x0
    refine ⟨fun ad => Nat.le_of_ble_eq_true rfl, ?_⟩
    exact sf_run_ok hs sf_sm_nil 21 0 _ _ σ u h hp
  · cases h
theorem kX4_hasMark (l : Launch) : sf_C l sf_layC yX4_hasMark cX4_hasMark 1 (some .boolean) (sf_rm 2 120) (fun av σ => (gX4_hasMark av σ).map sf_vI) :=
  sf_met (tab := tX4_hasMark) (J := jX4_hasMark) (fl := sf_fl4) (cl := sf_cl4) (by decide +kernel) ⟨rfl, rfl⟩ sf_RH_Z (by decide +kernel) sf_fl4_ok sf_cl4_ok
    (sf_JO_cons (sf_je_S (n := 1) (tv := sf_vI) (kX4_hasDigit l) mwX4_hasDigit (by decide +kernel : decode cX4_hasMark 19 = .ok (.invokestatic 84, 3)) wt_598 wt_593 (by decide +kernel) (sf_RM_of (by omega) (by omega))) (sf_JO_nil))
    (fun Wt Post hs hm => rX4_hasMark hs hm)
-- ===== StreamFuser$Reader.isDigit(I)Z =====
abbrev tX4_isDigit : List (Nat × sf_E) := [(0, (.iload_n 0, 1, 0, .null, [], [])), (1, (.bipush 48, 3, 0, .int (48), [], [])), (3, (.if_icmp .lt 13, 6, 16, .null, [], [])), (6, (.iload_n 0, 7, 0, .null, [], [])), (7, (.bipush 57, 9, 0, .int (57), [], [])), (9, (.if_icmp .gt 7, 12, 16, .null, [], [])), (12, (.iconst 1, 13, 0, .int (1), [], [])), (13, (.goto 4, 16, 17, .null, [], [])), (16, (.iconst 0, 17, 0, .int (0), [], [])), (17, (.ireturn, 18, 0, .null, [], []))]
noncomputable abbrev jX4_isDigit : List (Nat × sf_J (Int32 × sf_S)) := []
noncomputable def dX4_isDigit (x0 : Int32) (σ : sf_S) : Option (Int32 × sf_S) :=
  if x0 < (48 : Int32) then
    some ((0 : Int32), σ)
  else
    if (57 : Int32) < x0 then
      some ((0 : Int32), σ)
    else
      some ((1 : Int32), σ)
noncomputable abbrev gX4_isDigit (av : List Value) (σ : sf_S) : Option (Int32 × sf_S) := match av with
  | [.int x0] => dX4_isDigit x0 σ
  | _ => none
set_option maxRecDepth 100000 in
set_option maxHeartbeats 4000000 in
theorem rX4_isDigit {Wt : Nat → sf_L → List Value → sf_S → Prop} {Post : (Int32 × sf_S) → Prop} (hs : sf_Snd Wt sf_layC sf_hZ jX4_isDigit tX4_isDigit Post) (hm : sf_mono Wt) : ∀ av σ u, gX4_isDigit av σ = some u → Post u → (∀ ad, (lg_sl (av.map (sf_v ad))).length ≤ 1) ∧ Wt 0 (sf_ent 0 av) [] σ := by
  intro av σ u h hp
  unfold gX4_isDigit at h
  split at h
  · rename_i x0
    refine ⟨fun ad => Nat.le_of_ble_eq_true rfl, ?_⟩
    exact sf_run_ok hs sf_sm_nil 15 0 _ _ σ u h hp
  · cases h
theorem kX4_isDigit (l : Launch) : sf_C l sf_layC yX4_isDigit cX4_isDigit 1 (some .boolean) (sf_rm 1 100) (fun av σ => (gX4_isDigit av σ).map sf_vI) :=
  sf_met (tab := tX4_isDigit) (J := jX4_isDigit) (fl := sf_fl4) (cl := sf_cl4) (by decide +kernel) ⟨rfl, rfl⟩ sf_RH_Z (by decide +kernel) sf_fl4_ok sf_cl4_ok
    (sf_JO_nil)
    (fun Wt Post hs hm => rX4_isDigit hs hm)
-- ===== StreamFuser$Reader.fitsMark(II)Z =====
abbrev tX4_fitsMark : List (Nat × sf_E) := [(0, (.iload_n 0, 1, 0, .null, [], [])), (1, (.lookupswitch 82 #[(108, 53), (115, 35), (122, 58)], 36, 83, .null, [((108), 54), ((115), 36), ((122), 59)], [])), (36, (.iload_n 1, 37, 0, .null, [], [])), (37, (.bipush 48, 39, 0, .int (48), [], [])), (39, (.if_icmp .lt 13, 42, 52, .null, [], [])), (42, (.iload_n 1, 43, 0, .null, [], [])), (43, (.bipush 51, 45, 0, .int (51), [], [])), (45, (.if_icmp .gt 7, 48, 52, .null, [], [])), (48, (.iconst 1, 49, 0, .int (1), [], [])), (49, (.goto 4, 52, 53, .null, [], [])), (52, (.iconst 0, 53, 0, .int (0), [], [])), (53, (.ireturn, 54, 0, .null, [], [])), (54, (.iload_n 1, 55, 0, .null, [], [])), (55, (.invokestatic 90, 58, 0, .null, [], [])), (58, (.ireturn, 59, 0, .null, [], [])), (59, (.iload_n 1, 60, 0, .null, [], [])), (60, (.bipush 43, 62, 0, .int (43), [], [])), (62, (.if_icmp .eq 15, 65, 77, .null, [], [])), (65, (.iload_n 1, 66, 0, .null, [], [])), (66, (.bipush 42, 68, 0, .int (42), [], [])), (68, (.if_icmp .eq 9, 71, 77, .null, [], [])), (71, (.iload_n 1, 72, 0, .null, [], [])), (72, (.bipush 60, 74, 0, .int (60), [], [])), (74, (.if_icmp .ne 7, 77, 81, .null, [], [])), (77, (.iconst 1, 78, 0, .int (1), [], [])), (78, (.goto 4, 81, 82, .null, [], [])), (81, (.iconst 0, 82, 0, .int (0), [], [])), (82, (.ireturn, 83, 0, .null, [], [])), (83, (.iload_n 1, 84, 0, .null, [], [])), (84, (.bipush 60, 86, 0, .int (60), [], [])), (86, (.if_icmp .eq 15, 89, 101, .null, [], [])), (89, (.iload_n 1, 90, 0, .null, [], [])), (90, (.bipush 62, 92, 0, .int (62), [], [])), (92, (.if_icmp .eq 9, 95, 101, .null, [], [])), (95, (.iload_n 1, 96, 0, .null, [], [])), (96, (.bipush 61, 98, 0, .int (61), [], [])), (98, (.if_icmp .ne 7, 101, 105, .null, [], [])), (101, (.iconst 1, 102, 0, .int (1), [], [])), (102, (.goto 4, 105, 106, .null, [], [])), (105, (.iconst 0, 106, 0, .int (0), [], [])), (106, (.ireturn, 107, 0, .null, [], []))]
noncomputable abbrev jX4_fitsMark : List (Nat × sf_J (Int32 × sf_S)) := [(55, sf_jI sf_layC [] 1 gX4_isDigit)]
noncomputable def dX4_fitsMark (x0 : Int32) (x1 : Int32) (σ : sf_S) : Option (Int32 × sf_S) :=
  if x0 = (108 : Int32) then
    (dX4_isDigit x1 σ).bind fun u1 =>
    if sf_01 u1.1 then some (u1.1, u1.2) else none
  else
  if x0 = (115 : Int32) then
    if x1 < (48 : Int32) then
      some ((0 : Int32), σ)
    else
      if (51 : Int32) < x1 then
        some ((0 : Int32), σ)
      else
        some ((1 : Int32), σ)
  else
  if x0 = (122 : Int32) then
    if x1 = (43 : Int32) then
      some ((1 : Int32), σ)
    else
      if x1 = (42 : Int32) then
        some ((1 : Int32), σ)
      else
        if ¬ x1 = (60 : Int32) then
          some ((0 : Int32), σ)
        else
          some ((1 : Int32), σ)
  else
    if x1 = (60 : Int32) then
      some ((1 : Int32), σ)
    else
      if x1 = (62 : Int32) then
        some ((1 : Int32), σ)
      else
        if ¬ x1 = (61 : Int32) then
          some ((0 : Int32), σ)
        else
          some ((1 : Int32), σ)
noncomputable abbrev gX4_fitsMark (av : List Value) (σ : sf_S) : Option (Int32 × sf_S) := match av with
  | [.int x0, .int x1] => dX4_fitsMark x0 x1 σ
  | _ => none
set_option maxRecDepth 100000 in
set_option maxHeartbeats 4000000 in
theorem rX4_fitsMark {Wt : Nat → sf_L → List Value → sf_S → Prop} {Post : (Int32 × sf_S) → Prop} (hs : sf_Snd Wt sf_layC sf_hZ jX4_fitsMark tX4_fitsMark Post) (hm : sf_mono Wt) : ∀ av σ u, gX4_fitsMark av σ = some u → Post u → (∀ ad, (lg_sl (av.map (sf_v ad))).length ≤ 2) ∧ Wt 0 (sf_ent 0 av) [] σ := by
  intro av σ u h hp
  unfold gX4_fitsMark at h
  split at h
  · rename_i x0 x1
    refine ⟨fun ad => Nat.le_of_ble_eq_true rfl, ?_⟩
    exact sf_run_ok hs sf_sm_nil 46 0 _ _ σ u h hp
  · cases h
theorem kX4_fitsMark (l : Launch) : sf_C l sf_layC yX4_fitsMark cX4_fitsMark 2 (some .boolean) (sf_rm 2 120) (fun av σ => (gX4_fitsMark av σ).map sf_vI) :=
  sf_met (tab := tX4_fitsMark) (J := jX4_fitsMark) (fl := sf_fl4) (cl := sf_cl4) (by decide +kernel) ⟨rfl, rfl⟩ sf_RH_Z (by decide +kernel) sf_fl4_ok sf_cl4_ok
    (sf_JO_cons (sf_je_S (n := 1) (tv := sf_vI) (kX4_isDigit l) mwX4_isDigit (by decide +kernel : decode cX4_fitsMark 55 = .ok (.invokestatic 90, 3)) wt_994 wt_995 (by decide +kernel) (sf_RM_of (by omega) (by omega))) (sf_JO_nil))
    (fun Wt Post hs hm => rX4_fitsMark hs hm)
-- ===== StreamFuser$Reader.readMark(I)I =====
abbrev tX4_readMark : List (Nat × sf_E) := [(0, (.aload_n 0, 1, 0, .null, [], [])), (1, (.invokevirtual 47, 4, 0, .null, [], [])), (4, (.istore_n 2, 5, 0, .null, [], [])), (5, (.aload_n 0, 6, 0, .null, [], [])), (6, (.iload_n 1, 7, 0, .null, [], [])), (7, (.iload_n 2, 8, 0, .null, [], [])), (8, (.invokestatic 87, 11, 0, .null, [], [])), (11, (.invokevirtual 55, 14, 0, .null, [], [])), (14, (.iload_n 1, 15, 0, .null, [], [])), (15, (.invokestatic 84, 18, 0, .null, [], [])), (18, (.ifCond .eq 10, 21, 28, .null, [], [])), (21, (.iload_n 2, 22, 0, .null, [], [])), (22, (.bipush 48, 24, 0, .int (48), [], [])), (24, (.isub, 25, 0, .null, [], [])), (25, (.goto 4, 28, 29, .null, [], [])), (28, (.iload_n 2, 29, 0, .null, [], [])), (29, (.ireturn, 30, 0, .null, [], []))]
noncomputable abbrev jX4_readMark : List (Nat × sf_J (Int32 × sf_S)) := [(1, sf_jI sf_layC [4] 1 gX4_peek), (8, sf_jI sf_layC [] 2 gX4_fitsMark), (11, sf_jV sf_layC [4] 2 gX4_accept), (15, sf_jI sf_layC [] 1 gX4_hasDigit)]
noncomputable def dX4_readMark (x1 : Int32) (σ : sf_S) : Option (Int32 × sf_S) :=
  (dX4_peek σ).bind fun u1 =>
  (dX4_fitsMark x1 u1.1 u1.2).bind fun u2 =>
  (dX4_accept u2.1 u2.2).bind fun u3 =>
  (dX4_hasDigit x1 u3).bind fun u4 =>
  if u4.1 = 0 then
    some (u1.1, u4.2)
  else
    some ((u1.1 - (48 : Int32)), u4.2)
noncomputable abbrev gX4_readMark (av : List Value) (σ : sf_S) : Option (Int32 × sf_S) := match av with
  | [.ref q, .int x1] => (match sf_rv [46] q with | true => dX4_readMark x1 σ | false => none)
  | _ => none
set_option maxRecDepth 100000 in
set_option maxHeartbeats 4000000 in
theorem rX4_readMark {Wt : Nat → sf_L → List Value → sf_S → Prop} {Post : (Int32 × sf_S) → Prop} (hs : sf_Snd Wt sf_layC sf_hI jX4_readMark tX4_readMark Post) (hm : sf_mono Wt) : ∀ av σ u, gX4_readMark av σ = some u → Post u → (∀ ad, (lg_sl (av.map (sf_v ad))).length ≤ 3) ∧ Wt 0 (sf_ent 0 av) [] σ := by
  intro av σ u h hp
  unfold gX4_readMark at h
  split at h
  · rename_i q x1
    split at h
    · rename_i hq
      have hq : q = 46 := by simpa using sf_rv_mem hq
      subst hq
      refine ⟨fun ad => Nat.le_of_ble_eq_true rfl, ?_⟩
      exact sf_run_ok hs sf_sm_nil 22 0 _ _ σ u h hp
    · cases h
  · cases h
theorem kX4_readMark (l : Launch) : sf_C l sf_layC yX4_readMark cX4_readMark 3 (some .int) (sf_rm 3 141) (fun av σ => (gX4_readMark av σ).map sf_vI) :=
  sf_met (tab := tX4_readMark) (J := jX4_readMark) (fl := sf_fl4) (cl := sf_cl4) (by decide +kernel) ⟨rfl, rfl⟩ sf_RH_I (by decide +kernel) sf_fl4_ok sf_cl4_ok
    (sf_JO_cons (sf_je_V (n := 1) (cs := [4]) (tv := sf_vI) (kX4_peek l) mwX4_peek (by decide +kernel : decode cX4_readMark 1 = .ok (.invokevirtual 47, 3)) wt_973 wt_975 wt_65 (by decide +kernel) (by decide) (by decide) (List.forall_mem_cons.mpr ⟨⟨_, _, rfl⟩, fun _ h => absurd h List.not_mem_nil⟩) (sf_RM_of (by omega) (by omega))) (sf_JO_cons (sf_je_S (n := 2) (tv := sf_vI) (kX4_fitsMark l) mwX4_fitsMark (by decide +kernel : decode cX4_readMark 8 = .ok (.invokestatic 87, 3)) wt_991 wt_992 (by decide +kernel) (sf_RM_of (by omega) (by omega))) (sf_JO_cons (sf_je_V (n := 2) (cs := [4]) (tv := sf_vV) (kX4_accept l) mwX4_accept (by decide +kernel : decode cX4_readMark 11 = .ok (.invokevirtual 55, 3)) wt_982 wt_984 wt_66 (by decide +kernel) (by decide) (by decide) (List.forall_mem_cons.mpr ⟨⟨_, _, rfl⟩, fun _ h => absurd h List.not_mem_nil⟩) (sf_RM_of (by omega) (by omega))) (sf_JO_cons (sf_je_S (n := 1) (tv := sf_vI) (kX4_hasDigit l) mwX4_hasDigit (by decide +kernel : decode cX4_readMark 15 = .ok (.invokestatic 84, 3)) wt_598 wt_593 (by decide +kernel) (sf_RM_of (by omega) (by omega))) (sf_JO_nil)))))
    (fun Wt Post hs hm => rX4_readMark hs hm)
-- ===== StreamFuser$Reader.readNumber(I)I =====
abbrev tX4_readNumber : List (Nat × sf_E) := [(0, (.iload_n 1, 1, 0, .null, [], [])), (1, (.bipush 116, 3, 0, .int (116), [], [])), (3, (.if_icmp .eq 9, 6, 12, .null, [], [])), (6, (.iload_n 1, 7, 0, .null, [], [])), (7, (.bipush 100, 9, 0, .int (100), [], [])), (9, (.if_icmp .ne 7, 12, 16, .null, [], [])), (12, (.iconst 1, 13, 0, .int (1), [], [])), (13, (.goto 4, 16, 17, .null, [], [])), (16, (.iconst 0, 17, 0, .int (0), [], [])), (17, (.istore_n 2, 18, 0, .null, [], [])), (18, (.iload_n 1, 19, 0, .null, [], [])), (19, (.bipush 37, 21, 0, .int (37), [], [])), (21, (.if_icmp .eq 9, 24, 30, .null, [], [])), (24, (.iload_n 1, 25, 0, .null, [], [])), (25, (.bipush 107, 27, 0, .int (107), [], [])), (27, (.if_icmp .ne 7, 30, 34, .null, [], [])), (30, (.iconst 1, 31, 0, .int (1), [], [])), (31, (.goto 4, 34, 35, .null, [], [])), (34, (.iconst 0, 35, 0, .int (0), [], [])), (35, (.istore_n 3, 36, 0, .null, [], [])), (36, (.iload_n 2, 37, 0, .null, [], [])), (37, (.ifCond .ne 20, 40, 57, .null, [], [])), (40, (.iload_n 3, 41, 0, .null, [], [])), (41, (.ifCond .ne 16, 44, 57, .null, [], [])), (44, (.aload_n 0, 45, 0, .null, [], [])), (45, (.invokevirtual 47, 48, 0, .null, [], [])), (48, (.bipush 45, 50, 0, .int (45), [], [])), (50, (.if_icmp .ne 7, 53, 57, .null, [], [])), (53, (.iconst 1, 54, 0, .int (1), [], [])), (54, (.goto 4, 57, 58, .null, [], [])), (57, (.iconst 0, 58, 0, .int (0), [], [])), (58, (.istore 4, 60, 0, .null, [], [])), (60, (.iload 4, 62, 0, .null, [], [])), (62, (.ifCond .eq 8, 65, 70, .null, [], [])), (65, (.aload_n 0, 66, 0, .null, [], [])), (66, (.iconst 1, 67, 0, .int (1), [], [])), (67, (.invokevirtual 55, 70, 0, .null, [], [])), (70, (.aload_n 0, 71, 0, .null, [], [])), (71, (.invokevirtual 47, 74, 0, .null, [], [])), (74, (.bipush 48, 76, 0, .int (48), [], [])), (76, (.isub, 77, 0, .null, [], [])), (77, (.istore 5, 79, 0, .null, [], [])), (79, (.aload_n 0, 80, 0, .null, [], [])), (80, (.aload_n 0, 81, 0, .null, [], [])), (81, (.invokevirtual 47, 84, 0, .null, [], [])), (84, (.invokestatic 90, 87, 0, .null, [], [])), (87, (.ifCond .eq 21, 90, 108, .null, [], [])), (90, (.iload 5, 92, 0, .null, [], [])), (92, (.ifCond .gt 12, 95, 104, .null, [], [])), (95, (.iload 4, 97, 0, .null, [], [])), (97, (.ifCond .ne 11, 100, 108, .null, [], [])), (100, (.iload_n 3, 101, 0, .null, [], [])), (101, (.ifCond .ne 7, 104, 108, .null, [], [])), (104, (.iconst 1, 105, 0, .int (1), [], [])), (105, (.goto 4, 108, 109, .null, [], [])), (108, (.iconst 0, 109, 0, .int (0), [], [])), (109, (.invokevirtual 55, 112, 0, .null, [], [])), (112, (.iload_n 2, 113, 0, .null, [], [])), (113, (.ifCond .eq 8, 116, 121, .null, [], [])), (116, (.bipush 99, 118, 0, .int (99), [], [])), (118, (.goto 6, 121, 124, .null, [], [])), (121, (.sipush 9999, 124, 0, .int (9999), [], [])), (124, (.istore 6, 126, 0, .null, [], [])), (126, (.iconst 0, 127, 0, .int (0), [], [])), (127, (.istore 7, 129, 0, .null, [], [])), (129, (.iload 7, 131, 0, .null, [], [])), (131, (.iconst 4, 132, 0, .int (4), [], [])), (132, (.if_icmp .ge 67, 135, 199, .null, [], [])), (135, (.aload_n 0, 136, 0, .null, [], [])), (136, (.getfield 34, 139, 0, .null, [], [(4, 6)])), (139, (.iconst (-1), 140, 0, .int (-1), [], [])), (140, (.if_icmp .ne 59, 143, 199, .null, [], [])), (143, (.aload_n 0, 144, 0, .null, [], [])), (144, (.invokevirtual 47, 147, 0, .null, [], [])), (147, (.invokestatic 90, 150, 0, .null, [], [])), (150, (.ifCond .eq 49, 153, 199, .null, [], [])), (153, (.iload 5, 155, 0, .null, [], [])), (155, (.bipush 10, 157, 0, .int (10), [], [])), (157, (.imul, 158, 0, .null, [], [])), (158, (.aload_n 0, 159, 0, .null, [], [])), (159, (.invokevirtual 47, 162, 0, .null, [], [])), (162, (.iadd, 163, 0, .null, [], [])), (163, (.bipush 48, 165, 0, .int (48), [], [])), (165, (.isub, 166, 0, .null, [], [])), (166, (.istore 8, 168, 0, .null, [], [])), (168, (.aload_n 0, 169, 0, .null, [], [])), (169, (.iload 5, 171, 0, .null, [], [])), (171, (.ifCond .le 14, 174, 185, .null, [], [])), (174, (.iload 8, 176, 0, .null, [], [])), (176, (.iload 6, 178, 0, .null, [], [])), (178, (.if_icmp .gt 7, 181, 185, .null, [], [])), (181, (.iconst 1, 182, 0, .int (1), [], [])), (182, (.goto 4, 185, 186, .null, [], [])), (185, (.iconst 0, 186, 0, .int (0), [], [])), (186, (.invokevirtual 55, 189, 0, .null, [], [])), (189, (.iload 8, 191, 0, .null, [], [])), (191, (.istore 5, 193, 0, .null, [], [])), (193, (.iinc 7 1, 196, 0, .int (1), [], [])), (196, (.goto (-67), 199, 129, .null, [], [])), (199, (.aload_n 0, 200, 0, .null, [], [])), (200, (.aload_n 0, 201, 0, .null, [], [])), (201, (.invokevirtual 47, 204, 0, .null, [], [])), (204, (.bipush 59, 206, 0, .int (59), [], [])), (206, (.if_icmp .ne 7, 209, 213, .null, [], [])), (209, (.iconst 1, 210, 0, .int (1), [], [])), (210, (.goto 4, 213, 214, .null, [], [])), (213, (.iconst 0, 214, 0, .int (0), [], [])), (214, (.invokevirtual 55, 217, 0, .null, [], [])), (217, (.iload 4, 219, 0, .null, [], [])), (219, (.ifCond .eq 9, 222, 228, .null, [], [])), (222, (.iload 5, 224, 0, .null, [], [])), (224, (.ineg, 225, 0, .null, [], [])), (225, (.goto 5, 228, 230, .null, [], [])), (228, (.iload 5, 230, 0, .null, [], [])), (230, (.ireturn, 231, 0, .null, [], []))]
noncomputable abbrev jX4_readNumber : List (Nat × sf_J (Int32 × sf_S)) := [(45, sf_jI sf_layC [4] 1 gX4_peek), (67, sf_jV sf_layC [4] 2 gX4_accept), (71, sf_jI sf_layC [4] 1 gX4_peek), (81, sf_jI sf_layC [4] 1 gX4_peek), (84, sf_jI sf_layC [] 1 gX4_isDigit), (109, sf_jV sf_layC [4] 2 gX4_accept), (144, sf_jI sf_layC [4] 1 gX4_peek), (147, sf_jI sf_layC [] 1 gX4_isDigit), (159, sf_jI sf_layC [4] 1 gX4_peek), (186, sf_jV sf_layC [4] 2 gX4_accept), (201, sf_jI sf_layC [4] 1 gX4_peek), (214, sf_jV sf_layC [4] 2 gX4_accept)]
abbrev wX4_readNumber_199 {ρ : Type} (k : Int32 → Int32 → sf_S → Option ρ) : sf_M ρ := fun L st σ => sf_lda L 0 fun a0 => sf_eq a0 46 (sf_ldi L 4 fun x4 => sf_ldi L 5 fun x5 => sf_nil st (k x4 x5 σ))
theorem wX4_readNumber_199_ok {ρ : Type} {Wt : Nat → sf_L → List Value → sf_S → Prop} {Post : ρ → Prop} (hm : sf_mono Wt) {k : Int32 → Int32 → sf_S → Option ρ} (h : ∀ (x4 : Int32) (x5 : Int32) (σ : sf_S) (u : ρ), k x4 x5 σ = some u → Post u → Wt 199 [(0, some (.ref 46)), (4, some (.int x4)), (5, some (.int x5))] [] σ) : sf_CK Wt Post 199 (wX4_readNumber_199 k) := by
  intro L st σ u hf hp
  unfold wX4_readNumber_199 at hf
  have hf0 := hf
  obtain ⟨a0, e0, hf1⟩ := sf_lda_inv hf0
  obtain ⟨rfl, hf2⟩ := sf_eq_inv hf1
  obtain ⟨x4, e4, hf3⟩ := sf_ldi_inv hf2
  obtain ⟨x5, e5, hf4⟩ := sf_ldi_inv hf3
  obtain ⟨rfl, hz⟩ := sf_nil_inv hf4
  exact hm _ [(0, some (.ref _)), (4, some (.int x4)), (5, some (.int x5))] _ _ _ (sf_le_ok (And.intro e0 (And.intro e4 (And.intro e5 trivial)))) (h _ _ _ _ hz hp)
abbrev wX4_readNumber_129 {ρ : Type} (k : Int32 → Int32 → Int32 → Int32 → sf_S → Option ρ) : sf_M ρ := fun L st σ => sf_lda L 0 fun a0 => sf_eq a0 46 (sf_ldi L 4 fun x4 => sf_ldi L 5 fun x5 => sf_ldi L 6 fun x6 => sf_ldi L 7 fun x7 => sf_nil st (k x4 x5 x6 x7 σ))
theorem wX4_readNumber_129_ok {ρ : Type} {Wt : Nat → sf_L → List Value → sf_S → Prop} {Post : ρ → Prop} (hm : sf_mono Wt) {k : Int32 → Int32 → Int32 → Int32 → sf_S → Option ρ} (h : ∀ (x4 : Int32) (x5 : Int32) (x6 : Int32) (x7 : Int32) (σ : sf_S) (u : ρ), k x4 x5 x6 x7 σ = some u → Post u → Wt 129 [(0, some (.ref 46)), (4, some (.int x4)), (5, some (.int x5)), (6, some (.int x6)), (7, some (.int x7))] [] σ) : sf_CK Wt Post 129 (wX4_readNumber_129 k) := by
  intro L st σ u hf hp
  unfold wX4_readNumber_129 at hf
  have hf0 := hf
  obtain ⟨a0, e0, hf1⟩ := sf_lda_inv hf0
  obtain ⟨rfl, hf2⟩ := sf_eq_inv hf1
  obtain ⟨x4, e4, hf3⟩ := sf_ldi_inv hf2
  obtain ⟨x5, e5, hf4⟩ := sf_ldi_inv hf3
  obtain ⟨x6, e6, hf5⟩ := sf_ldi_inv hf4
  obtain ⟨x7, e7, hf6⟩ := sf_ldi_inv hf5
  obtain ⟨rfl, hz⟩ := sf_nil_inv hf6
  exact hm _ [(0, some (.ref _)), (4, some (.int x4)), (5, some (.int x5)), (6, some (.int x6)), (7, some (.int x7))] _ _ _ (sf_le_ok (And.intro e0 (And.intro e4 (And.intro e5 (And.intro e6 (And.intro e7 trivial)))))) (h _ _ _ _ _ _ hz hp)
abbrev wX4_readNumber_109 {ρ : Type} (k : Int32 → Int32 → Int32 → Int32 → sf_S → Option ρ) : sf_M ρ := fun L st σ => sf_lda L 0 fun a0 => sf_eq a0 46 (sf_ldi L 2 fun x2 => sf_ldi L 4 fun x4 => sf_ldi L 5 fun x5 => sf_i1 st fun y0 st => sf_a1 st fun b1 st => sf_eq b1 46 (sf_nil st (k x2 x4 x5 y0 σ)))
theorem wX4_readNumber_109_ok {ρ : Type} {Wt : Nat → sf_L → List Value → sf_S → Prop} {Post : ρ → Prop} (hm : sf_mono Wt) {k : Int32 → Int32 → Int32 → Int32 → sf_S → Option ρ} (h : ∀ (x2 : Int32) (x4 : Int32) (x5 : Int32) (y0 : Int32) (σ : sf_S) (u : ρ), k x2 x4 x5 y0 σ = some u → Post u → Wt 109 [(0, some (.ref 46)), (2, some (.int x2)), (4, some (.int x4)), (5, some (.int x5))] [.int y0, .ref 46] σ) : sf_CK Wt Post 109 (wX4_readNumber_109 k) := by
  intro L st σ u hf hp
  unfold wX4_readNumber_109 at hf
  have hf0 := hf
  obtain ⟨a0, e0, hf1⟩ := sf_lda_inv hf0
  obtain ⟨rfl, hf2⟩ := sf_eq_inv hf1
  obtain ⟨x2, e2, hf3⟩ := sf_ldi_inv hf2
  obtain ⟨x4, e4, hf4⟩ := sf_ldi_inv hf3
  obtain ⟨x5, e5, hf5⟩ := sf_ldi_inv hf4
  obtain ⟨y0, st, rfl, hf6⟩ := sf_i1_inv hf5
  obtain ⟨b1, st, rfl, hf7⟩ := sf_a1_inv hf6
  obtain ⟨rfl, hf8⟩ := sf_eq_inv hf7
  obtain ⟨rfl, hz⟩ := sf_nil_inv hf8
  exact hm _ [(0, some (.ref _)), (2, some (.int x2)), (4, some (.int x4)), (5, some (.int x5))] _ _ _ (sf_le_ok (And.intro e0 (And.intro e2 (And.intro e4 (And.intro e5 trivial))))) (h _ _ _ _ _ _ hz hp)
abbrev wX4_readNumber_70 {ρ : Type} (k : Int32 → Int32 → Int32 → sf_S → Option ρ) : sf_M ρ := fun L st σ => sf_lda L 0 fun a0 => sf_eq a0 46 (sf_ldi L 2 fun x2 => sf_ldi L 3 fun x3 => sf_ldi L 4 fun x4 => sf_nil st (k x2 x3 x4 σ))
theorem wX4_readNumber_70_ok {ρ : Type} {Wt : Nat → sf_L → List Value → sf_S → Prop} {Post : ρ → Prop} (hm : sf_mono Wt) {k : Int32 → Int32 → Int32 → sf_S → Option ρ} (h : ∀ (x2 : Int32) (x3 : Int32) (x4 : Int32) (σ : sf_S) (u : ρ), k x2 x3 x4 σ = some u → Post u → Wt 70 [(0, some (.ref 46)), (2, some (.int x2)), (3, some (.int x3)), (4, some (.int x4))] [] σ) : sf_CK Wt Post 70 (wX4_readNumber_70 k) := by
  intro L st σ u hf hp
  unfold wX4_readNumber_70 at hf
  have hf0 := hf
  obtain ⟨a0, e0, hf1⟩ := sf_lda_inv hf0
  obtain ⟨rfl, hf2⟩ := sf_eq_inv hf1
  obtain ⟨x2, e2, hf3⟩ := sf_ldi_inv hf2
  obtain ⟨x3, e3, hf4⟩ := sf_ldi_inv hf3
  obtain ⟨x4, e4, hf5⟩ := sf_ldi_inv hf4
  obtain ⟨rfl, hz⟩ := sf_nil_inv hf5
  exact hm _ [(0, some (.ref _)), (2, some (.int x2)), (3, some (.int x3)), (4, some (.int x4))] _ _ _ (sf_le_ok (And.intro e0 (And.intro e2 (And.intro e3 (And.intro e4 trivial))))) (h _ _ _ _ _ hz hp)
abbrev wX4_readNumber_35 {ρ : Type} (k : Int32 → Int32 → sf_S → Option ρ) : sf_M ρ := fun L st σ => sf_lda L 0 fun a0 => sf_eq a0 46 (sf_ldi L 2 fun x2 => sf_i1 st fun y0 st => sf_nil st (k x2 y0 σ))
theorem wX4_readNumber_35_ok {ρ : Type} {Wt : Nat → sf_L → List Value → sf_S → Prop} {Post : ρ → Prop} (hm : sf_mono Wt) {k : Int32 → Int32 → sf_S → Option ρ} (h : ∀ (x2 : Int32) (y0 : Int32) (σ : sf_S) (u : ρ), k x2 y0 σ = some u → Post u → Wt 35 [(0, some (.ref 46)), (2, some (.int x2))] [.int y0] σ) : sf_CK Wt Post 35 (wX4_readNumber_35 k) := by
  intro L st σ u hf hp
  unfold wX4_readNumber_35 at hf
  have hf0 := hf
  obtain ⟨a0, e0, hf1⟩ := sf_lda_inv hf0
  obtain ⟨rfl, hf2⟩ := sf_eq_inv hf1
  obtain ⟨x2, e2, hf3⟩ := sf_ldi_inv hf2
  obtain ⟨y0, st, rfl, hf4⟩ := sf_i1_inv hf3
  obtain ⟨rfl, hz⟩ := sf_nil_inv hf4
  exact hm _ [(0, some (.ref _)), (2, some (.int x2))] _ _ _ (sf_le_ok (And.intro e0 (And.intro e2 trivial))) (h _ _ _ _ hz hp)
abbrev wX4_readNumber_17 {ρ : Type} (k : Int32 → Int32 → sf_S → Option ρ) : sf_M ρ := fun L st σ => sf_lda L 0 fun a0 => sf_eq a0 46 (sf_ldi L 1 fun x1 => sf_i1 st fun y0 st => sf_nil st (k x1 y0 σ))
theorem wX4_readNumber_17_ok {ρ : Type} {Wt : Nat → sf_L → List Value → sf_S → Prop} {Post : ρ → Prop} (hm : sf_mono Wt) {k : Int32 → Int32 → sf_S → Option ρ} (h : ∀ (x1 : Int32) (y0 : Int32) (σ : sf_S) (u : ρ), k x1 y0 σ = some u → Post u → Wt 17 [(0, some (.ref 46)), (1, some (.int x1))] [.int y0] σ) : sf_CK Wt Post 17 (wX4_readNumber_17 k) := by
  intro L st σ u hf hp
  unfold wX4_readNumber_17 at hf
  have hf0 := hf
  obtain ⟨a0, e0, hf1⟩ := sf_lda_inv hf0
  obtain ⟨rfl, hf2⟩ := sf_eq_inv hf1
  obtain ⟨x1, e1, hf3⟩ := sf_ldi_inv hf2
  obtain ⟨y0, st, rfl, hf4⟩ := sf_i1_inv hf3
  obtain ⟨rfl, hz⟩ := sf_nil_inv hf4
  exact hm _ [(0, some (.ref _)), (1, some (.int x1))] _ _ _ (sf_le_ok (And.intro e0 (And.intro e1 trivial))) (h _ _ _ _ hz hp)
noncomputable def dX4_readNumber_199 (x4 : Int32) (x5 : Int32) (σ : sf_S) : Option (Int32 × sf_S) :=
  (dX4_peek σ).bind fun u1 =>
  if ¬ u1.1 = (59 : Int32) then
    (dX4_accept (0 : Int32) u1.2).bind fun u2 =>
    if x4 = 0 then
      some (x5, u2)
    else
      some ((-x5), u2)
  else
    (dX4_accept (1 : Int32) u1.2).bind fun u3 =>
    if x4 = 0 then
      some (x5, u3)
    else
      some ((-x5), u3)
set_option maxRecDepth 100000 in
set_option maxHeartbeats 4000000 in
theorem rX4_readNumber_199 {Wt : Nat → sf_L → List Value → sf_S → Prop} {Post : (Int32 × sf_S) → Prop} (hs : sf_Snd Wt sf_layC sf_hI jX4_readNumber tX4_readNumber Post) (hm : sf_mono Wt) : sf_CK Wt Post 199 (wX4_readNumber_199 (dX4_readNumber_199)) := by
  refine wX4_readNumber_199_ok hm ?_
  intro x4 x5 σ u h hp
  exact sf_run_ok hs sf_sm_nil 120 199 _ _ σ u h hp
noncomputable def dX4_readNumber_129 : Nat → Int32 → Int32 → Int32 → Int32 → sf_S → Option (Int32 × sf_S)
  | 0 => fun _ _ _ _ _ => none
  | n + 1 => fun x4 x5 x6 x7 σ =>
    if (4 : Int32) ≤ x7 then
      dX4_readNumber_199 x4 x5 σ
    else
      if ¬ (σ 46 6) = (-1 : Int32) then
        dX4_readNumber_199 x4 x5 σ
      else
        (dX4_peek σ).bind fun u1 =>
        (dX4_isDigit u1.1 u1.2).bind fun u2 =>
        if u2.1 = 0 then
          dX4_readNumber_199 x4 x5 u2.2
        else
          (dX4_peek u2.2).bind fun u3 =>
          let v4 := (((x5 * (10 : Int32)) + u3.1) - (48 : Int32))
          if x5 ≤ 0 then
            (dX4_accept (0 : Int32) u3.2).bind fun u5 =>
            dX4_readNumber_129 n x4 v4 x6 (x7 + (1 : Int32)) u5
          else
            if x6 < v4 then
              (dX4_accept (0 : Int32) u3.2).bind fun u6 =>
              dX4_readNumber_129 n x4 v4 x6 (x7 + (1 : Int32)) u6
            else
              (dX4_accept (1 : Int32) u3.2).bind fun u7 =>
              dX4_readNumber_129 n x4 v4 x6 (x7 + (1 : Int32)) u7
set_option maxRecDepth 100000 in
set_option maxHeartbeats 4000000 in
theorem rX4_readNumber_129 {Wt : Nat → sf_L → List Value → sf_S → Prop} {Post : (Int32 × sf_S) → Prop} (hs : sf_Snd Wt sf_layC sf_hI jX4_readNumber tX4_readNumber Post) (hm : sf_mono Wt) : ∀ n : Nat, sf_CK Wt Post 129 (wX4_readNumber_129 (dX4_readNumber_129 n)) := by
  intro n
  induction n with
  | zero => exact wX4_readNumber_129_ok hm (fun x4 x5 x6 x7 σ u h _ => by simp [dX4_readNumber_129] at h)
  | succ n ih =>
    refine wX4_readNumber_129_ok hm ?_
    intro x4 x5 x6 x7 σ u h hp
    exact sf_run_ok hs (sf_sm_cons ih (sf_sm_cons (rX4_readNumber_199 hs hm) sf_sm_nil)) 120 129 _ _ σ u h hp
noncomputable def dX4_readNumber_109 (x2 : Int32) (x4 : Int32) (x5 : Int32) (y0 : Int32) (σ : sf_S) : Option (Int32 × sf_S) :=
  (dX4_accept y0 σ).bind fun u1 =>
  if x2 = 0 then
    dX4_readNumber_129 sf_F x4 x5 (9999 : Int32) (0 : Int32) u1
  else
    dX4_readNumber_129 sf_F x4 x5 (99 : Int32) (0 : Int32) u1
set_option maxRecDepth 100000 in
set_option maxHeartbeats 4000000 in
theorem rX4_readNumber_109 {Wt : Nat → sf_L → List Value → sf_S → Prop} {Post : (Int32 × sf_S) → Prop} (hs : sf_Snd Wt sf_layC sf_hI jX4_readNumber tX4_readNumber Post) (hm : sf_mono Wt) : sf_CK Wt Post 109 (wX4_readNumber_109 (dX4_readNumber_109)) := by
  refine wX4_readNumber_109_ok hm ?_
  intro x2 x4 x5 y0 σ u h hp
  exact sf_run_ok hs (sf_sm_cons (rX4_readNumber_129 hs hm sf_F) sf_sm_nil) 120 109 _ _ σ u h hp
noncomputable def dX4_readNumber_70 (x2 : Int32) (x3 : Int32) (x4 : Int32) (σ : sf_S) : Option (Int32 × sf_S) :=
  (dX4_peek σ).bind fun u1 =>
  (dX4_peek u1.2).bind fun u2 =>
  (dX4_isDigit u2.1 u2.2).bind fun u3 =>
  if u3.1 = 0 then
    dX4_readNumber_109 x2 x4 (u1.1 - (48 : Int32)) (0 : Int32) u3.2
  else
    if 0 < (u1.1 - (48 : Int32)) then
      dX4_readNumber_109 x2 x4 (u1.1 - (48 : Int32)) (1 : Int32) u3.2
    else
      if ¬ x4 = 0 then
        dX4_readNumber_109 x2 x4 (u1.1 - (48 : Int32)) (0 : Int32) u3.2
      else
        if ¬ x3 = 0 then
          dX4_readNumber_109 x2 x4 (u1.1 - (48 : Int32)) (0 : Int32) u3.2
        else
          dX4_readNumber_109 x2 x4 (u1.1 - (48 : Int32)) (1 : Int32) u3.2
set_option maxRecDepth 100000 in
set_option maxHeartbeats 4000000 in
theorem rX4_readNumber_70 {Wt : Nat → sf_L → List Value → sf_S → Prop} {Post : (Int32 × sf_S) → Prop} (hs : sf_Snd Wt sf_layC sf_hI jX4_readNumber tX4_readNumber Post) (hm : sf_mono Wt) : sf_CK Wt Post 70 (wX4_readNumber_70 (dX4_readNumber_70)) := by
  refine wX4_readNumber_70_ok hm ?_
  intro x2 x3 x4 σ u h hp
  exact sf_run_ok hs (sf_sm_cons (rX4_readNumber_109 hs hm) sf_sm_nil) 120 70 _ _ σ u h hp
noncomputable def dX4_readNumber_35 (x2 : Int32) (y0 : Int32) (σ : sf_S) : Option (Int32 × sf_S) :=
  if ¬ x2 = 0 then
    if (0 : Int32) = 0 then
      dX4_readNumber_70 x2 y0 (0 : Int32) σ
    else
      (dX4_accept (1 : Int32) σ).bind fun u1 =>
      dX4_readNumber_70 x2 y0 (0 : Int32) u1
  else
    if ¬ y0 = 0 then
      if (0 : Int32) = 0 then
        dX4_readNumber_70 x2 y0 (0 : Int32) σ
      else
        (dX4_accept (1 : Int32) σ).bind fun u2 =>
        dX4_readNumber_70 x2 y0 (0 : Int32) u2
    else
      (dX4_peek σ).bind fun u3 =>
      if ¬ u3.1 = (45 : Int32) then
        if (0 : Int32) = 0 then
          dX4_readNumber_70 x2 y0 (0 : Int32) u3.2
        else
          (dX4_accept (1 : Int32) u3.2).bind fun u4 =>
          dX4_readNumber_70 x2 y0 (0 : Int32) u4
      else
        if (1 : Int32) = 0 then
          dX4_readNumber_70 x2 y0 (1 : Int32) u3.2
        else
          (dX4_accept (1 : Int32) u3.2).bind fun u5 =>
          dX4_readNumber_70 x2 y0 (1 : Int32) u5
set_option maxRecDepth 100000 in
set_option maxHeartbeats 4000000 in
theorem rX4_readNumber_35 {Wt : Nat → sf_L → List Value → sf_S → Prop} {Post : (Int32 × sf_S) → Prop} (hs : sf_Snd Wt sf_layC sf_hI jX4_readNumber tX4_readNumber Post) (hm : sf_mono Wt) : sf_CK Wt Post 35 (wX4_readNumber_35 (dX4_readNumber_35)) := by
  refine wX4_readNumber_35_ok hm ?_
  intro x2 y0 σ u h hp
  exact sf_run_ok hs (sf_sm_cons (rX4_readNumber_70 hs hm) sf_sm_nil) 120 35 _ _ σ u h hp
noncomputable def dX4_readNumber_17 (x1 : Int32) (y0 : Int32) (σ : sf_S) : Option (Int32 × sf_S) :=
  if x1 = (37 : Int32) then
    dX4_readNumber_35 y0 (1 : Int32) σ
  else
    if ¬ x1 = (107 : Int32) then
      dX4_readNumber_35 y0 (0 : Int32) σ
    else
      dX4_readNumber_35 y0 (1 : Int32) σ
set_option maxRecDepth 100000 in
set_option maxHeartbeats 4000000 in
theorem rX4_readNumber_17 {Wt : Nat → sf_L → List Value → sf_S → Prop} {Post : (Int32 × sf_S) → Prop} (hs : sf_Snd Wt sf_layC sf_hI jX4_readNumber tX4_readNumber Post) (hm : sf_mono Wt) : sf_CK Wt Post 17 (wX4_readNumber_17 (dX4_readNumber_17)) := by
  refine wX4_readNumber_17_ok hm ?_
  intro x1 y0 σ u h hp
  exact sf_run_ok hs (sf_sm_cons (rX4_readNumber_35 hs hm) sf_sm_nil) 120 17 _ _ σ u h hp
noncomputable def dX4_readNumber (x1 : Int32) (σ : sf_S) : Option (Int32 × sf_S) :=
  if x1 = (116 : Int32) then
    dX4_readNumber_17 x1 (1 : Int32) σ
  else
    if ¬ x1 = (100 : Int32) then
      dX4_readNumber_17 x1 (0 : Int32) σ
    else
      dX4_readNumber_17 x1 (1 : Int32) σ
noncomputable abbrev gX4_readNumber (av : List Value) (σ : sf_S) : Option (Int32 × sf_S) := match av with
  | [.ref q, .int x1] => (match sf_rv [46] q with | true => dX4_readNumber x1 σ | false => none)
  | _ => none
set_option maxRecDepth 100000 in
set_option maxHeartbeats 4000000 in
theorem rX4_readNumber {Wt : Nat → sf_L → List Value → sf_S → Prop} {Post : (Int32 × sf_S) → Prop} (hs : sf_Snd Wt sf_layC sf_hI jX4_readNumber tX4_readNumber Post) (hm : sf_mono Wt) : ∀ av σ u, gX4_readNumber av σ = some u → Post u → (∀ ad, (lg_sl (av.map (sf_v ad))).length ≤ 9) ∧ Wt 0 (sf_ent 0 av) [] σ := by
  intro av σ u h hp
  unfold gX4_readNumber at h
  split at h
  · rename_i q x1
    split at h
    · rename_i hq
      have hq : q = 46 := by simpa using sf_rv_mem hq
      subst hq
      refine ⟨fun ad => Nat.le_of_ble_eq_true rfl, ?_⟩
      exact sf_run_ok hs (sf_sm_cons (rX4_readNumber_17 hs hm) sf_sm_nil) 120 0 _ _ σ u h hp
    · cases h
  · cases h
theorem kX4_readNumber (l : Launch) : sf_C l sf_layC yX4_readNumber cX4_readNumber 9 (some .int) (sf_rm 2 121) (fun av σ => (gX4_readNumber av σ).map sf_vI) :=
  sf_met (tab := tX4_readNumber) (J := jX4_readNumber) (fl := sf_fl4) (cl := sf_cl4) (by decide +kernel) ⟨rfl, rfl⟩ sf_RH_I (by decide +kernel) sf_fl4_ok sf_cl4_ok
    (sf_JO_cons (sf_je_V (n := 1) (cs := [4]) (tv := sf_vI) (kX4_peek l) mwX4_peek (by decide +kernel : decode cX4_readNumber 45 = .ok (.invokevirtual 47, 3)) wt_973 wt_975 wt_65 (by decide +kernel) (by decide) (by decide) (List.forall_mem_cons.mpr ⟨⟨_, _, rfl⟩, fun _ h => absurd h List.not_mem_nil⟩) (sf_RM_of (by omega) (by omega))) (sf_JO_cons (sf_je_V (n := 2) (cs := [4]) (tv := sf_vV) (kX4_accept l) mwX4_accept (by decide +kernel : decode cX4_readNumber 67 = .ok (.invokevirtual 55, 3)) wt_982 wt_984 wt_66 (by decide +kernel) (by decide) (by decide) (List.forall_mem_cons.mpr ⟨⟨_, _, rfl⟩, fun _ h => absurd h List.not_mem_nil⟩) (sf_RM_of (by omega) (by omega))) (sf_JO_cons (sf_je_V (n := 1) (cs := [4]) (tv := sf_vI) (kX4_peek l) mwX4_peek (by decide +kernel : decode cX4_readNumber 71 = .ok (.invokevirtual 47, 3)) wt_973 wt_975 wt_65 (by decide +kernel) (by decide) (by decide) (List.forall_mem_cons.mpr ⟨⟨_, _, rfl⟩, fun _ h => absurd h List.not_mem_nil⟩) (sf_RM_of (by omega) (by omega))) (sf_JO_cons (sf_je_V (n := 1) (cs := [4]) (tv := sf_vI) (kX4_peek l) mwX4_peek (by decide +kernel : decode cX4_readNumber 81 = .ok (.invokevirtual 47, 3)) wt_973 wt_975 wt_65 (by decide +kernel) (by decide) (by decide) (List.forall_mem_cons.mpr ⟨⟨_, _, rfl⟩, fun _ h => absurd h List.not_mem_nil⟩) (sf_RM_of (by omega) (by omega))) (sf_JO_cons (sf_je_S (n := 1) (tv := sf_vI) (kX4_isDigit l) mwX4_isDigit (by decide +kernel : decode cX4_readNumber 84 = .ok (.invokestatic 90, 3)) wt_994 wt_995 (by decide +kernel) (sf_RM_of (by omega) (by omega))) (sf_JO_cons (sf_je_V (n := 2) (cs := [4]) (tv := sf_vV) (kX4_accept l) mwX4_accept (by decide +kernel : decode cX4_readNumber 109 = .ok (.invokevirtual 55, 3)) wt_982 wt_984 wt_66 (by decide +kernel) (by decide) (by decide) (List.forall_mem_cons.mpr ⟨⟨_, _, rfl⟩, fun _ h => absurd h List.not_mem_nil⟩) (sf_RM_of (by omega) (by omega))) (sf_JO_cons (sf_je_V (n := 1) (cs := [4]) (tv := sf_vI) (kX4_peek l) mwX4_peek (by decide +kernel : decode cX4_readNumber 144 = .ok (.invokevirtual 47, 3)) wt_973 wt_975 wt_65 (by decide +kernel) (by decide) (by decide) (List.forall_mem_cons.mpr ⟨⟨_, _, rfl⟩, fun _ h => absurd h List.not_mem_nil⟩) (sf_RM_of (by omega) (by omega))) (sf_JO_cons (sf_je_S (n := 1) (tv := sf_vI) (kX4_isDigit l) mwX4_isDigit (by decide +kernel : decode cX4_readNumber 147 = .ok (.invokestatic 90, 3)) wt_994 wt_995 (by decide +kernel) (sf_RM_of (by omega) (by omega))) (sf_JO_cons (sf_je_V (n := 1) (cs := [4]) (tv := sf_vI) (kX4_peek l) mwX4_peek (by decide +kernel : decode cX4_readNumber 159 = .ok (.invokevirtual 47, 3)) wt_973 wt_975 wt_65 (by decide +kernel) (by decide) (by decide) (List.forall_mem_cons.mpr ⟨⟨_, _, rfl⟩, fun _ h => absurd h List.not_mem_nil⟩) (sf_RM_of (by omega) (by omega))) (sf_JO_cons (sf_je_V (n := 2) (cs := [4]) (tv := sf_vV) (kX4_accept l) mwX4_accept (by decide +kernel : decode cX4_readNumber 186 = .ok (.invokevirtual 55, 3)) wt_982 wt_984 wt_66 (by decide +kernel) (by decide) (by decide) (List.forall_mem_cons.mpr ⟨⟨_, _, rfl⟩, fun _ h => absurd h List.not_mem_nil⟩) (sf_RM_of (by omega) (by omega))) (sf_JO_cons (sf_je_V (n := 1) (cs := [4]) (tv := sf_vI) (kX4_peek l) mwX4_peek (by decide +kernel : decode cX4_readNumber 201 = .ok (.invokevirtual 47, 3)) wt_973 wt_975 wt_65 (by decide +kernel) (by decide) (by decide) (List.forall_mem_cons.mpr ⟨⟨_, _, rfl⟩, fun _ h => absurd h List.not_mem_nil⟩) (sf_RM_of (by omega) (by omega))) (sf_JO_cons (sf_je_V (n := 2) (cs := [4]) (tv := sf_vV) (kX4_accept l) mwX4_accept (by decide +kernel : decode cX4_readNumber 214 = .ok (.invokevirtual 55, 3)) wt_982 wt_984 wt_66 (by decide +kernel) (by decide) (by decide) (List.forall_mem_cons.mpr ⟨⟨_, _, rfl⟩, fun _ h => absurd h List.not_mem_nil⟩) (sf_RM_of (by omega) (by omega))) (sf_JO_nil)))))))))))))
    (fun Wt Post hs hm => rX4_readNumber hs hm)
-- ===== StreamFuser$Reader.readNode()V =====
abbrev tX4_readNode : List (Nat × sf_E) := [(0, (.aload_n 0, 1, 0, .null, [], [])), (1, (.getfield 37, 4, 0, .null, [], [(4, 4)])), (4, (.ifCond .gt 4, 7, 8, .null, [], [])), (7, (.return_, 8, 0, .null, [], [])), (8, (.aload_n 0, 9, 0, .null, [], [])), (9, (.dup, 10, 0, .null, [], [])), (10, (.getfield 37, 13, 0, .null, [], [(4, 4)])), (13, (.iconst 1, 14, 0, .int (1), [], [])), (14, (.isub, 15, 0, .null, [], [])), (15, (.putfield 37, 18, 0, .null, [], [(4, 4)])), (18, (.aload_n 0, 19, 0, .null, [], [])), (19, (.getfield 15, 22, 0, .null, [], [(4, 3)])), (22, (.aload_n 0, 23, 0, .null, [], [])), (23, (.getfield 37, 26, 0, .null, [], [(4, 4)])), (26, (.iaload, 27, 0, .null, [], [])), (27, (.istore_n 1, 28, 0, .null, [], [])), (28, (.aload_n 0, 29, 0, .null, [], [])), (29, (.invokevirtual 47, 32, 0, .null, [], [])), (32, (.istore_n 2, 33, 0, .null, [], [])), (33, (.aload_n 0, 34, 0, .null, [], [])), (34, (.iload_n 2, 35, 0, .null, [], [])), (35, (.iload_n 1, 36, 0, .null, [], [])), (36, (.invokestatic 51, 39, 0, .null, [], [])), (39, (.invokevirtual 55, 42, 0, .null, [], [])), (42, (.iload_n 2, 43, 0, .null, [], [])), (43, (.invokestatic 59, 46, 0, .null, [], [])), (46, (.ifCond .eq 11, 49, 57, .null, [], [])), (49, (.aload_n 0, 50, 0, .null, [], [])), (50, (.iload_n 2, 51, 0, .null, [], [])), (51, (.invokevirtual 63, 54, 0, .null, [], [])), (54, (.goto 4, 57, 58, .null, [], [])), (57, (.iconst (-1), 58, 0, .int (-1), [], [])), (58, (.istore_n 3, 59, 0, .null, [], [])), (59, (.iload_n 2, 60, 0, .null, [], [])), (60, (.invokestatic 67, 63, 0, .null, [], [])), (63, (.istore 4, 65, 0, .null, [], [])), (65, (.iload 4, 67, 0, .null, [], [])), (67, (.ifCond .le 11, 70, 78, .null, [], [])), (70, (.aload_n 0, 71, 0, .null, [], [])), (71, (.iload_n 2, 72, 0, .null, [], [])), (72, (.invokevirtual 70, 75, 0, .null, [], [])), (75, (.goto 4, 78, 79, .null, [], [])), (78, (.iconst 0, 79, 0, .int (0), [], [])), (79, (.istore 5, 81, 0, .null, [], [])), (81, (.iload 4, 83, 0, .null, [], [])), (83, (.iconst 1, 84, 0, .int (1), [], [])), (84, (.if_icmp .le 11, 87, 95, .null, [], [])), (87, (.aload_n 0, 88, 0, .null, [], [])), (88, (.iload_n 2, 89, 0, .null, [], [])), (89, (.invokevirtual 70, 92, 0, .null, [], [])), (92, (.goto 4, 95, 96, .null, [], [])), (95, (.iconst 0, 96, 0, .int (0), [], [])), (96, (.istore 6, 98, 0, .null, [], [])), (98, (.aload_n 0, 99, 0, .null, [], [])), (99, (.getfield 34, 102, 0, .null, [], [(4, 6)])), (102, (.iconst (-1), 103, 0, .int (-1), [], [])), (103, (.if_icmp .eq 4, 106, 107, .null, [], [])), (106, (.return_, 107, 0, .null, [], [])), (107, (.aload_n 0, 108, 0, .null, [], [])), (108, (.getfield 18, 111, 0, .null, [], [(4, 0)])), (111, (.iload_n 2, 112, 0, .null, [], [])), (112, (.iload_n 3, 113, 0, .null, [], [])), (113, (.iload 5, 115, 0, .null, [], [])), (115, (.iload 6, 117, 0, .null, [], [])), (117, (.invokevirtual 73, 120, 0, .null, [], [])), (120, (.aload_n 0, 121, 0, .null, [], [])), (121, (.iload_n 2, 122, 0, .null, [], [])), (122, (.iload_n 1, 123, 0, .null, [], [])), (123, (.invokevirtual 77, 126, 0, .null, [], [])), (126, (.return_, 127, 0, .null, [], []))]
noncomputable abbrev jX4_readNode : List (Nat × sf_J sf_S) := [(29, sf_jI sf_layC [4] 1 gX4_peek), (36, sf_jI sf_layC [] 2 gX4_isLetter), (39, sf_jV sf_layC [4] 2 gX4_accept), (43, sf_jI sf_layC [] 1 gX4_hasMark), (51, sf_jI sf_layC [4] 2 gX4_readMark), (60, sf_jI sf_layC [] 1 gX2_numbersOf), (72, sf_jI sf_layC [4] 2 gX4_readNumber), (89, sf_jI sf_layC [4] 2 gX4_readNumber), (117, sf_jV sf_layC [2] 5 gX2_add), (123, sf_jV sf_layC [4] 3 gX4_expectParts)]
abbrev wX4_readNode_96 {ρ : Type} (k : Int32 → Int32 → Int32 → Int32 → Int32 → sf_S → Option ρ) : sf_M ρ := fun L st σ => sf_lda L 0 fun a0 => sf_eq a0 46 (sf_ldi L 1 fun x1 => sf_ldi L 2 fun x2 => sf_ldi L 3 fun x3 => sf_ldi L 5 fun x5 => sf_i1 st fun y0 st => sf_nil st (k x1 x2 x3 x5 y0 σ))
theorem wX4_readNode_96_ok {ρ : Type} {Wt : Nat → sf_L → List Value → sf_S → Prop} {Post : ρ → Prop} (hm : sf_mono Wt) {k : Int32 → Int32 → Int32 → Int32 → Int32 → sf_S → Option ρ} (h : ∀ (x1 : Int32) (x2 : Int32) (x3 : Int32) (x5 : Int32) (y0 : Int32) (σ : sf_S) (u : ρ), k x1 x2 x3 x5 y0 σ = some u → Post u → Wt 96 [(0, some (.ref 46)), (1, some (.int x1)), (2, some (.int x2)), (3, some (.int x3)), (5, some (.int x5))] [.int y0] σ) : sf_CK Wt Post 96 (wX4_readNode_96 k) := by
  intro L st σ u hf hp
  unfold wX4_readNode_96 at hf
  have hf0 := hf
  obtain ⟨a0, e0, hf1⟩ := sf_lda_inv hf0
  obtain ⟨rfl, hf2⟩ := sf_eq_inv hf1
  obtain ⟨x1, e1, hf3⟩ := sf_ldi_inv hf2
  obtain ⟨x2, e2, hf4⟩ := sf_ldi_inv hf3
  obtain ⟨x3, e3, hf5⟩ := sf_ldi_inv hf4
  obtain ⟨x5, e5, hf6⟩ := sf_ldi_inv hf5
  obtain ⟨y0, st, rfl, hf7⟩ := sf_i1_inv hf6
  obtain ⟨rfl, hz⟩ := sf_nil_inv hf7
  exact hm _ [(0, some (.ref _)), (1, some (.int x1)), (2, some (.int x2)), (3, some (.int x3)), (5, some (.int x5))] _ _ _ (sf_le_ok (And.intro e0 (And.intro e1 (And.intro e2 (And.intro e3 (And.intro e5 trivial)))))) (h _ _ _ _ _ _ _ hz hp)
abbrev wX4_readNode_79 {ρ : Type} (k : Int32 → Int32 → Int32 → Int32 → Int32 → sf_S → Option ρ) : sf_M ρ := fun L st σ => sf_lda L 0 fun a0 => sf_eq a0 46 (sf_ldi L 1 fun x1 => sf_ldi L 2 fun x2 => sf_ldi L 3 fun x3 => sf_ldi L 4 fun x4 => sf_i1 st fun y0 st => sf_nil st (k x1 x2 x3 x4 y0 σ))
theorem wX4_readNode_79_ok {ρ : Type} {Wt : Nat → sf_L → List Value → sf_S → Prop} {Post : ρ → Prop} (hm : sf_mono Wt) {k : Int32 → Int32 → Int32 → Int32 → Int32 → sf_S → Option ρ} (h : ∀ (x1 : Int32) (x2 : Int32) (x3 : Int32) (x4 : Int32) (y0 : Int32) (σ : sf_S) (u : ρ), k x1 x2 x3 x4 y0 σ = some u → Post u → Wt 79 [(0, some (.ref 46)), (1, some (.int x1)), (2, some (.int x2)), (3, some (.int x3)), (4, some (.int x4))] [.int y0] σ) : sf_CK Wt Post 79 (wX4_readNode_79 k) := by
  intro L st σ u hf hp
  unfold wX4_readNode_79 at hf
  have hf0 := hf
  obtain ⟨a0, e0, hf1⟩ := sf_lda_inv hf0
  obtain ⟨rfl, hf2⟩ := sf_eq_inv hf1
  obtain ⟨x1, e1, hf3⟩ := sf_ldi_inv hf2
  obtain ⟨x2, e2, hf4⟩ := sf_ldi_inv hf3
  obtain ⟨x3, e3, hf5⟩ := sf_ldi_inv hf4
  obtain ⟨x4, e4, hf6⟩ := sf_ldi_inv hf5
  obtain ⟨y0, st, rfl, hf7⟩ := sf_i1_inv hf6
  obtain ⟨rfl, hz⟩ := sf_nil_inv hf7
  exact hm _ [(0, some (.ref _)), (1, some (.int x1)), (2, some (.int x2)), (3, some (.int x3)), (4, some (.int x4))] _ _ _ (sf_le_ok (And.intro e0 (And.intro e1 (And.intro e2 (And.intro e3 (And.intro e4 trivial)))))) (h _ _ _ _ _ _ _ hz hp)
abbrev wX4_readNode_58 {ρ : Type} (k : Int32 → Int32 → Int32 → sf_S → Option ρ) : sf_M ρ := fun L st σ => sf_lda L 0 fun a0 => sf_eq a0 46 (sf_ldi L 1 fun x1 => sf_ldi L 2 fun x2 => sf_i1 st fun y0 st => sf_nil st (k x1 x2 y0 σ))
theorem wX4_readNode_58_ok {ρ : Type} {Wt : Nat → sf_L → List Value → sf_S → Prop} {Post : ρ → Prop} (hm : sf_mono Wt) {k : Int32 → Int32 → Int32 → sf_S → Option ρ} (h : ∀ (x1 : Int32) (x2 : Int32) (y0 : Int32) (σ : sf_S) (u : ρ), k x1 x2 y0 σ = some u → Post u → Wt 58 [(0, some (.ref 46)), (1, some (.int x1)), (2, some (.int x2))] [.int y0] σ) : sf_CK Wt Post 58 (wX4_readNode_58 k) := by
  intro L st σ u hf hp
  unfold wX4_readNode_58 at hf
  have hf0 := hf
  obtain ⟨a0, e0, hf1⟩ := sf_lda_inv hf0
  obtain ⟨rfl, hf2⟩ := sf_eq_inv hf1
  obtain ⟨x1, e1, hf3⟩ := sf_ldi_inv hf2
  obtain ⟨x2, e2, hf4⟩ := sf_ldi_inv hf3
  obtain ⟨y0, st, rfl, hf5⟩ := sf_i1_inv hf4
  obtain ⟨rfl, hz⟩ := sf_nil_inv hf5
  exact hm _ [(0, some (.ref _)), (1, some (.int x1)), (2, some (.int x2))] _ _ _ (sf_le_ok (And.intro e0 (And.intro e1 (And.intro e2 trivial)))) (h _ _ _ _ _ hz hp)
noncomputable def dX4_readNode_96 (x1 : Int32) (x2 : Int32) (x3 : Int32) (x5 : Int32) (y0 : Int32) (σ : sf_S) : Option sf_S :=
  if (σ 46 6) = (-1 : Int32) then
    (dX2_add 36 x2 x3 x5 y0 σ).bind fun u1 =>
    (dX4_expectParts x2 x1 u1).bind fun u2 =>
    some u2
  else
    some σ
set_option maxRecDepth 100000 in
set_option maxHeartbeats 4000000 in
theorem rX4_readNode_96 {Wt : Nat → sf_L → List Value → sf_S → Prop} {Post : sf_S → Prop} (hs : sf_Snd Wt sf_layC sf_hV jX4_readNode tX4_readNode Post) (hm : sf_mono Wt) : sf_CK Wt Post 96 (wX4_readNode_96 (dX4_readNode_96)) := by
  refine wX4_readNode_96_ok hm ?_
  intro x1 x2 x3 x5 y0 σ u h hp
  exact sf_run_ok hs sf_sm_nil 75 96 _ _ σ u h hp
noncomputable def dX4_readNode_79 (x1 : Int32) (x2 : Int32) (x3 : Int32) (x4 : Int32) (y0 : Int32) (σ : sf_S) : Option sf_S :=
  if x4 ≤ (1 : Int32) then
    dX4_readNode_96 x1 x2 x3 y0 (0 : Int32) σ
  else
    (dX4_readNumber x2 σ).bind fun u1 =>
    dX4_readNode_96 x1 x2 x3 y0 u1.1 u1.2
set_option maxRecDepth 100000 in
set_option maxHeartbeats 4000000 in
theorem rX4_readNode_79 {Wt : Nat → sf_L → List Value → sf_S → Prop} {Post : sf_S → Prop} (hs : sf_Snd Wt sf_layC sf_hV jX4_readNode tX4_readNode Post) (hm : sf_mono Wt) : sf_CK Wt Post 79 (wX4_readNode_79 (dX4_readNode_79)) := by
  refine wX4_readNode_79_ok hm ?_
  intro x1 x2 x3 x4 y0 σ u h hp
  exact sf_run_ok hs (sf_sm_cons (rX4_readNode_96 hs hm) sf_sm_nil) 75 79 _ _ σ u h hp
noncomputable def dX4_readNode_58 (x1 : Int32) (x2 : Int32) (y0 : Int32) (σ : sf_S) : Option sf_S :=
  (dX2_numbersOf x2 σ).bind fun u1 =>
  if u1.1 ≤ 0 then
    dX4_readNode_79 x1 x2 y0 u1.1 (0 : Int32) u1.2
  else
    (dX4_readNumber x2 u1.2).bind fun u2 =>
    dX4_readNode_79 x1 x2 y0 u1.1 u2.1 u2.2
set_option maxRecDepth 100000 in
set_option maxHeartbeats 4000000 in
theorem rX4_readNode_58 {Wt : Nat → sf_L → List Value → sf_S → Prop} {Post : sf_S → Prop} (hs : sf_Snd Wt sf_layC sf_hV jX4_readNode tX4_readNode Post) (hm : sf_mono Wt) : sf_CK Wt Post 58 (wX4_readNode_58 (dX4_readNode_58)) := by
  refine wX4_readNode_58_ok hm ?_
  intro x1 x2 y0 σ u h hp
  exact sf_run_ok hs (sf_sm_cons (rX4_readNode_79 hs hm) sf_sm_nil) 75 58 _ _ σ u h hp
noncomputable def dX4_readNode (σ : sf_S) : Option sf_S :=
  if 0 < (σ 46 4) then
    let s1 := sf_up σ 46 4 ((σ 46 4) - (1 : Int32))
    let v2 := (s1 46 4)
    if sf_in v2 41 then
      let v3 := (s1 48 v2.toNatClampNeg)
      (dX4_peek s1).bind fun u4 =>
      (dX4_isLetter u4.1 v3 u4.2).bind fun u5 =>
      (dX4_accept u5.1 u5.2).bind fun u6 =>
      (dX4_hasMark u4.1 u6).bind fun u7 =>
      if u7.1 = 0 then
        dX4_readNode_58 v3 u4.1 (-1 : Int32) u7.2
      else
        (dX4_readMark u4.1 u7.2).bind fun u8 =>
        dX4_readNode_58 v3 u4.1 u8.1 u8.2
    else
      none
  else
    some σ
noncomputable abbrev gX4_readNode (av : List Value) (σ : sf_S) : Option sf_S := match av with
  | [.ref q] => (match sf_rv [46] q with | true => dX4_readNode σ | false => none)
  | _ => none
set_option maxRecDepth 100000 in
set_option maxHeartbeats 4000000 in
theorem rX4_readNode {Wt : Nat → sf_L → List Value → sf_S → Prop} {Post : sf_S → Prop} (hs : sf_Snd Wt sf_layC sf_hV jX4_readNode tX4_readNode Post) (hm : sf_mono Wt) : ∀ av σ u, gX4_readNode av σ = some u → Post u → (∀ ad, (lg_sl (av.map (sf_v ad))).length ≤ 7) ∧ Wt 0 (sf_ent 0 av) [] σ := by
  intro av σ u h hp
  unfold gX4_readNode at h
  split at h
  · rename_i q
    split at h
    · rename_i hq
      have hq : q = 46 := by simpa using sf_rv_mem hq
      subst hq
      refine ⟨fun ad => Nat.le_of_ble_eq_true rfl, ?_⟩
      exact sf_run_ok hs (sf_sm_cons (rX4_readNode_58 hs hm) sf_sm_nil) 75 0 _ _ σ u h hp
    · cases h
  · cases h
theorem kX4_readNode (l : Launch) : sf_C l sf_layC yX4_readNode cX4_readNode 7 none (sf_rm 4 163) (fun av σ => (gX4_readNode av σ).map sf_vV) :=
  sf_met (tab := tX4_readNode) (J := jX4_readNode) (fl := sf_fl4) (cl := sf_cl4) (by decide +kernel) ⟨rfl, rfl⟩ sf_RH_V (by decide +kernel) sf_fl4_ok sf_cl4_ok
    (sf_JO_cons (sf_je_V (n := 1) (cs := [4]) (tv := sf_vI) (kX4_peek l) mwX4_peek (by decide +kernel : decode cX4_readNode 29 = .ok (.invokevirtual 47, 3)) wt_973 wt_975 wt_65 (by decide +kernel) (by decide) (by decide) (List.forall_mem_cons.mpr ⟨⟨_, _, rfl⟩, fun _ h => absurd h List.not_mem_nil⟩) (sf_RM_of (by omega) (by omega))) (sf_JO_cons (sf_je_S (n := 2) (tv := sf_vI) (kX4_isLetter l) mwX4_isLetter (by decide +kernel : decode cX4_readNode 36 = .ok (.invokestatic 51, 3)) wt_977 wt_978 (by decide +kernel) (sf_RM_of (by omega) (by omega))) (sf_JO_cons (sf_je_V (n := 2) (cs := [4]) (tv := sf_vV) (kX4_accept l) mwX4_accept (by decide +kernel : decode cX4_readNode 39 = .ok (.invokevirtual 55, 3)) wt_982 wt_984 wt_66 (by decide +kernel) (by decide) (by decide) (List.forall_mem_cons.mpr ⟨⟨_, _, rfl⟩, fun _ h => absurd h List.not_mem_nil⟩) (sf_RM_of (by omega) (by omega))) (sf_JO_cons (sf_je_S (n := 1) (tv := sf_vI) (kX4_hasMark l) mwX4_hasMark (by decide +kernel : decode cX4_readNode 43 = .ok (.invokestatic 59, 3)) wt_986 wt_596 (by decide +kernel) (sf_RM_of (by omega) (by omega))) (sf_JO_cons (sf_je_V (n := 2) (cs := [4]) (tv := sf_vI) (kX4_readMark l) mwX4_readMark (by decide +kernel : decode cX4_readNode 51 = .ok (.invokevirtual 63, 3)) wt_987 wt_989 wt_67 (by decide +kernel) (by decide) (by decide) (List.forall_mem_cons.mpr ⟨⟨_, _, rfl⟩, fun _ h => absurd h List.not_mem_nil⟩) (sf_RM_of (by omega) (by omega))) (sf_JO_cons (sf_je_SN (n := 1) (tv := sf_vI) "StreamFuser" (kX2_numbersOf l) mwX2_numbersOf (by decide +kernel : decode cX4_readNode 60 = .ok (.invokestatic 67, 3)) wt_981 wt_586 (by decide +kernel) (sf_RM_of (by omega) (by omega))) (sf_JO_cons (sf_je_V (n := 2) (cs := [4]) (tv := sf_vI) (kX4_readNumber l) mwX4_readNumber (by decide +kernel : decode cX4_readNode 72 = .ok (.invokevirtual 70, 3)) wt_997 wt_999 wt_68 (by decide +kernel) (by decide) (by decide) (List.forall_mem_cons.mpr ⟨⟨_, _, rfl⟩, fun _ h => absurd h List.not_mem_nil⟩) (sf_RM_of (by omega) (by omega))) (sf_JO_cons (sf_je_V (n := 2) (cs := [4]) (tv := sf_vI) (kX4_readNumber l) mwX4_readNumber (by decide +kernel : decode cX4_readNode 89 = .ok (.invokevirtual 70, 3)) wt_997 wt_999 wt_68 (by decide +kernel) (by decide) (by decide) (List.forall_mem_cons.mpr ⟨⟨_, _, rfl⟩, fun _ h => absurd h List.not_mem_nil⟩) (sf_RM_of (by omega) (by omega))) (sf_JO_cons (sf_je_N (n := 5) (cs := [2]) (tv := sf_vV) "StreamFuser" (kX2_add l) mwX2_add (by decide +kernel : decode cX4_readNode 117 = .ok (.invokevirtual 73, 3)) wt_1001 wt_617 wt_26 (by decide +kernel) (by decide) (by decide) (List.forall_mem_cons.mpr ⟨⟨_, _, rfl⟩, fun _ h => absurd h List.not_mem_nil⟩) (sf_RM_of (by omega) (by omega))) (sf_JO_cons (sf_je_V (n := 3) (cs := [4]) (tv := sf_vV) (kX4_expectParts l) mwX4_expectParts (by decide +kernel : decode cX4_readNode 123 = .ok (.invokevirtual 77, 3)) wt_1002 wt_1004 wt_69 (by decide +kernel) (by decide) (by decide) (List.forall_mem_cons.mpr ⟨⟨_, _, rfl⟩, fun _ h => absurd h List.not_mem_nil⟩) (sf_RM_of (by omega) (by omega))) (sf_JO_nil)))))))))))
    (fun Wt Post hs hm => rX4_readNode hs hm)
-- ===== StreamFuser$Reader.read()I =====
abbrev tX4_read : List (Nat × sf_E) := [(0, (.aload_n 0, 1, 0, .null, [], [])), (1, (.getfield 18, 4, 0, .null, [], [(4, 0)])), (4, (.iconst 0, 5, 0, .int (0), [], [])), (5, (.putfield 26, 8, 0, .null, [], [(2, 4)])), (8, (.aload_n 0, 9, 0, .null, [], [])), (9, (.iconst 0, 10, 0, .int (0), [], [])), (10, (.putfield 31, 13, 0, .null, [], [(4, 5)])), (13, (.aload_n 0, 14, 0, .null, [], [])), (14, (.iconst (-1), 15, 0, .int (-1), [], [])), (15, (.putfield 34, 18, 0, .null, [], [(4, 6)])), (18, (.aload_n 0, 19, 0, .null, [], [])), (19, (.iconst 0, 20, 0, .int (0), [], [])), (20, (.putfield 37, 23, 0, .null, [], [(4, 4)])), (23, (.aload_n 0, 24, 0, .null, [], [])), (24, (.iconst 0, 25, 0, .int (0), [], [])), (25, (.invokevirtual 40, 28, 0, .null, [], [])), (28, (.iconst 0, 29, 0, .int (0), [], [])), (29, (.istore_n 1, 30, 0, .null, [], [])), (30, (.iload_n 1, 31, 0, .null, [], [])), (31, (.bipush 40, 33, 0, .int (40), [], [])), (33, (.if_icmp .gt 28, 36, 61, .null, [], [])), (36, (.aload_n 0, 37, 0, .null, [], [])), (37, (.getfield 37, 40, 0, .null, [], [(4, 4)])), (40, (.ifCond .le 21, 43, 61, .null, [], [])), (43, (.aload_n 0, 44, 0, .null, [], [])), (44, (.getfield 34, 47, 0, .null, [], [(4, 6)])), (47, (.iconst (-1), 48, 0, .int (-1), [], [])), (48, (.if_icmp .ne 13, 51, 61, .null, [], [])), (51, (.aload_n 0, 52, 0, .null, [], [])), (52, (.invokevirtual 44, 55, 0, .null, [], [])), (55, (.iinc 1 1, 58, 0, .int (1), [], [])), (58, (.goto (-28), 61, 30, .null, [], [])), (61, (.aload_n 0, 62, 0, .null, [], [])), (62, (.getfield 34, 65, 0, .null, [], [(4, 6)])), (65, (.iconst (-1), 66, 0, .int (-1), [], [])), (66, (.if_icmp .ne 22, 69, 88, .null, [], [])), (69, (.aload_n 0, 70, 0, .null, [], [])), (70, (.getfield 31, 73, 0, .null, [], [(4, 5)])), (73, (.aload_n 0, 74, 0, .null, [], [])), (74, (.getfield 22, 77, 0, .null, [], [(4, 2)])), (77, (.if_icmp .ge 11, 80, 88, .null, [], [])), (80, (.aload_n 0, 81, 0, .null, [], [])), (81, (.aload_n 0, 82, 0, .null, [], [])), (82, (.getfield 31, 85, 0, .null, [], [(4, 5)])), (85, (.putfield 34, 88, 0, .null, [], [(4, 6)])), (88, (.aload_n 0, 89, 0, .null, [], [])), (89, (.getfield 34, 92, 0, .null, [], [(4, 6)])), (92, (.ireturn, 93, 0, .null, [], []))]
noncomputable abbrev jX4_read : List (Nat × sf_J (Int32 × sf_S)) := [(25, sf_jV sf_layC [4] 2 gX4_expect), (52, sf_jV sf_layC [4] 1 gX4_readNode)]
abbrev wX4_read_61 {ρ : Type} (k : sf_S → Option ρ) : sf_M ρ := fun L st σ => sf_lda L 0 fun a0 => sf_eq a0 46 (sf_nil st (k  σ))
theorem wX4_read_61_ok {ρ : Type} {Wt : Nat → sf_L → List Value → sf_S → Prop} {Post : ρ → Prop} (hm : sf_mono Wt) {k : sf_S → Option ρ} (h : ∀  (σ : sf_S) (u : ρ), k  σ = some u → Post u → Wt 61 [(0, some (.ref 46))] [] σ) : sf_CK Wt Post 61 (wX4_read_61 k) := by
  intro L st σ u hf hp
  unfold wX4_read_61 at hf
  have hf0 := hf
  obtain ⟨a0, e0, hf1⟩ := sf_lda_inv hf0
  obtain ⟨rfl, hf2⟩ := sf_eq_inv hf1
  obtain ⟨rfl, hz⟩ := sf_nil_inv hf2
  exact hm _ [(0, some (.ref _))] _ _ _ (sf_le_ok (And.intro e0 trivial)) (h  _ _ hz hp)
abbrev wX4_read_30 {ρ : Type} (k : Int32 → sf_S → Option ρ) : sf_M ρ := fun L st σ => sf_lda L 0 fun a0 => sf_eq a0 46 (sf_ldi L 1 fun x1 => sf_nil st (k x1 σ))
theorem wX4_read_30_ok {ρ : Type} {Wt : Nat → sf_L → List Value → sf_S → Prop} {Post : ρ → Prop} (hm : sf_mono Wt) {k : Int32 → sf_S → Option ρ} (h : ∀ (x1 : Int32) (σ : sf_S) (u : ρ), k x1 σ = some u → Post u → Wt 30 [(0, some (.ref 46)), (1, some (.int x1))] [] σ) : sf_CK Wt Post 30 (wX4_read_30 k) := by
  intro L st σ u hf hp
  unfold wX4_read_30 at hf
  have hf0 := hf
  obtain ⟨a0, e0, hf1⟩ := sf_lda_inv hf0
  obtain ⟨rfl, hf2⟩ := sf_eq_inv hf1
  obtain ⟨x1, e1, hf3⟩ := sf_ldi_inv hf2
  obtain ⟨rfl, hz⟩ := sf_nil_inv hf3
  exact hm _ [(0, some (.ref _)), (1, some (.int x1))] _ _ _ (sf_le_ok (And.intro e0 (And.intro e1 trivial))) (h _ _ _ hz hp)
noncomputable def dX4_read_61 (σ : sf_S) : Option (Int32 × sf_S) :=
  if ¬ (σ 46 6) = (-1 : Int32) then
    some ((σ 46 6), σ)
  else
    if (σ 46 2) ≤ (σ 46 5) then
      some ((σ 46 6), σ)
    else
      let s1 := sf_up σ 46 6 (σ 46 5)
      some ((s1 46 6), s1)
set_option maxRecDepth 100000 in
set_option maxHeartbeats 4000000 in
theorem rX4_read_61 {Wt : Nat → sf_L → List Value → sf_S → Prop} {Post : (Int32 × sf_S) → Prop} (hs : sf_Snd Wt sf_layC sf_hI jX4_read tX4_read Post) (hm : sf_mono Wt) : sf_CK Wt Post 61 (wX4_read_61 (dX4_read_61)) := by
  refine wX4_read_61_ok hm ?_
  intro  σ u h hp
  exact sf_run_ok hs sf_sm_nil 53 61 _ _ σ u h hp
noncomputable def dX4_read_30 : Nat → Int32 → sf_S → Option (Int32 × sf_S)
  | 0 => fun _ _ => none
  | n + 1 => fun x1 σ =>
    if (40 : Int32) < x1 then
      dX4_read_61 σ
    else
      if (σ 46 4) ≤ 0 then
        dX4_read_61 σ
      else
        if ¬ (σ 46 6) = (-1 : Int32) then
          dX4_read_61 σ
        else
          (dX4_readNode σ).bind fun u1 =>
          dX4_read_30 n (x1 + (1 : Int32)) u1
set_option maxRecDepth 100000 in
set_option maxHeartbeats 4000000 in
theorem rX4_read_30 {Wt : Nat → sf_L → List Value → sf_S → Prop} {Post : (Int32 × sf_S) → Prop} (hs : sf_Snd Wt sf_layC sf_hI jX4_read tX4_read Post) (hm : sf_mono Wt) : ∀ n : Nat, sf_CK Wt Post 30 (wX4_read_30 (dX4_read_30 n)) := by
  intro n
  induction n with
  | zero => exact wX4_read_30_ok hm (fun x1 σ u h _ => by simp [dX4_read_30] at h)
  | succ n ih =>
    refine wX4_read_30_ok hm ?_
    intro x1 σ u h hp
    exact sf_run_ok hs (sf_sm_cons ih (sf_sm_cons (rX4_read_61 hs hm) sf_sm_nil)) 53 30 _ _ σ u h hp
noncomputable def dX4_read (σ : sf_S) : Option (Int32 × sf_S) :=
  let s1 := sf_up σ 36 4 (0 : Int32)
  let s2 := sf_up s1 46 5 (0 : Int32)
  let s3 := sf_up s2 46 6 (-1 : Int32)
  let s4 := sf_up s3 46 4 (0 : Int32)
  (dX4_expect (0 : Int32) s4).bind fun u5 =>
  dX4_read_30 sf_F (0 : Int32) u5
noncomputable abbrev gX4_read (av : List Value) (σ : sf_S) : Option (Int32 × sf_S) := match av with
  | [.ref q] => (match sf_rv [46] q with | true => dX4_read σ | false => none)
  | _ => none
set_option maxRecDepth 100000 in
set_option maxHeartbeats 4000000 in
theorem rX4_read {Wt : Nat → sf_L → List Value → sf_S → Prop} {Post : (Int32 × sf_S) → Prop} (hs : sf_Snd Wt sf_layC sf_hI jX4_read tX4_read Post) (hm : sf_mono Wt) : ∀ av σ u, gX4_read av σ = some u → Post u → (∀ ad, (lg_sl (av.map (sf_v ad))).length ≤ 2) ∧ Wt 0 (sf_ent 0 av) [] σ := by
  intro av σ u h hp
  unfold gX4_read at h
  split at h
  · rename_i q
    split at h
    · rename_i hq
      have hq : q = 46 := by simpa using sf_rv_mem hq
      subst hq
      refine ⟨fun ad => Nat.le_of_ble_eq_true rfl, ?_⟩
      exact sf_run_ok hs (sf_sm_cons (rX4_read_30 hs hm sf_F) sf_sm_nil) 53 0 _ _ σ u h hp
    · cases h
  · cases h
theorem kX4_read (l : Launch) : sf_C l sf_layC yX4_read cX4_read 2 (some .int) (sf_rm 5 189) (fun av σ => (gX4_read av σ).map sf_vI) :=
  sf_met (tab := tX4_read) (J := jX4_read) (fl := sf_fl4) (cl := sf_cl4) (by decide +kernel) ⟨rfl, rfl⟩ sf_RH_I (by decide +kernel) sf_fl4_ok sf_cl4_ok
    (sf_JO_cons (sf_je_V (n := 2) (cs := [4]) (tv := sf_vV) (kX4_expect l) mwX4_expect (by decide +kernel : decode cX4_read 25 = .ok (.invokevirtual 40, 3)) wt_965 wt_967 wt_63 (by decide +kernel) (by decide) (by decide) (List.forall_mem_cons.mpr ⟨⟨_, _, rfl⟩, fun _ h => absurd h List.not_mem_nil⟩) (sf_RM_of (by omega) (by omega))) (sf_JO_cons (sf_je_V (n := 1) (cs := [4]) (tv := sf_vV) (kX4_readNode l) mwX4_readNode (by decide +kernel : decode cX4_read 52 = .ok (.invokevirtual 44, 3)) wt_969 wt_971 wt_64 (by decide +kernel) (by decide) (by decide) (List.forall_mem_cons.mpr ⟨⟨_, _, rfl⟩, fun _ h => absurd h List.not_mem_nil⟩) (sf_RM_of (by omega) (by omega))) (sf_JO_nil)))
    (fun Wt Post hs hm => rX4_read hs hm)
