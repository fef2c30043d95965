/-! ===== 19.X8 ===== -/
noncomputable abbrev gX8_stepG (G : Int32 → Int32 → sf_S → Option (Int32 × sf_S)) (av : List Value) (σ : sf_S) : Option (Int32 × sf_S) := match av with
  | [.ref q, .int x1, .int x2] => (match sf_rv [27] q with | true => G x1 x2 σ | false => none)
  | _ => none
-- ===== StreamFuser$Stepper.given(Z)I =====
abbrev tX8_given : List (Nat × sf_E) := [(0, (.iload_n 1, 1, 0, .null, [], [])), (1, (.ifCond .eq 5, 4, 6, .null, [], [])), (4, (.iconst 2, 5, 0, .int (2), [], [])), (5, (.ireturn, 6, 0, .null, [], [])), (6, (.aload_n 0, 7, 0, .null, [], [])), (7, (.getfield 15, 10, 0, .null, [], [(0, 3), (1, 1), (8, 3)])), (10, (.invokevirtual 94, 13, 0, .null, [], [])), (13, (.ifCond .eq 7, 16, 20, .null, [], [])), (16, (.iconst 3, 17, 0, .int (3), [], [])), (17, (.goto 4, 20, 21, .null, [], [])), (20, (.iconst 0, 21, 0, .int (0), [], [])), (21, (.ireturn, 22, 0, .null, [], []))]
noncomputable abbrev jX8_given : List (Nat × sf_J (Int32 × sf_S)) := [(10, sf_jI sf_layC [6] 1 gX6_failed)]
noncomputable def dX8_given (x1 : Int32) (σ : sf_S) : Option (Int32 × sf_S) :=
  if x1 = 0 then
    (dX6_failed 19 σ).bind fun u1 =>
    if u1.1 = 0 then
      some ((0 : Int32), u1.2)
    else
      some ((3 : Int32), u1.2)
  else
    some ((2 : Int32), σ)
noncomputable abbrev gX8_given (av : List Value) (σ : sf_S) : Option (Int32 × sf_S) := match av with
  | [.ref q, .int x1] => (match sf_rv [27] q with | true => dX8_given x1 σ | false => none)
  | _ => none
set_option maxRecDepth 100000 in
set_option maxHeartbeats 4000000 in
theorem rX8_given {Wt : Nat → sf_L → List Value → sf_S → Prop} {Post : (Int32 × sf_S) → Prop} (hs : sf_Snd Wt sf_layC sf_hI jX8_given tX8_given Post) (hm : sf_mono Wt) : ∀ av σ u, gX8_given av σ = some u → Post u → (∀ ad, (lg_sl (av.map (sf_v ad))).length ≤ 2) ∧ Wt 0 (sf_ent 0 av) [] σ := by
  intro av σ u h hp
  unfold gX8_given at h
  split at h
  · rename_i q x1
    split at h
    · rename_i hq
      have hq : q = 27 := by simpa using sf_rv_mem hq
      subst hq
      refine ⟨fun ad => Nat.le_of_ble_eq_true rfl, ?_⟩
      exact sf_run_ok hs sf_sm_nil 17 0 _ _ σ u h hp
    · cases h
  · cases h
theorem kX8_given (l : Launch) : sf_C l sf_layC yX8_given cX8_given 2 (some .int) (sf_rm 2 120) (fun av σ => (gX8_given av σ).map sf_vI) :=
  sf_met (tab := tX8_given) (J := jX8_given) (fl := sf_fl8) (cl := sf_cl8) (by decide +kernel) ⟨rfl, rfl⟩ sf_RH_I (by decide +kernel) sf_fl8_ok sf_cl8_ok
    (sf_JO_cons (sf_je_N (n := 1) (cs := [6]) (tv := sf_vI) "StreamFuser" (kX6_failed l) mwX6_failed (by decide +kernel : decode cX8_given 10 = .ok (.invokevirtual 94, 3)) wt_828 wt_695 wt_37 (by decide +kernel) (by decide) (by decide) (List.forall_mem_cons.mpr ⟨⟨_, _, rfl⟩, fun _ h => absurd h List.not_mem_nil⟩) (sf_RM_of (by omega) (by omega))) (sf_JO_nil))
    (fun Wt Post hs hm => rX8_given hs hm)
-- ===== StreamFuser$Stepper.stepOne(II)I =====
abbrev tX8_stepOne : List (Nat × sf_E) := [(0, (.aload_n 0, 1, 0, .null, [], [])), (1, (.getfield 25, 4, 0, .null, [], [(0, 2), (1, 0), (8, 2)])), (4, (.getfield 59, 7, 0, .null, [], [(2, 0)])), (7, (.iload_n 1, 8, 0, .null, [], [])), (8, (.iaload, 9, 0, .null, [], [])), (9, (.bipush 116, 11, 0, .int (116), [], [])), (11, (.if_icmp .ne 23, 14, 34, .null, [], [])), (14, (.aload_n 0, 15, 0, .null, [], [])), (15, (.getfield 81, 18, 0, .null, [], [(0, 0), (8, 0)])), (18, (.iload_n 1, 19, 0, .null, [], [])), (19, (.iaload, 20, 0, .null, [], [])), (20, (.aload_n 0, 21, 0, .null, [], [])), (21, (.getfield 25, 24, 0, .null, [], [(0, 2), (1, 0), (8, 2)])), (24, (.getfield 84, 27, 0, .null, [], [(2, 2)])), (27, (.iload_n 1, 28, 0, .null, [], [])), (28, (.iaload, 29, 0, .null, [], [])), (29, (.if_icmp .lt 5, 32, 34, .null, [], [])), (32, (.iconst 0, 33, 0, .int (0), [], [])), (33, (.ireturn, 34, 0, .null, [], [])), (34, (.aload_n 0, 35, 0, .null, [], [])), (35, (.iload_n 1, 36, 0, .null, [], [])), (36, (.iconst 1, 37, 0, .int (1), [], [])), (37, (.iadd, 38, 0, .null, [], [])), (38, (.iload_n 2, 39, 0, .null, [], [])), (39, (.iconst 1, 40, 0, .int (1), [], [])), (40, (.iadd, 41, 0, .null, [], [])), (41, (.invokevirtual 44, 44, 0, .null, [], [])), (44, (.istore_n 3, 45, 0, .null, [], [])), (45, (.iload_n 3, 46, 0, .null, [], [])), (46, (.iconst 2, 47, 0, .int (2), [], [])), (47, (.if_icmp .eq 5, 50, 52, .null, [], [])), (50, (.iload_n 3, 51, 0, .null, [], [])), (51, (.ireturn, 52, 0, .null, [], [])), (52, (.aload_n 0, 53, 0, .null, [], [])), (53, (.getfield 25, 56, 0, .null, [], [(0, 2), (1, 0), (8, 2)])), (56, (.getfield 59, 59, 0, .null, [], [(2, 0)])), (59, (.iload_n 1, 60, 0, .null, [], [])), (60, (.iaload, 61, 0, .null, [], [])), (61, (.lookupswitch 131 #[(63, 51), (100, 99), (107, 51), (116, 87), (119, 69)], 112, 192, .null, [((63), 112), ((100), 160), ((107), 112), ((116), 148), ((119), 130)], [])), (112, (.aload_n 0, 113, 0, .null, [], [])), (113, (.iload_n 1, 114, 0, .null, [], [])), (114, (.aload_n 0, 115, 0, .null, [], [])), (115, (.getfield 48, 118, 0, .null, [], [(0, 6), (1, 4), (8, 6)])), (118, (.invokevirtual 87, 121, 0, .null, [], [])), (121, (.ifCond .eq 7, 124, 128, .null, [], [])), (124, (.iconst 2, 125, 0, .int (2), [], [])), (125, (.goto 4, 128, 129, .null, [], [])), (128, (.iconst 1, 129, 0, .int (1), [], [])), (129, (.ireturn, 130, 0, .null, [], [])), (130, (.aload_n 0, 131, 0, .null, [], [])), (131, (.iload_n 1, 132, 0, .null, [], [])), (132, (.aload_n 0, 133, 0, .null, [], [])), (133, (.getfield 48, 136, 0, .null, [], [(0, 6), (1, 4), (8, 6)])), (136, (.invokevirtual 87, 139, 0, .null, [], [])), (139, (.ifCond .eq 7, 142, 146, .null, [], [])), (142, (.iconst 2, 143, 0, .int (2), [], [])), (143, (.goto 4, 146, 147, .null, [], [])), (146, (.iconst 0, 147, 0, .int (0), [], [])), (147, (.ireturn, 148, 0, .null, [], [])), (148, (.aload_n 0, 149, 0, .null, [], [])), (149, (.getfield 81, 152, 0, .null, [], [(0, 0), (8, 0)])), (152, (.iload_n 1, 153, 0, .null, [], [])), (153, (.dup2, 154, 0, .null, [], [])), (154, (.iaload, 155, 0, .null, [], [])), (155, (.iconst 1, 156, 0, .int (1), [], [])), (156, (.iadd, 157, 0, .null, [], [])), (157, (.iastore, 158, 0, .null, [], [])), (158, (.iconst 2, 159, 0, .int (2), [], [])), (159, (.ireturn, 160, 0, .null, [], [])), (160, (.aload_n 0, 161, 0, .null, [], [])), (161, (.getfield 81, 164, 0, .null, [], [(0, 0), (8, 0)])), (164, (.iload_n 1, 165, 0, .null, [], [])), (165, (.iaload, 166, 0, .null, [], [])), (166, (.aload_n 0, 167, 0, .null, [], [])), (167, (.getfield 25, 170, 0, .null, [], [(0, 2), (1, 0), (8, 2)])), (170, (.getfield 84, 173, 0, .null, [], [(2, 2)])), (173, (.iload_n 1, 174, 0, .null, [], [])), (174, (.iaload, 175, 0, .null, [], [])), (175, (.if_icmp .lt 5, 178, 180, .null, [], [])), (178, (.iconst 2, 179, 0, .int (2), [], [])), (179, (.ireturn, 180, 0, .null, [], [])), (180, (.aload_n 0, 181, 0, .null, [], [])), (181, (.getfield 81, 184, 0, .null, [], [(0, 0), (8, 0)])), (184, (.iload_n 1, 185, 0, .null, [], [])), (185, (.dup2, 186, 0, .null, [], [])), (186, (.iaload, 187, 0, .null, [], [])), (187, (.iconst 1, 188, 0, .int (1), [], [])), (188, (.iadd, 189, 0, .null, [], [])), (189, (.iastore, 190, 0, .null, [], [])), (190, (.iconst 1, 191, 0, .int (1), [], [])), (191, (.ireturn, 192, 0, .null, [], [])), (192, (.aload_n 0, 193, 0, .null, [], [])), (193, (.aload_n 0, 194, 0, .null, [], [])), (194, (.iload_n 1, 195, 0, .null, [], [])), (195, (.aload_n 0, 196, 0, .null, [], [])), (196, (.getfield 48, 199, 0, .null, [], [(0, 6), (1, 4), (8, 6)])), (199, (.invokevirtual 91, 202, 0, .null, [], [])), (202, (.invokevirtual 74, 205, 0, .null, [], [])), (205, (.ireturn, 206, 0, .null, [], []))]
noncomputable abbrev jX8_stepOne (G : Int32 → Int32 → sf_S → Option (Int32 × sf_S)) : List (Nat × sf_J (Int32 × sf_S)) := [(41, sf_jI sf_layC [8] 3 (gX8_stepG G)), (118, sf_jI sf_layC [8] 3 gX10_passes), (136, sf_jI sf_layC [8] 3 gX10_passes), (199, sf_jI sf_layC [8] 3 gX10_change), (202, sf_jI sf_layC [8] 2 gX8_given)]
abbrev wX8_stepOne_34 {ρ : Type} (k : Int32 → Int32 → sf_S → Option ρ) : sf_M ρ := fun L st σ => sf_lda L 0 fun a0 => sf_eq a0 27 (sf_ldi L 1 fun x1 => sf_ldi L 2 fun x2 => sf_nil st (k x1 x2 σ))
theorem wX8_stepOne_34_ok {ρ : Type} {Wt : Nat → sf_L → List Value → sf_S → Prop} {Post : ρ → Prop} (hm : sf_mono Wt) {k : Int32 → Int32 → sf_S → Option ρ} (h : ∀ (x1 : Int32) (x2 : Int32) (σ : sf_S) (u : ρ), k x1 x2 σ = some u → Post u → Wt 34 [(0, some (.ref 27)), (1, some (.int x1)), (2, some (.int x2))] [] σ) : sf_CK Wt Post 34 (wX8_stepOne_34 k) := by
  intro L st σ u hf hp
  unfold wX8_stepOne_34 at hf
  have hf0 := hf
  obtain ⟨a0, e0, hf1⟩ := sf_lda_inv hf0
  obtain ⟨rfl, hf2⟩ := sf_eq_inv hf1
  obtain ⟨x1, e1, hf3⟩ := sf_ldi_inv hf2
  obtain ⟨x2, e2, hf4⟩ := sf_ldi_inv hf3
  obtain ⟨rfl, hz⟩ := sf_nil_inv hf4
  exact hm _ [(0, some (.ref _)), (1, some (.int x1)), (2, some (.int x2))] _ _ _ (sf_le_ok (And.intro e0 (And.intro e1 (And.intro e2 trivial)))) (h _ _ _ _ hz hp)
noncomputable def dX8_stepOne_34 (G : Int32 → Int32 → sf_S → Option (Int32 × sf_S)) (x1 : Int32) (x2 : Int32) (σ : sf_S) : Option (Int32 × sf_S) :=
  (G (x1 + (1 : Int32)) (x2 + (1 : Int32)) σ).bind fun u1 =>
  if u1.1 = (2 : Int32) then
    if sf_in x1 40 then
      let v2 := (u1.2 2 x1.toNatClampNeg)
      if v2 = (63 : Int32) then
        (dX10_passes 27 x1 (u1.2 27 6) u1.2).bind fun u3 =>
        if u3.1 = 0 then
          some ((1 : Int32), u3.2)
        else
          some ((2 : Int32), u3.2)
      else
      if v2 = (100 : Int32) then
        if sf_in x1 40 then
          if sf_in x1 40 then
            if (u1.2 28 x1.toNatClampNeg) < (u1.2 4 x1.toNatClampNeg) then
              if sf_in x1 40 then
                if sf_in x1 40 then
                  let s4 := sf_up u1.2 28 x1.toNatClampNeg ((u1.2 28 x1.toNatClampNeg) + (1 : Int32))
                  some ((1 : Int32), s4)
                else
                  none
              else
                none
            else
              some ((2 : Int32), u1.2)
          else
            none
        else
          none
      else
      if v2 = (107 : Int32) then
        (dX10_passes 27 x1 (u1.2 27 6) u1.2).bind fun u5 =>
        if u5.1 = 0 then
          some ((1 : Int32), u5.2)
        else
          some ((2 : Int32), u5.2)
      else
      if v2 = (116 : Int32) then
        if sf_in x1 40 then
          if sf_in x1 40 then
            let s6 := sf_up u1.2 28 x1.toNatClampNeg ((u1.2 28 x1.toNatClampNeg) + (1 : Int32))
            some ((2 : Int32), s6)
          else
            none
        else
          none
      else
      if v2 = (119 : Int32) then
        (dX10_passes 27 x1 (u1.2 27 6) u1.2).bind fun u7 =>
        if u7.1 = 0 then
          some ((0 : Int32), u7.2)
        else
          some ((2 : Int32), u7.2)
      else
        (dX10_change 27 x1 (u1.2 27 6) u1.2).bind fun u8 =>
        (dX8_given u8.1 u8.2).bind fun u9 =>
        some (u9.1, u9.2)
    else
      none
  else
    some (u1.1, u1.2)
set_option maxRecDepth 100000 in
set_option maxHeartbeats 4000000 in
theorem rX8_stepOne_34 {Wt : Nat → sf_L → List Value → sf_S → Prop} {Post : (Int32 × sf_S) → Prop} {G : Int32 → Int32 → sf_S → Option (Int32 × sf_S)} (hs : sf_Snd Wt sf_layC sf_hI (jX8_stepOne G) tX8_stepOne Post) (hm : sf_mono Wt) : sf_CK Wt Post 34 (wX8_stepOne_34 (dX8_stepOne_34 G)) := by
  refine wX8_stepOne_34_ok hm ?_
  intro x1 x2 σ u h hp
  exact sf_run_ok hs sf_sm_nil 104 34 _ _ σ u h hp
noncomputable def dX8_stepOne (G : Int32 → Int32 → sf_S → Option (Int32 × sf_S)) (x1 : Int32) (x2 : Int32) (σ : sf_S) : Option (Int32 × sf_S) :=
  if sf_in x1 40 then
    if ¬ (σ 2 x1.toNatClampNeg) = (116 : Int32) then
      dX8_stepOne_34 G x1 x2 σ
    else
      if sf_in x1 40 then
        if sf_in x1 40 then
          if (σ 28 x1.toNatClampNeg) < (σ 4 x1.toNatClampNeg) then
            dX8_stepOne_34 G x1 x2 σ
          else
            some ((0 : Int32), σ)
        else
          none
      else
        none
  else
    none
noncomputable abbrev gX8_stepOne (G : Int32 → Int32 → sf_S → Option (Int32 × sf_S)) (av : List Value) (σ : sf_S) : Option (Int32 × sf_S) := match av with
  | [.ref q, .int x1, .int x2] => (match sf_rv [27] q with | true => dX8_stepOne G x1 x2 σ | false => none)
  | _ => none
set_option maxRecDepth 100000 in
set_option maxHeartbeats 4000000 in
theorem rX8_stepOne {Wt : Nat → sf_L → List Value → sf_S → Prop} {Post : (Int32 × sf_S) → Prop} {G : Int32 → Int32 → sf_S → Option (Int32 × sf_S)} (hs : sf_Snd Wt sf_layC sf_hI (jX8_stepOne G) tX8_stepOne Post) (hm : sf_mono Wt) : ∀ av σ u, gX8_stepOne G av σ = some u → Post u → (∀ ad, (lg_sl (av.map (sf_v ad))).length ≤ 4) ∧ Wt 0 (sf_ent 0 av) [] σ := by
  intro av σ u h hp
  unfold gX8_stepOne at h
  split at h
  · rename_i q x1 x2
    split at h
    · rename_i hq
      have hq : q = 27 := by simpa using sf_rv_mem hq
      subst hq
      refine ⟨fun ad => Nat.le_of_ble_eq_true rfl, ?_⟩
      exact sf_run_ok hs (sf_sm_cons (rX8_stepOne_34 hs hm) sf_sm_nil) 104 0 _ _ σ u h hp
    · cases h
  · cases h
theorem kX8_stepOne (l : Launch) {f o : Nat} {G : Int32 → Int32 → sf_S → Option (Int32 × sf_S)} (hG : sf_C l sf_layC yX8_step cX8_step 3 (some .int) (sf_rm f o) (fun av σ => (gX8_stepG G av σ).map sf_vI)) : sf_C l sf_layC yX8_stepOne cX8_stepOne 4 (some .int) (sf_rm (f + 9) (o + 350)) (fun av σ => (gX8_stepOne G av σ).map sf_vI) :=
  sf_met (tab := tX8_stepOne) (J := jX8_stepOne G) (fl := sf_fl8) (cl := sf_cl8) (by decide +kernel) ⟨rfl, rfl⟩ sf_RH_I (by decide +kernel) sf_fl8_ok sf_cl8_ok
    (sf_JO_cons (sf_je_V (n := 3) (cs := [8]) (tv := sf_vI) hG mwX8_step (by decide +kernel : decode cX8_stepOne 41 = .ok (.invokevirtual 44, 3)) wt_796 wt_798 wt_45 (by decide +kernel) (by decide) (by decide) (List.forall_mem_cons.mpr ⟨⟨_, _, rfl⟩, fun _ h => absurd h List.not_mem_nil⟩) (sf_RM_of (by omega) (by omega))) (sf_JO_cons (sf_je_U (n := 3) (cs := [8]) (tv := sf_vI) (kX10_passes l) mwX10_passes (by decide +kernel : decode cX8_stepOne 118 = .ok (.invokevirtual 87, 3)) wt_833 wt_674 wt_834 rfl (by decide +kernel) (by decide) (by decide) (List.forall_mem_cons.mpr ⟨⟨_, _, _, rfl, wt_835⟩, fun _ h => absurd h List.not_mem_nil⟩) (sf_RM_of (by omega) (by omega))) (sf_JO_cons (sf_je_U (n := 3) (cs := [8]) (tv := sf_vI) (kX10_passes l) mwX10_passes (by decide +kernel : decode cX8_stepOne 136 = .ok (.invokevirtual 87, 3)) wt_833 wt_674 wt_834 rfl (by decide +kernel) (by decide) (by decide) (List.forall_mem_cons.mpr ⟨⟨_, _, _, rfl, wt_835⟩, fun _ h => absurd h List.not_mem_nil⟩) (sf_RM_of (by omega) (by omega))) (sf_JO_cons (sf_je_U (n := 3) (cs := [8]) (tv := sf_vI) (kX10_change l) mwX10_change (by decide +kernel : decode cX8_stepOne 199 = .ok (.invokevirtual 91, 3)) wt_836 wt_644 wt_837 rfl (by decide +kernel) (by decide) (by decide) (List.forall_mem_cons.mpr ⟨⟨_, _, _, rfl, wt_838⟩, fun _ h => absurd h List.not_mem_nil⟩) (sf_RM_of (by omega) (by omega))) (sf_JO_cons (sf_je_V (n := 2) (cs := [8]) (tv := sf_vI) (kX8_given l) mwX8_given (by decide +kernel : decode cX8_stepOne 202 = .ok (.invokevirtual 74, 3)) wt_824 wt_826 wt_49 (by decide +kernel) (by decide) (by decide) (List.forall_mem_cons.mpr ⟨⟨_, _, rfl⟩, fun _ h => absurd h List.not_mem_nil⟩) (sf_RM_of (by omega) (by omega))) (sf_JO_nil))))))
    (fun Wt Post hs hm => rX8_stepOne hs hm)
-- ===== StreamFuser$Stepper.stepChain(II)I =====
abbrev tX8_stepChain : List (Nat × sf_E) := [(0, (.aload_n 0, 1, 0, .null, [], [])), (1, (.getfield 98, 4, 0, .null, [], [(0, 1), (8, 1)])), (4, (.iload_n 1, 5, 0, .null, [], [])), (5, (.baload, 6, 0, .null, [], [])), (6, (.ifCond .eq 19, 9, 25, .null, [], [])), (9, (.aload_n 0, 10, 0, .null, [], [])), (10, (.aload_n 0, 11, 0, .null, [], [])), (11, (.getfield 25, 14, 0, .null, [], [(0, 2), (1, 0), (8, 2)])), (14, (.iload_n 1, 15, 0, .null, [], [])), (15, (.invokevirtual 102, 18, 0, .null, [], [])), (18, (.iload_n 2, 19, 0, .null, [], [])), (19, (.iconst 1, 20, 0, .int (1), [], [])), (20, (.iadd, 21, 0, .null, [], [])), (21, (.invokevirtual 44, 24, 0, .null, [], [])), (24, (.ireturn, 25, 0, .null, [], [])), (25, (.aload_n 0, 26, 0, .null, [], [])), (26, (.iload_n 1, 27, 0, .null, [], [])), (27, (.iconst 1, 28, 0, .int (1), [], [])), (28, (.iadd, 29, 0, .null, [], [])), (29, (.iload_n 2, 30, 0, .null, [], [])), (30, (.iconst 1, 31, 0, .int (1), [], [])), (31, (.iadd, 32, 0, .null, [], [])), (32, (.invokevirtual 44, 35, 0, .null, [], [])), (35, (.istore_n 3, 36, 0, .null, [], [])), (36, (.iload_n 3, 37, 0, .null, [], [])), (37, (.ifCond .eq 5, 40, 42, .null, [], [])), (40, (.iload_n 3, 41, 0, .null, [], [])), (41, (.ireturn, 42, 0, .null, [], [])), (42, (.aload_n 0, 43, 0, .null, [], [])), (43, (.getfield 98, 46, 0, .null, [], [(0, 1), (8, 1)])), (46, (.iload_n 1, 47, 0, .null, [], [])), (47, (.iconst 1, 48, 0, .int (1), [], [])), (48, (.bastore, 49, 0, .null, [], [])), (49, (.iconst 1, 50, 0, .int (1), [], [])), (50, (.ireturn, 51, 0, .null, [], []))]
noncomputable abbrev jX8_stepChain (G : Int32 → Int32 → sf_S → Option (Int32 × sf_S)) : List (Nat × sf_J (Int32 × sf_S)) := [(15, sf_jI sf_layC [2] 2 gX2_secondPart), (21, sf_jI sf_layC [8] 3 (gX8_stepG G)), (32, sf_jI sf_layC [8] 3 (gX8_stepG G))]
noncomputable def dX8_stepChain (G : Int32 → Int32 → sf_S → Option (Int32 × sf_S)) (x1 : Int32) (x2 : Int32) (σ : sf_S) : Option (Int32 × sf_S) :=
  if sf_in x1 40 then
    if (σ 29 x1.toNatClampNeg) = 0 then
      (G (x1 + (1 : Int32)) (x2 + (1 : Int32)) σ).bind fun u1 =>
      if u1.1 = 0 then
        if sf_in x1 40 then
          let s2 := sf_up u1.2 29 x1.toNatClampNeg (vp_nar .boolean (1 : Int32))
          some ((1 : Int32), s2)
        else
          none
      else
        some (u1.1, u1.2)
    else
      (dX2_secondPart 1 x1 σ).bind fun u3 =>
      (G u3.1 (x2 + (1 : Int32)) u3.2).bind fun u4 =>
      some (u4.1, u4.2)
  else
    none
noncomputable abbrev gX8_stepChain (G : Int32 → Int32 → sf_S → Option (Int32 × sf_S)) (av : List Value) (σ : sf_S) : Option (Int32 × sf_S) := match av with
  | [.ref q, .int x1, .int x2] => (match sf_rv [27] q with | true => dX8_stepChain G x1 x2 σ | false => none)
  | _ => none
set_option maxRecDepth 100000 in
set_option maxHeartbeats 4000000 in
theorem rX8_stepChain {Wt : Nat → sf_L → List Value → sf_S → Prop} {Post : (Int32 × sf_S) → Prop} {G : Int32 → Int32 → sf_S → Option (Int32 × sf_S)} (hs : sf_Snd Wt sf_layC sf_hI (jX8_stepChain G) tX8_stepChain Post) (hm : sf_mono Wt) : ∀ av σ u, gX8_stepChain G av σ = some u → Post u → (∀ ad, (lg_sl (av.map (sf_v ad))).length ≤ 4) ∧ Wt 0 (sf_ent 0 av) [] σ := by
  intro av σ u h hp
  unfold gX8_stepChain at h
  split at h
  · rename_i q x1 x2
    split at h
    · rename_i hq
      have hq : q = 27 := by simpa using sf_rv_mem hq
      subst hq
      refine ⟨fun ad => Nat.le_of_ble_eq_true rfl, ?_⟩
      exact sf_run_ok hs sf_sm_nil 40 0 _ _ σ u h hp
    · cases h
  · cases h
theorem kX8_stepChain (l : Launch) {f o : Nat} {G : Int32 → Int32 → sf_S → Option (Int32 × sf_S)} (hG : sf_C l sf_layC yX8_step cX8_step 3 (some .int) (sf_rm f o) (fun av σ => (gX8_stepG G av σ).map sf_vI)) : sf_C l sf_layC yX8_stepChain cX8_stepChain 4 (some .int) (sf_rm (f + 9) (o + 350)) (fun av σ => (gX8_stepChain G av σ).map sf_vI) :=
  sf_met (tab := tX8_stepChain) (J := jX8_stepChain G) (fl := sf_fl8) (cl := sf_cl8) (by decide +kernel) ⟨rfl, rfl⟩ sf_RH_I (by decide +kernel) sf_fl8_ok sf_cl8_ok
    (sf_JO_cons (sf_je_N (n := 2) (cs := [2]) (tv := sf_vI) "StreamFuser" (kX2_secondPart l) mwX2_secondPart (by decide +kernel : decode cX8_stepChain 15 = .ok (.invokevirtual 102, 3)) wt_805 wt_514 wt_8 (by decide +kernel) (by decide) (by decide) (List.forall_mem_cons.mpr ⟨⟨_, _, rfl⟩, fun _ h => absurd h List.not_mem_nil⟩) (sf_RM_of (by omega) (by omega))) (sf_JO_cons (sf_je_V (n := 3) (cs := [8]) (tv := sf_vI) hG mwX8_step (by decide +kernel : decode cX8_stepChain 21 = .ok (.invokevirtual 44, 3)) wt_796 wt_798 wt_45 (by decide +kernel) (by decide) (by decide) (List.forall_mem_cons.mpr ⟨⟨_, _, rfl⟩, fun _ h => absurd h List.not_mem_nil⟩) (sf_RM_of (by omega) (by omega))) (sf_JO_cons (sf_je_V (n := 3) (cs := [8]) (tv := sf_vI) hG mwX8_step (by decide +kernel : decode cX8_stepChain 32 = .ok (.invokevirtual 44, 3)) wt_796 wt_798 wt_45 (by decide +kernel) (by decide) (by decide) (List.forall_mem_cons.mpr ⟨⟨_, _, rfl⟩, fun _ h => absurd h List.not_mem_nil⟩) (sf_RM_of (by omega) (by omega))) (sf_JO_nil))))
    (fun Wt Post hs hm => rX8_stepChain hs hm)
-- ===== StreamFuser$Stepper.stepZip(II)I =====
abbrev tX8_stepZip : List (Nat × sf_E) := [(0, (.aload_n 0, 1, 0, .null, [], [])), (1, (.aload_n 0, 2, 0, .null, [], [])), (2, (.getfield 98, 5, 0, .null, [], [(0, 1), (8, 1)])), (5, (.iload_n 1, 6, 0, .null, [], [])), (6, (.baload, 7, 0, .null, [], [])), (7, (.ifCond .eq 14, 10, 21, .null, [], [])), (10, (.aload_n 0, 11, 0, .null, [], [])), (11, (.getfield 25, 14, 0, .null, [], [(0, 2), (1, 0), (8, 2)])), (14, (.iload_n 1, 15, 0, .null, [], [])), (15, (.invokevirtual 102, 18, 0, .null, [], [])), (18, (.goto 6, 21, 24, .null, [], [])), (21, (.iload_n 1, 22, 0, .null, [], [])), (22, (.iconst 1, 23, 0, .int (1), [], [])), (23, (.iadd, 24, 0, .null, [], [])), (24, (.iload_n 2, 25, 0, .null, [], [])), (25, (.iconst 1, 26, 0, .int (1), [], [])), (26, (.iadd, 27, 0, .null, [], [])), (27, (.invokevirtual 44, 30, 0, .null, [], [])), (30, (.istore_n 3, 31, 0, .null, [], [])), (31, (.iload_n 3, 32, 0, .null, [], [])), (32, (.iconst 2, 33, 0, .int (2), [], [])), (33, (.if_icmp .eq 5, 36, 38, .null, [], [])), (36, (.iload_n 3, 37, 0, .null, [], [])), (37, (.ireturn, 38, 0, .null, [], [])), (38, (.aload_n 0, 39, 0, .null, [], [])), (39, (.getfield 98, 42, 0, .null, [], [(0, 1), (8, 1)])), (42, (.iload_n 1, 43, 0, .null, [], [])), (43, (.aload_n 0, 44, 0, .null, [], [])), (44, (.getfield 98, 47, 0, .null, [], [(0, 1), (8, 1)])), (47, (.iload_n 1, 48, 0, .null, [], [])), (48, (.baload, 49, 0, .null, [], [])), (49, (.ifCond .ne 7, 52, 56, .null, [], [])), (52, (.iconst 1, 53, 0, .int (1), [], [])), (53, (.goto 4, 56, 57, .null, [], [])), (56, (.iconst 0, 57, 0, .int (0), [], [])), (57, (.bastore, 58, 0, .null, [], [])), (58, (.aload_n 0, 59, 0, .null, [], [])), (59, (.getfield 98, 62, 0, .null, [], [(0, 1), (8, 1)])), (62, (.iload_n 1, 63, 0, .null, [], [])), (63, (.baload, 64, 0, .null, [], [])), (64, (.ifCond .eq 15, 67, 79, .null, [], [])), (67, (.aload_n 0, 68, 0, .null, [], [])), (68, (.getfield 9, 71, 0, .null, [], [(8, 7)])), (71, (.iload_n 1, 72, 0, .null, [], [])), (72, (.aload_n 0, 73, 0, .null, [], [])), (73, (.getfield 48, 76, 0, .null, [], [(0, 6), (1, 4), (8, 6)])), (76, (.iastore, 77, 0, .null, [], [])), (77, (.iconst 1, 78, 0, .int (1), [], [])), (78, (.ireturn, 79, 0, .null, [], [])), (79, (.aload_n 0, 80, 0, .null, [], [])), (80, (.aload_n 0, 81, 0, .null, [], [])), (81, (.iload_n 1, 82, 0, .null, [], [])), (82, (.aload_n 0, 83, 0, .null, [], [])), (83, (.getfield 9, 86, 0, .null, [], [(8, 7)])), (86, (.iload_n 1, 87, 0, .null, [], [])), (87, (.iaload, 88, 0, .null, [], [])), (88, (.aload_n 0, 89, 0, .null, [], [])), (89, (.getfield 48, 92, 0, .null, [], [(0, 6), (1, 4), (8, 6)])), (92, (.invokevirtual 106, 95, 0, .null, [], [])), (95, (.putfield 48, 98, 0, .null, [], [(0, 6), (1, 4), (8, 6)])), (98, (.iconst 2, 99, 0, .int (2), [], [])), (99, (.ireturn, 100, 0, .null, [], []))]
noncomputable abbrev jX8_stepZip (G : Int32 → Int32 → sf_S → Option (Int32 × sf_S)) : List (Nat × sf_J (Int32 × sf_S)) := [(15, sf_jI sf_layC [2] 2 gX2_secondPart), (27, sf_jI sf_layC [8] 3 (gX8_stepG G)), (92, sf_jI sf_layC [8] 4 gX10_join)]
abbrev wX8_stepZip_57 {ρ : Type} (k : Int32 → Int32 → Int32 → sf_S → Option ρ) : sf_M ρ := fun L st σ => sf_lda L 0 fun a0 => sf_eq a0 27 (sf_ldi L 1 fun x1 => sf_i1 st fun y0 st => sf_i1 st fun y1 st => sf_a1 st fun b2 st => sf_eq b2 29 (sf_nil st (k x1 y0 y1 σ)))
theorem wX8_stepZip_57_ok {ρ : Type} {Wt : Nat → sf_L → List Value → sf_S → Prop} {Post : ρ → Prop} (hm : sf_mono Wt) {k : Int32 → Int32 → Int32 → sf_S → Option ρ} (h : ∀ (x1 : Int32) (y0 : Int32) (y1 : Int32) (σ : sf_S) (u : ρ), k x1 y0 y1 σ = some u → Post u → Wt 57 [(0, some (.ref 27)), (1, some (.int x1))] [.int y0, .int y1, .ref 29] σ) : sf_CK Wt Post 57 (wX8_stepZip_57 k) := by
  intro L st σ u hf hp
  unfold wX8_stepZip_57 at hf
  have hf0 := hf
  obtain ⟨a0, e0, hf1⟩ := sf_lda_inv hf0
  obtain ⟨rfl, hf2⟩ := sf_eq_inv hf1
  obtain ⟨x1, e1, hf3⟩ := sf_ldi_inv hf2
  obtain ⟨y0, st, rfl, hf4⟩ := sf_i1_inv hf3
  obtain ⟨y1, st, rfl, hf5⟩ := sf_i1_inv hf4
  obtain ⟨b2, st, rfl, hf6⟩ := sf_a1_inv hf5
  obtain ⟨rfl, hf7⟩ := sf_eq_inv hf6
  obtain ⟨rfl, hz⟩ := sf_nil_inv hf7
  exact hm _ [(0, some (.ref _)), (1, some (.int x1))] _ _ _ (sf_le_ok (And.intro e0 (And.intro e1 trivial))) (h _ _ _ _ _ hz hp)
abbrev wX8_stepZip_24 {ρ : Type} (k : Int32 → Int32 → Int32 → sf_S → Option ρ) : sf_M ρ := fun L st σ => sf_lda L 0 fun a0 => sf_eq a0 27 (sf_ldi L 1 fun x1 => sf_ldi L 2 fun x2 => sf_i1 st fun y0 st => sf_a1 st fun b1 st => sf_eq b1 27 (sf_nil st (k x1 x2 y0 σ)))
theorem wX8_stepZip_24_ok {ρ : Type} {Wt : Nat → sf_L → List Value → sf_S → Prop} {Post : ρ → Prop} (hm : sf_mono Wt) {k : Int32 → Int32 → Int32 → sf_S → Option ρ} (h : ∀ (x1 : Int32) (x2 : Int32) (y0 : Int32) (σ : sf_S) (u : ρ), k x1 x2 y0 σ = some u → Post u → Wt 24 [(0, some (.ref 27)), (1, some (.int x1)), (2, some (.int x2))] [.int y0, .ref 27] σ) : sf_CK Wt Post 24 (wX8_stepZip_24 k) := by
  intro L st σ u hf hp
  unfold wX8_stepZip_24 at hf
  have hf0 := hf
  obtain ⟨a0, e0, hf1⟩ := sf_lda_inv hf0
  obtain ⟨rfl, hf2⟩ := sf_eq_inv hf1
  obtain ⟨x1, e1, hf3⟩ := sf_ldi_inv hf2
  obtain ⟨x2, e2, hf4⟩ := sf_ldi_inv hf3
  obtain ⟨y0, st, rfl, hf5⟩ := sf_i1_inv hf4
  obtain ⟨b1, st, rfl, hf6⟩ := sf_a1_inv hf5
  obtain ⟨rfl, hf7⟩ := sf_eq_inv hf6
  obtain ⟨rfl, hz⟩ := sf_nil_inv hf7
  exact hm _ [(0, some (.ref _)), (1, some (.int x1)), (2, some (.int x2))] _ _ _ (sf_le_ok (And.intro e0 (And.intro e1 (And.intro e2 trivial)))) (h _ _ _ _ _ hz hp)
noncomputable def dX8_stepZip_57 (G : Int32 → Int32 → sf_S → Option (Int32 × sf_S)) (x1 : Int32) (y0 : Int32) (y1 : Int32) (σ : sf_S) : Option (Int32 × sf_S) :=
  if sf_in y1 40 then
    let s1 := sf_up σ 29 y1.toNatClampNeg (vp_nar .boolean y0)
    if sf_in x1 40 then
      if (s1 29 x1.toNatClampNeg) = 0 then
        if sf_in x1 40 then
          (dX10_join 27 x1 (s1 31 x1.toNatClampNeg) (s1 27 6) s1).bind fun u2 =>
          let s3 := sf_up u2.2 27 6 u2.1
          some ((2 : Int32), s3)
        else
          none
      else
        if sf_in x1 40 then
          let s4 := sf_up s1 31 x1.toNatClampNeg (s1 27 6)
          some ((1 : Int32), s4)
        else
          none
    else
      none
  else
    none
set_option maxRecDepth 100000 in
set_option maxHeartbeats 4000000 in
theorem rX8_stepZip_57 {Wt : Nat → sf_L → List Value → sf_S → Prop} {Post : (Int32 × sf_S) → Prop} {G : Int32 → Int32 → sf_S → Option (Int32 × sf_S)} (hs : sf_Snd Wt sf_layC sf_hI (jX8_stepZip G) tX8_stepZip Post) (hm : sf_mono Wt) : sf_CK Wt Post 57 (wX8_stepZip_57 (dX8_stepZip_57 G)) := by
  refine wX8_stepZip_57_ok hm ?_
  intro x1 y0 y1 σ u h hp
  exact sf_run_ok hs sf_sm_nil 67 57 _ _ σ u h hp
noncomputable def dX8_stepZip_24 (G : Int32 → Int32 → sf_S → Option (Int32 × sf_S)) (x1 : Int32) (x2 : Int32) (y0 : Int32) (σ : sf_S) : Option (Int32 × sf_S) :=
  (G y0 (x2 + (1 : Int32)) σ).bind fun u1 =>
  if u1.1 = (2 : Int32) then
    if sf_in x1 40 then
      if ¬ (u1.2 29 x1.toNatClampNeg) = 0 then
        dX8_stepZip_57 G x1 (0 : Int32) x1 u1.2
      else
        dX8_stepZip_57 G x1 (1 : Int32) x1 u1.2
    else
      none
  else
    some (u1.1, u1.2)
set_option maxRecDepth 100000 in
set_option maxHeartbeats 4000000 in
theorem rX8_stepZip_24 {Wt : Nat → sf_L → List Value → sf_S → Prop} {Post : (Int32 × sf_S) → Prop} {G : Int32 → Int32 → sf_S → Option (Int32 × sf_S)} (hs : sf_Snd Wt sf_layC sf_hI (jX8_stepZip G) tX8_stepZip Post) (hm : sf_mono Wt) : sf_CK Wt Post 24 (wX8_stepZip_24 (dX8_stepZip_24 G)) := by
  refine wX8_stepZip_24_ok hm ?_
  intro x1 x2 y0 σ u h hp
  exact sf_run_ok hs (sf_sm_cons (rX8_stepZip_57 hs hm) sf_sm_nil) 67 24 _ _ σ u h hp
noncomputable def dX8_stepZip (G : Int32 → Int32 → sf_S → Option (Int32 × sf_S)) (x1 : Int32) (x2 : Int32) (σ : sf_S) : Option (Int32 × sf_S) :=
  if sf_in x1 40 then
    if (σ 29 x1.toNatClampNeg) = 0 then
      dX8_stepZip_24 G x1 x2 (x1 + (1 : Int32)) σ
    else
      (dX2_secondPart 1 x1 σ).bind fun u1 =>
      dX8_stepZip_24 G x1 x2 u1.1 u1.2
  else
    none
noncomputable abbrev gX8_stepZip (G : Int32 → Int32 → sf_S → Option (Int32 × sf_S)) (av : List Value) (σ : sf_S) : Option (Int32 × sf_S) := match av with
  | [.ref q, .int x1, .int x2] => (match sf_rv [27] q with | true => dX8_stepZip G x1 x2 σ | false => none)
  | _ => none
set_option maxRecDepth 100000 in
set_option maxHeartbeats 4000000 in
theorem rX8_stepZip {Wt : Nat → sf_L → List Value → sf_S → Prop} {Post : (Int32 × sf_S) → Prop} {G : Int32 → Int32 → sf_S → Option (Int32 × sf_S)} (hs : sf_Snd Wt sf_layC sf_hI (jX8_stepZip G) tX8_stepZip Post) (hm : sf_mono Wt) : ∀ av σ u, gX8_stepZip G av σ = some u → Post u → (∀ ad, (lg_sl (av.map (sf_v ad))).length ≤ 4) ∧ Wt 0 (sf_ent 0 av) [] σ := by
  intro av σ u h hp
  unfold gX8_stepZip at h
  split at h
  · rename_i q x1 x2
    split at h
    · rename_i hq
      have hq : q = 27 := by simpa using sf_rv_mem hq
      subst hq
      refine ⟨fun ad => Nat.le_of_ble_eq_true rfl, ?_⟩
      exact sf_run_ok hs (sf_sm_cons (rX8_stepZip_24 hs hm) sf_sm_nil) 67 0 _ _ σ u h hp
    · cases h
  · cases h
theorem kX8_stepZip (l : Launch) {f o : Nat} {G : Int32 → Int32 → sf_S → Option (Int32 × sf_S)} (hG : sf_C l sf_layC yX8_step cX8_step 3 (some .int) (sf_rm f o) (fun av σ => (gX8_stepG G av σ).map sf_vI)) : sf_C l sf_layC yX8_stepZip cX8_stepZip 4 (some .int) (sf_rm (f + 9) (o + 350)) (fun av σ => (gX8_stepZip G av σ).map sf_vI) :=
  sf_met (tab := tX8_stepZip) (J := jX8_stepZip G) (fl := sf_fl8) (cl := sf_cl8) (by decide +kernel) ⟨rfl, rfl⟩ sf_RH_I (by decide +kernel) sf_fl8_ok sf_cl8_ok
    (sf_JO_cons (sf_je_N (n := 2) (cs := [2]) (tv := sf_vI) "StreamFuser" (kX2_secondPart l) mwX2_secondPart (by decide +kernel : decode cX8_stepZip 15 = .ok (.invokevirtual 102, 3)) wt_805 wt_514 wt_8 (by decide +kernel) (by decide) (by decide) (List.forall_mem_cons.mpr ⟨⟨_, _, rfl⟩, fun _ h => absurd h List.not_mem_nil⟩) (sf_RM_of (by omega) (by omega))) (sf_JO_cons (sf_je_V (n := 3) (cs := [8]) (tv := sf_vI) hG mwX8_step (by decide +kernel : decode cX8_stepZip 27 = .ok (.invokevirtual 44, 3)) wt_796 wt_798 wt_45 (by decide +kernel) (by decide) (by decide) (List.forall_mem_cons.mpr ⟨⟨_, _, rfl⟩, fun _ h => absurd h List.not_mem_nil⟩) (sf_RM_of (by omega) (by omega))) (sf_JO_cons (sf_je_U (n := 4) (cs := [8]) (tv := sf_vI) (kX10_join l) mwX10_join (by decide +kernel : decode cX8_stepZip 92 = .ok (.invokevirtual 106, 3)) wt_810 wt_706 wt_811 rfl (by decide +kernel) (by decide) (by decide) (List.forall_mem_cons.mpr ⟨⟨_, _, _, rfl, wt_812⟩, fun _ h => absurd h List.not_mem_nil⟩) (sf_RM_of (by omega) (by omega))) (sf_JO_nil))))
    (fun Wt Post hs hm => rX8_stepZip hs hm)
-- ===== StreamFuser$Stepper.stepOpener(II)I =====
abbrev tX8_stepOpener : List (Nat × sf_E) := [(0, (.aload_n 0, 1, 0, .null, [], [])), (1, (.getfield 98, 4, 0, .null, [], [(0, 1), (8, 1)])), (4, (.iload_n 1, 5, 0, .null, [], [])), (5, (.baload, 6, 0, .null, [], [])), (6, (.ifCond .eq 29, 9, 35, .null, [], [])), (9, (.aload_n 0, 10, 0, .null, [], [])), (10, (.iload_n 1, 11, 0, .null, [], [])), (11, (.iconst 1, 12, 0, .int (1), [], [])), (12, (.iadd, 13, 0, .null, [], [])), (13, (.iload_n 2, 14, 0, .null, [], [])), (14, (.iconst 1, 15, 0, .int (1), [], [])), (15, (.iadd, 16, 0, .null, [], [])), (16, (.invokevirtual 44, 19, 0, .null, [], [])), (19, (.istore_n 3, 20, 0, .null, [], [])), (20, (.iload_n 3, 21, 0, .null, [], [])), (21, (.ifCond .eq 5, 24, 26, .null, [], [])), (24, (.iload_n 3, 25, 0, .null, [], [])), (25, (.ireturn, 26, 0, .null, [], [])), (26, (.aload_n 0, 27, 0, .null, [], [])), (27, (.getfield 98, 30, 0, .null, [], [(0, 1), (8, 1)])), (30, (.iload_n 1, 31, 0, .null, [], [])), (31, (.iconst 0, 32, 0, .int (0), [], [])), (32, (.bastore, 33, 0, .null, [], [])), (33, (.iconst 1, 34, 0, .int (1), [], [])), (34, (.ireturn, 35, 0, .null, [], [])), (35, (.aload_n 0, 36, 0, .null, [], [])), (36, (.aload_n 0, 37, 0, .null, [], [])), (37, (.getfield 25, 40, 0, .null, [], [(0, 2), (1, 0), (8, 2)])), (40, (.iload_n 1, 41, 0, .null, [], [])), (41, (.invokevirtual 110, 44, 0, .null, [], [])), (44, (.iload_n 2, 45, 0, .null, [], [])), (45, (.iconst 1, 46, 0, .int (1), [], [])), (46, (.iadd, 47, 0, .null, [], [])), (47, (.invokevirtual 44, 50, 0, .null, [], [])), (50, (.istore_n 3, 51, 0, .null, [], [])), (51, (.iload_n 3, 52, 0, .null, [], [])), (52, (.iconst 2, 53, 0, .int (2), [], [])), (53, (.if_icmp .eq 5, 56, 58, .null, [], [])), (56, (.iload_n 3, 57, 0, .null, [], [])), (57, (.ireturn, 58, 0, .null, [], [])), (58, (.aload_n 0, 59, 0, .null, [], [])), (59, (.iload_n 1, 60, 0, .null, [], [])), (60, (.aload_n 0, 61, 0, .null, [], [])), (61, (.getfield 48, 64, 0, .null, [], [(0, 6), (1, 4), (8, 6)])), (64, (.invokevirtual 113, 67, 0, .null, [], [])), (67, (.iconst 1, 68, 0, .int (1), [], [])), (68, (.ireturn, 69, 0, .null, [], []))]
noncomputable abbrev jX8_stepOpener (G : Int32 → Int32 → sf_S → Option (Int32 × sf_S)) : List (Nat × sf_J (Int32 × sf_S)) := [(16, sf_jI sf_layC [8] 3 (gX8_stepG G)), (41, sf_jI sf_layC [2] 2 gX2_input), (47, sf_jI sf_layC [8] 3 (gX8_stepG G)), (64, sf_jV sf_layC [8] 3 gX9_open)]
noncomputable def dX8_stepOpener (G : Int32 → Int32 → sf_S → Option (Int32 × sf_S)) (x1 : Int32) (x2 : Int32) (σ : sf_S) : Option (Int32 × sf_S) :=
  if sf_in x1 40 then
    if (σ 29 x1.toNatClampNeg) = 0 then
      (dX2_input 1 x1 σ).bind fun u1 =>
      (G u1.1 (x2 + (1 : Int32)) u1.2).bind fun u2 =>
      if u2.1 = (2 : Int32) then
        (dX9_open 27 x1 (u2.2 27 6) u2.2).bind fun u3 =>
        some ((1 : Int32), u3)
      else
        some (u2.1, u2.2)
    else
      (G (x1 + (1 : Int32)) (x2 + (1 : Int32)) σ).bind fun u4 =>
      if u4.1 = 0 then
        if sf_in x1 40 then
          let s5 := sf_up u4.2 29 x1.toNatClampNeg (vp_nar .boolean (0 : Int32))
          some ((1 : Int32), s5)
        else
          none
      else
        some (u4.1, u4.2)
  else
    none
noncomputable abbrev gX8_stepOpener (G : Int32 → Int32 → sf_S → Option (Int32 × sf_S)) (av : List Value) (σ : sf_S) : Option (Int32 × sf_S) := match av with
  | [.ref q, .int x1, .int x2] => (match sf_rv [27] q with | true => dX8_stepOpener G x1 x2 σ | false => none)
  | _ => none
set_option maxRecDepth 100000 in
set_option maxHeartbeats 4000000 in
theorem rX8_stepOpener {Wt : Nat → sf_L → List Value → sf_S → Prop} {Post : (Int32 × sf_S) → Prop} {G : Int32 → Int32 → sf_S → Option (Int32 × sf_S)} (hs : sf_Snd Wt sf_layC sf_hI (jX8_stepOpener G) tX8_stepOpener Post) (hm : sf_mono Wt) : ∀ av σ u, gX8_stepOpener G av σ = some u → Post u → (∀ ad, (lg_sl (av.map (sf_v ad))).length ≤ 4) ∧ Wt 0 (sf_ent 0 av) [] σ := by
  intro av σ u h hp
  unfold gX8_stepOpener at h
  split at h
  · rename_i q x1 x2
    split at h
    · rename_i hq
      have hq : q = 27 := by simpa using sf_rv_mem hq
      subst hq
      refine ⟨fun ad => Nat.le_of_ble_eq_true rfl, ?_⟩
      exact sf_run_ok hs sf_sm_nil 52 0 _ _ σ u h hp
    · cases h
  · cases h
theorem kX8_stepOpener (l : Launch) {f o : Nat} {G : Int32 → Int32 → sf_S → Option (Int32 × sf_S)} (hG : sf_C l sf_layC yX8_step cX8_step 3 (some .int) (sf_rm f o) (fun av σ => (gX8_stepG G av σ).map sf_vI)) : sf_C l sf_layC yX8_stepOpener cX8_stepOpener 4 (some .int) (sf_rm (f + 9) (o + 350)) (fun av σ => (gX8_stepOpener G av σ).map sf_vI) :=
  sf_met (tab := tX8_stepOpener) (J := jX8_stepOpener G) (fl := sf_fl8) (cl := sf_cl8) (by decide +kernel) ⟨rfl, rfl⟩ sf_RH_I (by decide +kernel) sf_fl8_ok sf_cl8_ok
    (sf_JO_cons (sf_je_V (n := 3) (cs := [8]) (tv := sf_vI) hG mwX8_step (by decide +kernel : decode cX8_stepOpener 16 = .ok (.invokevirtual 44, 3)) wt_796 wt_798 wt_45 (by decide +kernel) (by decide) (by decide) (List.forall_mem_cons.mpr ⟨⟨_, _, rfl⟩, fun _ h => absurd h List.not_mem_nil⟩) (sf_RM_of (by omega) (by omega))) (sf_JO_cons (sf_je_N (n := 2) (cs := [2]) (tv := sf_vI) "StreamFuser" (kX2_input l) mwX2_input (by decide +kernel : decode cX8_stepOpener 41 = .ok (.invokevirtual 110, 3)) wt_817 wt_518 wt_9 (by decide +kernel) (by decide) (by decide) (List.forall_mem_cons.mpr ⟨⟨_, _, rfl⟩, fun _ h => absurd h List.not_mem_nil⟩) (sf_RM_of (by omega) (by omega))) (sf_JO_cons (sf_je_V (n := 3) (cs := [8]) (tv := sf_vI) hG mwX8_step (by decide +kernel : decode cX8_stepOpener 47 = .ok (.invokevirtual 44, 3)) wt_796 wt_798 wt_45 (by decide +kernel) (by decide) (by decide) (List.forall_mem_cons.mpr ⟨⟨_, _, rfl⟩, fun _ h => absurd h List.not_mem_nil⟩) (sf_RM_of (by omega) (by omega))) (sf_JO_cons (sf_je_U (n := 3) (cs := [8]) (tv := sf_vV) (kX9_open l) mwX9_open (by decide +kernel : decode cX8_stepOpener 64 = .ok (.invokevirtual 113, 3)) wt_818 wt_718 wt_819 rfl (by decide +kernel) (by decide) (by decide) (List.forall_mem_cons.mpr ⟨⟨_, _, _, rfl, wt_820⟩, fun _ h => absurd h List.not_mem_nil⟩) (sf_RM_of (by omega) (by omega))) (sf_JO_nil)))))
    (fun Wt Post hs hm => rX8_stepOpener hs hm)
-- ===== StreamFuser$Stepper.step(II)I =====
abbrev tX8_step : List (Nat × sf_E) := [(0, (.aload_n 0, 1, 0, .null, [], [])), (1, (.getfield 25, 4, 0, .null, [], [(0, 2), (1, 0), (8, 2)])), (4, (.iload_n 1, 5, 0, .null, [], [])), (5, (.invokevirtual 55, 8, 0, .null, [], [])), (8, (.ifCond .eq 9, 11, 17, .null, [], [])), (11, (.iload_n 2, 12, 0, .null, [], [])), (12, (.bipush 40, 14, 0, .int (40), [], [])), (14, (.if_icmp .le 5, 17, 19, .null, [], [])), (17, (.iconst 0, 18, 0, .int (0), [], [])), (18, (.ireturn, 19, 0, .null, [], [])), (19, (.aload_n 0, 20, 0, .null, [], [])), (20, (.getfield 25, 23, 0, .null, [], [(0, 2), (1, 0), (8, 2)])), (23, (.getfield 59, 26, 0, .null, [], [(2, 0)])), (26, (.iload_n 1, 27, 0, .null, [], [])), (27, (.iaload, 28, 0, .null, [], [])), (28, (.tableswitch 143 99 122 #[112, 143, 143, 143, 143, 143, 133, 143, 143, 143, 143, 143, 143, 143, 143, 133, 133, 143, 133, 133, 143, 126, 143, 119], 140, 171, .null, [((99), 140), ((100), 171), ((101), 171), ((102), 171), ((103), 171), ((104), 171), ((105), 161), ((106), 171), ((107), 171), ((108), 171), ((109), 171), ((110), 171), ((111), 171), ((112), 171), ((113), 171), ((114), 161), ((115), 161), ((116), 171), ((117), 161), ((118), 161), ((119), 171), ((120), 154), ((121), 171), ((122), 147)], [])), (140, (.aload_n 0, 141, 0, .null, [], [])), (141, (.iload_n 1, 142, 0, .null, [], [])), (142, (.iload_n 2, 143, 0, .null, [], [])), (143, (.invokevirtual 62, 146, 0, .null, [], [])), (146, (.ireturn, 147, 0, .null, [], [])), (147, (.aload_n 0, 148, 0, .null, [], [])), (148, (.iload_n 1, 149, 0, .null, [], [])), (149, (.iload_n 2, 150, 0, .null, [], [])), (150, (.invokevirtual 65, 153, 0, .null, [], [])), (153, (.ireturn, 154, 0, .null, [], [])), (154, (.aload_n 0, 155, 0, .null, [], [])), (155, (.iload_n 1, 156, 0, .null, [], [])), (156, (.iload_n 2, 157, 0, .null, [], [])), (157, (.invokevirtual 68, 160, 0, .null, [], [])), (160, (.ireturn, 161, 0, .null, [], [])), (161, (.aload_n 0, 162, 0, .null, [], [])), (162, (.aload_n 0, 163, 0, .null, [], [])), (163, (.iload_n 1, 164, 0, .null, [], [])), (164, (.invokevirtual 71, 167, 0, .null, [], [])), (167, (.invokevirtual 74, 170, 0, .null, [], [])), (170, (.ireturn, 171, 0, .null, [], [])), (171, (.aload_n 0, 172, 0, .null, [], [])), (172, (.iload_n 1, 173, 0, .null, [], [])), (173, (.iload_n 2, 174, 0, .null, [], [])), (174, (.invokevirtual 78, 177, 0, .null, [], [])), (177, (.ireturn, 178, 0, .null, [], []))]
noncomputable abbrev jX8_step (G : Int32 → Int32 → sf_S → Option (Int32 × sf_S)) : List (Nat × sf_J (Int32 × sf_S)) := [(5, sf_jI sf_layC [2] 2 gX2_has), (143, sf_jI sf_layC [8] 3 (gX8_stepChain G)), (150, sf_jI sf_layC [8] 3 (gX8_stepZip G)), (157, sf_jI sf_layC [8] 3 (gX8_stepOpener G)), (164, sf_jI sf_layC [8] 2 gX9_produce), (167, sf_jI sf_layC [8] 2 gX8_given), (174, sf_jI sf_layC [8] 3 (gX8_stepOne G))]
noncomputable def dX8_step (G : Int32 → Int32 → sf_S → Option (Int32 × sf_S)) (x1 : Int32) (x2 : Int32) (σ : sf_S) : Option (Int32 × sf_S) :=
  (dX2_has 1 x1 σ).bind fun u1 =>
  if u1.1 = 0 then
    some ((0 : Int32), u1.2)
  else
    if x2 ≤ (40 : Int32) then
      if sf_in x1 40 then
        let v2 := (u1.2 2 x1.toNatClampNeg)
        if v2 = (99 : Int32) then
          (dX8_stepChain G x1 x2 u1.2).bind fun u3 =>
          some (u3.1, u3.2)
        else
        if v2 = (100 : Int32) then
          (dX8_stepOne G x1 x2 u1.2).bind fun u4 =>
          some (u4.1, u4.2)
        else
        if v2 = (101 : Int32) then
          (dX8_stepOne G x1 x2 u1.2).bind fun u5 =>
          some (u5.1, u5.2)
        else
        if v2 = (102 : Int32) then
          (dX8_stepOne G x1 x2 u1.2).bind fun u6 =>
          some (u6.1, u6.2)
        else
        if v2 = (103 : Int32) then
          (dX8_stepOne G x1 x2 u1.2).bind fun u7 =>
          some (u7.1, u7.2)
        else
        if v2 = (104 : Int32) then
          (dX8_stepOne G x1 x2 u1.2).bind fun u8 =>
          some (u8.1, u8.2)
        else
        if v2 = (105 : Int32) then
          (dX9_produce 27 x1 u1.2).bind fun u9 =>
          (dX8_given u9.1 u9.2).bind fun u10 =>
          some (u10.1, u10.2)
        else
        if v2 = (106 : Int32) then
          (dX8_stepOne G x1 x2 u1.2).bind fun u11 =>
          some (u11.1, u11.2)
        else
        if v2 = (107 : Int32) then
          (dX8_stepOne G x1 x2 u1.2).bind fun u12 =>
          some (u12.1, u12.2)
        else
        if v2 = (108 : Int32) then
          (dX8_stepOne G x1 x2 u1.2).bind fun u13 =>
          some (u13.1, u13.2)
        else
        if v2 = (109 : Int32) then
          (dX8_stepOne G x1 x2 u1.2).bind fun u14 =>
          some (u14.1, u14.2)
        else
        if v2 = (110 : Int32) then
          (dX8_stepOne G x1 x2 u1.2).bind fun u15 =>
          some (u15.1, u15.2)
        else
        if v2 = (111 : Int32) then
          (dX8_stepOne G x1 x2 u1.2).bind fun u16 =>
          some (u16.1, u16.2)
        else
        if v2 = (112 : Int32) then
          (dX8_stepOne G x1 x2 u1.2).bind fun u17 =>
          some (u17.1, u17.2)
        else
        if v2 = (113 : Int32) then
          (dX8_stepOne G x1 x2 u1.2).bind fun u18 =>
          some (u18.1, u18.2)
        else
        if v2 = (114 : Int32) then
          (dX9_produce 27 x1 u1.2).bind fun u19 =>
          (dX8_given u19.1 u19.2).bind fun u20 =>
          some (u20.1, u20.2)
        else
        if v2 = (115 : Int32) then
          (dX9_produce 27 x1 u1.2).bind fun u21 =>
          (dX8_given u21.1 u21.2).bind fun u22 =>
          some (u22.1, u22.2)
        else
        if v2 = (116 : Int32) then
          (dX8_stepOne G x1 x2 u1.2).bind fun u23 =>
          some (u23.1, u23.2)
        else
        if v2 = (117 : Int32) then
          (dX9_produce 27 x1 u1.2).bind fun u24 =>
          (dX8_given u24.1 u24.2).bind fun u25 =>
          some (u25.1, u25.2)
        else
        if v2 = (118 : Int32) then
          (dX9_produce 27 x1 u1.2).bind fun u26 =>
          (dX8_given u26.1 u26.2).bind fun u27 =>
          some (u27.1, u27.2)
        else
        if v2 = (119 : Int32) then
          (dX8_stepOne G x1 x2 u1.2).bind fun u28 =>
          some (u28.1, u28.2)
        else
        if v2 = (120 : Int32) then
          (dX8_stepOpener G x1 x2 u1.2).bind fun u29 =>
          some (u29.1, u29.2)
        else
        if v2 = (121 : Int32) then
          (dX8_stepOne G x1 x2 u1.2).bind fun u30 =>
          some (u30.1, u30.2)
        else
        if v2 = (122 : Int32) then
          (dX8_stepZip G x1 x2 u1.2).bind fun u31 =>
          some (u31.1, u31.2)
        else
          (dX8_stepOne G x1 x2 u1.2).bind fun u32 =>
          some (u32.1, u32.2)
      else
        none
    else
      some ((0 : Int32), u1.2)
noncomputable abbrev gX8_step (G : Int32 → Int32 → sf_S → Option (Int32 × sf_S)) (av : List Value) (σ : sf_S) : Option (Int32 × sf_S) := match av with
  | [.ref q, .int x1, .int x2] => (match sf_rv [27] q with | true => dX8_step G x1 x2 σ | false => none)
  | _ => none
set_option maxRecDepth 100000 in
set_option maxHeartbeats 4000000 in
theorem rX8_step {Wt : Nat → sf_L → List Value → sf_S → Prop} {Post : (Int32 × sf_S) → Prop} {G : Int32 → Int32 → sf_S → Option (Int32 × sf_S)} (hs : sf_Snd Wt sf_layC sf_hI (jX8_step G) tX8_step Post) (hm : sf_mono Wt) : ∀ av σ u, gX8_step G av σ = some u → Post u → (∀ ad, (lg_sl (av.map (sf_v ad))).length ≤ 3) ∧ Wt 0 (sf_ent 0 av) [] σ := by
  intro av σ u h hp
  unfold gX8_step at h
  split at h
  · rename_i q x1 x2
    split at h
    · rename_i hq
      have hq : q = 27 := by simpa using sf_rv_mem hq
      subst hq
      refine ⟨fun ad => Nat.le_of_ble_eq_true rfl, ?_⟩
      exact sf_run_ok hs sf_sm_nil 47 0 _ _ σ u h hp
    · cases h
  · cases h
theorem kX8_step_B (l : Launch) {f o : Nat} {G : Int32 → Int32 → sf_S → Option (Int32 × sf_S)} (hG : sf_C l sf_layC yX8_step cX8_step 3 (some .int) (sf_rm f o) (fun av σ => (gX8_stepG G av σ).map sf_vI)) : sf_C l sf_layC yX8_step cX8_step 3 (some .int) (sf_rm (f + 10) (o + 373)) (fun av σ => (gX8_step G av σ).map sf_vI) :=
  sf_met (tab := tX8_step) (J := jX8_step G) (fl := sf_fl8) (cl := sf_cl8) (by decide +kernel) ⟨rfl, rfl⟩ sf_RH_I (by decide +kernel) sf_fl8_ok sf_cl8_ok
    (sf_JO_cons (sf_je_N (n := 2) (cs := [2]) (tv := sf_vI) "StreamFuser" (kX2_has l) mwX2_has (by decide +kernel : decode cX8_step 5 = .ok (.invokevirtual 55, 3)) wt_800 wt_470 wt_0 (by decide +kernel) (by decide) (by decide) (List.forall_mem_cons.mpr ⟨⟨_, _, rfl⟩, fun _ h => absurd h List.not_mem_nil⟩) (sf_RM_of (by omega) (by omega))) (sf_JO_cons (sf_je_V (n := 3) (cs := [8]) (tv := sf_vI) (kX8_stepChain l hG) mwX8_stepChain (by decide +kernel : decode cX8_step 143 = .ok (.invokevirtual 62, 3)) wt_801 wt_803 wt_46 (by decide +kernel) (by decide) (by decide) (List.forall_mem_cons.mpr ⟨⟨_, _, rfl⟩, fun _ h => absurd h List.not_mem_nil⟩) (sf_RM_of (by omega) (by omega))) (sf_JO_cons (sf_je_V (n := 3) (cs := [8]) (tv := sf_vI) (kX8_stepZip l hG) mwX8_stepZip (by decide +kernel : decode cX8_step 150 = .ok (.invokevirtual 65, 3)) wt_806 wt_808 wt_47 (by decide +kernel) (by decide) (by decide) (List.forall_mem_cons.mpr ⟨⟨_, _, rfl⟩, fun _ h => absurd h List.not_mem_nil⟩) (sf_RM_of (by omega) (by omega))) (sf_JO_cons (sf_je_V (n := 3) (cs := [8]) (tv := sf_vI) (kX8_stepOpener l hG) mwX8_stepOpener (by decide +kernel : decode cX8_step 157 = .ok (.invokevirtual 68, 3)) wt_813 wt_815 wt_48 (by decide +kernel) (by decide) (by decide) (List.forall_mem_cons.mpr ⟨⟨_, _, rfl⟩, fun _ h => absurd h List.not_mem_nil⟩) (sf_RM_of (by omega) (by omega))) (sf_JO_cons (sf_je_U (n := 2) (cs := [8]) (tv := sf_vI) (kX9_produce l) mwX9_produce (by decide +kernel : decode cX8_step 164 = .ok (.invokevirtual 71, 3)) wt_821 wt_727 wt_822 rfl (by decide +kernel) (by decide) (by decide) (List.forall_mem_cons.mpr ⟨⟨_, _, _, rfl, wt_823⟩, fun _ h => absurd h List.not_mem_nil⟩) (sf_RM_of (by omega) (by omega))) (sf_JO_cons (sf_je_V (n := 2) (cs := [8]) (tv := sf_vI) (kX8_given l) mwX8_given (by decide +kernel : decode cX8_step 167 = .ok (.invokevirtual 74, 3)) wt_824 wt_826 wt_49 (by decide +kernel) (by decide) (by decide) (List.forall_mem_cons.mpr ⟨⟨_, _, rfl⟩, fun _ h => absurd h List.not_mem_nil⟩) (sf_RM_of (by omega) (by omega))) (sf_JO_cons (sf_je_V (n := 3) (cs := [8]) (tv := sf_vI) (kX8_stepOne l hG) mwX8_stepOne (by decide +kernel : decode cX8_step 174 = .ok (.invokevirtual 78, 3)) wt_829 wt_831 wt_50 (by decide +kernel) (by decide) (by decide) (List.forall_mem_cons.mpr ⟨⟨_, _, rfl⟩, fun _ h => absurd h List.not_mem_nil⟩) (sf_RM_of (by omega) (by omega))) (sf_JO_nil))))))))
    (fun Wt Post hs hm => rX8_step hs hm)
noncomputable def dX8_step_R : Nat → Int32 → Int32 → sf_S → Option (Int32 × sf_S)
  | 0 => fun _ _ _ => none
  | n + 1 => fun x1 x2 σ => dX8_step (dX8_step_R n) x1 x2 σ
theorem kX8_step_R (l : Launch) : ∀ n : Nat, sf_C l sf_layC yX8_step cX8_step 3 (some .int) (sf_rm (20 + 10 * n) (1000 + 373 * n)) (fun av σ => (gX8_stepG (dX8_step_R n) av σ).map sf_vI)
  | 0 => sf_C_none fun av σ => by
    unfold gX8_stepG
    split
    · split <;> rfl
    · rfl
  | n + 1 => by
    have := kX8_step_B l (kX8_step_R l n)
    rw [show 20 + 10 * n + 10 = 20 + 10 * (n + 1) by omega, show 1000 + 373 * n + 373 = 1000 + 373 * (n + 1) by omega] at this
    exact this
noncomputable abbrev gX8_step_Z : List Value → sf_S → Option (Int32 × sf_S) := gX8_stepG (dX8_step_R 42)
theorem kX8_step_Z (l : Launch) : sf_C l sf_layC yX8_step cX8_step 3 (some .int) (sf_rm 440 16666) (fun av σ => (gX8_step_Z av σ).map sf_vI) := kX8_step_R l 42
-- ===== StreamFuser$Stepper.play(I)V =====
abbrev tX8_play : List (Nat × sf_E) := [(0, (.aload_n 0, 1, 0, .null, [], [])), (1, (.getfield 15, 4, 0, .null, [], [(0, 3), (1, 1), (8, 3)])), (4, (.invokevirtual 19, 7, 0, .null, [], [])), (7, (.aload_n 0, 8, 0, .null, [], [])), (8, (.iconst 0, 9, 0, .int (0), [], [])), (9, (.aload_n 0, 10, 0, .null, [], [])), (10, (.getfield 25, 13, 0, .null, [], [(0, 2), (1, 0), (8, 2)])), (13, (.getfield 29, 16, 0, .null, [], [(2, 4)])), (16, (.invokevirtual 35, 19, 0, .null, [], [])), (19, (.iconst 0, 20, 0, .int (0), [], [])), (20, (.istore_n 2, 21, 0, .null, [], [])), (21, (.iload_n 2, 22, 0, .null, [], [])), (22, (.ldc 39, 24, 0, .int (1000000), [], [])), (24, (.if_icmp .ge 66, 27, 90, .null, [], [])), (27, (.aload_n 0, 28, 0, .null, [], [])), (28, (.getfield 15, 31, 0, .null, [], [(0, 3), (1, 1), (8, 3)])), (31, (.getfield 40, 34, 0, .null, [], [(6, 1)])), (34, (.iload_n 1, 35, 0, .null, [], [])), (35, (.if_icmp .ge 55, 38, 90, .null, [], [])), (38, (.aload_n 0, 39, 0, .null, [], [])), (39, (.getfield 15, 42, 0, .null, [], [(0, 3), (1, 1), (8, 3)])), (42, (.dup, 43, 0, .null, [], [])), (43, (.getfield 41, 46, 0, .null, [], [(6, 3)])), (46, (.iconst 1, 47, 0, .int (1), [], [])), (47, (.iadd, 48, 0, .null, [], [])), (48, (.putfield 41, 51, 0, .null, [], [(6, 3)])), (51, (.aload_n 0, 52, 0, .null, [], [])), (52, (.iconst 0, 53, 0, .int (0), [], [])), (53, (.iconst 0, 54, 0, .int (0), [], [])), (54, (.invokevirtual 44, 57, 0, .null, [], [])), (57, (.istore_n 3, 58, 0, .null, [], [])), (58, (.iload_n 3, 59, 0, .null, [], [])), (59, (.ifCond .eq 8, 62, 67, .null, [], [])), (62, (.iload_n 3, 63, 0, .null, [], [])), (63, (.iconst 3, 64, 0, .int (3), [], [])), (64, (.if_icmp .ne 4, 67, 68, .null, [], [])), (67, (.return_, 68, 0, .null, [], [])), (68, (.iload_n 3, 69, 0, .null, [], [])), (69, (.iconst 2, 70, 0, .int (2), [], [])), (70, (.if_icmp .ne 14, 73, 84, .null, [], [])), (73, (.aload_n 0, 74, 0, .null, [], [])), (74, (.getfield 15, 77, 0, .null, [], [(0, 3), (1, 1), (8, 3)])), (77, (.aload_n 0, 78, 0, .null, [], [])), (78, (.getfield 48, 81, 0, .null, [], [(0, 6), (1, 4), (8, 6)])), (81, (.invokevirtual 51, 84, 0, .null, [], [])), (84, (.iinc 2 1, 87, 0, .int (1), [], [])), (87, (.goto (-66), 90, 21, .null, [], [])), (90, (.return_, 91, 0, .null, [], []))]
noncomputable abbrev jX8_play : List (Nat × sf_J sf_S) := [(4, sf_jV sf_layC [6] 1 gX6_begin), (16, sf_jV sf_layC [8] 3 gX9_restart), (54, sf_jI sf_layC [8] 3 gX8_step_Z), (81, sf_jV sf_layC [6] 2 gX6_give)]
abbrev wX8_play_21 {ρ : Type} (k : Int32 → Int32 → sf_S → Option ρ) : sf_M ρ := fun L st σ => sf_lda L 0 fun a0 => sf_eq a0 27 (sf_ldi L 1 fun x1 => sf_ldi L 2 fun x2 => sf_nil st (k x1 x2 σ))
theorem wX8_play_21_ok {ρ : Type} {Wt : Nat → sf_L → List Value → sf_S → Prop} {Post : ρ → Prop} (hm : sf_mono Wt) {k : Int32 → Int32 → sf_S → Option ρ} (h : ∀ (x1 : Int32) (x2 : Int32) (σ : sf_S) (u : ρ), k x1 x2 σ = some u → Post u → Wt 21 [(0, some (.ref 27)), (1, some (.int x1)), (2, some (.int x2))] [] σ) : sf_CK Wt Post 21 (wX8_play_21 k) := by
  intro L st σ u hf hp
  unfold wX8_play_21 at hf
  have hf0 := hf
  obtain ⟨a0, e0, hf1⟩ := sf_lda_inv hf0
  obtain ⟨rfl, hf2⟩ := sf_eq_inv hf1
  obtain ⟨x1, e1, hf3⟩ := sf_ldi_inv hf2
  obtain ⟨x2, e2, hf4⟩ := sf_ldi_inv hf3
  obtain ⟨rfl, hz⟩ := sf_nil_inv hf4
  exact hm _ [(0, some (.ref _)), (1, some (.int x1)), (2, some (.int x2))] _ _ _ (sf_le_ok (And.intro e0 (And.intro e1 (And.intro e2 trivial)))) (h _ _ _ _ hz hp)
noncomputable def dX8_play_21 : Nat → Int32 → Int32 → sf_S → Option sf_S
  | 0 => fun _ _ _ => none
  | n + 1 => fun x1 x2 σ =>
    if (1000000 : Int32) ≤ x2 then
      some σ
    else
      if x1 ≤ (σ 19 1) then
        some σ
      else
        let s1 := sf_up σ 19 3 ((σ 19 3) + (1 : Int32))
        (dX8_step_R 42 (0 : Int32) (0 : Int32) s1).bind fun u2 =>
        if u2.1 = 0 then
          some u2.2
        else
          if ¬ u2.1 = (3 : Int32) then
            if ¬ u2.1 = (2 : Int32) then
              dX8_play_21 n x1 (x2 + (1 : Int32)) u2.2
            else
              (dX6_give 19 (u2.2 27 6) u2.2).bind fun u3 =>
              dX8_play_21 n x1 (x2 + (1 : Int32)) u3
          else
            some u2.2
set_option maxRecDepth 100000 in
set_option maxHeartbeats 4000000 in
theorem rX8_play_21 {Wt : Nat → sf_L → List Value → sf_S → Prop} {Post : sf_S → Prop} (hs : sf_Snd Wt sf_layC sf_hV jX8_play tX8_play Post) (hm : sf_mono Wt) : ∀ n : Nat, sf_CK Wt Post 21 (wX8_play_21 (dX8_play_21 n)) := by
  intro n
  induction n with
  | zero => exact wX8_play_21_ok hm (fun x1 x2 σ u h _ => by simp [dX8_play_21] at h)
  | succ n ih =>
    refine wX8_play_21_ok hm ?_
    intro x1 x2 σ u h hp
    exact sf_run_ok hs (sf_sm_cons ih sf_sm_nil) 53 21 _ _ σ u h hp
noncomputable def dX8_play (x1 : Int32) (σ : sf_S) : Option sf_S :=
  (dX6_begin 19 σ).bind fun u1 =>
  (dX9_restart 27 (0 : Int32) (u1 1 4) u1).bind fun u2 =>
  dX8_play_21 sf_F x1 (0 : Int32) u2
noncomputable abbrev gX8_play (av : List Value) (σ : sf_S) : Option sf_S := match av with
  | [.ref q, .int x1] => (match sf_rv [27] q with | true => dX8_play x1 σ | false => none)
  | _ => none
set_option maxRecDepth 100000 in
set_option maxHeartbeats 4000000 in
theorem rX8_play {Wt : Nat → sf_L → List Value → sf_S → Prop} {Post : sf_S → Prop} (hs : sf_Snd Wt sf_layC sf_hV jX8_play tX8_play Post) (hm : sf_mono Wt) : ∀ av σ u, gX8_play av σ = some u → Post u → (∀ ad, (lg_sl (av.map (sf_v ad))).length ≤ 4) ∧ Wt 0 (sf_ent 0 av) [] σ := by
  intro av σ u h hp
  unfold gX8_play at h
  split at h
  · rename_i q x1
    split at h
    · rename_i hq
      have hq : q = 27 := by simpa using sf_rv_mem hq
      subst hq
      refine ⟨fun ad => Nat.le_of_ble_eq_true rfl, ?_⟩
      exact sf_run_ok hs (sf_sm_cons (rX8_play_21 hs hm sf_F) sf_sm_nil) 53 0 _ _ σ u h hp
    · cases h
  · cases h
theorem kX8_play (l : Launch) : sf_C l sf_layC yX8_play cX8_play 4 none (sf_rm 441 16688) (fun av σ => (gX8_play av σ).map sf_vV) :=
  sf_met (tab := tX8_play) (J := jX8_play) (fl := sf_fl8) (cl := sf_cl8) (by decide +kernel) ⟨rfl, rfl⟩ sf_RH_V (by decide +kernel) sf_fl8_ok sf_cl8_ok
    (sf_JO_cons (sf_je_N (n := 1) (cs := [6]) (tv := sf_vV) "StreamFuser" (kX6_begin l) mwX6_begin (by decide +kernel : decode cX8_play 4 = .ok (.invokevirtual 19, 3)) wt_791 wt_626 wt_28 (by decide +kernel) (by decide) (by decide) (List.forall_mem_cons.mpr ⟨⟨_, _, rfl⟩, fun _ h => absurd h List.not_mem_nil⟩) (sf_RM_of (by omega) (by omega))) (sf_JO_cons (sf_je_U (n := 3) (cs := [8]) (tv := sf_vV) (kX9_restart l) mwX9_restart (by decide +kernel : decode cX8_play 16 = .ok (.invokevirtual 35, 3)) wt_792 wt_632 wt_793 rfl (by decide +kernel) (by decide) (by decide) (List.forall_mem_cons.mpr ⟨⟨_, _, _, rfl, wt_794⟩, fun _ h => absurd h List.not_mem_nil⟩) (sf_RM_of (by omega) (by omega))) (sf_JO_cons (sf_je_V (n := 3) (cs := [8]) (tv := sf_vI) (kX8_step_Z l) mwX8_step (by decide +kernel : decode cX8_play 54 = .ok (.invokevirtual 44, 3)) wt_796 wt_798 wt_45 (by decide +kernel) (by decide) (by decide) (List.forall_mem_cons.mpr ⟨⟨_, _, rfl⟩, fun _ h => absurd h List.not_mem_nil⟩) (sf_RM_of (by omega) (by omega))) (sf_JO_cons (sf_je_N (n := 2) (cs := [6]) (tv := sf_vV) "StreamFuser" (kX6_give l) mwX6_give (by decide +kernel : decode cX8_play 81 = .ok (.invokevirtual 51, 3)) wt_839 wt_781 wt_43 (by decide +kernel) (by decide) (by decide) (List.forall_mem_cons.mpr ⟨⟨_, _, rfl⟩, fun _ h => absurd h List.not_mem_nil⟩) (sf_RM_of (by omega) (by omega))) (sf_JO_nil)))))
    (fun Wt Post hs hm => rX8_play hs hm)
