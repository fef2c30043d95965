/-! ===== 15.X5 ===== -/
-- ===== StreamFuser$Rewriter.ruleForTake(I)I =====
abbrev tX5_ruleForTake : List (Nat × sf_E) := [(0, (.aload_n 0, 1, 0, .null, [], [])), (1, (.getfield 15, 4, 0, .null, [], [(5, 0)])), (4, (.iload_n 1, 5, 0, .null, [], [])), (5, (.iconst 1, 6, 0, .int (1), [], [])), (6, (.iadd, 7, 0, .null, [], [])), (7, (.invokevirtual 72, 10, 0, .null, [], [])), (10, (.lookupswitch 57 #[(37, 52), (42, 52), (43, 52), (114, 54), (116, 50)], 60, 67, .null, [((37), 62), ((42), 62), ((43), 62), ((114), 64), ((116), 60)], [])), (60, (.iconst 1, 61, 0, .int (1), [], [])), (61, (.ireturn, 62, 0, .null, [], [])), (62, (.iconst 3, 63, 0, .int (3), [], [])), (63, (.ireturn, 64, 0, .null, [], [])), (64, (.bipush 6, 66, 0, .int (6), [], [])), (66, (.ireturn, 67, 0, .null, [], [])), (67, (.aload_n 0, 68, 0, .null, [], [])), (68, (.getfield 15, 71, 0, .null, [], [(5, 0)])), (71, (.getfield 54, 74, 0, .null, [], [(2, 2)])), (74, (.iload_n 1, 75, 0, .null, [], [])), (75, (.iaload, 76, 0, .null, [], [])), (76, (.ifCond .ne 8, 79, 84, .null, [], [])), (79, (.bipush 9, 81, 0, .int (9), [], [])), (81, (.goto 4, 84, 85, .null, [], [])), (84, (.iconst (-1), 85, 0, .int (-1), [], [])), (85, (.ireturn, 86, 0, .null, [], []))]
noncomputable abbrev jX5_ruleForTake : List (Nat × sf_J (Int32 × sf_S)) := [(7, sf_jI sf_layC [2] 2 gX2_letterAt)]
noncomputable def dX5_ruleForTake (q : Nat) (x1 : Int32) (σ : sf_S) : Option (Int32 × sf_S) :=
  (dX2_letterAt (sf_pl q) (x1 + (1 : Int32)) σ).bind fun u1 =>
  if u1.1 = (37 : Int32) then
    some ((3 : Int32), u1.2)
  else
  if u1.1 = (42 : Int32) then
    some ((3 : Int32), u1.2)
  else
  if u1.1 = (43 : Int32) then
    some ((3 : Int32), u1.2)
  else
  if u1.1 = (114 : Int32) then
    some ((6 : Int32), u1.2)
  else
  if u1.1 = (116 : Int32) then
    some ((1 : Int32), u1.2)
  else
    if sf_in x1 40 then
      if ¬ (u1.2 ((sf_pl q) + 3) x1.toNatClampNeg) = 0 then
        some ((-1 : Int32), u1.2)
      else
        some ((9 : Int32), u1.2)
    else
      none
noncomputable abbrev gX5_ruleForTake (av : List Value) (σ : sf_S) : Option (Int32 × sf_S) := match av with
  | [.ref q, .int x1] => (match sf_rv [13, 49] q with | true => dX5_ruleForTake q x1 σ | false => none)
  | _ => none
set_option maxRecDepth 100000 in
set_option maxHeartbeats 4000000 in
theorem rX5_ruleForTake {Wt : Nat → sf_L → List Value → sf_S → Prop} {Post : (Int32 × sf_S) → Prop} (hs : sf_Snd Wt sf_layC sf_hI jX5_ruleForTake tX5_ruleForTake Post) (hm : sf_mono Wt) : ∀ av σ u, gX5_ruleForTake av σ = some u → Post u → (∀ ad, (lg_sl (av.map (sf_v ad))).length ≤ 2) ∧ Wt 0 (sf_ent 0 av) [] σ := by
  intro av σ u h hp
  unfold gX5_ruleForTake at h
  split at h
  · rename_i q x1
    split at h
    · rename_i hq
      have hq : q = 13 ∨ q = 49 := by simpa using sf_rv_mem hq
      refine ⟨fun ad => Nat.le_of_ble_eq_true rfl, ?_⟩
      rcases hq with rfl | rfl
      · exact sf_run_ok hs sf_sm_nil 28 0 _ _ σ u h hp
      · exact sf_run_ok hs sf_sm_nil 28 0 _ _ σ u h hp
    · cases h
  · cases h
theorem kX5_ruleForTake (l : Launch) : sf_C l sf_layC yX5_ruleForTake cX5_ruleForTake 2 (some .int) (sf_rm 2 121) (fun av σ => (gX5_ruleForTake av σ).map sf_vI) :=
  sf_met (tab := tX5_ruleForTake) (J := jX5_ruleForTake) (fl := sf_fl5) (cl := sf_cl5) (by decide +kernel) ⟨rfl, rfl⟩ sf_RH_I (by decide +kernel) sf_fl5_ok sf_cl5_ok
    (sf_JO_cons (sf_je_N (n := 2) (cs := [2]) (tv := sf_vI) "StreamFuser" (kX2_letterAt l) mwX2_letterAt (by decide +kernel : decode cX5_ruleForTake 7 = .ok (.invokevirtual 72, 3)) wt_504 wt_506 wt_6 (by decide +kernel) (by decide) (by decide) (List.forall_mem_cons.mpr ⟨⟨_, _, rfl⟩, fun _ h => absurd h List.not_mem_nil⟩) (sf_RM_of (by omega) (by omega))) (sf_JO_nil))
    (fun Wt Post hs hm => rX5_ruleForTake hs hm)
-- ===== StreamFuser$Rewriter.ruleForDrop(I)I =====
abbrev tX5_ruleForDrop : List (Nat × sf_E) := [(0, (.aload_n 0, 1, 0, .null, [], [])), (1, (.getfield 15, 4, 0, .null, [], [(5, 0)])), (4, (.iload_n 1, 5, 0, .null, [], [])), (5, (.iconst 1, 6, 0, .int (1), [], [])), (6, (.iadd, 7, 0, .null, [], [])), (7, (.invokevirtual 72, 10, 0, .null, [], [])), (10, (.istore_n 2, 11, 0, .null, [], [])), (11, (.iload_n 2, 12, 0, .null, [], [])), (12, (.lookupswitch 70 #[(37, 62), (42, 62), (43, 62), (100, 60), (105, 67), (114, 64)], 72, 82, .null, [((37), 74), ((42), 74), ((43), 74), ((100), 72), ((105), 79), ((114), 76)], [])), (72, (.iconst 2, 73, 0, .int (2), [], [])), (73, (.ireturn, 74, 0, .null, [], [])), (74, (.iconst 4, 75, 0, .int (4), [], [])), (75, (.ireturn, 76, 0, .null, [], [])), (76, (.bipush 7, 78, 0, .int (7), [], [])), (78, (.ireturn, 79, 0, .null, [], [])), (79, (.bipush 8, 81, 0, .int (8), [], [])), (81, (.ireturn, 82, 0, .null, [], [])), (82, (.iload_n 2, 83, 0, .null, [], [])), (83, (.bipush 116, 85, 0, .int (116), [], [])), (85, (.if_icmp .ne 32, 88, 117, .null, [], [])), (88, (.aload_n 0, 89, 0, .null, [], [])), (89, (.getfield 15, 92, 0, .null, [], [(5, 0)])), (92, (.iload_n 1, 93, 0, .null, [], [])), (93, (.iconst 2, 94, 0, .int (2), [], [])), (94, (.iadd, 95, 0, .null, [], [])), (95, (.invokevirtual 44, 98, 0, .null, [], [])), (98, (.ifCond .eq 19, 101, 117, .null, [], [])), (101, (.aload_n 0, 102, 0, .null, [], [])), (102, (.getfield 15, 105, 0, .null, [], [(5, 0)])), (105, (.getfield 75, 108, 0, .null, [], [(2, 9)])), (108, (.iload_n 1, 109, 0, .null, [], [])), (109, (.iconst 2, 110, 0, .int (2), [], [])), (110, (.iadd, 111, 0, .null, [], [])), (111, (.baload, 112, 0, .null, [], [])), (112, (.ifCond .eq 5, 115, 117, .null, [], [])), (115, (.iconst 5, 116, 0, .int (5), [], [])), (116, (.ireturn, 117, 0, .null, [], [])), (117, (.aload_n 0, 118, 0, .null, [], [])), (118, (.getfield 15, 121, 0, .null, [], [(5, 0)])), (121, (.getfield 54, 124, 0, .null, [], [(2, 2)])), (124, (.iload_n 1, 125, 0, .null, [], [])), (125, (.iaload, 126, 0, .null, [], [])), (126, (.ifCond .ne 8, 129, 134, .null, [], [])), (129, (.bipush 10, 131, 0, .int (10), [], [])), (131, (.goto 4, 134, 135, .null, [], [])), (134, (.iconst (-1), 135, 0, .int (-1), [], [])), (135, (.ireturn, 136, 0, .null, [], []))]
noncomputable abbrev jX5_ruleForDrop : List (Nat × sf_J (Int32 × sf_S)) := [(7, sf_jI sf_layC [2] 2 gX2_letterAt), (95, sf_jI sf_layC [2] 2 gX2_has)]
abbrev wX5_ruleForDrop_117 {ρ : Type} (q : Nat) (k : Int32 → sf_S → Option ρ) : sf_M ρ := fun L st σ => sf_lda L 0 fun a0 => sf_eq a0 q (sf_ldi L 1 fun x1 => sf_nil st (k x1 σ))
theorem wX5_ruleForDrop_117_ok {ρ : Type} {Wt : Nat → sf_L → List Value → sf_S → Prop} {Post : ρ → Prop} (hm : sf_mono Wt) {q : Nat} {k : Int32 → sf_S → Option ρ} (h : ∀ (x1 : Int32) (σ : sf_S) (u : ρ), k x1 σ = some u → Post u → Wt 117 [(0, some (.ref q)), (1, some (.int x1))] [] σ) : sf_CK Wt Post 117 (wX5_ruleForDrop_117 q k) := by
  intro L st σ u hf hp
  unfold wX5_ruleForDrop_117 at hf
  have hf0 := hf
  obtain ⟨a0, e0, hf1⟩ := sf_lda_inv hf0
  obtain ⟨rfl, hf2⟩ := sf_eq_inv hf1
  obtain ⟨x1, e1, hf3⟩ := sf_ldi_inv hf2
  obtain ⟨rfl, hz⟩ := sf_nil_inv hf3
  exact hm _ [(0, some (.ref _)), (1, some (.int x1))] _ _ _ (sf_le_ok (And.intro e0 (And.intro e1 trivial))) (h _ _ _ hz hp)
noncomputable def dX5_ruleForDrop_117 (q : Nat) (x1 : Int32) (σ : sf_S) : Option (Int32 × sf_S) :=
  if sf_in x1 40 then
    if ¬ (σ ((sf_pl q) + 3) x1.toNatClampNeg) = 0 then
      some ((-1 : Int32), σ)
    else
      some ((10 : Int32), σ)
  else
    none
set_option maxRecDepth 100000 in
set_option maxHeartbeats 4000000 in
theorem rX5_ruleForDrop_117 {Wt : Nat → sf_L → List Value → sf_S → Prop} {Post : (Int32 × sf_S) → Prop} (hs : sf_Snd Wt sf_layC sf_hI jX5_ruleForDrop tX5_ruleForDrop Post) (hm : sf_mono Wt) {q : Nat} (hq : q = 13 ∨ q = 49) : sf_CK Wt Post 117 (wX5_ruleForDrop_117 q (dX5_ruleForDrop_117 q)) := by
  refine wX5_ruleForDrop_117_ok hm ?_
  intro x1 σ u h hp
  rcases hq with rfl | rfl
  · exact sf_run_ok hs sf_sm_nil 52 117 _ _ σ u h hp
  · exact sf_run_ok hs sf_sm_nil 52 117 _ _ σ u h hp
noncomputable def dX5_ruleForDrop (q : Nat) (x1 : Int32) (σ : sf_S) : Option (Int32 × sf_S) :=
  (dX2_letterAt (sf_pl q) (x1 + (1 : Int32)) σ).bind fun u1 =>
  if u1.1 = (37 : Int32) then
    some ((4 : Int32), u1.2)
  else
  if u1.1 = (42 : Int32) then
    some ((4 : Int32), u1.2)
  else
  if u1.1 = (43 : Int32) then
    some ((4 : Int32), u1.2)
  else
  if u1.1 = (100 : Int32) then
    some ((2 : Int32), u1.2)
  else
  if u1.1 = (105 : Int32) then
    some ((8 : Int32), u1.2)
  else
  if u1.1 = (114 : Int32) then
    some ((7 : Int32), u1.2)
  else
    if ¬ u1.1 = (116 : Int32) then
      dX5_ruleForDrop_117 q x1 u1.2
    else
      (dX2_has (sf_pl q) (x1 + (2 : Int32)) u1.2).bind fun u2 =>
      if u2.1 = 0 then
        dX5_ruleForDrop_117 q x1 u2.2
      else
        if sf_in (x1 + (2 : Int32)) 40 then
          if (u2.2 ((sf_pl q) + 9) ((x1 + (2 : Int32))).toNatClampNeg) = 0 then
            dX5_ruleForDrop_117 q x1 u2.2
          else
            some ((5 : Int32), u2.2)
        else
          none
noncomputable abbrev gX5_ruleForDrop (av : List Value) (σ : sf_S) : Option (Int32 × sf_S) := match av with
  | [.ref q, .int x1] => (match sf_rv [13, 49] q with | true => dX5_ruleForDrop q x1 σ | false => none)
  | _ => none
set_option maxRecDepth 100000 in
set_option maxHeartbeats 4000000 in
theorem rX5_ruleForDrop {Wt : Nat → sf_L → List Value → sf_S → Prop} {Post : (Int32 × sf_S) → Prop} (hs : sf_Snd Wt sf_layC sf_hI jX5_ruleForDrop tX5_ruleForDrop Post) (hm : sf_mono Wt) : ∀ av σ u, gX5_ruleForDrop av σ = some u → Post u → (∀ ad, (lg_sl (av.map (sf_v ad))).length ≤ 3) ∧ Wt 0 (sf_ent 0 av) [] σ := by
  intro av σ u h hp
  unfold gX5_ruleForDrop at h
  split at h
  · rename_i q x1
    split at h
    · rename_i hq
      have hq : q = 13 ∨ q = 49 := by simpa using sf_rv_mem hq
      refine ⟨fun ad => Nat.le_of_ble_eq_true rfl, ?_⟩
      rcases hq with rfl | rfl
      · exact sf_run_ok hs (sf_sm_cons (rX5_ruleForDrop_117 hs hm (Or.inl rfl)) sf_sm_nil) 52 0 _ _ σ u h hp
      · exact sf_run_ok hs (sf_sm_cons (rX5_ruleForDrop_117 hs hm (Or.inr rfl)) sf_sm_nil) 52 0 _ _ σ u h hp
    · cases h
  · cases h
theorem kX5_ruleForDrop (l : Launch) : sf_C l sf_layC yX5_ruleForDrop cX5_ruleForDrop 3 (some .int) (sf_rm 2 121) (fun av σ => (gX5_ruleForDrop av σ).map sf_vI) :=
  sf_met (tab := tX5_ruleForDrop) (J := jX5_ruleForDrop) (fl := sf_fl5) (cl := sf_cl5) (by decide +kernel) ⟨rfl, rfl⟩ sf_RH_I (by decide +kernel) sf_fl5_ok sf_cl5_ok
    (sf_JO_cons (sf_je_N (n := 2) (cs := [2]) (tv := sf_vI) "StreamFuser" (kX2_letterAt l) mwX2_letterAt (by decide +kernel : decode cX5_ruleForDrop 7 = .ok (.invokevirtual 72, 3)) wt_504 wt_506 wt_6 (by decide +kernel) (by decide) (by decide) (List.forall_mem_cons.mpr ⟨⟨_, _, rfl⟩, fun _ h => absurd h List.not_mem_nil⟩) (sf_RM_of (by omega) (by omega))) (sf_JO_cons (sf_je_N (n := 2) (cs := [2]) (tv := sf_vI) "StreamFuser" (kX2_has l) mwX2_has (by decide +kernel : decode cX5_ruleForDrop 95 = .ok (.invokevirtual 44, 3)) wt_494 wt_470 wt_0 (by decide +kernel) (by decide) (by decide) (List.forall_mem_cons.mpr ⟨⟨_, _, rfl⟩, fun _ h => absurd h List.not_mem_nil⟩) (sf_RM_of (by omega) (by omega))) (sf_JO_nil)))
    (fun Wt Post hs hm => rX5_ruleForDrop hs hm)
-- ===== StreamFuser$Rewriter.ruleFor(I)I =====
abbrev tX5_ruleFor : List (Nat × sf_E) := [(0, (.aload_n 0, 1, 0, .null, [], [])), (1, (.getfield 15, 4, 0, .null, [], [(5, 0)])), (4, (.iload_n 1, 5, 0, .null, [], [])), (5, (.invokevirtual 44, 8, 0, .null, [], [])), (8, (.ifCond .ne 5, 11, 13, .null, [], [])), (11, (.iconst (-1), 12, 0, .int (-1), [], [])), (12, (.ireturn, 13, 0, .null, [], [])), (13, (.aload_n 0, 14, 0, .null, [], [])), (14, (.getfield 15, 17, 0, .null, [], [(5, 0)])), (17, (.getfield 48, 20, 0, .null, [], [(2, 0)])), (20, (.iload_n 1, 21, 0, .null, [], [])), (21, (.iaload, 22, 0, .null, [], [])), (22, (.tableswitch 184 99 118 #[144, 138, 184, 184, 184, 184, 182, 184, 184, 184, 184, 184, 184, 184, 184, 94, 182, 132, 182, 182], 116, 206, .null, [((99), 166), ((100), 160), ((101), 206), ((102), 206), ((103), 206), ((104), 206), ((105), 204), ((106), 206), ((107), 206), ((108), 206), ((109), 206), ((110), 206), ((111), 206), ((112), 206), ((113), 206), ((114), 116), ((115), 204), ((116), 154), ((117), 204), ((118), 204)], [])), (116, (.aload_n 0, 117, 0, .null, [], [])), (117, (.getfield 15, 120, 0, .null, [], [(5, 0)])), (120, (.getfield 51, 123, 0, .null, [], [(2, 3)])), (123, (.iload_n 1, 124, 0, .null, [], [])), (124, (.iaload, 125, 0, .null, [], [])), (125, (.aload_n 0, 126, 0, .null, [], [])), (126, (.getfield 15, 129, 0, .null, [], [(5, 0)])), (129, (.getfield 54, 132, 0, .null, [], [(2, 2)])), (132, (.iload_n 1, 133, 0, .null, [], [])), (133, (.iaload, 134, 0, .null, [], [])), (134, (.if_icmp .gt 18, 137, 152, .null, [], [])), (137, (.aload_n 0, 138, 0, .null, [], [])), (138, (.getfield 15, 141, 0, .null, [], [(5, 0)])), (141, (.iload_n 1, 142, 0, .null, [], [])), (142, (.invokevirtual 57, 145, 0, .null, [], [])), (145, (.ifCond .ne 7, 148, 152, .null, [], [])), (148, (.iconst 0, 149, 0, .int (0), [], [])), (149, (.goto 4, 152, 153, .null, [], [])), (152, (.iconst (-1), 153, 0, .int (-1), [], [])), (153, (.ireturn, 154, 0, .null, [], [])), (154, (.aload_n 0, 155, 0, .null, [], [])), (155, (.iload_n 1, 156, 0, .null, [], [])), (156, (.invokevirtual 60, 159, 0, .null, [], [])), (159, (.ireturn, 160, 0, .null, [], [])), (160, (.aload_n 0, 161, 0, .null, [], [])), (161, (.iload_n 1, 162, 0, .null, [], [])), (162, (.invokevirtual 63, 165, 0, .null, [], [])), (165, (.ireturn, 166, 0, .null, [], [])), (166, (.aload_n 0, 167, 0, .null, [], [])), (167, (.getfield 15, 170, 0, .null, [], [(5, 0)])), (170, (.iload_n 1, 171, 0, .null, [], [])), (171, (.iconst 1, 172, 0, .int (1), [], [])), (172, (.iadd, 173, 0, .null, [], [])), (173, (.invokevirtual 57, 176, 0, .null, [], [])), (176, (.ifCond .ne 21, 179, 197, .null, [], [])), (179, (.aload_n 0, 180, 0, .null, [], [])), (180, (.getfield 15, 183, 0, .null, [], [(5, 0)])), (183, (.aload_n 0, 184, 0, .null, [], [])), (184, (.getfield 15, 187, 0, .null, [], [(5, 0)])), (187, (.iload_n 1, 188, 0, .null, [], [])), (188, (.invokevirtual 66, 191, 0, .null, [], [])), (191, (.invokevirtual 57, 194, 0, .null, [], [])), (194, (.ifCond .eq 8, 197, 202, .null, [], [])), (197, (.bipush 12, 199, 0, .int (12), [], [])), (199, (.goto 4, 202, 203, .null, [], [])), (202, (.iconst (-1), 203, 0, .int (-1), [], [])), (203, (.ireturn, 204, 0, .null, [], [])), (204, (.iconst (-1), 205, 0, .int (-1), [], [])), (205, (.ireturn, 206, 0, .null, [], [])), (206, (.aload_n 0, 207, 0, .null, [], [])), (207, (.getfield 15, 210, 0, .null, [], [(5, 0)])), (210, (.aload_n 0, 211, 0, .null, [], [])), (211, (.getfield 15, 214, 0, .null, [], [(5, 0)])), (214, (.iload_n 1, 215, 0, .null, [], [])), (215, (.invokevirtual 69, 218, 0, .null, [], [])), (218, (.invokevirtual 57, 221, 0, .null, [], [])), (221, (.ifCond .eq 8, 224, 229, .null, [], [])), (224, (.bipush 11, 226, 0, .int (11), [], [])), (226, (.goto 4, 229, 230, .null, [], [])), (229, (.iconst (-1), 230, 0, .int (-1), [], [])), (230, (.ireturn, 231, 0, .null, [], []))]
noncomputable abbrev jX5_ruleFor : List (Nat × sf_J (Int32 × sf_S)) := [(5, sf_jI sf_layC [2] 2 gX2_has), (142, sf_jI sf_layC [2] 2 gX2_isNil), (156, sf_jI sf_layC [5] 2 gX5_ruleForTake), (162, sf_jI sf_layC [5] 2 gX5_ruleForDrop), (173, sf_jI sf_layC [2] 2 gX2_isNil), (188, sf_jI sf_layC [2] 2 gX2_secondPart), (191, sf_jI sf_layC [2] 2 gX2_isNil), (215, sf_jI sf_layC [2] 2 gX2_input), (218, sf_jI sf_layC [2] 2 gX2_isNil)]
noncomputable def dX5_ruleFor (q : Nat) (x1 : Int32) (σ : sf_S) : Option (Int32 × sf_S) :=
  (dX2_has (sf_pl q) x1 σ).bind fun u1 =>
  if ¬ u1.1 = 0 then
    if sf_in x1 40 then
      let v2 := (u1.2 ((sf_pl q) + 1) x1.toNatClampNeg)
      if v2 = (99 : Int32) then
        (dX2_isNil (sf_pl q) (x1 + (1 : Int32)) u1.2).bind fun u3 =>
        if ¬ u3.1 = 0 then
          some ((12 : Int32), u3.2)
        else
          (dX2_secondPart (sf_pl q) x1 u3.2).bind fun u4 =>
          (dX2_isNil (sf_pl q) u4.1 u4.2).bind fun u5 =>
          if u5.1 = 0 then
            some ((-1 : Int32), u5.2)
          else
            some ((12 : Int32), u5.2)
      else
      if v2 = (100 : Int32) then
        (dX5_ruleForDrop q x1 u1.2).bind fun u6 =>
        some (u6.1, u6.2)
      else
      if v2 = (101 : Int32) then
        (dX2_input (sf_pl q) x1 u1.2).bind fun u7 =>
        (dX2_isNil (sf_pl q) u7.1 u7.2).bind fun u8 =>
        if u8.1 = 0 then
          some ((-1 : Int32), u8.2)
        else
          some ((11 : Int32), u8.2)
      else
      if v2 = (102 : Int32) then
        (dX2_input (sf_pl q) x1 u1.2).bind fun u9 =>
        (dX2_isNil (sf_pl q) u9.1 u9.2).bind fun u10 =>
        if u10.1 = 0 then
          some ((-1 : Int32), u10.2)
        else
          some ((11 : Int32), u10.2)
      else
      if v2 = (103 : Int32) then
        (dX2_input (sf_pl q) x1 u1.2).bind fun u11 =>
        (dX2_isNil (sf_pl q) u11.1 u11.2).bind fun u12 =>
        if u12.1 = 0 then
          some ((-1 : Int32), u12.2)
        else
          some ((11 : Int32), u12.2)
      else
      if v2 = (104 : Int32) then
        (dX2_input (sf_pl q) x1 u1.2).bind fun u13 =>
        (dX2_isNil (sf_pl q) u13.1 u13.2).bind fun u14 =>
        if u14.1 = 0 then
          some ((-1 : Int32), u14.2)
        else
          some ((11 : Int32), u14.2)
      else
      if v2 = (105 : Int32) then
        some ((-1 : Int32), u1.2)
      else
      if v2 = (106 : Int32) then
        (dX2_input (sf_pl q) x1 u1.2).bind fun u15 =>
        (dX2_isNil (sf_pl q) u15.1 u15.2).bind fun u16 =>
        if u16.1 = 0 then
          some ((-1 : Int32), u16.2)
        else
          some ((11 : Int32), u16.2)
      else
      if v2 = (107 : Int32) then
        (dX2_input (sf_pl q) x1 u1.2).bind fun u17 =>
        (dX2_isNil (sf_pl q) u17.1 u17.2).bind fun u18 =>
        if u18.1 = 0 then
          some ((-1 : Int32), u18.2)
        else
          some ((11 : Int32), u18.2)
      else
      if v2 = (108 : Int32) then
        (dX2_input (sf_pl q) x1 u1.2).bind fun u19 =>
        (dX2_isNil (sf_pl q) u19.1 u19.2).bind fun u20 =>
        if u20.1 = 0 then
          some ((-1 : Int32), u20.2)
        else
          some ((11 : Int32), u20.2)
      else
      if v2 = (109 : Int32) then
        (dX2_input (sf_pl q) x1 u1.2).bind fun u21 =>
        (dX2_isNil (sf_pl q) u21.1 u21.2).bind fun u22 =>
        if u22.1 = 0 then
          some ((-1 : Int32), u22.2)
        else
          some ((11 : Int32), u22.2)
      else
      if v2 = (110 : Int32) then
        (dX2_input (sf_pl q) x1 u1.2).bind fun u23 =>
        (dX2_isNil (sf_pl q) u23.1 u23.2).bind fun u24 =>
        if u24.1 = 0 then
          some ((-1 : Int32), u24.2)
        else
          some ((11 : Int32), u24.2)
      else
      if v2 = (111 : Int32) then
        (dX2_input (sf_pl q) x1 u1.2).bind fun u25 =>
        (dX2_isNil (sf_pl q) u25.1 u25.2).bind fun u26 =>
        if u26.1 = 0 then
          some ((-1 : Int32), u26.2)
        else
          some ((11 : Int32), u26.2)
      else
      if v2 = (112 : Int32) then
        (dX2_input (sf_pl q) x1 u1.2).bind fun u27 =>
        (dX2_isNil (sf_pl q) u27.1 u27.2).bind fun u28 =>
        if u28.1 = 0 then
          some ((-1 : Int32), u28.2)
        else
          some ((11 : Int32), u28.2)
      else
      if v2 = (113 : Int32) then
        (dX2_input (sf_pl q) x1 u1.2).bind fun u29 =>
        (dX2_isNil (sf_pl q) u29.1 u29.2).bind fun u30 =>
        if u30.1 = 0 then
          some ((-1 : Int32), u30.2)
        else
          some ((11 : Int32), u30.2)
      else
      if v2 = (114 : Int32) then
        if sf_in x1 40 then
          if sf_in x1 40 then
            if (u1.2 ((sf_pl q) + 3) x1.toNatClampNeg) < (u1.2 ((sf_pl q) + 4) x1.toNatClampNeg) then
              some ((-1 : Int32), u1.2)
            else
              (dX2_isNil (sf_pl q) x1 u1.2).bind fun u31 =>
              if ¬ u31.1 = 0 then
                some ((-1 : Int32), u31.2)
              else
                some ((0 : Int32), u31.2)
          else
            none
        else
          none
      else
      if v2 = (115 : Int32) then
        some ((-1 : Int32), u1.2)
      else
      if v2 = (116 : Int32) then
        (dX5_ruleForTake q x1 u1.2).bind fun u32 =>
        some (u32.1, u32.2)
      else
      if v2 = (117 : Int32) then
        some ((-1 : Int32), u1.2)
      else
      if v2 = (118 : Int32) then
        some ((-1 : Int32), u1.2)
      else
        (dX2_input (sf_pl q) x1 u1.2).bind fun u33 =>
        (dX2_isNil (sf_pl q) u33.1 u33.2).bind fun u34 =>
        if u34.1 = 0 then
          some ((-1 : Int32), u34.2)
        else
          some ((11 : Int32), u34.2)
    else
      none
  else
    some ((-1 : Int32), u1.2)
noncomputable abbrev gX5_ruleFor (av : List Value) (σ : sf_S) : Option (Int32 × sf_S) := match av with
  | [.ref q, .int x1] => (match sf_rv [13, 49] q with | true => dX5_ruleFor q x1 σ | false => none)
  | _ => none
set_option maxRecDepth 100000 in
set_option maxHeartbeats 4000000 in
theorem rX5_ruleFor {Wt : Nat → sf_L → List Value → sf_S → Prop} {Post : (Int32 × sf_S) → Prop} (hs : sf_Snd Wt sf_layC sf_hI jX5_ruleFor tX5_ruleFor Post) (hm : sf_mono Wt) : ∀ av σ u, gX5_ruleFor av σ = some u → Post u → (∀ ad, (lg_sl (av.map (sf_v ad))).length ≤ 2) ∧ Wt 0 (sf_ent 0 av) [] σ := by
  intro av σ u h hp
  unfold gX5_ruleFor at h
  split at h
  · rename_i q x1
    split at h
    · rename_i hq
      have hq : q = 13 ∨ q = 49 := by simpa using sf_rv_mem hq
      refine ⟨fun ad => Nat.le_of_ble_eq_true rfl, ?_⟩
      rcases hq with rfl | rfl
      · exact sf_run_ok hs sf_sm_nil 79 0 _ _ σ u h hp
      · exact sf_run_ok hs sf_sm_nil 79 0 _ _ σ u h hp
    · cases h
  · cases h
theorem kX5_ruleFor (l : Launch) : sf_C l sf_layC yX5_ruleFor cX5_ruleFor 2 (some .int) (sf_rm 3 143) (fun av σ => (gX5_ruleFor av σ).map sf_vI) :=
  sf_met (tab := tX5_ruleFor) (J := jX5_ruleFor) (fl := sf_fl5) (cl := sf_cl5) (by decide +kernel) ⟨rfl, rfl⟩ sf_RH_I (by decide +kernel) sf_fl5_ok sf_cl5_ok
    (sf_JO_cons (sf_je_N (n := 2) (cs := [2]) (tv := sf_vI) "StreamFuser" (kX2_has l) mwX2_has (by decide +kernel : decode cX5_ruleFor 5 = .ok (.invokevirtual 44, 3)) wt_494 wt_470 wt_0 (by decide +kernel) (by decide) (by decide) (List.forall_mem_cons.mpr ⟨⟨_, _, rfl⟩, fun _ h => absurd h List.not_mem_nil⟩) (sf_RM_of (by omega) (by omega))) (sf_JO_cons (sf_je_N (n := 2) (cs := [2]) (tv := sf_vI) "StreamFuser" (kX2_isNil l) mwX2_isNil (by decide +kernel : decode cX5_ruleFor 142 = .ok (.invokevirtual 57, 3)) wt_495 wt_497 wt_4 (by decide +kernel) (by decide) (by decide) (List.forall_mem_cons.mpr ⟨⟨_, _, rfl⟩, fun _ h => absurd h List.not_mem_nil⟩) (sf_RM_of (by omega) (by omega))) (sf_JO_cons (sf_je_V (n := 2) (cs := [5]) (tv := sf_vI) (kX5_ruleForTake l) mwX5_ruleForTake (by decide +kernel : decode cX5_ruleFor 156 = .ok (.invokevirtual 60, 3)) wt_500 wt_502 wt_5 (by decide +kernel) (by decide) (by decide) (List.forall_mem_cons.mpr ⟨⟨_, _, rfl⟩, fun _ h => absurd h List.not_mem_nil⟩) (sf_RM_of (by omega) (by omega))) (sf_JO_cons (sf_je_V (n := 2) (cs := [5]) (tv := sf_vI) (kX5_ruleForDrop l) mwX5_ruleForDrop (by decide +kernel : decode cX5_ruleFor 162 = .ok (.invokevirtual 63, 3)) wt_508 wt_510 wt_7 (by decide +kernel) (by decide) (by decide) (List.forall_mem_cons.mpr ⟨⟨_, _, rfl⟩, fun _ h => absurd h List.not_mem_nil⟩) (sf_RM_of (by omega) (by omega))) (sf_JO_cons (sf_je_N (n := 2) (cs := [2]) (tv := sf_vI) "StreamFuser" (kX2_isNil l) mwX2_isNil (by decide +kernel : decode cX5_ruleFor 173 = .ok (.invokevirtual 57, 3)) wt_495 wt_497 wt_4 (by decide +kernel) (by decide) (by decide) (List.forall_mem_cons.mpr ⟨⟨_, _, rfl⟩, fun _ h => absurd h List.not_mem_nil⟩) (sf_RM_of (by omega) (by omega))) (sf_JO_cons (sf_je_N (n := 2) (cs := [2]) (tv := sf_vI) "StreamFuser" (kX2_secondPart l) mwX2_secondPart (by decide +kernel : decode cX5_ruleFor 188 = .ok (.invokevirtual 66, 3)) wt_512 wt_514 wt_8 (by decide +kernel) (by decide) (by decide) (List.forall_mem_cons.mpr ⟨⟨_, _, rfl⟩, fun _ h => absurd h List.not_mem_nil⟩) (sf_RM_of (by omega) (by omega))) (sf_JO_cons (sf_je_N (n := 2) (cs := [2]) (tv := sf_vI) "StreamFuser" (kX2_isNil l) mwX2_isNil (by decide +kernel : decode cX5_ruleFor 191 = .ok (.invokevirtual 57, 3)) wt_495 wt_497 wt_4 (by decide +kernel) (by decide) (by decide) (List.forall_mem_cons.mpr ⟨⟨_, _, rfl⟩, fun _ h => absurd h List.not_mem_nil⟩) (sf_RM_of (by omega) (by omega))) (sf_JO_cons (sf_je_N (n := 2) (cs := [2]) (tv := sf_vI) "StreamFuser" (kX2_input l) mwX2_input (by decide +kernel : decode cX5_ruleFor 215 = .ok (.invokevirtual 69, 3)) wt_516 wt_518 wt_9 (by decide +kernel) (by decide) (by decide) (List.forall_mem_cons.mpr ⟨⟨_, _, rfl⟩, fun _ h => absurd h List.not_mem_nil⟩) (sf_RM_of (by omega) (by omega))) (sf_JO_cons (sf_je_N (n := 2) (cs := [2]) (tv := sf_vI) "StreamFuser" (kX2_isNil l) mwX2_isNil (by decide +kernel : decode cX5_ruleFor 218 = .ok (.invokevirtual 57, 3)) wt_495 wt_497 wt_4 (by decide +kernel) (by decide) (by decide) (List.forall_mem_cons.mpr ⟨⟨_, _, rfl⟩, fun _ h => absurd h List.not_mem_nil⟩) (sf_RM_of (by omega) (by omega))) (sf_JO_nil))))))))))
    (fun Wt Post hs hm => rX5_ruleFor hs hm)
-- ===== StreamFuser$Rewriter.place(Z)I =====
abbrev tX5_place : List (Nat × sf_E) := [(0, (.aload_n 0, 1, 0, .null, [], [])), (1, (.getfield 15, 4, 0, .null, [], [(5, 0)])), (4, (.getfield 41, 7, 0, .null, [], [(2, 4)])), (7, (.istore_n 2, 8, 0, .null, [], [])), (8, (.iconst 0, 9, 0, .int (0), [], [])), (9, (.istore_n 3, 10, 0, .null, [], [])), (10, (.iload_n 3, 11, 0, .null, [], [])), (11, (.iload_n 2, 12, 0, .null, [], [])), (12, (.if_icmp .ge 37, 15, 49, .null, [], [])), (15, (.iload_n 1, 16, 0, .null, [], [])), (16, (.ifCond .eq 11, 19, 27, .null, [], [])), (19, (.iload_n 2, 20, 0, .null, [], [])), (20, (.iconst 1, 21, 0, .int (1), [], [])), (21, (.isub, 22, 0, .null, [], [])), (22, (.iload_n 3, 23, 0, .null, [], [])), (23, (.isub, 24, 0, .null, [], [])), (24, (.goto 4, 27, 28, .null, [], [])), (27, (.iload_n 3, 28, 0, .null, [], [])), (28, (.istore 4, 30, 0, .null, [], [])), (30, (.aload_n 0, 31, 0, .null, [], [])), (31, (.iload 4, 33, 0, .null, [], [])), (33, (.invokevirtual 28, 36, 0, .null, [], [])), (36, (.iconst (-1), 37, 0, .int (-1), [], [])), (37, (.if_icmp .eq 6, 40, 43, .null, [], [])), (40, (.iload 4, 42, 0, .null, [], [])), (42, (.ireturn, 43, 0, .null, [], [])), (43, (.iinc 3 1, 46, 0, .int (1), [], [])), (46, (.goto (-36), 49, 10, .null, [], [])), (49, (.iconst (-1), 50, 0, .int (-1), [], [])), (50, (.ireturn, 51, 0, .null, [], []))]
noncomputable abbrev jX5_place : List (Nat × sf_J (Int32 × sf_S)) := [(33, sf_jI sf_layC [5] 2 gX5_ruleFor)]
abbrev wX5_place_28 {ρ : Type} (q : Nat) (k : Int32 → Int32 → Int32 → Int32 → sf_S → Option ρ) : sf_M ρ := fun L st σ => sf_lda L 0 fun a0 => sf_eq a0 q (sf_ldi L 1 fun x1 => sf_ldi L 2 fun x2 => sf_ldi L 3 fun x3 => sf_i1 st fun y0 st => sf_nil st (k x1 x2 x3 y0 σ))
theorem wX5_place_28_ok {ρ : Type} {Wt : Nat → sf_L → List Value → sf_S → Prop} {Post : ρ → Prop} (hm : sf_mono Wt) {q : Nat} {k : Int32 → Int32 → Int32 → Int32 → sf_S → Option ρ} (h : ∀ (x1 : Int32) (x2 : Int32) (x3 : Int32) (y0 : Int32) (σ : sf_S) (u : ρ), k x1 x2 x3 y0 σ = some u → Post u → Wt 28 [(0, some (.ref q)), (1, some (.int x1)), (2, some (.int x2)), (3, some (.int x3))] [.int y0] σ) : sf_CK Wt Post 28 (wX5_place_28 q k) := by
  intro L st σ u hf hp
  unfold wX5_place_28 at hf
  have hf0 := hf
  obtain ⟨a0, e0, hf1⟩ := sf_lda_inv hf0
  obtain ⟨rfl, hf2⟩ := sf_eq_inv hf1
  obtain ⟨x1, e1, hf3⟩ := sf_ldi_inv hf2
  obtain ⟨x2, e2, hf4⟩ := sf_ldi_inv hf3
  obtain ⟨x3, e3, hf5⟩ := sf_ldi_inv hf4
  obtain ⟨y0, st, rfl, hf6⟩ := sf_i1_inv hf5
  obtain ⟨rfl, hz⟩ := sf_nil_inv hf6
  exact hm _ [(0, some (.ref _)), (1, some (.int x1)), (2, some (.int x2)), (3, some (.int x3))] _ _ _ (sf_le_ok (And.intro e0 (And.intro e1 (And.intro e2 (And.intro e3 trivial))))) (h _ _ _ _ _ _ hz hp)
abbrev wX5_place_10 {ρ : Type} (q : Nat) (k : Int32 → Int32 → Int32 → sf_S → Option ρ) : sf_M ρ := fun L st σ => sf_lda L 0 fun a0 => sf_eq a0 q (sf_ldi L 1 fun x1 => sf_ldi L 2 fun x2 => sf_ldi L 3 fun x3 => sf_nil st (k x1 x2 x3 σ))
theorem wX5_place_10_ok {ρ : Type} {Wt : Nat → sf_L → List Value → sf_S → Prop} {Post : ρ → Prop} (hm : sf_mono Wt) {q : Nat} {k : Int32 → Int32 → Int32 → sf_S → Option ρ} (h : ∀ (x1 : Int32) (x2 : Int32) (x3 : Int32) (σ : sf_S) (u : ρ), k x1 x2 x3 σ = some u → Post u → Wt 10 [(0, some (.ref q)), (1, some (.int x1)), (2, some (.int x2)), (3, some (.int x3))] [] σ) : sf_CK Wt Post 10 (wX5_place_10 q k) := by
  intro L st σ u hf hp
  unfold wX5_place_10 at hf
  have hf0 := hf
  obtain ⟨a0, e0, hf1⟩ := sf_lda_inv hf0
  obtain ⟨rfl, hf2⟩ := sf_eq_inv hf1
  obtain ⟨x1, e1, hf3⟩ := sf_ldi_inv hf2
  obtain ⟨x2, e2, hf4⟩ := sf_ldi_inv hf3
  obtain ⟨x3, e3, hf5⟩ := sf_ldi_inv hf4
  obtain ⟨rfl, hz⟩ := sf_nil_inv hf5
  exact hm _ [(0, some (.ref _)), (1, some (.int x1)), (2, some (.int x2)), (3, some (.int x3))] _ _ _ (sf_le_ok (And.intro e0 (And.intro e1 (And.intro e2 (And.intro e3 trivial))))) (h _ _ _ _ _ hz hp)
noncomputable def dX5_place_28 (q : Nat) (K10 : Int32 → Int32 → Int32 → sf_S → Option (Int32 × sf_S)) (x1 : Int32) (x2 : Int32) (x3 : Int32) (y0 : Int32) (σ : sf_S) : Option (Int32 × sf_S) :=
  (dX5_ruleFor q y0 σ).bind fun u1 =>
  if u1.1 = (-1 : Int32) then
    K10 x1 x2 (x3 + (1 : Int32)) u1.2
  else
    some (y0, u1.2)
set_option maxRecDepth 100000 in
set_option maxHeartbeats 4000000 in
theorem rX5_place_28 {Wt : Nat → sf_L → List Value → sf_S → Prop} {Post : (Int32 × sf_S) → Prop} (hs : sf_Snd Wt sf_layC sf_hI jX5_place tX5_place Post) (hm : sf_mono Wt) {q : Nat} (hq : q = 13 ∨ q = 49) {K10 : Int32 → Int32 → Int32 → sf_S → Option (Int32 × sf_S)} (hK10 : sf_CK Wt Post 10 (wX5_place_10 q K10)) : sf_CK Wt Post 28 (wX5_place_28 q (dX5_place_28 q K10)) := by
  refine wX5_place_28_ok hm ?_
  intro x1 x2 x3 y0 σ u h hp
  rcases hq with rfl | rfl
  · exact sf_run_ok hs (sf_sm_cons hK10 sf_sm_nil) 35 28 _ _ σ u h hp
  · exact sf_run_ok hs (sf_sm_cons hK10 sf_sm_nil) 35 28 _ _ σ u h hp
noncomputable def dX5_place_10 (q : Nat) : Nat → Int32 → Int32 → Int32 → sf_S → Option (Int32 × sf_S)
  | 0 => fun _ _ _ _ => none
  | n + 1 => fun x1 x2 x3 σ =>
    if x2 ≤ x3 then
      some ((-1 : Int32), σ)
    else
      if x1 = 0 then
        dX5_place_28 q (dX5_place_10 q n) x1 x2 x3 x3 σ
      else
        dX5_place_28 q (dX5_place_10 q n) x1 x2 x3 ((x2 - (1 : Int32)) - x3) σ
set_option maxRecDepth 100000 in
set_option maxHeartbeats 4000000 in
theorem rX5_place_10 {Wt : Nat → sf_L → List Value → sf_S → Prop} {Post : (Int32 × sf_S) → Prop} (hs : sf_Snd Wt sf_layC sf_hI jX5_place tX5_place Post) (hm : sf_mono Wt) {q : Nat} (hq : q = 13 ∨ q = 49) : ∀ n : Nat, sf_CK Wt Post 10 (wX5_place_10 q (dX5_place_10 q n)) := by
  intro n
  induction n with
  | zero => exact wX5_place_10_ok hm (fun x1 x2 x3 σ u h _ => by simp [dX5_place_10] at h)
  | succ n ih =>
    refine wX5_place_10_ok hm ?_
    intro x1 x2 x3 σ u h hp
    rcases hq with rfl | rfl
    · exact sf_run_ok hs (sf_sm_cons (rX5_place_28 hs hm (Or.inl rfl) ih) sf_sm_nil) 35 10 _ _ σ u h hp
    · exact sf_run_ok hs (sf_sm_cons (rX5_place_28 hs hm (Or.inr rfl) ih) sf_sm_nil) 35 10 _ _ σ u h hp
noncomputable def dX5_place (q : Nat) (x1 : Int32) (σ : sf_S) : Option (Int32 × sf_S) :=
  let v1 := (σ (sf_pl q) 4)
  dX5_place_10 q sf_F x1 v1 (0 : Int32) σ
noncomputable abbrev gX5_place (av : List Value) (σ : sf_S) : Option (Int32 × sf_S) := match av with
  | [.ref q, .int x1] => (match sf_rv [13, 49] q with | true => dX5_place q x1 σ | false => none)
  | _ => none
set_option maxRecDepth 100000 in
set_option maxHeartbeats 4000000 in
theorem rX5_place {Wt : Nat → sf_L → List Value → sf_S → Prop} {Post : (Int32 × sf_S) → Prop} (hs : sf_Snd Wt sf_layC sf_hI jX5_place tX5_place Post) (hm : sf_mono Wt) : ∀ av σ u, gX5_place av σ = some u → Post u → (∀ ad, (lg_sl (av.map (sf_v ad))).length ≤ 5) ∧ Wt 0 (sf_ent 0 av) [] σ := by
  intro av σ u h hp
  unfold gX5_place at h
  split at h
  · rename_i q x1
    split at h
    · rename_i hq
      have hq : q = 13 ∨ q = 49 := by simpa using sf_rv_mem hq
      refine ⟨fun ad => Nat.le_of_ble_eq_true rfl, ?_⟩
      rcases hq with rfl | rfl
      · exact sf_run_ok hs (sf_sm_cons (rX5_place_10 hs hm (Or.inl rfl) sf_F) sf_sm_nil) 35 0 _ _ σ u h hp
      · exact sf_run_ok hs (sf_sm_cons (rX5_place_10 hs hm (Or.inr rfl) sf_F) sf_sm_nil) 35 0 _ _ σ u h hp
    · cases h
  · cases h
theorem kX5_place (l : Launch) : sf_C l sf_layC yX5_place cX5_place 5 (some .int) (sf_rm 4 164) (fun av σ => (gX5_place av σ).map sf_vI) :=
  sf_met (tab := tX5_place) (J := jX5_place) (fl := sf_fl5) (cl := sf_cl5) (by decide +kernel) ⟨rfl, rfl⟩ sf_RH_I (by decide +kernel) sf_fl5_ok sf_cl5_ok
    (sf_JO_cons (sf_je_V (n := 2) (cs := [5]) (tv := sf_vI) (kX5_ruleFor l) mwX5_ruleFor (by decide +kernel : decode cX5_place 33 = .ok (.invokevirtual 28, 3)) wt_490 wt_492 wt_3 (by decide +kernel) (by decide) (by decide) (List.forall_mem_cons.mpr ⟨⟨_, _, rfl⟩, fun _ h => absurd h List.not_mem_nil⟩) (sf_RM_of (by omega) (by omega))) (sf_JO_nil))
    (fun Wt Post hs hm => rX5_place hs hm)
-- ===== StreamFuser$Rewriter.swapDropWithTake(I)V =====
abbrev tX5_swapDropWithTake : List (Nat × sf_E) := [(0, (.aload_n 0, 1, 0, .null, [], [])), (1, (.getfield 15, 4, 0, .null, [], [(5, 0)])), (4, (.iload_n 1, 5, 0, .null, [], [])), (5, (.invokevirtual 44, 8, 0, .null, [], [])), (8, (.ifCond .eq 16, 11, 24, .null, [], [])), (11, (.aload_n 0, 12, 0, .null, [], [])), (12, (.getfield 15, 15, 0, .null, [], [(5, 0)])), (15, (.iload_n 1, 16, 0, .null, [], [])), (16, (.iconst 1, 17, 0, .int (1), [], [])), (17, (.iadd, 18, 0, .null, [], [])), (18, (.invokevirtual 44, 21, 0, .null, [], [])), (21, (.ifCond .ne 4, 24, 25, .null, [], [])), (24, (.return_, 25, 0, .null, [], [])), (25, (.aload_n 0, 26, 0, .null, [], [])), (26, (.getfield 15, 29, 0, .null, [], [(5, 0)])), (29, (.getfield 54, 32, 0, .null, [], [(2, 2)])), (32, (.iload_n 1, 33, 0, .null, [], [])), (33, (.iaload, 34, 0, .null, [], [])), (34, (.istore_n 2, 35, 0, .null, [], [])), (35, (.aload_n 0, 36, 0, .null, [], [])), (36, (.getfield 15, 39, 0, .null, [], [(5, 0)])), (39, (.iload_n 1, 40, 0, .null, [], [])), (40, (.invokevirtual 83, 43, 0, .null, [], [])), (43, (.aload_n 0, 44, 0, .null, [], [])), (44, (.getfield 15, 47, 0, .null, [], [(5, 0)])), (47, (.getfield 54, 50, 0, .null, [], [(2, 2)])), (50, (.iload_n 1, 51, 0, .null, [], [])), (51, (.iconst 0, 52, 0, .int (0), [], [])), (52, (.aload_n 0, 53, 0, .null, [], [])), (53, (.getfield 15, 56, 0, .null, [], [(5, 0)])), (56, (.getfield 54, 59, 0, .null, [], [(2, 2)])), (59, (.iload_n 1, 60, 0, .null, [], [])), (60, (.iaload, 61, 0, .null, [], [])), (61, (.iload_n 2, 62, 0, .null, [], [])), (62, (.isub, 63, 0, .null, [], [])), (63, (.invokestatic 98, 66, 0, .null, [], [])), (66, (.iastore, 67, 0, .null, [], [])), (67, (.return_, 68, 0, .null, [], []))]
noncomputable abbrev jX5_swapDropWithTake : List (Nat × sf_J sf_S) := [(5, sf_jI sf_layC [2] 2 gX2_has), (18, sf_jI sf_layC [2] 2 gX2_has), (40, sf_jV sf_layC [2] 2 gX2_swapWithNext), (63, sf_jmax)]
noncomputable def dX5_swapDropWithTake (q : Nat) (x1 : Int32) (σ : sf_S) : Option sf_S :=
  (dX2_has (sf_pl q) x1 σ).bind fun u1 =>
  if u1.1 = 0 then
    some u1.2
  else
    (dX2_has (sf_pl q) (x1 + (1 : Int32)) u1.2).bind fun u2 =>
    if ¬ u2.1 = 0 then
      if sf_in x1 40 then
        let v3 := (u2.2 ((sf_pl q) + 3) x1.toNatClampNeg)
        (dX2_swapWithNext (sf_pl q) x1 u2.2).bind fun u4 =>
        if sf_in x1 40 then
          let v5 := ((u4 ((sf_pl q) + 3) x1.toNatClampNeg) - v3)
          if sf_in x1 40 then
            let s6 := sf_up u4 ((sf_pl q) + 3) x1.toNatClampNeg (if (0 : Int32) < v5 then v5 else (0 : Int32))
            some s6
          else
            none
        else
          none
      else
        none
    else
      some u2.2
noncomputable abbrev gX5_swapDropWithTake (av : List Value) (σ : sf_S) : Option sf_S := match av with
  | [.ref q, .int x1] => (match sf_rv [13, 49] q with | true => dX5_swapDropWithTake q x1 σ | false => none)
  | _ => none
set_option maxRecDepth 100000 in
set_option maxHeartbeats 4000000 in
theorem rX5_swapDropWithTake {Wt : Nat → sf_L → List Value → sf_S → Prop} {Post : sf_S → Prop} (hs : sf_Snd Wt sf_layC sf_hV jX5_swapDropWithTake tX5_swapDropWithTake Post) (hm : sf_mono Wt) : ∀ av σ u, gX5_swapDropWithTake av σ = some u → Post u → (∀ ad, (lg_sl (av.map (sf_v ad))).length ≤ 3) ∧ Wt 0 (sf_ent 0 av) [] σ := by
  intro av σ u h hp
  unfold gX5_swapDropWithTake at h
  split at h
  · rename_i q x1
    split at h
    · rename_i hq
      have hq : q = 13 ∨ q = 49 := by simpa using sf_rv_mem hq
      refine ⟨fun ad => Nat.le_of_ble_eq_true rfl, ?_⟩
      rcases hq with rfl | rfl
      · exact sf_run_ok hs sf_sm_nil 43 0 _ _ σ u h hp
      · exact sf_run_ok hs sf_sm_nil 43 0 _ _ σ u h hp
    · cases h
  · cases h
theorem kX5_swapDropWithTake (l : Launch) : sf_C l sf_layC yX5_swapDropWithTake cX5_swapDropWithTake 3 none (sf_rm 3 147) (fun av σ => (gX5_swapDropWithTake av σ).map sf_vV) :=
  sf_met (tab := tX5_swapDropWithTake) (J := jX5_swapDropWithTake) (fl := sf_fl5) (cl := sf_cl5) (by decide +kernel) ⟨rfl, rfl⟩ sf_RH_V (by decide +kernel) sf_fl5_ok sf_cl5_ok
    (sf_JO_cons (sf_je_N (n := 2) (cs := [2]) (tv := sf_vI) "StreamFuser" (kX2_has l) mwX2_has (by decide +kernel : decode cX5_swapDropWithTake 5 = .ok (.invokevirtual 44, 3)) wt_494 wt_470 wt_0 (by decide +kernel) (by decide) (by decide) (List.forall_mem_cons.mpr ⟨⟨_, _, rfl⟩, fun _ h => absurd h List.not_mem_nil⟩) (sf_RM_of (by omega) (by omega))) (sf_JO_cons (sf_je_N (n := 2) (cs := [2]) (tv := sf_vI) "StreamFuser" (kX2_has l) mwX2_has (by decide +kernel : decode cX5_swapDropWithTake 18 = .ok (.invokevirtual 44, 3)) wt_494 wt_470 wt_0 (by decide +kernel) (by decide) (by decide) (List.forall_mem_cons.mpr ⟨⟨_, _, rfl⟩, fun _ h => absurd h List.not_mem_nil⟩) (sf_RM_of (by omega) (by omega))) (sf_JO_cons (sf_je_N (n := 2) (cs := [2]) (tv := sf_vV) "StreamFuser" (kX2_swapWithNext l) mwX2_swapWithNext (by decide +kernel : decode cX5_swapDropWithTake 40 = .ok (.invokevirtual 83, 3)) wt_538 wt_540 wt_14 (by decide +kernel) (by decide) (by decide) (List.forall_mem_cons.mpr ⟨⟨_, _, rfl⟩, fun _ h => absurd h List.not_mem_nil⟩) (sf_RM_of (by omega) (by omega))) (sf_JO_cons (sf_je_max (by decide +kernel : decode cX5_swapDropWithTake 63 = .ok (.invokestatic 98, 3)) wt_546 wt_547 wt_89 wt_548 (sf_RB_of (by omega) (by omega))) (sf_JO_nil)))))
    (fun Wt Post hs hm => rX5_swapDropWithTake hs hm)
-- ===== StreamFuser$Rewriter.keepOnePart(I)V =====
abbrev tX5_keepOnePart : List (Nat × sf_E) := [(0, (.aload_n 0, 1, 0, .null, [], [])), (1, (.getfield 15, 4, 0, .null, [], [(5, 0)])), (4, (.iload_n 1, 5, 0, .null, [], [])), (5, (.invokevirtual 66, 8, 0, .null, [], [])), (8, (.istore_n 2, 9, 0, .null, [], [])), (9, (.aload_n 0, 10, 0, .null, [], [])), (10, (.getfield 15, 13, 0, .null, [], [(5, 0)])), (13, (.iload_n 1, 14, 0, .null, [], [])), (14, (.iconst 1, 15, 0, .int (1), [], [])), (15, (.iadd, 16, 0, .null, [], [])), (16, (.invokevirtual 57, 19, 0, .null, [], [])), (19, (.ifCond .eq 15, 22, 34, .null, [], [])), (22, (.aload_n 0, 23, 0, .null, [], [])), (23, (.getfield 15, 26, 0, .null, [], [(5, 0)])), (26, (.iload_n 1, 27, 0, .null, [], [])), (27, (.iload_n 2, 28, 0, .null, [], [])), (28, (.invokevirtual 89, 31, 0, .null, [], [])), (31, (.goto 25, 34, 56, .null, [], [])), (34, (.aload_n 0, 35, 0, .null, [], [])), (35, (.getfield 15, 38, 0, .null, [], [(5, 0)])), (38, (.iload_n 2, 39, 0, .null, [], [])), (39, (.iload_n 2, 40, 0, .null, [], [])), (40, (.iconst 1, 41, 0, .int (1), [], [])), (41, (.iadd, 42, 0, .null, [], [])), (42, (.invokevirtual 89, 45, 0, .null, [], [])), (45, (.aload_n 0, 46, 0, .null, [], [])), (46, (.getfield 15, 49, 0, .null, [], [(5, 0)])), (49, (.iload_n 1, 50, 0, .null, [], [])), (50, (.iload_n 1, 51, 0, .null, [], [])), (51, (.iconst 1, 52, 0, .int (1), [], [])), (52, (.iadd, 53, 0, .null, [], [])), (53, (.invokevirtual 89, 56, 0, .null, [], [])), (56, (.return_, 57, 0, .null, [], []))]
noncomputable abbrev jX5_keepOnePart : List (Nat × sf_J sf_S) := [(5, sf_jI sf_layC [2] 2 gX2_secondPart), (16, sf_jI sf_layC [2] 2 gX2_isNil), (28, sf_jV sf_layC [2] 3 gX2_cut), (42, sf_jV sf_layC [2] 3 gX2_cut), (53, sf_jV sf_layC [2] 3 gX2_cut)]
noncomputable def dX5_keepOnePart (q : Nat) (x1 : Int32) (σ : sf_S) : Option sf_S :=
  (dX2_secondPart (sf_pl q) x1 σ).bind fun u1 =>
  (dX2_isNil (sf_pl q) (x1 + (1 : Int32)) u1.2).bind fun u2 =>
  if u2.1 = 0 then
    (dX2_cut (sf_pl q) u1.1 (u1.1 + (1 : Int32)) u2.2).bind fun u3 =>
    (dX2_cut (sf_pl q) x1 (x1 + (1 : Int32)) u3).bind fun u4 =>
    some u4
  else
    (dX2_cut (sf_pl q) x1 u1.1 u2.2).bind fun u5 =>
    some u5
noncomputable abbrev gX5_keepOnePart (av : List Value) (σ : sf_S) : Option sf_S := match av with
  | [.ref q, .int x1] => (match sf_rv [13, 49] q with | true => dX5_keepOnePart q x1 σ | false => none)
  | _ => none
set_option maxRecDepth 100000 in
set_option maxHeartbeats 4000000 in
theorem rX5_keepOnePart {Wt : Nat → sf_L → List Value → sf_S → Prop} {Post : sf_S → Prop} (hs : sf_Snd Wt sf_layC sf_hV jX5_keepOnePart tX5_keepOnePart Post) (hm : sf_mono Wt) : ∀ av σ u, gX5_keepOnePart av σ = some u → Post u → (∀ ad, (lg_sl (av.map (sf_v ad))).length ≤ 3) ∧ Wt 0 (sf_ent 0 av) [] σ := by
  intro av σ u h hp
  unfold gX5_keepOnePart at h
  split at h
  · rename_i q x1
    split at h
    · rename_i hq
      have hq : q = 13 ∨ q = 49 := by simpa using sf_rv_mem hq
      refine ⟨fun ad => Nat.le_of_ble_eq_true rfl, ?_⟩
      rcases hq with rfl | rfl
      · exact sf_run_ok hs sf_sm_nil 38 0 _ _ σ u h hp
      · exact sf_run_ok hs sf_sm_nil 38 0 _ _ σ u h hp
    · cases h
  · cases h
theorem kX5_keepOnePart (l : Launch) : sf_C l sf_layC yX5_keepOnePart cX5_keepOnePart 3 none (sf_rm 3 145) (fun av σ => (gX5_keepOnePart av σ).map sf_vV) :=
  sf_met (tab := tX5_keepOnePart) (J := jX5_keepOnePart) (fl := sf_fl5) (cl := sf_cl5) (by decide +kernel) ⟨rfl, rfl⟩ sf_RH_V (by decide +kernel) sf_fl5_ok sf_cl5_ok
    (sf_JO_cons (sf_je_N (n := 2) (cs := [2]) (tv := sf_vI) "StreamFuser" (kX2_secondPart l) mwX2_secondPart (by decide +kernel : decode cX5_keepOnePart 5 = .ok (.invokevirtual 66, 3)) wt_512 wt_514 wt_8 (by decide +kernel) (by decide) (by decide) (List.forall_mem_cons.mpr ⟨⟨_, _, rfl⟩, fun _ h => absurd h List.not_mem_nil⟩) (sf_RM_of (by omega) (by omega))) (sf_JO_cons (sf_je_N (n := 2) (cs := [2]) (tv := sf_vI) "StreamFuser" (kX2_isNil l) mwX2_isNil (by decide +kernel : decode cX5_keepOnePart 16 = .ok (.invokevirtual 57, 3)) wt_495 wt_497 wt_4 (by decide +kernel) (by decide) (by decide) (List.forall_mem_cons.mpr ⟨⟨_, _, rfl⟩, fun _ h => absurd h List.not_mem_nil⟩) (sf_RM_of (by omega) (by omega))) (sf_JO_cons (sf_je_N (n := 3) (cs := [2]) (tv := sf_vV) "StreamFuser" (kX2_cut l) mwX2_cut (by decide +kernel : decode cX5_keepOnePart 28 = .ok (.invokevirtual 89, 3)) wt_549 wt_532 wt_12 (by decide +kernel) (by decide) (by decide) (List.forall_mem_cons.mpr ⟨⟨_, _, rfl⟩, fun _ h => absurd h List.not_mem_nil⟩) (sf_RM_of (by omega) (by omega))) (sf_JO_cons (sf_je_N (n := 3) (cs := [2]) (tv := sf_vV) "StreamFuser" (kX2_cut l) mwX2_cut (by decide +kernel : decode cX5_keepOnePart 42 = .ok (.invokevirtual 89, 3)) wt_549 wt_532 wt_12 (by decide +kernel) (by decide) (by decide) (List.forall_mem_cons.mpr ⟨⟨_, _, rfl⟩, fun _ h => absurd h List.not_mem_nil⟩) (sf_RM_of (by omega) (by omega))) (sf_JO_cons (sf_je_N (n := 3) (cs := [2]) (tv := sf_vV) "StreamFuser" (kX2_cut l) mwX2_cut (by decide +kernel : decode cX5_keepOnePart 53 = .ok (.invokevirtual 89, 3)) wt_549 wt_532 wt_12 (by decide +kernel) (by decide) (by decide) (List.forall_mem_cons.mpr ⟨⟨_, _, rfl⟩, fun _ h => absurd h List.not_mem_nil⟩) (sf_RM_of (by omega) (by omega))) (sf_JO_nil))))))
    (fun Wt Post hs hm => rX5_keepOnePart hs hm)
-- ===== StreamFuser$Rewriter.mergeWithNext(II)V =====
abbrev tX5_mergeWithNext : List (Nat × sf_E) := [(0, (.iload_n 2, 1, 0, .null, [], [])), (1, (.iconst 1, 2, 0, .int (1), [], [])), (2, (.iadd, 3, 0, .null, [], [])), (3, (.istore_n 3, 4, 0, .null, [], [])), (4, (.aload_n 0, 5, 0, .null, [], [])), (5, (.getfield 15, 8, 0, .null, [], [(5, 0)])), (8, (.iload_n 2, 9, 0, .null, [], [])), (9, (.invokevirtual 44, 12, 0, .null, [], [])), (12, (.ifCond .eq 14, 15, 26, .null, [], [])), (15, (.aload_n 0, 16, 0, .null, [], [])), (16, (.getfield 15, 19, 0, .null, [], [(5, 0)])), (19, (.iload_n 3, 20, 0, .null, [], [])), (20, (.invokevirtual 44, 23, 0, .null, [], [])), (23, (.ifCond .ne 4, 26, 27, .null, [], [])), (26, (.return_, 27, 0, .null, [], [])), (27, (.aload_n 0, 28, 0, .null, [], [])), (28, (.getfield 15, 31, 0, .null, [], [(5, 0)])), (31, (.getfield 54, 34, 0, .null, [], [(2, 2)])), (34, (.iload_n 2, 35, 0, .null, [], [])), (35, (.iaload, 36, 0, .null, [], [])), (36, (.istore 4, 38, 0, .null, [], [])), (38, (.aload_n 0, 39, 0, .null, [], [])), (39, (.getfield 15, 42, 0, .null, [], [(5, 0)])), (42, (.getfield 54, 45, 0, .null, [], [(2, 2)])), (45, (.iload_n 3, 46, 0, .null, [], [])), (46, (.iaload, 47, 0, .null, [], [])), (47, (.istore 5, 49, 0, .null, [], [])), (49, (.aload_n 0, 50, 0, .null, [], [])), (50, (.getfield 15, 53, 0, .null, [], [(5, 0)])), (53, (.getfield 51, 56, 0, .null, [], [(2, 3)])), (56, (.iload_n 3, 57, 0, .null, [], [])), (57, (.iaload, 58, 0, .null, [], [])), (58, (.istore 6, 60, 0, .null, [], [])), (60, (.iload_n 1, 61, 0, .null, [], [])), (61, (.iconst 1, 62, 0, .int (1), [], [])), (62, (.if_icmp .ne 19, 65, 81, .null, [], [])), (65, (.aload_n 0, 66, 0, .null, [], [])), (66, (.getfield 15, 69, 0, .null, [], [(5, 0)])), (69, (.getfield 54, 72, 0, .null, [], [(2, 2)])), (72, (.iload_n 3, 73, 0, .null, [], [])), (73, (.iload 4, 75, 0, .null, [], [])), (75, (.iload 5, 77, 0, .null, [], [])), (77, (.invokestatic 104, 80, 0, .null, [], [])), (80, (.iastore, 81, 0, .null, [], [])), (81, (.iload_n 1, 82, 0, .null, [], [])), (82, (.iconst 2, 83, 0, .int (2), [], [])), (83, (.if_icmp .ne 17, 86, 100, .null, [], [])), (86, (.aload_n 0, 87, 0, .null, [], [])), (87, (.getfield 15, 90, 0, .null, [], [(5, 0)])), (90, (.getfield 54, 93, 0, .null, [], [(2, 2)])), (93, (.iload_n 3, 94, 0, .null, [], [])), (94, (.iload 4, 96, 0, .null, [], [])), (96, (.iload 5, 98, 0, .null, [], [])), (98, (.iadd, 99, 0, .null, [], [])), (99, (.iastore, 100, 0, .null, [], [])), (100, (.iload_n 1, 101, 0, .null, [], [])), (101, (.bipush 6, 103, 0, .int (6), [], [])), (103, (.if_icmp .ne 22, 106, 125, .null, [], [])), (106, (.aload_n 0, 107, 0, .null, [], [])), (107, (.getfield 15, 110, 0, .null, [], [(5, 0)])), (110, (.getfield 51, 113, 0, .null, [], [(2, 3)])), (113, (.iload_n 3, 114, 0, .null, [], [])), (114, (.iload 6, 116, 0, .null, [], [])), (116, (.iload 5, 118, 0, .null, [], [])), (118, (.iload 4, 120, 0, .null, [], [])), (120, (.iadd, 121, 0, .null, [], [])), (121, (.invokestatic 104, 124, 0, .null, [], [])), (124, (.iastore, 125, 0, .null, [], [])), (125, (.iload_n 1, 126, 0, .null, [], [])), (126, (.bipush 7, 128, 0, .int (7), [], [])), (128, (.if_icmp .ne 22, 131, 150, .null, [], [])), (131, (.aload_n 0, 132, 0, .null, [], [])), (132, (.getfield 15, 135, 0, .null, [], [(5, 0)])), (135, (.getfield 54, 138, 0, .null, [], [(2, 2)])), (138, (.iload_n 3, 139, 0, .null, [], [])), (139, (.iload 6, 141, 0, .null, [], [])), (141, (.iload 5, 143, 0, .null, [], [])), (143, (.iload 4, 145, 0, .null, [], [])), (145, (.iadd, 146, 0, .null, [], [])), (146, (.invokestatic 104, 149, 0, .null, [], [])), (149, (.iastore, 150, 0, .null, [], [])), (150, (.iload_n 1, 151, 0, .null, [], [])), (151, (.bipush 8, 153, 0, .int (8), [], [])), (153, (.if_icmp .ne 20, 156, 173, .null, [], [])), (156, (.aload_n 0, 157, 0, .null, [], [])), (157, (.getfield 15, 160, 0, .null, [], [(5, 0)])), (160, (.getfield 54, 163, 0, .null, [], [(2, 2)])), (163, (.iload_n 3, 164, 0, .null, [], [])), (164, (.iload 5, 166, 0, .null, [], [])), (166, (.iload 4, 168, 0, .null, [], [])), (168, (.iload 6, 170, 0, .null, [], [])), (170, (.imul, 171, 0, .null, [], [])), (171, (.iadd, 172, 0, .null, [], [])), (172, (.iastore, 173, 0, .null, [], [])), (173, (.aload_n 0, 174, 0, .null, [], [])), (174, (.getfield 15, 177, 0, .null, [], [(5, 0)])), (177, (.iload_n 2, 178, 0, .null, [], [])), (178, (.iload_n 3, 179, 0, .null, [], [])), (179, (.invokevirtual 89, 182, 0, .null, [], [])), (182, (.return_, 183, 0, .null, [], []))]
noncomputable abbrev jX5_mergeWithNext : List (Nat × sf_J sf_S) := [(9, sf_jI sf_layC [2] 2 gX2_has), (20, sf_jI sf_layC [2] 2 gX2_has), (77, sf_jmin), (121, sf_jmin), (146, sf_jmin), (179, sf_jV sf_layC [2] 3 gX2_cut)]
abbrev wX5_mergeWithNext_150 {ρ : Type} (q : Nat) (k : Int32 → Int32 → Int32 → Int32 → Int32 → Int32 → sf_S → Option ρ) : sf_M ρ := fun L st σ => sf_lda L 0 fun a0 => sf_eq a0 q (sf_ldi L 1 fun x1 => sf_ldi L 2 fun x2 => sf_ldi L 3 fun x3 => sf_ldi L 4 fun x4 => sf_ldi L 5 fun x5 => sf_ldi L 6 fun x6 => sf_nil st (k x1 x2 x3 x4 x5 x6 σ))
theorem wX5_mergeWithNext_150_ok {ρ : Type} {Wt : Nat → sf_L → List Value → sf_S → Prop} {Post : ρ → Prop} (hm : sf_mono Wt) {q : Nat} {k : Int32 → Int32 → Int32 → Int32 → Int32 → Int32 → sf_S → Option ρ} (h : ∀ (x1 : Int32) (x2 : Int32) (x3 : Int32) (x4 : Int32) (x5 : Int32) (x6 : Int32) (σ : sf_S) (u : ρ), k x1 x2 x3 x4 x5 x6 σ = some u → Post u → Wt 150 [(0, some (.ref q)), (1, some (.int x1)), (2, some (.int x2)), (3, some (.int x3)), (4, some (.int x4)), (5, some (.int x5)), (6, some (.int x6))] [] σ) : sf_CK Wt Post 150 (wX5_mergeWithNext_150 q k) := by
  intro L st σ u hf hp
  unfold wX5_mergeWithNext_150 at hf
  have hf0 := hf
  obtain ⟨a0, e0, hf1⟩ := sf_lda_inv hf0
  obtain ⟨rfl, hf2⟩ := sf_eq_inv hf1
  obtain ⟨x1, e1, hf3⟩ := sf_ldi_inv hf2
  obtain ⟨x2, e2, hf4⟩ := sf_ldi_inv hf3
  obtain ⟨x3, e3, hf5⟩ := sf_ldi_inv hf4
  obtain ⟨x4, e4, hf6⟩ := sf_ldi_inv hf5
  obtain ⟨x5, e5, hf7⟩ := sf_ldi_inv hf6
  obtain ⟨x6, e6, hf8⟩ := sf_ldi_inv hf7
  obtain ⟨rfl, hz⟩ := sf_nil_inv hf8
  exact hm _ [(0, some (.ref _)), (1, some (.int x1)), (2, some (.int x2)), (3, some (.int x3)), (4, some (.int x4)), (5, some (.int x5)), (6, some (.int x6))] _ _ _ (sf_le_ok (And.intro e0 (And.intro e1 (And.intro e2 (And.intro e3 (And.intro e4 (And.intro e5 (And.intro e6 trivial)))))))) (h _ _ _ _ _ _ _ _ hz hp)
abbrev wX5_mergeWithNext_125 {ρ : Type} (q : Nat) (k : Int32 → Int32 → Int32 → Int32 → Int32 → Int32 → sf_S → Option ρ) : sf_M ρ := fun L st σ => sf_lda L 0 fun a0 => sf_eq a0 q (sf_ldi L 1 fun x1 => sf_ldi L 2 fun x2 => sf_ldi L 3 fun x3 => sf_ldi L 4 fun x4 => sf_ldi L 5 fun x5 => sf_ldi L 6 fun x6 => sf_nil st (k x1 x2 x3 x4 x5 x6 σ))
theorem wX5_mergeWithNext_125_ok {ρ : Type} {Wt : Nat → sf_L → List Value → sf_S → Prop} {Post : ρ → Prop} (hm : sf_mono Wt) {q : Nat} {k : Int32 → Int32 → Int32 → Int32 → Int32 → Int32 → sf_S → Option ρ} (h : ∀ (x1 : Int32) (x2 : Int32) (x3 : Int32) (x4 : Int32) (x5 : Int32) (x6 : Int32) (σ : sf_S) (u : ρ), k x1 x2 x3 x4 x5 x6 σ = some u → Post u → Wt 125 [(0, some (.ref q)), (1, some (.int x1)), (2, some (.int x2)), (3, some (.int x3)), (4, some (.int x4)), (5, some (.int x5)), (6, some (.int x6))] [] σ) : sf_CK Wt Post 125 (wX5_mergeWithNext_125 q k) := by
  intro L st σ u hf hp
  unfold wX5_mergeWithNext_125 at hf
  have hf0 := hf
  obtain ⟨a0, e0, hf1⟩ := sf_lda_inv hf0
  obtain ⟨rfl, hf2⟩ := sf_eq_inv hf1
  obtain ⟨x1, e1, hf3⟩ := sf_ldi_inv hf2
  obtain ⟨x2, e2, hf4⟩ := sf_ldi_inv hf3
  obtain ⟨x3, e3, hf5⟩ := sf_ldi_inv hf4
  obtain ⟨x4, e4, hf6⟩ := sf_ldi_inv hf5
  obtain ⟨x5, e5, hf7⟩ := sf_ldi_inv hf6
  obtain ⟨x6, e6, hf8⟩ := sf_ldi_inv hf7
  obtain ⟨rfl, hz⟩ := sf_nil_inv hf8
  exact hm _ [(0, some (.ref _)), (1, some (.int x1)), (2, some (.int x2)), (3, some (.int x3)), (4, some (.int x4)), (5, some (.int x5)), (6, some (.int x6))] _ _ _ (sf_le_ok (And.intro e0 (And.intro e1 (And.intro e2 (And.intro e3 (And.intro e4 (And.intro e5 (And.intro e6 trivial)))))))) (h _ _ _ _ _ _ _ _ hz hp)
abbrev wX5_mergeWithNext_100 {ρ : Type} (q : Nat) (k : Int32 → Int32 → Int32 → Int32 → Int32 → Int32 → sf_S → Option ρ) : sf_M ρ := fun L st σ => sf_lda L 0 fun a0 => sf_eq a0 q (sf_ldi L 1 fun x1 => sf_ldi L 2 fun x2 => sf_ldi L 3 fun x3 => sf_ldi L 4 fun x4 => sf_ldi L 5 fun x5 => sf_ldi L 6 fun x6 => sf_nil st (k x1 x2 x3 x4 x5 x6 σ))
theorem wX5_mergeWithNext_100_ok {ρ : Type} {Wt : Nat → sf_L → List Value → sf_S → Prop} {Post : ρ → Prop} (hm : sf_mono Wt) {q : Nat} {k : Int32 → Int32 → Int32 → Int32 → Int32 → Int32 → sf_S → Option ρ} (h : ∀ (x1 : Int32) (x2 : Int32) (x3 : Int32) (x4 : Int32) (x5 : Int32) (x6 : Int32) (σ : sf_S) (u : ρ), k x1 x2 x3 x4 x5 x6 σ = some u → Post u → Wt 100 [(0, some (.ref q)), (1, some (.int x1)), (2, some (.int x2)), (3, some (.int x3)), (4, some (.int x4)), (5, some (.int x5)), (6, some (.int x6))] [] σ) : sf_CK Wt Post 100 (wX5_mergeWithNext_100 q k) := by
  intro L st σ u hf hp
  unfold wX5_mergeWithNext_100 at hf
  have hf0 := hf
  obtain ⟨a0, e0, hf1⟩ := sf_lda_inv hf0
  obtain ⟨rfl, hf2⟩ := sf_eq_inv hf1
  obtain ⟨x1, e1, hf3⟩ := sf_ldi_inv hf2
  obtain ⟨x2, e2, hf4⟩ := sf_ldi_inv hf3
  obtain ⟨x3, e3, hf5⟩ := sf_ldi_inv hf4
  obtain ⟨x4, e4, hf6⟩ := sf_ldi_inv hf5
  obtain ⟨x5, e5, hf7⟩ := sf_ldi_inv hf6
  obtain ⟨x6, e6, hf8⟩ := sf_ldi_inv hf7
  obtain ⟨rfl, hz⟩ := sf_nil_inv hf8
  exact hm _ [(0, some (.ref _)), (1, some (.int x1)), (2, some (.int x2)), (3, some (.int x3)), (4, some (.int x4)), (5, some (.int x5)), (6, some (.int x6))] _ _ _ (sf_le_ok (And.intro e0 (And.intro e1 (And.intro e2 (And.intro e3 (And.intro e4 (And.intro e5 (And.intro e6 trivial)))))))) (h _ _ _ _ _ _ _ _ hz hp)
abbrev wX5_mergeWithNext_81 {ρ : Type} (q : Nat) (k : Int32 → Int32 → Int32 → Int32 → Int32 → Int32 → sf_S → Option ρ) : sf_M ρ := fun L st σ => sf_lda L 0 fun a0 => sf_eq a0 q (sf_ldi L 1 fun x1 => sf_ldi L 2 fun x2 => sf_ldi L 3 fun x3 => sf_ldi L 4 fun x4 => sf_ldi L 5 fun x5 => sf_ldi L 6 fun x6 => sf_nil st (k x1 x2 x3 x4 x5 x6 σ))
theorem wX5_mergeWithNext_81_ok {ρ : Type} {Wt : Nat → sf_L → List Value → sf_S → Prop} {Post : ρ → Prop} (hm : sf_mono Wt) {q : Nat} {k : Int32 → Int32 → Int32 → Int32 → Int32 → Int32 → sf_S → Option ρ} (h : ∀ (x1 : Int32) (x2 : Int32) (x3 : Int32) (x4 : Int32) (x5 : Int32) (x6 : Int32) (σ : sf_S) (u : ρ), k x1 x2 x3 x4 x5 x6 σ = some u → Post u → Wt 81 [(0, some (.ref q)), (1, some (.int x1)), (2, some (.int x2)), (3, some (.int x3)), (4, some (.int x4)), (5, some (.int x5)), (6, some (.int x6))] [] σ) : sf_CK Wt Post 81 (wX5_mergeWithNext_81 q k) := by
  intro L st σ u hf hp
  unfold wX5_mergeWithNext_81 at hf
  have hf0 := hf
  obtain ⟨a0, e0, hf1⟩ := sf_lda_inv hf0
  obtain ⟨rfl, hf2⟩ := sf_eq_inv hf1
  obtain ⟨x1, e1, hf3⟩ := sf_ldi_inv hf2
  obtain ⟨x2, e2, hf4⟩ := sf_ldi_inv hf3
  obtain ⟨x3, e3, hf5⟩ := sf_ldi_inv hf4
  obtain ⟨x4, e4, hf6⟩ := sf_ldi_inv hf5
  obtain ⟨x5, e5, hf7⟩ := sf_ldi_inv hf6
  obtain ⟨x6, e6, hf8⟩ := sf_ldi_inv hf7
  obtain ⟨rfl, hz⟩ := sf_nil_inv hf8
  exact hm _ [(0, some (.ref _)), (1, some (.int x1)), (2, some (.int x2)), (3, some (.int x3)), (4, some (.int x4)), (5, some (.int x5)), (6, some (.int x6))] _ _ _ (sf_le_ok (And.intro e0 (And.intro e1 (And.intro e2 (And.intro e3 (And.intro e4 (And.intro e5 (And.intro e6 trivial)))))))) (h _ _ _ _ _ _ _ _ hz hp)
noncomputable def dX5_mergeWithNext_150 (q : Nat) (x1 : Int32) (x2 : Int32) (x3 : Int32) (x4 : Int32) (x5 : Int32) (x6 : Int32) (σ : sf_S) : Option sf_S :=
  if ¬ x1 = (8 : Int32) then
    (dX2_cut (sf_pl q) x2 x3 σ).bind fun u1 =>
    some u1
  else
    if sf_in x3 40 then
      let s2 := sf_up σ ((sf_pl q) + 3) x3.toNatClampNeg (x5 + (x4 * x6))
      (dX2_cut (sf_pl q) x2 x3 s2).bind fun u3 =>
      some u3
    else
      none
set_option maxRecDepth 100000 in
set_option maxHeartbeats 4000000 in
theorem rX5_mergeWithNext_150 {Wt : Nat → sf_L → List Value → sf_S → Prop} {Post : sf_S → Prop} (hs : sf_Snd Wt sf_layC sf_hV jX5_mergeWithNext tX5_mergeWithNext Post) (hm : sf_mono Wt) {q : Nat} (hq : q = 13 ∨ q = 49) : sf_CK Wt Post 150 (wX5_mergeWithNext_150 q (dX5_mergeWithNext_150 q)) := by
  refine wX5_mergeWithNext_150_ok hm ?_
  intro x1 x2 x3 x4 x5 x6 σ u h hp
  rcases hq with rfl | rfl
  · exact sf_run_ok hs sf_sm_nil 105 150 _ _ σ u h hp
  · exact sf_run_ok hs sf_sm_nil 105 150 _ _ σ u h hp
noncomputable def dX5_mergeWithNext_125 (q : Nat) (x1 : Int32) (x2 : Int32) (x3 : Int32) (x4 : Int32) (x5 : Int32) (x6 : Int32) (σ : sf_S) : Option sf_S :=
  if ¬ x1 = (7 : Int32) then
    dX5_mergeWithNext_150 q x1 x2 x3 x4 x5 x6 σ
  else
    let v1 := (x5 + x4)
    if sf_in x3 40 then
      let s2 := sf_up σ ((sf_pl q) + 3) x3.toNatClampNeg (if v1 < x6 then v1 else x6)
      dX5_mergeWithNext_150 q x1 x2 x3 x4 x5 x6 s2
    else
      none
set_option maxRecDepth 100000 in
set_option maxHeartbeats 4000000 in
theorem rX5_mergeWithNext_125 {Wt : Nat → sf_L → List Value → sf_S → Prop} {Post : sf_S → Prop} (hs : sf_Snd Wt sf_layC sf_hV jX5_mergeWithNext tX5_mergeWithNext Post) (hm : sf_mono Wt) {q : Nat} (hq : q = 13 ∨ q = 49) : sf_CK Wt Post 125 (wX5_mergeWithNext_125 q (dX5_mergeWithNext_125 q)) := by
  refine wX5_mergeWithNext_125_ok hm ?_
  intro x1 x2 x3 x4 x5 x6 σ u h hp
  rcases hq with rfl | rfl
  · exact sf_run_ok hs (sf_sm_cons (rX5_mergeWithNext_150 hs hm (Or.inl rfl)) sf_sm_nil) 105 125 _ _ σ u h hp
  · exact sf_run_ok hs (sf_sm_cons (rX5_mergeWithNext_150 hs hm (Or.inr rfl)) sf_sm_nil) 105 125 _ _ σ u h hp
noncomputable def dX5_mergeWithNext_100 (q : Nat) (x1 : Int32) (x2 : Int32) (x3 : Int32) (x4 : Int32) (x5 : Int32) (x6 : Int32) (σ : sf_S) : Option sf_S :=
  if ¬ x1 = (6 : Int32) then
    dX5_mergeWithNext_125 q x1 x2 x3 x4 x5 x6 σ
  else
    let v1 := (x5 + x4)
    if sf_in x3 40 then
      let s2 := sf_up σ ((sf_pl q) + 4) x3.toNatClampNeg (if v1 < x6 then v1 else x6)
      dX5_mergeWithNext_125 q x1 x2 x3 x4 x5 x6 s2
    else
      none
set_option maxRecDepth 100000 in
set_option maxHeartbeats 4000000 in
theorem rX5_mergeWithNext_100 {Wt : Nat → sf_L → List Value → sf_S → Prop} {Post : sf_S → Prop} (hs : sf_Snd Wt sf_layC sf_hV jX5_mergeWithNext tX5_mergeWithNext Post) (hm : sf_mono Wt) {q : Nat} (hq : q = 13 ∨ q = 49) : sf_CK Wt Post 100 (wX5_mergeWithNext_100 q (dX5_mergeWithNext_100 q)) := by
  refine wX5_mergeWithNext_100_ok hm ?_
  intro x1 x2 x3 x4 x5 x6 σ u h hp
  rcases hq with rfl | rfl
  · exact sf_run_ok hs (sf_sm_cons (rX5_mergeWithNext_125 hs hm (Or.inl rfl)) sf_sm_nil) 105 100 _ _ σ u h hp
  · exact sf_run_ok hs (sf_sm_cons (rX5_mergeWithNext_125 hs hm (Or.inr rfl)) sf_sm_nil) 105 100 _ _ σ u h hp
noncomputable def dX5_mergeWithNext_81 (q : Nat) (x1 : Int32) (x2 : Int32) (x3 : Int32) (x4 : Int32) (x5 : Int32) (x6 : Int32) (σ : sf_S) : Option sf_S :=
  if ¬ x1 = (2 : Int32) then
    dX5_mergeWithNext_100 q x1 x2 x3 x4 x5 x6 σ
  else
    if sf_in x3 40 then
      let s1 := sf_up σ ((sf_pl q) + 3) x3.toNatClampNeg (x4 + x5)
      dX5_mergeWithNext_100 q x1 x2 x3 x4 x5 x6 s1
    else
      none
set_option maxRecDepth 100000 in
set_option maxHeartbeats 4000000 in
theorem rX5_mergeWithNext_81 {Wt : Nat → sf_L → List Value → sf_S → Prop} {Post : sf_S → Prop} (hs : sf_Snd Wt sf_layC sf_hV jX5_mergeWithNext tX5_mergeWithNext Post) (hm : sf_mono Wt) {q : Nat} (hq : q = 13 ∨ q = 49) : sf_CK Wt Post 81 (wX5_mergeWithNext_81 q (dX5_mergeWithNext_81 q)) := by
  refine wX5_mergeWithNext_81_ok hm ?_
  intro x1 x2 x3 x4 x5 x6 σ u h hp
  rcases hq with rfl | rfl
  · exact sf_run_ok hs (sf_sm_cons (rX5_mergeWithNext_100 hs hm (Or.inl rfl)) sf_sm_nil) 105 81 _ _ σ u h hp
  · exact sf_run_ok hs (sf_sm_cons (rX5_mergeWithNext_100 hs hm (Or.inr rfl)) sf_sm_nil) 105 81 _ _ σ u h hp
noncomputable def dX5_mergeWithNext (q : Nat) (x1 : Int32) (x2 : Int32) (σ : sf_S) : Option sf_S :=
  (dX2_has (sf_pl q) x2 σ).bind fun u1 =>
  if u1.1 = 0 then
    some u1.2
  else
    (dX2_has (sf_pl q) (x2 + (1 : Int32)) u1.2).bind fun u2 =>
    if ¬ u2.1 = 0 then
      if sf_in x2 40 then
        let v3 := (u2.2 ((sf_pl q) + 3) x2.toNatClampNeg)
        if sf_in (x2 + (1 : Int32)) 40 then
          let v4 := (u2.2 ((sf_pl q) + 3) ((x2 + (1 : Int32))).toNatClampNeg)
          if sf_in (x2 + (1 : Int32)) 40 then
            let v5 := (u2.2 ((sf_pl q) + 4) ((x2 + (1 : Int32))).toNatClampNeg)
            if ¬ x1 = (1 : Int32) then
              dX5_mergeWithNext_81 q x1 x2 (x2 + (1 : Int32)) v3 v4 v5 u2.2
            else
              if sf_in (x2 + (1 : Int32)) 40 then
                let s6 := sf_up u2.2 ((sf_pl q) + 3) ((x2 + (1 : Int32))).toNatClampNeg (if v4 < v3 then v4 else v3)
                dX5_mergeWithNext_81 q x1 x2 (x2 + (1 : Int32)) v3 v4 v5 s6
              else
                none
          else
            none
        else
          none
      else
        none
    else
      some u2.2
noncomputable abbrev gX5_mergeWithNext (av : List Value) (σ : sf_S) : Option sf_S := match av with
  | [.ref q, .int x1, .int x2] => (match sf_rv [13, 49] q with | true => dX5_mergeWithNext q x1 x2 σ | false => none)
  | _ => none
set_option maxRecDepth 100000 in
set_option maxHeartbeats 4000000 in
theorem rX5_mergeWithNext {Wt : Nat → sf_L → List Value → sf_S → Prop} {Post : sf_S → Prop} (hs : sf_Snd Wt sf_layC sf_hV jX5_mergeWithNext tX5_mergeWithNext Post) (hm : sf_mono Wt) : ∀ av σ u, gX5_mergeWithNext av σ = some u → Post u → (∀ ad, (lg_sl (av.map (sf_v ad))).length ≤ 7) ∧ Wt 0 (sf_ent 0 av) [] σ := by
  intro av σ u h hp
  unfold gX5_mergeWithNext at h
  split at h
  · rename_i q x1 x2
    split at h
    · rename_i hq
      have hq : q = 13 ∨ q = 49 := by simpa using sf_rv_mem hq
      refine ⟨fun ad => Nat.le_of_ble_eq_true rfl, ?_⟩
      rcases hq with rfl | rfl
      · exact sf_run_ok hs (sf_sm_cons (rX5_mergeWithNext_81 hs hm (Or.inl rfl)) sf_sm_nil) 105 0 _ _ σ u h hp
      · exact sf_run_ok hs (sf_sm_cons (rX5_mergeWithNext_81 hs hm (Or.inr rfl)) sf_sm_nil) 105 0 _ _ σ u h hp
    · cases h
  · cases h
theorem kX5_mergeWithNext (l : Launch) : sf_C l sf_layC yX5_mergeWithNext cX5_mergeWithNext 7 none (sf_rm 3 145) (fun av σ => (gX5_mergeWithNext av σ).map sf_vV) :=
  sf_met (tab := tX5_mergeWithNext) (J := jX5_mergeWithNext) (fl := sf_fl5) (cl := sf_cl5) (by decide +kernel) ⟨rfl, rfl⟩ sf_RH_V (by decide +kernel) sf_fl5_ok sf_cl5_ok
    (sf_JO_cons (sf_je_N (n := 2) (cs := [2]) (tv := sf_vI) "StreamFuser" (kX2_has l) mwX2_has (by decide +kernel : decode cX5_mergeWithNext 9 = .ok (.invokevirtual 44, 3)) wt_494 wt_470 wt_0 (by decide +kernel) (by decide) (by decide) (List.forall_mem_cons.mpr ⟨⟨_, _, rfl⟩, fun _ h => absurd h List.not_mem_nil⟩) (sf_RM_of (by omega) (by omega))) (sf_JO_cons (sf_je_N (n := 2) (cs := [2]) (tv := sf_vI) "StreamFuser" (kX2_has l) mwX2_has (by decide +kernel : decode cX5_mergeWithNext 20 = .ok (.invokevirtual 44, 3)) wt_494 wt_470 wt_0 (by decide +kernel) (by decide) (by decide) (List.forall_mem_cons.mpr ⟨⟨_, _, rfl⟩, fun _ h => absurd h List.not_mem_nil⟩) (sf_RM_of (by omega) (by omega))) (sf_JO_cons (sf_je_min (by decide +kernel : decode cX5_mergeWithNext 77 = .ok (.invokestatic 104, 3)) wt_558 wt_559 wt_89 wt_560 (sf_RB_of (by omega) (by omega))) (sf_JO_cons (sf_je_min (by decide +kernel : decode cX5_mergeWithNext 121 = .ok (.invokestatic 104, 3)) wt_558 wt_559 wt_89 wt_560 (sf_RB_of (by omega) (by omega))) (sf_JO_cons (sf_je_min (by decide +kernel : decode cX5_mergeWithNext 146 = .ok (.invokestatic 104, 3)) wt_558 wt_559 wt_89 wt_560 (sf_RB_of (by omega) (by omega))) (sf_JO_cons (sf_je_N (n := 3) (cs := [2]) (tv := sf_vV) "StreamFuser" (kX2_cut l) mwX2_cut (by decide +kernel : decode cX5_mergeWithNext 179 = .ok (.invokevirtual 89, 3)) wt_549 wt_532 wt_12 (by decide +kernel) (by decide) (by decide) (List.forall_mem_cons.mpr ⟨⟨_, _, rfl⟩, fun _ h => absurd h List.not_mem_nil⟩) (sf_RM_of (by omega) (by omega))) (sf_JO_nil)))))))
    (fun Wt Post hs hm => rX5_mergeWithNext hs hm)
-- ===== StreamFuser$Rewriter.apply(II)V =====
abbrev tX5_apply : List (Nat × sf_E) := [(0, (.iload_n 1, 1, 0, .null, [], [])), (1, (.tableswitch 119 0 12 #[67, 119, 119, 78, 78, 89, 119, 119, 119, 67, 97, 67, 111], 68, 120, .null, [((0), 68), ((1), 120), ((2), 120), ((3), 79), ((4), 79), ((5), 90), ((6), 120), ((7), 120), ((8), 120), ((9), 68), ((10), 98), ((11), 68), ((12), 112)], [])), (68, (.aload_n 0, 69, 0, .null, [], [])), (69, (.getfield 15, 72, 0, .null, [], [(5, 0)])), (72, (.iload_n 2, 73, 0, .null, [], [])), (73, (.invokevirtual 79, 76, 0, .null, [], [])), (76, (.goto 50, 79, 126, .null, [], [])), (79, (.aload_n 0, 80, 0, .null, [], [])), (80, (.getfield 15, 83, 0, .null, [], [(5, 0)])), (83, (.iload_n 2, 84, 0, .null, [], [])), (84, (.invokevirtual 83, 87, 0, .null, [], [])), (87, (.goto 39, 90, 126, .null, [], [])), (90, (.aload_n 0, 91, 0, .null, [], [])), (91, (.iload_n 2, 92, 0, .null, [], [])), (92, (.invokevirtual 86, 95, 0, .null, [], [])), (95, (.goto 31, 98, 126, .null, [], [])), (98, (.aload_n 0, 99, 0, .null, [], [])), (99, (.getfield 15, 102, 0, .null, [], [(5, 0)])), (102, (.iload_n 2, 103, 0, .null, [], [])), (103, (.iload_n 2, 104, 0, .null, [], [])), (104, (.iconst 1, 105, 0, .int (1), [], [])), (105, (.iadd, 106, 0, .null, [], [])), (106, (.invokevirtual 89, 109, 0, .null, [], [])), (109, (.goto 17, 112, 126, .null, [], [])), (112, (.aload_n 0, 113, 0, .null, [], [])), (113, (.iload_n 2, 114, 0, .null, [], [])), (114, (.invokevirtual 92, 117, 0, .null, [], [])), (117, (.goto 9, 120, 126, .null, [], [])), (120, (.aload_n 0, 121, 0, .null, [], [])), (121, (.iload_n 1, 122, 0, .null, [], [])), (122, (.iload_n 2, 123, 0, .null, [], [])), (123, (.invokevirtual 95, 126, 0, .null, [], [])), (126, (.return_, 127, 0, .null, [], []))]
noncomputable abbrev jX5_apply : List (Nat × sf_J sf_S) := [(73, sf_jV sf_layC [2] 2 gX2_makeNil), (84, sf_jV sf_layC [2] 2 gX2_swapWithNext), (92, sf_jV sf_layC [5] 2 gX5_swapDropWithTake), (106, sf_jV sf_layC [2] 3 gX2_cut), (114, sf_jV sf_layC [5] 2 gX5_keepOnePart), (123, sf_jV sf_layC [5] 3 gX5_mergeWithNext)]
noncomputable def dX5_apply (q : Nat) (x1 : Int32) (x2 : Int32) (σ : sf_S) : Option sf_S :=
  if x1 = (0 : Int32) then
    (dX2_makeNil (sf_pl q) x2 σ).bind fun u1 =>
    some u1
  else
  if x1 = (1 : Int32) then
    (dX5_mergeWithNext q x1 x2 σ).bind fun u2 =>
    some u2
  else
  if x1 = (2 : Int32) then
    (dX5_mergeWithNext q x1 x2 σ).bind fun u3 =>
    some u3
  else
  if x1 = (3 : Int32) then
    (dX2_swapWithNext (sf_pl q) x2 σ).bind fun u4 =>
    some u4
  else
  if x1 = (4 : Int32) then
    (dX2_swapWithNext (sf_pl q) x2 σ).bind fun u5 =>
    some u5
  else
  if x1 = (5 : Int32) then
    (dX5_swapDropWithTake q x2 σ).bind fun u6 =>
    some u6
  else
  if x1 = (6 : Int32) then
    (dX5_mergeWithNext q x1 x2 σ).bind fun u7 =>
    some u7
  else
  if x1 = (7 : Int32) then
    (dX5_mergeWithNext q x1 x2 σ).bind fun u8 =>
    some u8
  else
  if x1 = (8 : Int32) then
    (dX5_mergeWithNext q x1 x2 σ).bind fun u9 =>
    some u9
  else
  if x1 = (9 : Int32) then
    (dX2_makeNil (sf_pl q) x2 σ).bind fun u10 =>
    some u10
  else
  if x1 = (10 : Int32) then
    (dX2_cut (sf_pl q) x2 (x2 + (1 : Int32)) σ).bind fun u11 =>
    some u11
  else
  if x1 = (11 : Int32) then
    (dX2_makeNil (sf_pl q) x2 σ).bind fun u12 =>
    some u12
  else
  if x1 = (12 : Int32) then
    (dX5_keepOnePart q x2 σ).bind fun u13 =>
    some u13
  else
    (dX5_mergeWithNext q x1 x2 σ).bind fun u14 =>
    some u14
noncomputable abbrev gX5_apply (av : List Value) (σ : sf_S) : Option sf_S := match av with
  | [.ref q, .int x1, .int x2] => (match sf_rv [13, 49] q with | true => dX5_apply q x1 x2 σ | false => none)
  | _ => none
set_option maxRecDepth 100000 in
set_option maxHeartbeats 4000000 in
theorem rX5_apply {Wt : Nat → sf_L → List Value → sf_S → Prop} {Post : sf_S → Prop} (hs : sf_Snd Wt sf_layC sf_hV jX5_apply tX5_apply Post) (hm : sf_mono Wt) : ∀ av σ u, gX5_apply av σ = some u → Post u → (∀ ad, (lg_sl (av.map (sf_v ad))).length ≤ 3) ∧ Wt 0 (sf_ent 0 av) [] σ := by
  intro av σ u h hp
  unfold gX5_apply at h
  split at h
  · rename_i q x1 x2
    split at h
    · rename_i hq
      have hq : q = 13 ∨ q = 49 := by simpa using sf_rv_mem hq
      refine ⟨fun ad => Nat.le_of_ble_eq_true rfl, ?_⟩
      rcases hq with rfl | rfl
      · exact sf_run_ok hs sf_sm_nil 38 0 _ _ σ u h hp
      · exact sf_run_ok hs sf_sm_nil 38 0 _ _ σ u h hp
    · cases h
  · cases h
theorem kX5_apply (l : Launch) : sf_C l sf_layC yX5_apply cX5_apply 3 none (sf_rm 4 171) (fun av σ => (gX5_apply av σ).map sf_vV) :=
  sf_met (tab := tX5_apply) (J := jX5_apply) (fl := sf_fl5) (cl := sf_cl5) (by decide +kernel) ⟨rfl, rfl⟩ sf_RH_V (by decide +kernel) sf_fl5_ok sf_cl5_ok
    (sf_JO_cons (sf_je_N (n := 2) (cs := [2]) (tv := sf_vV) "StreamFuser" (kX2_makeNil l) mwX2_makeNil (by decide +kernel : decode cX5_apply 73 = .ok (.invokevirtual 79, 3)) wt_526 wt_528 wt_11 (by decide +kernel) (by decide) (by decide) (List.forall_mem_cons.mpr ⟨⟨_, _, rfl⟩, fun _ h => absurd h List.not_mem_nil⟩) (sf_RM_of (by omega) (by omega))) (sf_JO_cons (sf_je_N (n := 2) (cs := [2]) (tv := sf_vV) "StreamFuser" (kX2_swapWithNext l) mwX2_swapWithNext (by decide +kernel : decode cX5_apply 84 = .ok (.invokevirtual 83, 3)) wt_538 wt_540 wt_14 (by decide +kernel) (by decide) (by decide) (List.forall_mem_cons.mpr ⟨⟨_, _, rfl⟩, fun _ h => absurd h List.not_mem_nil⟩) (sf_RM_of (by omega) (by omega))) (sf_JO_cons (sf_je_V (n := 2) (cs := [5]) (tv := sf_vV) (kX5_swapDropWithTake l) mwX5_swapDropWithTake (by decide +kernel : decode cX5_apply 92 = .ok (.invokevirtual 86, 3)) wt_542 wt_544 wt_15 (by decide +kernel) (by decide) (by decide) (List.forall_mem_cons.mpr ⟨⟨_, _, rfl⟩, fun _ h => absurd h List.not_mem_nil⟩) (sf_RM_of (by omega) (by omega))) (sf_JO_cons (sf_je_N (n := 3) (cs := [2]) (tv := sf_vV) "StreamFuser" (kX2_cut l) mwX2_cut (by decide +kernel : decode cX5_apply 106 = .ok (.invokevirtual 89, 3)) wt_549 wt_532 wt_12 (by decide +kernel) (by decide) (by decide) (List.forall_mem_cons.mpr ⟨⟨_, _, rfl⟩, fun _ h => absurd h List.not_mem_nil⟩) (sf_RM_of (by omega) (by omega))) (sf_JO_cons (sf_je_V (n := 2) (cs := [5]) (tv := sf_vV) (kX5_keepOnePart l) mwX5_keepOnePart (by decide +kernel : decode cX5_apply 114 = .ok (.invokevirtual 92, 3)) wt_550 wt_552 wt_16 (by decide +kernel) (by decide) (by decide) (List.forall_mem_cons.mpr ⟨⟨_, _, rfl⟩, fun _ h => absurd h List.not_mem_nil⟩) (sf_RM_of (by omega) (by omega))) (sf_JO_cons (sf_je_V (n := 3) (cs := [5]) (tv := sf_vV) (kX5_mergeWithNext l) mwX5_mergeWithNext (by decide +kernel : decode cX5_apply 123 = .ok (.invokevirtual 95, 3)) wt_554 wt_556 wt_17 (by decide +kernel) (by decide) (by decide) (List.forall_mem_cons.mpr ⟨⟨_, _, rfl⟩, fun _ h => absurd h List.not_mem_nil⟩) (sf_RM_of (by omega) (by omega))) (sf_JO_nil)))))))
    (fun Wt Post hs hm => rX5_apply hs hm)
-- ===== StreamFuser$Rewriter.simplify(Z)V =====
abbrev tX5_simplify : List (Nat × sf_E) := [(0, (.iconst 0, 1, 0, .int (0), [], [])), (1, (.istore_n 2, 2, 0, .null, [], [])), (2, (.iload_n 2, 3, 0, .null, [], [])), (3, (.bipush 13, 5, 0, .int (13), [], [])), (5, (.if_icmp .ge 16, 8, 21, .null, [], [])), (8, (.aload_n 0, 9, 0, .null, [], [])), (9, (.getfield 9, 12, 0, .null, [], [(5, 1)])), (12, (.iload_n 2, 13, 0, .null, [], [])), (13, (.iconst 0, 14, 0, .int (0), [], [])), (14, (.iastore, 15, 0, .null, [], [])), (15, (.iinc 2 1, 18, 0, .int (1), [], [])), (18, (.goto (-16), 21, 2, .null, [], [])), (21, (.aload_n 0, 22, 0, .null, [], [])), (22, (.iconst 0, 23, 0, .int (0), [], [])), (23, (.putfield 19, 26, 0, .null, [], [(5, 2)])), (26, (.iconst 0, 27, 0, .int (0), [], [])), (27, (.istore_n 2, 28, 0, .null, [], [])), (28, (.iload_n 2, 29, 0, .null, [], [])), (29, (.ldc 23, 31, 0, .int (1000000), [], [])), (31, (.if_icmp .ge 64, 34, 95, .null, [], [])), (34, (.aload_n 0, 35, 0, .null, [], [])), (35, (.iload_n 1, 36, 0, .null, [], [])), (36, (.invokevirtual 24, 39, 0, .null, [], [])), (39, (.istore_n 3, 40, 0, .null, [], [])), (40, (.aload_n 0, 41, 0, .null, [], [])), (41, (.iload_n 3, 42, 0, .null, [], [])), (42, (.invokevirtual 28, 45, 0, .null, [], [])), (45, (.istore 4, 47, 0, .null, [], [])), (47, (.iload 4, 49, 0, .null, [], [])), (49, (.iconst (-1), 50, 0, .int (-1), [], [])), (50, (.if_icmp .ne 4, 53, 54, .null, [], [])), (53, (.return_, 54, 0, .null, [], [])), (54, (.aload_n 0, 55, 0, .null, [], [])), (55, (.iload 4, 57, 0, .null, [], [])), (57, (.iload_n 3, 58, 0, .null, [], [])), (58, (.invokevirtual 32, 61, 0, .null, [], [])), (61, (.aload_n 0, 62, 0, .null, [], [])), (62, (.getfield 15, 65, 0, .null, [], [(5, 0)])), (65, (.invokevirtual 36, 68, 0, .null, [], [])), (68, (.aload_n 0, 69, 0, .null, [], [])), (69, (.getfield 9, 72, 0, .null, [], [(5, 1)])), (72, (.iload 4, 74, 0, .null, [], [])), (74, (.dup2, 75, 0, .null, [], [])), (75, (.iaload, 76, 0, .null, [], [])), (76, (.iconst 1, 77, 0, .int (1), [], [])), (77, (.iadd, 78, 0, .null, [], [])), (78, (.iastore, 79, 0, .null, [], [])), (79, (.aload_n 0, 80, 0, .null, [], [])), (80, (.dup, 81, 0, .null, [], [])), (81, (.getfield 19, 84, 0, .null, [], [(5, 2)])), (84, (.iconst 1, 85, 0, .int (1), [], [])), (85, (.iadd, 86, 0, .null, [], [])), (86, (.putfield 19, 89, 0, .null, [], [(5, 2)])), (89, (.iinc 2 1, 92, 0, .int (1), [], [])), (92, (.goto (-64), 95, 28, .null, [], [])), (95, (.return_, 96, 0, .null, [], []))]
noncomputable abbrev jX5_simplify : List (Nat × sf_J sf_S) := [(36, sf_jI sf_layC [5] 2 gX5_place), (42, sf_jI sf_layC [5] 2 gX5_ruleFor), (58, sf_jV sf_layC [5] 3 gX5_apply), (65, sf_jV sf_layC [2] 1 gX2_measure)]
abbrev wX5_simplify_28 {ρ : Type} (q : Nat) (k : Int32 → Int32 → sf_S → Option ρ) : sf_M ρ := fun L st σ => sf_lda L 0 fun a0 => sf_eq a0 q (sf_ldi L 1 fun x1 => sf_ldi L 2 fun x2 => sf_nil st (k x1 x2 σ))
theorem wX5_simplify_28_ok {ρ : Type} {Wt : Nat → sf_L → List Value → sf_S → Prop} {Post : ρ → Prop} (hm : sf_mono Wt) {q : Nat} {k : Int32 → Int32 → sf_S → Option ρ} (h : ∀ (x1 : Int32) (x2 : Int32) (σ : sf_S) (u : ρ), k x1 x2 σ = some u → Post u → Wt 28 [(0, some (.ref q)), (1, some (.int x1)), (2, some (.int x2))] [] σ) : sf_CK Wt Post 28 (wX5_simplify_28 q k) := by
  intro L st σ u hf hp
  unfold wX5_simplify_28 at hf
  have hf0 := hf
  obtain ⟨a0, e0, hf1⟩ := sf_lda_inv hf0
  obtain ⟨rfl, hf2⟩ := sf_eq_inv hf1
  obtain ⟨x1, e1, hf3⟩ := sf_ldi_inv hf2
  obtain ⟨x2, e2, hf4⟩ := sf_ldi_inv hf3
  obtain ⟨rfl, hz⟩ := sf_nil_inv hf4
  exact hm _ [(0, some (.ref _)), (1, some (.int x1)), (2, some (.int x2))] _ _ _ (sf_le_ok (And.intro e0 (And.intro e1 (And.intro e2 trivial)))) (h _ _ _ _ hz hp)
abbrev wX5_simplify_2 {ρ : Type} (q : Nat) (k : Int32 → Int32 → sf_S → Option ρ) : sf_M ρ := fun L st σ => sf_lda L 0 fun a0 => sf_eq a0 q (sf_ldi L 1 fun x1 => sf_ldi L 2 fun x2 => sf_nil st (k x1 x2 σ))
theorem wX5_simplify_2_ok {ρ : Type} {Wt : Nat → sf_L → List Value → sf_S → Prop} {Post : ρ → Prop} (hm : sf_mono Wt) {q : Nat} {k : Int32 → Int32 → sf_S → Option ρ} (h : ∀ (x1 : Int32) (x2 : Int32) (σ : sf_S) (u : ρ), k x1 x2 σ = some u → Post u → Wt 2 [(0, some (.ref q)), (1, some (.int x1)), (2, some (.int x2))] [] σ) : sf_CK Wt Post 2 (wX5_simplify_2 q k) := by
  intro L st σ u hf hp
  unfold wX5_simplify_2 at hf
  have hf0 := hf
  obtain ⟨a0, e0, hf1⟩ := sf_lda_inv hf0
  obtain ⟨rfl, hf2⟩ := sf_eq_inv hf1
  obtain ⟨x1, e1, hf3⟩ := sf_ldi_inv hf2
  obtain ⟨x2, e2, hf4⟩ := sf_ldi_inv hf3
  obtain ⟨rfl, hz⟩ := sf_nil_inv hf4
  exact hm _ [(0, some (.ref _)), (1, some (.int x1)), (2, some (.int x2))] _ _ _ (sf_le_ok (And.intro e0 (And.intro e1 (And.intro e2 trivial)))) (h _ _ _ _ hz hp)
noncomputable def dX5_simplify_28 (q : Nat) : Nat → Int32 → Int32 → sf_S → Option sf_S
  | 0 => fun _ _ _ => none
  | n + 1 => fun x1 x2 σ =>
    if (1000000 : Int32) ≤ x2 then
      some σ
    else
      (dX5_place q x1 σ).bind fun u1 =>
      (dX5_ruleFor q u1.1 u1.2).bind fun u2 =>
      if ¬ u2.1 = (-1 : Int32) then
        (dX5_apply q u2.1 u1.1 u2.2).bind fun u3 =>
        (dX2_measure (sf_pl q) u3).bind fun u4 =>
        if sf_in u2.1 13 then
          if sf_in u2.1 13 then
            let s5 := sf_up u4 (q + 1) u2.1.toNatClampNeg ((u4 (q + 1) u2.1.toNatClampNeg) + (1 : Int32))
            let s6 := sf_up s5 q 2 ((s5 q 2) + (1 : Int32))
            dX5_simplify_28 q n x1 (x2 + (1 : Int32)) s6
          else
            none
        else
          none
      else
        some u2.2
set_option maxRecDepth 100000 in
set_option maxHeartbeats 4000000 in
theorem rX5_simplify_28 {Wt : Nat → sf_L → List Value → sf_S → Prop} {Post : sf_S → Prop} (hs : sf_Snd Wt sf_layC sf_hV jX5_simplify tX5_simplify Post) (hm : sf_mono Wt) {q : Nat} (hq : q = 13 ∨ q = 49) : ∀ n : Nat, sf_CK Wt Post 28 (wX5_simplify_28 q (dX5_simplify_28 q n)) := by
  intro n
  induction n with
  | zero => exact wX5_simplify_28_ok hm (fun x1 x2 σ u h _ => by simp [dX5_simplify_28] at h)
  | succ n ih =>
    refine wX5_simplify_28_ok hm ?_
    intro x1 x2 σ u h hp
    rcases hq with rfl | rfl
    · exact sf_run_ok hs (sf_sm_cons ih sf_sm_nil) 61 28 _ _ σ u h hp
    · exact sf_run_ok hs (sf_sm_cons ih sf_sm_nil) 61 28 _ _ σ u h hp
noncomputable def dX5_simplify_2 (q : Nat) : Nat → Int32 → Int32 → sf_S → Option sf_S
  | 0 => fun _ _ _ => none
  | n + 1 => fun x1 x2 σ =>
    if (13 : Int32) ≤ x2 then
      let s1 := sf_up σ q 2 (0 : Int32)
      dX5_simplify_28 q sf_F x1 (0 : Int32) s1
    else
      if sf_in x2 13 then
        let s2 := sf_up σ (q + 1) x2.toNatClampNeg (0 : Int32)
        dX5_simplify_2 q n x1 (x2 + (1 : Int32)) s2
      else
        none
set_option maxRecDepth 100000 in
set_option maxHeartbeats 4000000 in
theorem rX5_simplify_2 {Wt : Nat → sf_L → List Value → sf_S → Prop} {Post : sf_S → Prop} (hs : sf_Snd Wt sf_layC sf_hV jX5_simplify tX5_simplify Post) (hm : sf_mono Wt) {q : Nat} (hq : q = 13 ∨ q = 49) : ∀ n : Nat, sf_CK Wt Post 2 (wX5_simplify_2 q (dX5_simplify_2 q n)) := by
  intro n
  induction n with
  | zero => exact wX5_simplify_2_ok hm (fun x1 x2 σ u h _ => by simp [dX5_simplify_2] at h)
  | succ n ih =>
    refine wX5_simplify_2_ok hm ?_
    intro x1 x2 σ u h hp
    rcases hq with rfl | rfl
    · exact sf_run_ok hs (sf_sm_cons ih (sf_sm_cons (rX5_simplify_28 hs hm (Or.inl rfl) sf_F) sf_sm_nil)) 61 2 _ _ σ u h hp
    · exact sf_run_ok hs (sf_sm_cons ih (sf_sm_cons (rX5_simplify_28 hs hm (Or.inr rfl) sf_F) sf_sm_nil)) 61 2 _ _ σ u h hp
noncomputable def dX5_simplify (q : Nat) (x1 : Int32) (σ : sf_S) : Option sf_S :=
  dX5_simplify_2 q sf_F x1 (0 : Int32) σ
noncomputable abbrev gX5_simplify (av : List Value) (σ : sf_S) : Option sf_S := match av with
  | [.ref q, .int x1] => (match sf_rv [13, 49] q with | true => dX5_simplify q x1 σ | false => none)
  | _ => none
set_option maxRecDepth 100000 in
set_option maxHeartbeats 4000000 in
theorem rX5_simplify {Wt : Nat → sf_L → List Value → sf_S → Prop} {Post : sf_S → Prop} (hs : sf_Snd Wt sf_layC sf_hV jX5_simplify tX5_simplify Post) (hm : sf_mono Wt) : ∀ av σ u, gX5_simplify av σ = some u → Post u → (∀ ad, (lg_sl (av.map (sf_v ad))).length ≤ 5) ∧ Wt 0 (sf_ent 0 av) [] σ := by
  intro av σ u h hp
  unfold gX5_simplify at h
  split at h
  · rename_i q x1
    split at h
    · rename_i hq
      have hq : q = 13 ∨ q = 49 := by simpa using sf_rv_mem hq
      refine ⟨fun ad => Nat.le_of_ble_eq_true rfl, ?_⟩
      rcases hq with rfl | rfl
      · exact sf_run_ok hs (sf_sm_cons (rX5_simplify_2 hs hm (Or.inl rfl) sf_F) sf_sm_nil) 61 0 _ _ σ u h hp
      · exact sf_run_ok hs (sf_sm_cons (rX5_simplify_2 hs hm (Or.inr rfl) sf_F) sf_sm_nil) 61 0 _ _ σ u h hp
    · cases h
  · cases h
theorem kX5_simplify (l : Launch) : sf_C l sf_layC yX5_simplify cX5_simplify 5 none (sf_rm 5 193) (fun av σ => (gX5_simplify av σ).map sf_vV) :=
  sf_met (tab := tX5_simplify) (J := jX5_simplify) (fl := sf_fl5) (cl := sf_cl5) (by decide +kernel) ⟨rfl, rfl⟩ sf_RH_V (by decide +kernel) sf_fl5_ok sf_cl5_ok
    (sf_JO_cons (sf_je_V (n := 2) (cs := [5]) (tv := sf_vI) (kX5_place l) mwX5_place (by decide +kernel : decode cX5_simplify 36 = .ok (.invokevirtual 24, 3)) wt_486 wt_488 wt_2 (by decide +kernel) (by decide) (by decide) (List.forall_mem_cons.mpr ⟨⟨_, _, rfl⟩, fun _ h => absurd h List.not_mem_nil⟩) (sf_RM_of (by omega) (by omega))) (sf_JO_cons (sf_je_V (n := 2) (cs := [5]) (tv := sf_vI) (kX5_ruleFor l) mwX5_ruleFor (by decide +kernel : decode cX5_simplify 42 = .ok (.invokevirtual 28, 3)) wt_490 wt_492 wt_3 (by decide +kernel) (by decide) (by decide) (List.forall_mem_cons.mpr ⟨⟨_, _, rfl⟩, fun _ h => absurd h List.not_mem_nil⟩) (sf_RM_of (by omega) (by omega))) (sf_JO_cons (sf_je_V (n := 3) (cs := [5]) (tv := sf_vV) (kX5_apply l) mwX5_apply (by decide +kernel : decode cX5_simplify 58 = .ok (.invokevirtual 32, 3)) wt_522 wt_524 wt_10 (by decide +kernel) (by decide) (by decide) (List.forall_mem_cons.mpr ⟨⟨_, _, rfl⟩, fun _ h => absurd h List.not_mem_nil⟩) (sf_RM_of (by omega) (by omega))) (sf_JO_cons (sf_je_N (n := 1) (cs := [2]) (tv := sf_vV) "StreamFuser" (kX2_measure l) mwX2_measure (by decide +kernel : decode cX5_simplify 65 = .ok (.invokevirtual 36, 3)) wt_561 wt_563 wt_18 (by decide +kernel) (by decide) (by decide) (List.forall_mem_cons.mpr ⟨⟨_, _, rfl⟩, fun _ h => absurd h List.not_mem_nil⟩) (sf_RM_of (by omega) (by omega))) (sf_JO_nil)))))
    (fun Wt Post hs hm => rX5_simplify hs hm)
