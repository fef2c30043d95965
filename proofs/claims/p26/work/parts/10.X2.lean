/-! ===== 10.X2 ===== -/
-- ===== StreamFuser$Plan.partsOf(I)I =====
abbrev tX2_partsOf : List (Nat × sf_E) := [(0, (.iload_n 0, 1, 0, .null, [], [])), (1, (.lookupswitch 119 #[(37, 115), (42, 115), (43, 115), (47, 115), (63, 115), (99, 117), (100, 115), (107, 115), (108, 115), (116, 115), (119, 115), (120, 117), (122, 117)], 116, 120, .null, [((37), 116), ((42), 116), ((43), 116), ((47), 116), ((63), 116), ((99), 118), ((100), 116), ((107), 116), ((108), 116), ((116), 116), ((119), 116), ((120), 118), ((122), 118)], [])), (116, (.iconst 1, 117, 0, .int (1), [], [])), (117, (.ireturn, 118, 0, .null, [], [])), (118, (.iconst 2, 119, 0, .int (2), [], [])), (119, (.ireturn, 120, 0, .null, [], [])), (120, (.iconst 0, 121, 0, .int (0), [], [])), (121, (.ireturn, 122, 0, .null, [], []))]
noncomputable abbrev jX2_partsOf : List (Nat × sf_J (Int32 × sf_S)) := []
noncomputable def dX2_partsOf (x0 : Int32) (σ : sf_S) : Option (Int32 × sf_S) :=
  if x0 = (37 : Int32) then
    some ((1 : Int32), σ)
  else
  if x0 = (42 : Int32) then
    some ((1 : Int32), σ)
  else
  if x0 = (43 : Int32) then
    some ((1 : Int32), σ)
  else
  if x0 = (47 : Int32) then
    some ((1 : Int32), σ)
  else
  if x0 = (63 : Int32) then
    some ((1 : Int32), σ)
  else
  if x0 = (99 : Int32) then
    some ((2 : Int32), σ)
  else
  if x0 = (100 : Int32) then
    some ((1 : Int32), σ)
  else
  if x0 = (107 : Int32) then
    some ((1 : Int32), σ)
  else
  if x0 = (108 : Int32) then
    some ((1 : Int32), σ)
  else
  if x0 = (116 : Int32) then
    some ((1 : Int32), σ)
  else
  if x0 = (119 : Int32) then
    some ((1 : Int32), σ)
  else
  if x0 = (120 : Int32) then
    some ((2 : Int32), σ)
  else
  if x0 = (122 : Int32) then
    some ((2 : Int32), σ)
  else
    some ((0 : Int32), σ)
noncomputable abbrev gX2_partsOf (av : List Value) (σ : sf_S) : Option (Int32 × sf_S) := match av with
  | [.int x0] => dX2_partsOf x0 σ
  | _ => none
set_option maxRecDepth 100000 in
set_option maxHeartbeats 4000000 in
theorem rX2_partsOf {Wt : Nat → sf_L → List Value → sf_S → Prop} {Post : (Int32 × sf_S) → Prop} (hs : sf_Snd Wt sf_layC sf_hI jX2_partsOf tX2_partsOf Post) (hm : sf_mono Wt) : ∀ av σ u, gX2_partsOf av σ = some u → Post u → (∀ ad, (lg_sl (av.map (sf_v ad))).length ≤ 1) ∧ Wt 0 (sf_ent 0 av) [] σ := by
  intro av σ u h hp
  unfold gX2_partsOf at h
  split at h
  · rename_i x0
    refine ⟨fun ad => Nat.le_of_ble_eq_true rfl, ?_⟩
    exact sf_run_ok hs sf_sm_nil 13 0 _ _ σ u h hp
  · cases h
theorem kX2_partsOf (l : Launch) : sf_C l sf_layC yX2_partsOf cX2_partsOf 1 (some .int) (sf_rm 1 100) (fun av σ => (gX2_partsOf av σ).map sf_vI) :=
  sf_met (tab := tX2_partsOf) (J := jX2_partsOf) (fl := sf_fl2) (cl := sf_cl2) (by decide +kernel) ⟨rfl, rfl⟩ sf_RH_I (by decide +kernel) sf_fl2_ok sf_cl2_ok
    (sf_JO_nil)
    (fun Wt Post hs hm => rX2_partsOf hs hm)
-- ===== StreamFuser$Plan.numbersOf(I)I =====
abbrev tX2_numbersOf : List (Nat × sf_E) := [(0, (.iload_n 0, 1, 0, .null, [], [])), (1, (.lookupswitch 103 #[(37, 99), (42, 99), (43, 99), (47, 99), (63, 99), (100, 99), (105, 101), (107, 99), (114, 101), (116, 99), (119, 99)], 100, 104, .null, [((37), 100), ((42), 100), ((43), 100), ((47), 100), ((63), 100), ((100), 100), ((105), 102), ((107), 100), ((114), 102), ((116), 100), ((119), 100)], [])), (100, (.iconst 1, 101, 0, .int (1), [], [])), (101, (.ireturn, 102, 0, .null, [], [])), (102, (.iconst 2, 103, 0, .int (2), [], [])), (103, (.ireturn, 104, 0, .null, [], [])), (104, (.iconst 0, 105, 0, .int (0), [], [])), (105, (.ireturn, 106, 0, .null, [], []))]
noncomputable abbrev jX2_numbersOf : List (Nat × sf_J (Int32 × sf_S)) := []
noncomputable def dX2_numbersOf (x0 : Int32) (σ : sf_S) : Option (Int32 × sf_S) :=
  if x0 = (37 : Int32) then
    some ((1 : Int32), σ)
  else
  if x0 = (42 : Int32) then
    some ((1 : Int32), σ)
  else
  if x0 = (43 : Int32) then
    some ((1 : Int32), σ)
  else
  if x0 = (47 : Int32) then
    some ((1 : Int32), σ)
  else
  if x0 = (63 : Int32) then
    some ((1 : Int32), σ)
  else
  if x0 = (100 : Int32) then
    some ((1 : Int32), σ)
  else
  if x0 = (105 : Int32) then
    some ((2 : Int32), σ)
  else
  if x0 = (107 : Int32) then
    some ((1 : Int32), σ)
  else
  if x0 = (114 : Int32) then
    some ((2 : Int32), σ)
  else
  if x0 = (116 : Int32) then
    some ((1 : Int32), σ)
  else
  if x0 = (119 : Int32) then
    some ((1 : Int32), σ)
  else
    some ((0 : Int32), σ)
noncomputable abbrev gX2_numbersOf (av : List Value) (σ : sf_S) : Option (Int32 × sf_S) := match av with
  | [.int x0] => dX2_numbersOf x0 σ
  | _ => none
set_option maxRecDepth 100000 in
set_option maxHeartbeats 4000000 in
theorem rX2_numbersOf {Wt : Nat → sf_L → List Value → sf_S → Prop} {Post : (Int32 × sf_S) → Prop} (hs : sf_Snd Wt sf_layC sf_hI jX2_numbersOf tX2_numbersOf Post) (hm : sf_mono Wt) : ∀ av σ u, gX2_numbersOf av σ = some u → Post u → (∀ ad, (lg_sl (av.map (sf_v ad))).length ≤ 1) ∧ Wt 0 (sf_ent 0 av) [] σ := by
  intro av σ u h hp
  unfold gX2_numbersOf at h
  split at h
  · rename_i x0
    refine ⟨fun ad => Nat.le_of_ble_eq_true rfl, ?_⟩
    exact sf_run_ok hs sf_sm_nil 13 0 _ _ σ u h hp
  · cases h
theorem kX2_numbersOf (l : Launch) : sf_C l sf_layC yX2_numbersOf cX2_numbersOf 1 (some .int) (sf_rm 1 100) (fun av σ => (gX2_numbersOf av σ).map sf_vI) :=
  sf_met (tab := tX2_numbersOf) (J := jX2_numbersOf) (fl := sf_fl2) (cl := sf_cl2) (by decide +kernel) ⟨rfl, rfl⟩ sf_RH_I (by decide +kernel) sf_fl2_ok sf_cl2_ok
    (sf_JO_nil)
    (fun Wt Post hs hm => rX2_numbersOf hs hm)
-- ===== StreamFuser$Plan.has(I)Z =====
abbrev tX2_has : List (Nat × sf_E) := [(0, (.iload_n 1, 1, 0, .null, [], [])), (1, (.ifCond .lt 15, 4, 16, .null, [], [])), (4, (.iload_n 1, 5, 0, .null, [], [])), (5, (.aload_n 0, 6, 0, .null, [], [])), (6, (.getfield 44, 9, 0, .null, [], [(2, 4)])), (9, (.if_icmp .ge 7, 12, 16, .null, [], [])), (12, (.iconst 1, 13, 0, .int (1), [], [])), (13, (.goto 4, 16, 17, .null, [], [])), (16, (.iconst 0, 17, 0, .int (0), [], [])), (17, (.ireturn, 18, 0, .null, [], []))]
noncomputable abbrev jX2_has : List (Nat × sf_J (Int32 × sf_S)) := []
noncomputable def dX2_has (q : Nat) (x1 : Int32) (σ : sf_S) : Option (Int32 × sf_S) :=
  if x1 < 0 then
    some ((0 : Int32), σ)
  else
    if (σ q 4) ≤ x1 then
      some ((0 : Int32), σ)
    else
      some ((1 : Int32), σ)
noncomputable abbrev gX2_has (av : List Value) (σ : sf_S) : Option (Int32 × sf_S) := match av with
  | [.ref q, .int x1] => (match sf_rv [1, 36] q with | true => dX2_has q x1 σ | false => none)
  | _ => none
set_option maxRecDepth 100000 in
set_option maxHeartbeats 4000000 in
theorem rX2_has {Wt : Nat → sf_L → List Value → sf_S → Prop} {Post : (Int32 × sf_S) → Prop} (hs : sf_Snd Wt sf_layC sf_hZ jX2_has tX2_has Post) (hm : sf_mono Wt) : ∀ av σ u, gX2_has av σ = some u → Post u → (∀ ad, (lg_sl (av.map (sf_v ad))).length ≤ 2) ∧ Wt 0 (sf_ent 0 av) [] σ := by
  intro av σ u h hp
  unfold gX2_has at h
  split at h
  · rename_i q x1
    split at h
    · rename_i hq
      have hq : q = 1 ∨ q = 36 := by simpa using sf_rv_mem hq
      refine ⟨fun ad => Nat.le_of_ble_eq_true rfl, ?_⟩
      rcases hq with rfl | rfl
      · exact sf_run_ok hs sf_sm_nil 15 0 _ _ σ u h hp
      · exact sf_run_ok hs sf_sm_nil 15 0 _ _ σ u h hp
    · cases h
  · cases h
theorem kX2_has (l : Launch) : sf_C l sf_layC yX2_has cX2_has 2 (some .boolean) (sf_rm 1 100) (fun av σ => (gX2_has av σ).map sf_vI) :=
  sf_met (tab := tX2_has) (J := jX2_has) (fl := sf_fl2) (cl := sf_cl2) (by decide +kernel) ⟨rfl, rfl⟩ sf_RH_Z (by decide +kernel) sf_fl2_ok sf_cl2_ok
    (sf_JO_nil)
    (fun Wt Post hs hm => rX2_has hs hm)
-- ===== StreamFuser$Plan.letterAt(I)I =====
abbrev tX2_letterAt : List (Nat × sf_E) := [(0, (.iload_n 1, 1, 0, .null, [], [])), (1, (.ifCond .lt 20, 4, 21, .null, [], [])), (4, (.iload_n 1, 5, 0, .null, [], [])), (5, (.aload_n 0, 6, 0, .null, [], [])), (6, (.getfield 44, 9, 0, .null, [], [(2, 4)])), (9, (.if_icmp .ge 12, 12, 21, .null, [], [])), (12, (.aload_n 0, 13, 0, .null, [], [])), (13, (.getfield 9, 16, 0, .null, [], [(2, 0)])), (16, (.iload_n 1, 17, 0, .null, [], [])), (17, (.iaload, 18, 0, .null, [], [])), (18, (.goto 4, 21, 22, .null, [], [])), (21, (.iconst (-1), 22, 0, .int (-1), [], [])), (22, (.ireturn, 23, 0, .null, [], []))]
noncomputable abbrev jX2_letterAt : List (Nat × sf_J (Int32 × sf_S)) := []
noncomputable def dX2_letterAt (q : Nat) (x1 : Int32) (σ : sf_S) : Option (Int32 × sf_S) :=
  if x1 < 0 then
    some ((-1 : Int32), σ)
  else
    if (σ q 4) ≤ x1 then
      some ((-1 : Int32), σ)
    else
      if sf_in x1 40 then
        some ((σ (q + 1) x1.toNatClampNeg), σ)
      else
        none
noncomputable abbrev gX2_letterAt (av : List Value) (σ : sf_S) : Option (Int32 × sf_S) := match av with
  | [.ref q, .int x1] => (match sf_rv [1, 36] q with | true => dX2_letterAt q x1 σ | false => none)
  | _ => none
set_option maxRecDepth 100000 in
set_option maxHeartbeats 4000000 in
theorem rX2_letterAt {Wt : Nat → sf_L → List Value → sf_S → Prop} {Post : (Int32 × sf_S) → Prop} (hs : sf_Snd Wt sf_layC sf_hI jX2_letterAt tX2_letterAt Post) (hm : sf_mono Wt) : ∀ av σ u, gX2_letterAt av σ = some u → Post u → (∀ ad, (lg_sl (av.map (sf_v ad))).length ≤ 2) ∧ Wt 0 (sf_ent 0 av) [] σ := by
  intro av σ u h hp
  unfold gX2_letterAt at h
  split at h
  · rename_i q x1
    split at h
    · rename_i hq
      have hq : q = 1 ∨ q = 36 := by simpa using sf_rv_mem hq
      refine ⟨fun ad => Nat.le_of_ble_eq_true rfl, ?_⟩
      rcases hq with rfl | rfl
      · exact sf_run_ok hs sf_sm_nil 18 0 _ _ σ u h hp
      · exact sf_run_ok hs sf_sm_nil 18 0 _ _ σ u h hp
    · cases h
  · cases h
theorem kX2_letterAt (l : Launch) : sf_C l sf_layC yX2_letterAt cX2_letterAt 2 (some .int) (sf_rm 1 100) (fun av σ => (gX2_letterAt av σ).map sf_vI) :=
  sf_met (tab := tX2_letterAt) (J := jX2_letterAt) (fl := sf_fl2) (cl := sf_cl2) (by decide +kernel) ⟨rfl, rfl⟩ sf_RH_I (by decide +kernel) sf_fl2_ok sf_cl2_ok
    (sf_JO_nil)
    (fun Wt Post hs hm => rX2_letterAt hs hm)
-- ===== StreamFuser$Plan.isNil(I)Z =====
abbrev tX2_isNil : List (Nat × sf_E) := [(0, (.aload_n 0, 1, 0, .null, [], [])), (1, (.iload_n 1, 2, 0, .null, [], [])), (2, (.invokevirtual 47, 5, 0, .null, [], [])), (5, (.ifCond .eq 36, 8, 41, .null, [], [])), (8, (.aload_n 0, 9, 0, .null, [], [])), (9, (.getfield 9, 12, 0, .null, [], [(2, 0)])), (12, (.iload_n 1, 13, 0, .null, [], [])), (13, (.iaload, 14, 0, .null, [], [])), (14, (.bipush 114, 16, 0, .int (114), [], [])), (16, (.if_icmp .ne 25, 19, 41, .null, [], [])), (19, (.aload_n 0, 20, 0, .null, [], [])), (20, (.getfield 18, 23, 0, .null, [], [(2, 2)])), (23, (.iload_n 1, 24, 0, .null, [], [])), (24, (.iaload, 25, 0, .null, [], [])), (25, (.ifCond .ne 16, 28, 41, .null, [], [])), (28, (.aload_n 0, 29, 0, .null, [], [])), (29, (.getfield 21, 32, 0, .null, [], [(2, 3)])), (32, (.iload_n 1, 33, 0, .null, [], [])), (33, (.iaload, 34, 0, .null, [], [])), (34, (.ifCond .ne 7, 37, 41, .null, [], [])), (37, (.iconst 1, 38, 0, .int (1), [], [])), (38, (.goto 4, 41, 42, .null, [], [])), (41, (.iconst 0, 42, 0, .int (0), [], [])), (42, (.ireturn, 43, 0, .null, [], []))]
noncomputable abbrev jX2_isNil : List (Nat × sf_J (Int32 × sf_S)) := [(2, sf_jI sf_layC [2] 2 gX2_has)]
noncomputable def dX2_isNil (q : Nat) (x1 : Int32) (σ : sf_S) : Option (Int32 × sf_S) :=
  (dX2_has q x1 σ).bind fun u1 =>
  if u1.1 = 0 then
    some ((0 : Int32), u1.2)
  else
    if sf_in x1 40 then
      if ¬ (u1.2 (q + 1) x1.toNatClampNeg) = (114 : Int32) then
        some ((0 : Int32), u1.2)
      else
        if sf_in x1 40 then
          if ¬ (u1.2 (q + 3) x1.toNatClampNeg) = 0 then
            some ((0 : Int32), u1.2)
          else
            if sf_in x1 40 then
              if ¬ (u1.2 (q + 4) x1.toNatClampNeg) = 0 then
                some ((0 : Int32), u1.2)
              else
                some ((1 : Int32), u1.2)
            else
              none
        else
          none
    else
      none
noncomputable abbrev gX2_isNil (av : List Value) (σ : sf_S) : Option (Int32 × sf_S) := match av with
  | [.ref q, .int x1] => (match sf_rv [1, 36] q with | true => dX2_isNil q x1 σ | false => none)
  | _ => none
set_option maxRecDepth 100000 in
set_option maxHeartbeats 4000000 in
theorem rX2_isNil {Wt : Nat → sf_L → List Value → sf_S → Prop} {Post : (Int32 × sf_S) → Prop} (hs : sf_Snd Wt sf_layC sf_hZ jX2_isNil tX2_isNil Post) (hm : sf_mono Wt) : ∀ av σ u, gX2_isNil av σ = some u → Post u → (∀ ad, (lg_sl (av.map (sf_v ad))).length ≤ 2) ∧ Wt 0 (sf_ent 0 av) [] σ := by
  intro av σ u h hp
  unfold gX2_isNil at h
  split at h
  · rename_i q x1
    split at h
    · rename_i hq
      have hq : q = 1 ∨ q = 36 := by simpa using sf_rv_mem hq
      refine ⟨fun ad => Nat.le_of_ble_eq_true rfl, ?_⟩
      rcases hq with rfl | rfl
      · exact sf_run_ok hs sf_sm_nil 29 0 _ _ σ u h hp
      · exact sf_run_ok hs sf_sm_nil 29 0 _ _ σ u h hp
    · cases h
  · cases h
theorem kX2_isNil (l : Launch) : sf_C l sf_layC yX2_isNil cX2_isNil 2 (some .boolean) (sf_rm 2 121) (fun av σ => (gX2_isNil av σ).map sf_vI) :=
  sf_met (tab := tX2_isNil) (J := jX2_isNil) (fl := sf_fl2) (cl := sf_cl2) (by decide +kernel) ⟨rfl, rfl⟩ sf_RH_Z (by decide +kernel) sf_fl2_ok sf_cl2_ok
    (sf_JO_cons (sf_je_V (n := 2) (cs := [2]) (tv := sf_vI) (kX2_has l) mwX2_has (by decide +kernel : decode cX2_isNil 2 = .ok (.invokevirtual 47, 3)) wt_499 wt_470 wt_0 (by decide +kernel) (by decide) (by decide) (List.forall_mem_cons.mpr ⟨⟨_, _, rfl⟩, fun _ h => absurd h List.not_mem_nil⟩) (sf_RM_of (by omega) (by omega))) (sf_JO_nil))
    (fun Wt Post hs hm => rX2_isNil hs hm)
-- ===== StreamFuser$Plan.secondPart(I)I =====
abbrev tX2_secondPart : List (Nat × sf_E) := [(0, (.iload_n 1, 1, 0, .null, [], [])), (1, (.ifCond .lt 24, 4, 25, .null, [], [])), (4, (.iload_n 1, 5, 0, .null, [], [])), (5, (.iconst 1, 6, 0, .int (1), [], [])), (6, (.iadd, 7, 0, .null, [], [])), (7, (.aload_n 0, 8, 0, .null, [], [])), (8, (.getfield 44, 11, 0, .null, [], [(2, 4)])), (11, (.if_icmp .ge 14, 14, 25, .null, [], [])), (14, (.aload_n 0, 15, 0, .null, [], [])), (15, (.getfield 24, 18, 0, .null, [], [(2, 5)])), (18, (.iload_n 1, 19, 0, .null, [], [])), (19, (.iconst 1, 20, 0, .int (1), [], [])), (20, (.iadd, 21, 0, .null, [], [])), (21, (.iaload, 22, 0, .null, [], [])), (22, (.goto 7, 25, 29, .null, [], [])), (25, (.aload_n 0, 26, 0, .null, [], [])), (26, (.getfield 44, 29, 0, .null, [], [(2, 4)])), (29, (.ireturn, 30, 0, .null, [], []))]
noncomputable abbrev jX2_secondPart : List (Nat × sf_J (Int32 × sf_S)) := []
noncomputable def dX2_secondPart (q : Nat) (x1 : Int32) (σ : sf_S) : Option (Int32 × sf_S) :=
  if x1 < 0 then
    some ((σ q 4), σ)
  else
    if (σ q 4) ≤ (x1 + (1 : Int32)) then
      some ((σ q 4), σ)
    else
      if sf_in (x1 + (1 : Int32)) 40 then
        some ((σ (q + 5) ((x1 + (1 : Int32))).toNatClampNeg), σ)
      else
        none
noncomputable abbrev gX2_secondPart (av : List Value) (σ : sf_S) : Option (Int32 × sf_S) := match av with
  | [.ref q, .int x1] => (match sf_rv [1, 36] q with | true => dX2_secondPart q x1 σ | false => none)
  | _ => none
set_option maxRecDepth 100000 in
set_option maxHeartbeats 4000000 in
theorem rX2_secondPart {Wt : Nat → sf_L → List Value → sf_S → Prop} {Post : (Int32 × sf_S) → Prop} (hs : sf_Snd Wt sf_layC sf_hI jX2_secondPart tX2_secondPart Post) (hm : sf_mono Wt) : ∀ av σ u, gX2_secondPart av σ = some u → Post u → (∀ ad, (lg_sl (av.map (sf_v ad))).length ≤ 2) ∧ Wt 0 (sf_ent 0 av) [] σ := by
  intro av σ u h hp
  unfold gX2_secondPart at h
  split at h
  · rename_i q x1
    split at h
    · rename_i hq
      have hq : q = 1 ∨ q = 36 := by simpa using sf_rv_mem hq
      refine ⟨fun ad => Nat.le_of_ble_eq_true rfl, ?_⟩
      rcases hq with rfl | rfl
      · exact sf_run_ok hs sf_sm_nil 23 0 _ _ σ u h hp
      · exact sf_run_ok hs sf_sm_nil 23 0 _ _ σ u h hp
    · cases h
  · cases h
theorem kX2_secondPart (l : Launch) : sf_C l sf_layC yX2_secondPart cX2_secondPart 2 (some .int) (sf_rm 1 100) (fun av σ => (gX2_secondPart av σ).map sf_vI) :=
  sf_met (tab := tX2_secondPart) (J := jX2_secondPart) (fl := sf_fl2) (cl := sf_cl2) (by decide +kernel) ⟨rfl, rfl⟩ sf_RH_I (by decide +kernel) sf_fl2_ok sf_cl2_ok
    (sf_JO_nil)
    (fun Wt Post hs hm => rX2_secondPart hs hm)
-- ===== StreamFuser$Plan.input(I)I =====
abbrev tX2_input : List (Nat × sf_E) := [(0, (.aload_n 0, 1, 0, .null, [], [])), (1, (.iload_n 1, 2, 0, .null, [], [])), (2, (.invokevirtual 51, 5, 0, .null, [], [])), (5, (.bipush 120, 7, 0, .int (120), [], [])), (7, (.if_icmp .ne 11, 10, 18, .null, [], [])), (10, (.aload_n 0, 11, 0, .null, [], [])), (11, (.iload_n 1, 12, 0, .null, [], [])), (12, (.invokevirtual 55, 15, 0, .null, [], [])), (15, (.goto 6, 18, 21, .null, [], [])), (18, (.iload_n 1, 19, 0, .null, [], [])), (19, (.iconst 1, 20, 0, .int (1), [], [])), (20, (.iadd, 21, 0, .null, [], [])), (21, (.ireturn, 22, 0, .null, [], []))]
noncomputable abbrev jX2_input : List (Nat × sf_J (Int32 × sf_S)) := [(2, sf_jI sf_layC [2] 2 gX2_letterAt), (12, sf_jI sf_layC [2] 2 gX2_secondPart)]
noncomputable def dX2_input (q : Nat) (x1 : Int32) (σ : sf_S) : Option (Int32 × sf_S) :=
  (dX2_letterAt q x1 σ).bind fun u1 =>
  if ¬ u1.1 = (120 : Int32) then
    some ((x1 + (1 : Int32)), u1.2)
  else
    (dX2_secondPart q x1 u1.2).bind fun u2 =>
    some (u2.1, u2.2)
noncomputable abbrev gX2_input (av : List Value) (σ : sf_S) : Option (Int32 × sf_S) := match av with
  | [.ref q, .int x1] => (match sf_rv [1, 36] q with | true => dX2_input q x1 σ | false => none)
  | _ => none
set_option maxRecDepth 100000 in
set_option maxHeartbeats 4000000 in
theorem rX2_input {Wt : Nat → sf_L → List Value → sf_S → Prop} {Post : (Int32 × sf_S) → Prop} (hs : sf_Snd Wt sf_layC sf_hI jX2_input tX2_input Post) (hm : sf_mono Wt) : ∀ av σ u, gX2_input av σ = some u → Post u → (∀ ad, (lg_sl (av.map (sf_v ad))).length ≤ 2) ∧ Wt 0 (sf_ent 0 av) [] σ := by
  intro av σ u h hp
  unfold gX2_input at h
  split at h
  · rename_i q x1
    split at h
    · rename_i hq
      have hq : q = 1 ∨ q = 36 := by simpa using sf_rv_mem hq
      refine ⟨fun ad => Nat.le_of_ble_eq_true rfl, ?_⟩
      rcases hq with rfl | rfl
      · exact sf_run_ok hs sf_sm_nil 18 0 _ _ σ u h hp
      · exact sf_run_ok hs sf_sm_nil 18 0 _ _ σ u h hp
    · cases h
  · cases h
theorem kX2_input (l : Launch) : sf_C l sf_layC yX2_input cX2_input 2 (some .int) (sf_rm 2 121) (fun av σ => (gX2_input av σ).map sf_vI) :=
  sf_met (tab := tX2_input) (J := jX2_input) (fl := sf_fl2) (cl := sf_cl2) (by decide +kernel) ⟨rfl, rfl⟩ sf_RH_I (by decide +kernel) sf_fl2_ok sf_cl2_ok
    (sf_JO_cons (sf_je_V (n := 2) (cs := [2]) (tv := sf_vI) (kX2_letterAt l) mwX2_letterAt (by decide +kernel : decode cX2_input 2 = .ok (.invokevirtual 51, 3)) wt_520 wt_506 wt_6 (by decide +kernel) (by decide) (by decide) (List.forall_mem_cons.mpr ⟨⟨_, _, rfl⟩, fun _ h => absurd h List.not_mem_nil⟩) (sf_RM_of (by omega) (by omega))) (sf_JO_cons (sf_je_V (n := 2) (cs := [2]) (tv := sf_vI) (kX2_secondPart l) mwX2_secondPart (by decide +kernel : decode cX2_input 12 = .ok (.invokevirtual 55, 3)) wt_521 wt_514 wt_8 (by decide +kernel) (by decide) (by decide) (List.forall_mem_cons.mpr ⟨⟨_, _, rfl⟩, fun _ h => absurd h List.not_mem_nil⟩) (sf_RM_of (by omega) (by omega))) (sf_JO_nil)))
    (fun Wt Post hs hm => rX2_input hs hm)
-- ===== StreamFuser$Plan.add(IIII)V =====
abbrev tX2_add : List (Nat × sf_E) := [(0, (.aload_n 0, 1, 0, .null, [], [])), (1, (.getfield 44, 4, 0, .null, [], [(2, 4)])), (4, (.bipush 40, 6, 0, .int (40), [], [])), (6, (.if_icmp .lt 4, 9, 10, .null, [], [])), (9, (.return_, 10, 0, .null, [], [])), (10, (.aload_n 0, 11, 0, .null, [], [])), (11, (.getfield 9, 14, 0, .null, [], [(2, 0)])), (14, (.aload_n 0, 15, 0, .null, [], [])), (15, (.getfield 44, 18, 0, .null, [], [(2, 4)])), (18, (.iload_n 1, 19, 0, .null, [], [])), (19, (.iastore, 20, 0, .null, [], [])), (20, (.aload_n 0, 21, 0, .null, [], [])), (21, (.getfield 15, 24, 0, .null, [], [(2, 1)])), (24, (.aload_n 0, 25, 0, .null, [], [])), (25, (.getfield 44, 28, 0, .null, [], [(2, 4)])), (28, (.iload_n 2, 29, 0, .null, [], [])), (29, (.iastore, 30, 0, .null, [], [])), (30, (.aload_n 0, 31, 0, .null, [], [])), (31, (.getfield 18, 34, 0, .null, [], [(2, 2)])), (34, (.aload_n 0, 35, 0, .null, [], [])), (35, (.getfield 44, 38, 0, .null, [], [(2, 4)])), (38, (.iload_n 3, 39, 0, .null, [], [])), (39, (.iastore, 40, 0, .null, [], [])), (40, (.aload_n 0, 41, 0, .null, [], [])), (41, (.getfield 21, 44, 0, .null, [], [(2, 3)])), (44, (.aload_n 0, 45, 0, .null, [], [])), (45, (.getfield 44, 48, 0, .null, [], [(2, 4)])), (48, (.iload 4, 50, 0, .null, [], [])), (50, (.iastore, 51, 0, .null, [], [])), (51, (.aload_n 0, 52, 0, .null, [], [])), (52, (.dup, 53, 0, .null, [], [])), (53, (.getfield 44, 56, 0, .null, [], [(2, 4)])), (56, (.iconst 1, 57, 0, .int (1), [], [])), (57, (.iadd, 58, 0, .null, [], [])), (58, (.putfield 44, 61, 0, .null, [], [(2, 4)])), (61, (.return_, 62, 0, .null, [], []))]
noncomputable abbrev jX2_add : List (Nat × sf_J sf_S) := []
noncomputable def dX2_add (q : Nat) (x1 : Int32) (x2 : Int32) (x3 : Int32) (x4 : Int32) (σ : sf_S) : Option sf_S :=
  if (σ q 4) < (40 : Int32) then
    let v1 := (σ q 4)
    if sf_in v1 40 then
      let s2 := sf_up σ (q + 1) v1.toNatClampNeg x1
      let v3 := (s2 q 4)
      if sf_in v3 40 then
        let s4 := sf_up s2 (q + 2) v3.toNatClampNeg x2
        let v5 := (s4 q 4)
        if sf_in v5 40 then
          let s6 := sf_up s4 (q + 3) v5.toNatClampNeg x3
          let v7 := (s6 q 4)
          if sf_in v7 40 then
            let s8 := sf_up s6 (q + 4) v7.toNatClampNeg x4
            let s9 := sf_up s8 q 4 ((s8 q 4) + (1 : Int32))
            some s9
          else
            none
        else
          none
      else
        none
    else
      none
  else
    some σ
noncomputable abbrev gX2_add (av : List Value) (σ : sf_S) : Option sf_S := match av with
  | [.ref q, .int x1, .int x2, .int x3, .int x4] => (match sf_rv [1, 36] q with | true => dX2_add q x1 x2 x3 x4 σ | false => none)
  | _ => none
set_option maxRecDepth 100000 in
set_option maxHeartbeats 4000000 in
theorem rX2_add {Wt : Nat → sf_L → List Value → sf_S → Prop} {Post : sf_S → Prop} (hs : sf_Snd Wt sf_layC sf_hV jX2_add tX2_add Post) (hm : sf_mono Wt) : ∀ av σ u, gX2_add av σ = some u → Post u → (∀ ad, (lg_sl (av.map (sf_v ad))).length ≤ 5) ∧ Wt 0 (sf_ent 0 av) [] σ := by
  intro av σ u h hp
  unfold gX2_add at h
  split at h
  · rename_i q x1 x2 x3 x4
    split at h
    · rename_i hq
      have hq : q = 1 ∨ q = 36 := by simpa using sf_rv_mem hq
      refine ⟨fun ad => Nat.le_of_ble_eq_true rfl, ?_⟩
      rcases hq with rfl | rfl
      · exact sf_run_ok hs sf_sm_nil 41 0 _ _ σ u h hp
      · exact sf_run_ok hs sf_sm_nil 41 0 _ _ σ u h hp
    · cases h
  · cases h
theorem kX2_add (l : Launch) : sf_C l sf_layC yX2_add cX2_add 5 none (sf_rm 1 100) (fun av σ => (gX2_add av σ).map sf_vV) :=
  sf_met (tab := tX2_add) (J := jX2_add) (fl := sf_fl2) (cl := sf_cl2) (by decide +kernel) ⟨rfl, rfl⟩ sf_RH_V (by decide +kernel) sf_fl2_ok sf_cl2_ok
    (sf_JO_nil)
    (fun Wt Post hs hm => rX2_add hs hm)
-- ===== StreamFuser$Plan.moveNode(II)V =====
abbrev tX2_moveNode : List (Nat × sf_E) := [(0, (.aload_n 0, 1, 0, .null, [], [])), (1, (.getfield 9, 4, 0, .null, [], [(2, 0)])), (4, (.iload_n 2, 5, 0, .null, [], [])), (5, (.aload_n 0, 6, 0, .null, [], [])), (6, (.getfield 9, 9, 0, .null, [], [(2, 0)])), (9, (.iload_n 1, 10, 0, .null, [], [])), (10, (.iaload, 11, 0, .null, [], [])), (11, (.iastore, 12, 0, .null, [], [])), (12, (.aload_n 0, 13, 0, .null, [], [])), (13, (.getfield 15, 16, 0, .null, [], [(2, 1)])), (16, (.iload_n 2, 17, 0, .null, [], [])), (17, (.aload_n 0, 18, 0, .null, [], [])), (18, (.getfield 15, 21, 0, .null, [], [(2, 1)])), (21, (.iload_n 1, 22, 0, .null, [], [])), (22, (.iaload, 23, 0, .null, [], [])), (23, (.iastore, 24, 0, .null, [], [])), (24, (.aload_n 0, 25, 0, .null, [], [])), (25, (.getfield 18, 28, 0, .null, [], [(2, 2)])), (28, (.iload_n 2, 29, 0, .null, [], [])), (29, (.aload_n 0, 30, 0, .null, [], [])), (30, (.getfield 18, 33, 0, .null, [], [(2, 2)])), (33, (.iload_n 1, 34, 0, .null, [], [])), (34, (.iaload, 35, 0, .null, [], [])), (35, (.iastore, 36, 0, .null, [], [])), (36, (.aload_n 0, 37, 0, .null, [], [])), (37, (.getfield 21, 40, 0, .null, [], [(2, 3)])), (40, (.iload_n 2, 41, 0, .null, [], [])), (41, (.aload_n 0, 42, 0, .null, [], [])), (42, (.getfield 21, 45, 0, .null, [], [(2, 3)])), (45, (.iload_n 1, 46, 0, .null, [], [])), (46, (.iaload, 47, 0, .null, [], [])), (47, (.iastore, 48, 0, .null, [], [])), (48, (.return_, 49, 0, .null, [], []))]
noncomputable abbrev jX2_moveNode : List (Nat × sf_J sf_S) := []
noncomputable def dX2_moveNode (q : Nat) (x1 : Int32) (x2 : Int32) (σ : sf_S) : Option sf_S :=
  if sf_in x1 40 then
    if sf_in x2 40 then
      let s1 := sf_up σ (q + 1) x2.toNatClampNeg (σ (q + 1) x1.toNatClampNeg)
      if sf_in x1 40 then
        if sf_in x2 40 then
          let s2 := sf_up s1 (q + 2) x2.toNatClampNeg (s1 (q + 2) x1.toNatClampNeg)
          if sf_in x1 40 then
            if sf_in x2 40 then
              let s3 := sf_up s2 (q + 3) x2.toNatClampNeg (s2 (q + 3) x1.toNatClampNeg)
              if sf_in x1 40 then
                if sf_in x2 40 then
                  let s4 := sf_up s3 (q + 4) x2.toNatClampNeg (s3 (q + 4) x1.toNatClampNeg)
                  some s4
                else
                  none
              else
                none
            else
              none
          else
            none
        else
          none
      else
        none
    else
      none
  else
    none
noncomputable abbrev gX2_moveNode (av : List Value) (σ : sf_S) : Option sf_S := match av with
  | [.ref q, .int x1, .int x2] => (match sf_rv [1, 36] q with | true => dX2_moveNode q x1 x2 σ | false => none)
  | _ => none
set_option maxRecDepth 100000 in
set_option maxHeartbeats 4000000 in
theorem rX2_moveNode {Wt : Nat → sf_L → List Value → sf_S → Prop} {Post : sf_S → Prop} (hs : sf_Snd Wt sf_layC sf_hV jX2_moveNode tX2_moveNode Post) (hm : sf_mono Wt) : ∀ av σ u, gX2_moveNode av σ = some u → Post u → (∀ ad, (lg_sl (av.map (sf_v ad))).length ≤ 3) ∧ Wt 0 (sf_ent 0 av) [] σ := by
  intro av σ u h hp
  unfold gX2_moveNode at h
  split at h
  · rename_i q x1 x2
    split at h
    · rename_i hq
      have hq : q = 1 ∨ q = 36 := by simpa using sf_rv_mem hq
      refine ⟨fun ad => Nat.le_of_ble_eq_true rfl, ?_⟩
      rcases hq with rfl | rfl
      · exact sf_run_ok hs sf_sm_nil 38 0 _ _ σ u h hp
      · exact sf_run_ok hs sf_sm_nil 38 0 _ _ σ u h hp
    · cases h
  · cases h
theorem kX2_moveNode (l : Launch) : sf_C l sf_layC yX2_moveNode cX2_moveNode 3 none (sf_rm 1 100) (fun av σ => (gX2_moveNode av σ).map sf_vV) :=
  sf_met (tab := tX2_moveNode) (J := jX2_moveNode) (fl := sf_fl2) (cl := sf_cl2) (by decide +kernel) ⟨rfl, rfl⟩ sf_RH_V (by decide +kernel) sf_fl2_ok sf_cl2_ok
    (sf_JO_nil)
    (fun Wt Post hs hm => rX2_moveNode hs hm)
-- ===== StreamFuser$Plan.swapWithNext(I)V =====
abbrev tX2_swapWithNext : List (Nat × sf_E) := [(0, (.aload_n 0, 1, 0, .null, [], [])), (1, (.iload_n 1, 2, 0, .null, [], [])), (2, (.invokevirtual 47, 5, 0, .null, [], [])), (5, (.ifCond .eq 13, 8, 18, .null, [], [])), (8, (.aload_n 0, 9, 0, .null, [], [])), (9, (.iload_n 1, 10, 0, .null, [], [])), (10, (.iconst 1, 11, 0, .int (1), [], [])), (11, (.iadd, 12, 0, .null, [], [])), (12, (.invokevirtual 47, 15, 0, .null, [], [])), (15, (.ifCond .ne 4, 18, 19, .null, [], [])), (18, (.return_, 19, 0, .null, [], [])), (19, (.aload_n 0, 20, 0, .null, [], [])), (20, (.getfield 9, 23, 0, .null, [], [(2, 0)])), (23, (.iload_n 1, 24, 0, .null, [], [])), (24, (.iaload, 25, 0, .null, [], [])), (25, (.istore_n 2, 26, 0, .null, [], [])), (26, (.aload_n 0, 27, 0, .null, [], [])), (27, (.getfield 15, 30, 0, .null, [], [(2, 1)])), (30, (.iload_n 1, 31, 0, .null, [], [])), (31, (.iaload, 32, 0, .null, [], [])), (32, (.istore_n 3, 33, 0, .null, [], [])), (33, (.aload_n 0, 34, 0, .null, [], [])), (34, (.getfield 18, 37, 0, .null, [], [(2, 2)])), (37, (.iload_n 1, 38, 0, .null, [], [])), (38, (.iaload, 39, 0, .null, [], [])), (39, (.istore 4, 41, 0, .null, [], [])), (41, (.aload_n 0, 42, 0, .null, [], [])), (42, (.getfield 21, 45, 0, .null, [], [(2, 3)])), (45, (.iload_n 1, 46, 0, .null, [], [])), (46, (.iaload, 47, 0, .null, [], [])), (47, (.istore 5, 49, 0, .null, [], [])), (49, (.aload_n 0, 50, 0, .null, [], [])), (50, (.iload_n 1, 51, 0, .null, [], [])), (51, (.iconst 1, 52, 0, .int (1), [], [])), (52, (.iadd, 53, 0, .null, [], [])), (53, (.iload_n 1, 54, 0, .null, [], [])), (54, (.invokevirtual 65, 57, 0, .null, [], [])), (57, (.aload_n 0, 58, 0, .null, [], [])), (58, (.getfield 9, 61, 0, .null, [], [(2, 0)])), (61, (.iload_n 1, 62, 0, .null, [], [])), (62, (.iconst 1, 63, 0, .int (1), [], [])), (63, (.iadd, 64, 0, .null, [], [])), (64, (.iload_n 2, 65, 0, .null, [], [])), (65, (.iastore, 66, 0, .null, [], [])), (66, (.aload_n 0, 67, 0, .null, [], [])), (67, (.getfield 15, 70, 0, .null, [], [(2, 1)])), (70, (.iload_n 1, 71, 0, .null, [], [])), (71, (.iconst 1, 72, 0, .int (1), [], [])), (72, (.iadd, 73, 0, .null, [], [])), (73, (.iload_n 3, 74, 0, .null, [], [])), (74, (.iastore, 75, 0, .null, [], [])), (75, (.aload_n 0, 76, 0, .null, [], [])), (76, (.getfield 18, 79, 0, .null, [], [(2, 2)])), (79, (.iload_n 1, 80, 0, .null, [], [])), (80, (.iconst 1, 81, 0, .int (1), [], [])), (81, (.iadd, 82, 0, .null, [], [])), (82, (.iload 4, 84, 0, .null, [], [])), (84, (.iastore, 85, 0, .null, [], [])), (85, (.aload_n 0, 86, 0, .null, [], [])), (86, (.getfield 21, 89, 0, .null, [], [(2, 3)])), (89, (.iload_n 1, 90, 0, .null, [], [])), (90, (.iconst 1, 91, 0, .int (1), [], [])), (91, (.iadd, 92, 0, .null, [], [])), (92, (.iload 5, 94, 0, .null, [], [])), (94, (.iastore, 95, 0, .null, [], [])), (95, (.return_, 96, 0, .null, [], []))]
noncomputable abbrev jX2_swapWithNext : List (Nat × sf_J sf_S) := [(2, sf_jI sf_layC [2] 2 gX2_has), (12, sf_jI sf_layC [2] 2 gX2_has), (54, sf_jV sf_layC [2] 3 gX2_moveNode)]
noncomputable def dX2_swapWithNext (q : Nat) (x1 : Int32) (σ : sf_S) : Option sf_S :=
  (dX2_has q x1 σ).bind fun u1 =>
  if u1.1 = 0 then
    some u1.2
  else
    (dX2_has q (x1 + (1 : Int32)) u1.2).bind fun u2 =>
    if ¬ u2.1 = 0 then
      if sf_in x1 40 then
        let v3 := (u2.2 (q + 1) x1.toNatClampNeg)
        if sf_in x1 40 then
          let v4 := (u2.2 (q + 2) x1.toNatClampNeg)
          if sf_in x1 40 then
            let v5 := (u2.2 (q + 3) x1.toNatClampNeg)
            if sf_in x1 40 then
              let v6 := (u2.2 (q + 4) x1.toNatClampNeg)
              (dX2_moveNode q (x1 + (1 : Int32)) x1 u2.2).bind fun u7 =>
              if sf_in (x1 + (1 : Int32)) 40 then
                let s8 := sf_up u7 (q + 1) ((x1 + (1 : Int32))).toNatClampNeg v3
                if sf_in (x1 + (1 : Int32)) 40 then
                  let s9 := sf_up s8 (q + 2) ((x1 + (1 : Int32))).toNatClampNeg v4
                  if sf_in (x1 + (1 : Int32)) 40 then
                    let s10 := sf_up s9 (q + 3) ((x1 + (1 : Int32))).toNatClampNeg v5
                    if sf_in (x1 + (1 : Int32)) 40 then
                      let s11 := sf_up s10 (q + 4) ((x1 + (1 : Int32))).toNatClampNeg v6
                      some s11
                    else
                      none
                  else
                    none
                else
                  none
              else
                none
            else
              none
          else
            none
        else
          none
      else
        none
    else
      some u2.2
noncomputable abbrev gX2_swapWithNext (av : List Value) (σ : sf_S) : Option sf_S := match av with
  | [.ref q, .int x1] => (match sf_rv [1, 36] q with | true => dX2_swapWithNext q x1 σ | false => none)
  | _ => none
set_option maxRecDepth 100000 in
set_option maxHeartbeats 4000000 in
theorem rX2_swapWithNext {Wt : Nat → sf_L → List Value → sf_S → Prop} {Post : sf_S → Prop} (hs : sf_Snd Wt sf_layC sf_hV jX2_swapWithNext tX2_swapWithNext Post) (hm : sf_mono Wt) : ∀ av σ u, gX2_swapWithNext av σ = some u → Post u → (∀ ad, (lg_sl (av.map (sf_v ad))).length ≤ 6) ∧ Wt 0 (sf_ent 0 av) [] σ := by
  intro av σ u h hp
  unfold gX2_swapWithNext at h
  split at h
  · rename_i q x1
    split at h
    · rename_i hq
      have hq : q = 1 ∨ q = 36 := by simpa using sf_rv_mem hq
      refine ⟨fun ad => Nat.le_of_ble_eq_true rfl, ?_⟩
      rcases hq with rfl | rfl
      · exact sf_run_ok hs sf_sm_nil 71 0 _ _ σ u h hp
      · exact sf_run_ok hs sf_sm_nil 71 0 _ _ σ u h hp
    · cases h
  · cases h
theorem kX2_swapWithNext (l : Launch) : sf_C l sf_layC yX2_swapWithNext cX2_swapWithNext 6 none (sf_rm 2 122) (fun av σ => (gX2_swapWithNext av σ).map sf_vV) :=
  sf_met (tab := tX2_swapWithNext) (J := jX2_swapWithNext) (fl := sf_fl2) (cl := sf_cl2) (by decide +kernel) ⟨rfl, rfl⟩ sf_RH_V (by decide +kernel) sf_fl2_ok sf_cl2_ok
    (sf_JO_cons (sf_je_V (n := 2) (cs := [2]) (tv := sf_vI) (kX2_has l) mwX2_has (by decide +kernel : decode cX2_swapWithNext 2 = .ok (.invokevirtual 47, 3)) wt_499 wt_470 wt_0 (by decide +kernel) (by decide) (by decide) (List.forall_mem_cons.mpr ⟨⟨_, _, rfl⟩, fun _ h => absurd h List.not_mem_nil⟩) (sf_RM_of (by omega) (by omega))) (sf_JO_cons (sf_je_V (n := 2) (cs := [2]) (tv := sf_vI) (kX2_has l) mwX2_has (by decide +kernel : decode cX2_swapWithNext 12 = .ok (.invokevirtual 47, 3)) wt_499 wt_470 wt_0 (by decide +kernel) (by decide) (by decide) (List.forall_mem_cons.mpr ⟨⟨_, _, rfl⟩, fun _ h => absurd h List.not_mem_nil⟩) (sf_RM_of (by omega) (by omega))) (sf_JO_cons (sf_je_V (n := 3) (cs := [2]) (tv := sf_vV) (kX2_moveNode l) mwX2_moveNode (by decide +kernel : decode cX2_swapWithNext 54 = .ok (.invokevirtual 65, 3)) wt_534 wt_536 wt_13 (by decide +kernel) (by decide) (by decide) (List.forall_mem_cons.mpr ⟨⟨_, _, rfl⟩, fun _ h => absurd h List.not_mem_nil⟩) (sf_RM_of (by omega) (by omega))) (sf_JO_nil))))
    (fun Wt Post hs hm => rX2_swapWithNext hs hm)
-- ===== StreamFuser$Plan.cut(II)V =====
abbrev tX2_cut : List (Nat × sf_E) := [(0, (.iload_n 1, 1, 0, .null, [], [])), (1, (.ifCond .lt 16, 4, 17, .null, [], [])), (4, (.iload_n 2, 5, 0, .null, [], [])), (5, (.iload_n 1, 6, 0, .null, [], [])), (6, (.if_icmp .lt 11, 9, 17, .null, [], [])), (9, (.iload_n 2, 10, 0, .null, [], [])), (10, (.aload_n 0, 11, 0, .null, [], [])), (11, (.getfield 44, 14, 0, .null, [], [(2, 4)])), (14, (.if_icmp .le 4, 17, 18, .null, [], [])), (17, (.return_, 18, 0, .null, [], [])), (18, (.iload_n 2, 19, 0, .null, [], [])), (19, (.istore_n 3, 20, 0, .null, [], [])), (20, (.iload_n 3, 21, 0, .null, [], [])), (21, (.aload_n 0, 22, 0, .null, [], [])), (22, (.getfield 44, 25, 0, .null, [], [(2, 4)])), (25, (.if_icmp .ge 19, 28, 44, .null, [], [])), (28, (.aload_n 0, 29, 0, .null, [], [])), (29, (.iload_n 3, 30, 0, .null, [], [])), (30, (.iload_n 1, 31, 0, .null, [], [])), (31, (.iload_n 3, 32, 0, .null, [], [])), (32, (.iadd, 33, 0, .null, [], [])), (33, (.iload_n 2, 34, 0, .null, [], [])), (34, (.isub, 35, 0, .null, [], [])), (35, (.invokevirtual 65, 38, 0, .null, [], [])), (38, (.iinc 3 1, 41, 0, .int (1), [], [])), (41, (.goto (-21), 44, 20, .null, [], [])), (44, (.aload_n 0, 45, 0, .null, [], [])), (45, (.dup, 46, 0, .null, [], [])), (46, (.getfield 44, 49, 0, .null, [], [(2, 4)])), (49, (.iload_n 2, 50, 0, .null, [], [])), (50, (.iload_n 1, 51, 0, .null, [], [])), (51, (.isub, 52, 0, .null, [], [])), (52, (.isub, 53, 0, .null, [], [])), (53, (.putfield 44, 56, 0, .null, [], [(2, 4)])), (56, (.return_, 57, 0, .null, [], []))]
noncomputable abbrev jX2_cut : List (Nat × sf_J sf_S) := [(35, sf_jV sf_layC [2] 3 gX2_moveNode)]
abbrev wX2_cut_20 {ρ : Type} (q : Nat) (k : Int32 → Int32 → Int32 → sf_S → Option ρ) : sf_M ρ := fun L st σ => sf_lda L 0 fun a0 => sf_eq a0 q (sf_ldi L 1 fun x1 => sf_ldi L 2 fun x2 => sf_ldi L 3 fun x3 => sf_nil st (k x1 x2 x3 σ))
theorem wX2_cut_20_ok {ρ : Type} {Wt : Nat → sf_L → List Value → sf_S → Prop} {Post : ρ → Prop} (hm : sf_mono Wt) {q : Nat} {k : Int32 → Int32 → Int32 → sf_S → Option ρ} (h : ∀ (x1 : Int32) (x2 : Int32) (x3 : Int32) (σ : sf_S) (u : ρ), k x1 x2 x3 σ = some u → Post u → Wt 20 [(0, some (.ref q)), (1, some (.int x1)), (2, some (.int x2)), (3, some (.int x3))] [] σ) : sf_CK Wt Post 20 (wX2_cut_20 q k) := by
  intro L st σ u hf hp
  unfold wX2_cut_20 at hf
  have hf0 := hf
  obtain ⟨a0, e0, hf1⟩ := sf_lda_inv hf0
  obtain ⟨rfl, hf2⟩ := sf_eq_inv hf1
  obtain ⟨x1, e1, hf3⟩ := sf_ldi_inv hf2
  obtain ⟨x2, e2, hf4⟩ := sf_ldi_inv hf3
  obtain ⟨x3, e3, hf5⟩ := sf_ldi_inv hf4
  obtain ⟨rfl, hz⟩ := sf_nil_inv hf5
  exact hm _ [(0, some (.ref _)), (1, some (.int x1)), (2, some (.int x2)), (3, some (.int x3))] _ _ _ (sf_le_ok (And.intro e0 (And.intro e1 (And.intro e2 (And.intro e3 trivial))))) (h _ _ _ _ _ hz hp)
noncomputable def dX2_cut_20 (q : Nat) : Nat → Int32 → Int32 → Int32 → sf_S → Option sf_S
  | 0 => fun _ _ _ _ => none
  | n + 1 => fun x1 x2 x3 σ =>
    if (σ q 4) ≤ x3 then
      let s1 := sf_up σ q 4 ((σ q 4) - (x2 - x1))
      some s1
    else
      (dX2_moveNode q x3 ((x1 + x3) - x2) σ).bind fun u2 =>
      dX2_cut_20 q n x1 x2 (x3 + (1 : Int32)) u2
set_option maxRecDepth 100000 in
set_option maxHeartbeats 4000000 in
theorem rX2_cut_20 {Wt : Nat → sf_L → List Value → sf_S → Prop} {Post : sf_S → Prop} (hs : sf_Snd Wt sf_layC sf_hV jX2_cut tX2_cut Post) (hm : sf_mono Wt) {q : Nat} (hq : q = 1 ∨ q = 36) : ∀ n : Nat, sf_CK Wt Post 20 (wX2_cut_20 q (dX2_cut_20 q n)) := by
  intro n
  induction n with
  | zero => exact wX2_cut_20_ok hm (fun x1 x2 x3 σ u h _ => by simp [dX2_cut_20] at h)
  | succ n ih =>
    refine wX2_cut_20_ok hm ?_
    intro x1 x2 x3 σ u h hp
    rcases hq with rfl | rfl
    · exact sf_run_ok hs (sf_sm_cons ih sf_sm_nil) 40 20 _ _ σ u h hp
    · exact sf_run_ok hs (sf_sm_cons ih sf_sm_nil) 40 20 _ _ σ u h hp
noncomputable def dX2_cut (q : Nat) (x1 : Int32) (x2 : Int32) (σ : sf_S) : Option sf_S :=
  if x1 < 0 then
    some σ
  else
    if x2 < x1 then
      some σ
    else
      if x2 ≤ (σ q 4) then
        dX2_cut_20 q sf_F x1 x2 x2 σ
      else
        some σ
noncomputable abbrev gX2_cut (av : List Value) (σ : sf_S) : Option sf_S := match av with
  | [.ref q, .int x1, .int x2] => (match sf_rv [1, 36] q with | true => dX2_cut q x1 x2 σ | false => none)
  | _ => none
set_option maxRecDepth 100000 in
set_option maxHeartbeats 4000000 in
theorem rX2_cut {Wt : Nat → sf_L → List Value → sf_S → Prop} {Post : sf_S → Prop} (hs : sf_Snd Wt sf_layC sf_hV jX2_cut tX2_cut Post) (hm : sf_mono Wt) : ∀ av σ u, gX2_cut av σ = some u → Post u → (∀ ad, (lg_sl (av.map (sf_v ad))).length ≤ 4) ∧ Wt 0 (sf_ent 0 av) [] σ := by
  intro av σ u h hp
  unfold gX2_cut at h
  split at h
  · rename_i q x1 x2
    split at h
    · rename_i hq
      have hq : q = 1 ∨ q = 36 := by simpa using sf_rv_mem hq
      refine ⟨fun ad => Nat.le_of_ble_eq_true rfl, ?_⟩
      rcases hq with rfl | rfl
      · exact sf_run_ok hs (sf_sm_cons (rX2_cut_20 hs hm (Or.inl rfl) sf_F) sf_sm_nil) 40 0 _ _ σ u h hp
      · exact sf_run_ok hs (sf_sm_cons (rX2_cut_20 hs hm (Or.inr rfl) sf_F) sf_sm_nil) 40 0 _ _ σ u h hp
    · cases h
  · cases h
theorem kX2_cut (l : Launch) : sf_C l sf_layC yX2_cut cX2_cut 4 none (sf_rm 2 122) (fun av σ => (gX2_cut av σ).map sf_vV) :=
  sf_met (tab := tX2_cut) (J := jX2_cut) (fl := sf_fl2) (cl := sf_cl2) (by decide +kernel) ⟨rfl, rfl⟩ sf_RH_V (by decide +kernel) sf_fl2_ok sf_cl2_ok
    (sf_JO_cons (sf_je_V (n := 3) (cs := [2]) (tv := sf_vV) (kX2_moveNode l) mwX2_moveNode (by decide +kernel : decode cX2_cut 35 = .ok (.invokevirtual 65, 3)) wt_534 wt_536 wt_13 (by decide +kernel) (by decide) (by decide) (List.forall_mem_cons.mpr ⟨⟨_, _, rfl⟩, fun _ h => absurd h List.not_mem_nil⟩) (sf_RM_of (by omega) (by omega))) (sf_JO_nil))
    (fun Wt Post hs hm => rX2_cut hs hm)
-- ===== StreamFuser$Plan.makeNil(I)V =====
abbrev tX2_makeNil : List (Nat × sf_E) := [(0, (.aload_n 0, 1, 0, .null, [], [])), (1, (.iload_n 1, 2, 0, .null, [], [])), (2, (.invokevirtual 47, 5, 0, .null, [], [])), (5, (.ifCond .ne 4, 8, 9, .null, [], [])), (8, (.return_, 9, 0, .null, [], [])), (9, (.aload_n 0, 10, 0, .null, [], [])), (10, (.getfield 9, 13, 0, .null, [], [(2, 0)])), (13, (.iload_n 1, 14, 0, .null, [], [])), (14, (.bipush 114, 16, 0, .int (114), [], [])), (16, (.iastore, 17, 0, .null, [], [])), (17, (.aload_n 0, 18, 0, .null, [], [])), (18, (.getfield 15, 21, 0, .null, [], [(2, 1)])), (21, (.iload_n 1, 22, 0, .null, [], [])), (22, (.iconst (-1), 23, 0, .int (-1), [], [])), (23, (.iastore, 24, 0, .null, [], [])), (24, (.aload_n 0, 25, 0, .null, [], [])), (25, (.getfield 18, 28, 0, .null, [], [(2, 2)])), (28, (.iload_n 1, 29, 0, .null, [], [])), (29, (.iconst 0, 30, 0, .int (0), [], [])), (30, (.iastore, 31, 0, .null, [], [])), (31, (.aload_n 0, 32, 0, .null, [], [])), (32, (.getfield 21, 35, 0, .null, [], [(2, 3)])), (35, (.iload_n 1, 36, 0, .null, [], [])), (36, (.iconst 0, 37, 0, .int (0), [], [])), (37, (.iastore, 38, 0, .null, [], [])), (38, (.aload_n 0, 39, 0, .null, [], [])), (39, (.iload_n 1, 40, 0, .null, [], [])), (40, (.iconst 1, 41, 0, .int (1), [], [])), (41, (.iadd, 42, 0, .null, [], [])), (42, (.aload_n 0, 43, 0, .null, [], [])), (43, (.getfield 24, 46, 0, .null, [], [(2, 5)])), (46, (.iload_n 1, 47, 0, .null, [], [])), (47, (.iaload, 48, 0, .null, [], [])), (48, (.invokevirtual 69, 51, 0, .null, [], [])), (51, (.return_, 52, 0, .null, [], []))]
noncomputable abbrev jX2_makeNil : List (Nat × sf_J sf_S) := [(2, sf_jI sf_layC [2] 2 gX2_has), (48, sf_jV sf_layC [2] 3 gX2_cut)]
noncomputable def dX2_makeNil (q : Nat) (x1 : Int32) (σ : sf_S) : Option sf_S :=
  (dX2_has q x1 σ).bind fun u1 =>
  if ¬ u1.1 = 0 then
    if sf_in x1 40 then
      let s2 := sf_up u1.2 (q + 1) x1.toNatClampNeg (114 : Int32)
      if sf_in x1 40 then
        let s3 := sf_up s2 (q + 2) x1.toNatClampNeg (-1 : Int32)
        if sf_in x1 40 then
          let s4 := sf_up s3 (q + 3) x1.toNatClampNeg (0 : Int32)
          if sf_in x1 40 then
            let s5 := sf_up s4 (q + 4) x1.toNatClampNeg (0 : Int32)
            if sf_in x1 40 then
              (dX2_cut q (x1 + (1 : Int32)) (s5 (q + 5) x1.toNatClampNeg) s5).bind fun u6 =>
              some u6
            else
              none
          else
            none
        else
          none
      else
        none
    else
      none
  else
    some u1.2
noncomputable abbrev gX2_makeNil (av : List Value) (σ : sf_S) : Option sf_S := match av with
  | [.ref q, .int x1] => (match sf_rv [1, 36] q with | true => dX2_makeNil q x1 σ | false => none)
  | _ => none
set_option maxRecDepth 100000 in
set_option maxHeartbeats 4000000 in
theorem rX2_makeNil {Wt : Nat → sf_L → List Value → sf_S → Prop} {Post : sf_S → Prop} (hs : sf_Snd Wt sf_layC sf_hV jX2_makeNil tX2_makeNil Post) (hm : sf_mono Wt) : ∀ av σ u, gX2_makeNil av σ = some u → Post u → (∀ ad, (lg_sl (av.map (sf_v ad))).length ≤ 2) ∧ Wt 0 (sf_ent 0 av) [] σ := by
  intro av σ u h hp
  unfold gX2_makeNil at h
  split at h
  · rename_i q x1
    split at h
    · rename_i hq
      have hq : q = 1 ∨ q = 36 := by simpa using sf_rv_mem hq
      refine ⟨fun ad => Nat.le_of_ble_eq_true rfl, ?_⟩
      rcases hq with rfl | rfl
      · exact sf_run_ok hs sf_sm_nil 40 0 _ _ σ u h hp
      · exact sf_run_ok hs sf_sm_nil 40 0 _ _ σ u h hp
    · cases h
  · cases h
theorem kX2_makeNil (l : Launch) : sf_C l sf_layC yX2_makeNil cX2_makeNil 2 none (sf_rm 3 145) (fun av σ => (gX2_makeNil av σ).map sf_vV) :=
  sf_met (tab := tX2_makeNil) (J := jX2_makeNil) (fl := sf_fl2) (cl := sf_cl2) (by decide +kernel) ⟨rfl, rfl⟩ sf_RH_V (by decide +kernel) sf_fl2_ok sf_cl2_ok
    (sf_JO_cons (sf_je_V (n := 2) (cs := [2]) (tv := sf_vI) (kX2_has l) mwX2_has (by decide +kernel : decode cX2_makeNil 2 = .ok (.invokevirtual 47, 3)) wt_499 wt_470 wt_0 (by decide +kernel) (by decide) (by decide) (List.forall_mem_cons.mpr ⟨⟨_, _, rfl⟩, fun _ h => absurd h List.not_mem_nil⟩) (sf_RM_of (by omega) (by omega))) (sf_JO_cons (sf_je_V (n := 3) (cs := [2]) (tv := sf_vV) (kX2_cut l) mwX2_cut (by decide +kernel : decode cX2_makeNil 48 = .ok (.invokevirtual 69, 3)) wt_530 wt_532 wt_12 (by decide +kernel) (by decide) (by decide) (List.forall_mem_cons.mpr ⟨⟨_, _, rfl⟩, fun _ h => absurd h List.not_mem_nil⟩) (sf_RM_of (by omega) (by omega))) (sf_JO_nil)))
    (fun Wt Post hs hm => rX2_makeNil hs hm)
-- ===== StreamFuser$Plan.measureFromParts(I)V =====
abbrev tX2_measureFromParts : List (Nat × sf_E) := [(0, (.aload_n 0, 1, 0, .null, [], [])), (1, (.getfield 9, 4, 0, .null, [], [(2, 0)])), (4, (.iload_n 1, 5, 0, .null, [], [])), (5, (.iaload, 6, 0, .null, [], [])), (6, (.invokestatic 89, 9, 0, .null, [], [])), (9, (.istore_n 2, 10, 0, .null, [], [])), (10, (.iload_n 1, 11, 0, .null, [], [])), (11, (.iconst 1, 12, 0, .int (1), [], [])), (12, (.iadd, 13, 0, .null, [], [])), (13, (.istore_n 3, 14, 0, .null, [], [])), (14, (.aload_n 0, 15, 0, .null, [], [])), (15, (.getfield 9, 18, 0, .null, [], [(2, 0)])), (18, (.iload_n 1, 19, 0, .null, [], [])), (19, (.iaload, 20, 0, .null, [], [])), (20, (.bipush 47, 22, 0, .int (47), [], [])), (22, (.if_icmp .eq 29, 25, 51, .null, [], [])), (25, (.aload_n 0, 26, 0, .null, [], [])), (26, (.getfield 9, 29, 0, .null, [], [(2, 0)])), (29, (.iload_n 1, 30, 0, .null, [], [])), (30, (.iaload, 31, 0, .null, [], [])), (31, (.bipush 108, 33, 0, .int (108), [], [])), (33, (.if_icmp .eq 18, 36, 51, .null, [], [])), (36, (.aload_n 0, 37, 0, .null, [], [])), (37, (.getfield 9, 40, 0, .null, [], [(2, 0)])), (40, (.iload_n 1, 41, 0, .null, [], [])), (41, (.iaload, 42, 0, .null, [], [])), (42, (.bipush 115, 44, 0, .int (115), [], [])), (44, (.if_icmp .eq 7, 47, 51, .null, [], [])), (47, (.iconst 1, 48, 0, .int (1), [], [])), (48, (.goto 4, 51, 52, .null, [], [])), (51, (.iconst 0, 52, 0, .int (0), [], [])), (52, (.istore 4, 54, 0, .null, [], [])), (54, (.iconst 0, 55, 0, .int (0), [], [])), (55, (.istore 5, 57, 0, .null, [], [])), (57, (.iload 5, 59, 0, .null, [], [])), (59, (.iload_n 2, 60, 0, .null, [], [])), (60, (.if_icmp .ge 45, 63, 105, .null, [], [])), (63, (.iload_n 3, 64, 0, .null, [], [])), (64, (.aload_n 0, 65, 0, .null, [], [])), (65, (.getfield 44, 68, 0, .null, [], [(2, 4)])), (68, (.if_icmp .ge 37, 71, 105, .null, [], [])), (71, (.iload 4, 73, 0, .null, [], [])), (73, (.ifCond .eq 16, 76, 89, .null, [], [])), (76, (.aload_n 0, 77, 0, .null, [], [])), (77, (.getfield 36, 80, 0, .null, [], [(2, 9)])), (80, (.iload_n 3, 81, 0, .null, [], [])), (81, (.baload, 82, 0, .null, [], [])), (82, (.ifCond .eq 7, 85, 89, .null, [], [])), (85, (.iconst 1, 86, 0, .int (1), [], [])), (86, (.goto 4, 89, 90, .null, [], [])), (89, (.iconst 0, 90, 0, .int (0), [], [])), (90, (.istore 4, 92, 0, .null, [], [])), (92, (.aload_n 0, 93, 0, .null, [], [])), (93, (.getfield 24, 96, 0, .null, [], [(2, 5)])), (96, (.iload_n 3, 97, 0, .null, [], [])), (97, (.iaload, 98, 0, .null, [], [])), (98, (.istore_n 3, 99, 0, .null, [], [])), (99, (.iinc 5 1, 102, 0, .int (1), [], [])), (102, (.goto (-45), 105, 57, .null, [], [])), (105, (.aload_n 0, 106, 0, .null, [], [])), (106, (.getfield 24, 109, 0, .null, [], [(2, 5)])), (109, (.iload_n 1, 110, 0, .null, [], [])), (110, (.iload_n 3, 111, 0, .null, [], [])), (111, (.iastore, 112, 0, .null, [], [])), (112, (.aload_n 0, 113, 0, .null, [], [])), (113, (.getfield 36, 116, 0, .null, [], [(2, 9)])), (116, (.iload_n 1, 117, 0, .null, [], [])), (117, (.iload 4, 119, 0, .null, [], [])), (119, (.bastore, 120, 0, .null, [], [])), (120, (.return_, 121, 0, .null, [], []))]
noncomputable abbrev jX2_measureFromParts : List (Nat × sf_J sf_S) := [(6, sf_jI sf_layC [] 1 gX2_partsOf)]
abbrev wX2_measureFromParts_105 {ρ : Type} (q : Nat) (k : Int32 → Int32 → Int32 → sf_S → Option ρ) : sf_M ρ := fun L st σ => sf_lda L 0 fun a0 => sf_eq a0 q (sf_ldi L 1 fun x1 => sf_ldi L 3 fun x3 => sf_ldi L 4 fun x4 => sf_nil st (k x1 x3 x4 σ))
theorem wX2_measureFromParts_105_ok {ρ : Type} {Wt : Nat → sf_L → List Value → sf_S → Prop} {Post : ρ → Prop} (hm : sf_mono Wt) {q : Nat} {k : Int32 → Int32 → Int32 → sf_S → Option ρ} (h : ∀ (x1 : Int32) (x3 : Int32) (x4 : Int32) (σ : sf_S) (u : ρ), k x1 x3 x4 σ = some u → Post u → Wt 105 [(0, some (.ref q)), (1, some (.int x1)), (3, some (.int x3)), (4, some (.int x4))] [] σ) : sf_CK Wt Post 105 (wX2_measureFromParts_105 q k) := by
  intro L st σ u hf hp
  unfold wX2_measureFromParts_105 at hf
  have hf0 := hf
  obtain ⟨a0, e0, hf1⟩ := sf_lda_inv hf0
  obtain ⟨rfl, hf2⟩ := sf_eq_inv hf1
  obtain ⟨x1, e1, hf3⟩ := sf_ldi_inv hf2
  obtain ⟨x3, e3, hf4⟩ := sf_ldi_inv hf3
  obtain ⟨x4, e4, hf5⟩ := sf_ldi_inv hf4
  obtain ⟨rfl, hz⟩ := sf_nil_inv hf5
  exact hm _ [(0, some (.ref _)), (1, some (.int x1)), (3, some (.int x3)), (4, some (.int x4))] _ _ _ (sf_le_ok (And.intro e0 (And.intro e1 (And.intro e3 (And.intro e4 trivial))))) (h _ _ _ _ _ hz hp)
abbrev wX2_measureFromParts_89 {ρ : Type} (q : Nat) (k : Int32 → Int32 → Int32 → Int32 → sf_S → Option ρ) : sf_M ρ := fun L st σ => sf_lda L 0 fun a0 => sf_eq a0 q (sf_ldi L 1 fun x1 => sf_ldi L 2 fun x2 => sf_ldi L 3 fun x3 => sf_ldi L 5 fun x5 => sf_nil st (k x1 x2 x3 x5 σ))
theorem wX2_measureFromParts_89_ok {ρ : Type} {Wt : Nat → sf_L → List Value → sf_S → Prop} {Post : ρ → Prop} (hm : sf_mono Wt) {q : Nat} {k : Int32 → Int32 → Int32 → Int32 → sf_S → Option ρ} (h : ∀ (x1 : Int32) (x2 : Int32) (x3 : Int32) (x5 : Int32) (σ : sf_S) (u : ρ), k x1 x2 x3 x5 σ = some u → Post u → Wt 89 [(0, some (.ref q)), (1, some (.int x1)), (2, some (.int x2)), (3, some (.int x3)), (5, some (.int x5))] [] σ) : sf_CK Wt Post 89 (wX2_measureFromParts_89 q k) := by
  intro L st σ u hf hp
  unfold wX2_measureFromParts_89 at hf
  have hf0 := hf
  obtain ⟨a0, e0, hf1⟩ := sf_lda_inv hf0
  obtain ⟨rfl, hf2⟩ := sf_eq_inv hf1
  obtain ⟨x1, e1, hf3⟩ := sf_ldi_inv hf2
  obtain ⟨x2, e2, hf4⟩ := sf_ldi_inv hf3
  obtain ⟨x3, e3, hf5⟩ := sf_ldi_inv hf4
  obtain ⟨x5, e5, hf6⟩ := sf_ldi_inv hf5
  obtain ⟨rfl, hz⟩ := sf_nil_inv hf6
  exact hm _ [(0, some (.ref _)), (1, some (.int x1)), (2, some (.int x2)), (3, some (.int x3)), (5, some (.int x5))] _ _ _ (sf_le_ok (And.intro e0 (And.intro e1 (And.intro e2 (And.intro e3 (And.intro e5 trivial)))))) (h _ _ _ _ _ _ hz hp)
abbrev wX2_measureFromParts_57 {ρ : Type} (q : Nat) (k : Int32 → Int32 → Int32 → Int32 → Int32 → sf_S → Option ρ) : sf_M ρ := fun L st σ => sf_lda L 0 fun a0 => sf_eq a0 q (sf_ldi L 1 fun x1 => sf_ldi L 2 fun x2 => sf_ldi L 3 fun x3 => sf_ldi L 4 fun x4 => sf_ldi L 5 fun x5 => sf_nil st (k x1 x2 x3 x4 x5 σ))
theorem wX2_measureFromParts_57_ok {ρ : Type} {Wt : Nat → sf_L → List Value → sf_S → Prop} {Post : ρ → Prop} (hm : sf_mono Wt) {q : Nat} {k : Int32 → Int32 → Int32 → Int32 → Int32 → sf_S → Option ρ} (h : ∀ (x1 : Int32) (x2 : Int32) (x3 : Int32) (x4 : Int32) (x5 : Int32) (σ : sf_S) (u : ρ), k x1 x2 x3 x4 x5 σ = some u → Post u → Wt 57 [(0, some (.ref q)), (1, some (.int x1)), (2, some (.int x2)), (3, some (.int x3)), (4, some (.int x4)), (5, some (.int x5))] [] σ) : sf_CK Wt Post 57 (wX2_measureFromParts_57 q k) := by
  intro L st σ u hf hp
  unfold wX2_measureFromParts_57 at hf
  have hf0 := hf
  obtain ⟨a0, e0, hf1⟩ := sf_lda_inv hf0
  obtain ⟨rfl, hf2⟩ := sf_eq_inv hf1
  obtain ⟨x1, e1, hf3⟩ := sf_ldi_inv hf2
  obtain ⟨x2, e2, hf4⟩ := sf_ldi_inv hf3
  obtain ⟨x3, e3, hf5⟩ := sf_ldi_inv hf4
  obtain ⟨x4, e4, hf6⟩ := sf_ldi_inv hf5
  obtain ⟨x5, e5, hf7⟩ := sf_ldi_inv hf6
  obtain ⟨rfl, hz⟩ := sf_nil_inv hf7
  exact hm _ [(0, some (.ref _)), (1, some (.int x1)), (2, some (.int x2)), (3, some (.int x3)), (4, some (.int x4)), (5, some (.int x5))] _ _ _ (sf_le_ok (And.intro e0 (And.intro e1 (And.intro e2 (And.intro e3 (And.intro e4 (And.intro e5 trivial))))))) (h _ _ _ _ _ _ _ hz hp)
noncomputable def dX2_measureFromParts_105 (q : Nat) (x1 : Int32) (x3 : Int32) (x4 : Int32) (σ : sf_S) : Option sf_S :=
  if sf_in x1 40 then
    let s1 := sf_up σ (q + 5) x1.toNatClampNeg x3
    if sf_in x1 40 then
      let s2 := sf_up s1 (q + 9) x1.toNatClampNeg (vp_nar .boolean x4)
      some s2
    else
      none
  else
    none
set_option maxRecDepth 100000 in
set_option maxHeartbeats 4000000 in
theorem rX2_measureFromParts_105 {Wt : Nat → sf_L → List Value → sf_S → Prop} {Post : sf_S → Prop} (hs : sf_Snd Wt sf_layC sf_hV jX2_measureFromParts tX2_measureFromParts Post) (hm : sf_mono Wt) {q : Nat} (hq : q = 1 ∨ q = 36) : sf_CK Wt Post 105 (wX2_measureFromParts_105 q (dX2_measureFromParts_105 q)) := by
  refine wX2_measureFromParts_105_ok hm ?_
  intro x1 x3 x4 σ u h hp
  rcases hq with rfl | rfl
  · exact sf_run_ok hs sf_sm_nil 75 105 _ _ σ u h hp
  · exact sf_run_ok hs sf_sm_nil 75 105 _ _ σ u h hp
noncomputable def dX2_measureFromParts_89 (q : Nat) (K57 : Int32 → Int32 → Int32 → Int32 → Int32 → sf_S → Option sf_S) (x1 : Int32) (x2 : Int32) (x3 : Int32) (x5 : Int32) (σ : sf_S) : Option sf_S :=
  if sf_in x3 40 then
    let v1 := (σ (q + 5) x3.toNatClampNeg)
    K57 x1 x2 v1 (0 : Int32) (x5 + (1 : Int32)) σ
  else
    none
set_option maxRecDepth 100000 in
set_option maxHeartbeats 4000000 in
theorem rX2_measureFromParts_89 {Wt : Nat → sf_L → List Value → sf_S → Prop} {Post : sf_S → Prop} (hs : sf_Snd Wt sf_layC sf_hV jX2_measureFromParts tX2_measureFromParts Post) (hm : sf_mono Wt) {q : Nat} (hq : q = 1 ∨ q = 36) {K57 : Int32 → Int32 → Int32 → Int32 → Int32 → sf_S → Option sf_S} (hK57 : sf_CK Wt Post 57 (wX2_measureFromParts_57 q K57)) : sf_CK Wt Post 89 (wX2_measureFromParts_89 q (dX2_measureFromParts_89 q K57)) := by
  refine wX2_measureFromParts_89_ok hm ?_
  intro x1 x2 x3 x5 σ u h hp
  rcases hq with rfl | rfl
  · exact sf_run_ok hs (sf_sm_cons hK57 sf_sm_nil) 75 89 _ _ σ u h hp
  · exact sf_run_ok hs (sf_sm_cons hK57 sf_sm_nil) 75 89 _ _ σ u h hp
noncomputable def dX2_measureFromParts_57 (q : Nat) : Nat → Int32 → Int32 → Int32 → Int32 → Int32 → sf_S → Option sf_S
  | 0 => fun _ _ _ _ _ _ => none
  | n + 1 => fun x1 x2 x3 x4 x5 σ =>
    if x2 ≤ x5 then
      dX2_measureFromParts_105 q x1 x3 x4 σ
    else
      if (σ q 4) ≤ x3 then
        dX2_measureFromParts_105 q x1 x3 x4 σ
      else
        if x4 = 0 then
          dX2_measureFromParts_89 q (dX2_measureFromParts_57 q n) x1 x2 x3 x5 σ
        else
          if sf_in x3 40 then
            if (σ (q + 9) x3.toNatClampNeg) = 0 then
              dX2_measureFromParts_89 q (dX2_measureFromParts_57 q n) x1 x2 x3 x5 σ
            else
              if sf_in x3 40 then
                let v1 := (σ (q + 5) x3.toNatClampNeg)
                dX2_measureFromParts_57 q n x1 x2 v1 (1 : Int32) (x5 + (1 : Int32)) σ
              else
                none
          else
            none
set_option maxRecDepth 100000 in
set_option maxHeartbeats 4000000 in
theorem rX2_measureFromParts_57 {Wt : Nat → sf_L → List Value → sf_S → Prop} {Post : sf_S → Prop} (hs : sf_Snd Wt sf_layC sf_hV jX2_measureFromParts tX2_measureFromParts Post) (hm : sf_mono Wt) {q : Nat} (hq : q = 1 ∨ q = 36) : ∀ n : Nat, sf_CK Wt Post 57 (wX2_measureFromParts_57 q (dX2_measureFromParts_57 q n)) := by
  intro n
  induction n with
  | zero => exact wX2_measureFromParts_57_ok hm (fun x1 x2 x3 x4 x5 σ u h _ => by simp [dX2_measureFromParts_57] at h)
  | succ n ih =>
    refine wX2_measureFromParts_57_ok hm ?_
    intro x1 x2 x3 x4 x5 σ u h hp
    rcases hq with rfl | rfl
    · exact sf_run_ok hs (sf_sm_cons ih (sf_sm_cons (rX2_measureFromParts_89 hs hm (Or.inl rfl) ih) (sf_sm_cons (rX2_measureFromParts_105 hs hm (Or.inl rfl)) sf_sm_nil))) 75 57 _ _ σ u h hp
    · exact sf_run_ok hs (sf_sm_cons ih (sf_sm_cons (rX2_measureFromParts_89 hs hm (Or.inr rfl) ih) (sf_sm_cons (rX2_measureFromParts_105 hs hm (Or.inr rfl)) sf_sm_nil))) 75 57 _ _ σ u h hp
noncomputable def dX2_measureFromParts (q : Nat) (x1 : Int32) (σ : sf_S) : Option sf_S :=
  if sf_in x1 40 then
    (dX2_partsOf (σ (q + 1) x1.toNatClampNeg) σ).bind fun u1 =>
    if sf_in x1 40 then
      if (u1.2 (q + 1) x1.toNatClampNeg) = (47 : Int32) then
        dX2_measureFromParts_57 q sf_F x1 u1.1 (x1 + (1 : Int32)) (0 : Int32) (0 : Int32) u1.2
      else
        if sf_in x1 40 then
          if (u1.2 (q + 1) x1.toNatClampNeg) = (108 : Int32) then
            dX2_measureFromParts_57 q sf_F x1 u1.1 (x1 + (1 : Int32)) (0 : Int32) (0 : Int32) u1.2
          else
            if sf_in x1 40 then
              if (u1.2 (q + 1) x1.toNatClampNeg) = (115 : Int32) then
                dX2_measureFromParts_57 q sf_F x1 u1.1 (x1 + (1 : Int32)) (0 : Int32) (0 : Int32) u1.2
              else
                dX2_measureFromParts_57 q sf_F x1 u1.1 (x1 + (1 : Int32)) (1 : Int32) (0 : Int32) u1.2
            else
              none
        else
          none
    else
      none
  else
    none
noncomputable abbrev gX2_measureFromParts (av : List Value) (σ : sf_S) : Option sf_S := match av with
  | [.ref q, .int x1] => (match sf_rv [1, 36] q with | true => dX2_measureFromParts q x1 σ | false => none)
  | _ => none
set_option maxRecDepth 100000 in
set_option maxHeartbeats 4000000 in
theorem rX2_measureFromParts {Wt : Nat → sf_L → List Value → sf_S → Prop} {Post : sf_S → Prop} (hs : sf_Snd Wt sf_layC sf_hV jX2_measureFromParts tX2_measureFromParts Post) (hm : sf_mono Wt) : ∀ av σ u, gX2_measureFromParts av σ = some u → Post u → (∀ ad, (lg_sl (av.map (sf_v ad))).length ≤ 6) ∧ Wt 0 (sf_ent 0 av) [] σ := by
  intro av σ u h hp
  unfold gX2_measureFromParts at h
  split at h
  · rename_i q x1
    split at h
    · rename_i hq
      have hq : q = 1 ∨ q = 36 := by simpa using sf_rv_mem hq
      refine ⟨fun ad => Nat.le_of_ble_eq_true rfl, ?_⟩
      rcases hq with rfl | rfl
      · exact sf_run_ok hs (sf_sm_cons (rX2_measureFromParts_57 hs hm (Or.inl rfl) sf_F) sf_sm_nil) 75 0 _ _ σ u h hp
      · exact sf_run_ok hs (sf_sm_cons (rX2_measureFromParts_57 hs hm (Or.inr rfl) sf_F) sf_sm_nil) 75 0 _ _ σ u h hp
    · cases h
  · cases h
theorem kX2_measureFromParts (l : Launch) : sf_C l sf_layC yX2_measureFromParts cX2_measureFromParts 6 none (sf_rm 2 120) (fun av σ => (gX2_measureFromParts av σ).map sf_vV) :=
  sf_met (tab := tX2_measureFromParts) (J := jX2_measureFromParts) (fl := sf_fl2) (cl := sf_cl2) (by decide +kernel) ⟨rfl, rfl⟩ sf_RH_V (by decide +kernel) sf_fl2_ok sf_cl2_ok
    (sf_JO_cons (sf_je_S (n := 1) (tv := sf_vI) (kX2_partsOf l) mwX2_partsOf (by decide +kernel : decode cX2_measureFromParts 6 = .ok (.invokestatic 89, 3)) wt_569 wt_570 (by decide +kernel) (sf_RM_of (by omega) (by omega))) (sf_JO_nil))
    (fun Wt Post hs hm => rX2_measureFromParts hs hm)
-- ===== StreamFuser$Plan.measureParts(I)V =====
abbrev tX2_measureParts : List (Nat × sf_E) := [(0, (.aload_n 0, 1, 0, .null, [], [])), (1, (.getfield 9, 4, 0, .null, [], [(2, 0)])), (4, (.iload_n 1, 5, 0, .null, [], [])), (5, (.iaload, 6, 0, .null, [], [])), (6, (.invokestatic 89, 9, 0, .null, [], [])), (9, (.istore_n 2, 10, 0, .null, [], [])), (10, (.iload_n 1, 11, 0, .null, [], [])), (11, (.iconst 1, 12, 0, .int (1), [], [])), (12, (.iadd, 13, 0, .null, [], [])), (13, (.istore_n 3, 14, 0, .null, [], [])), (14, (.iconst 0, 15, 0, .int (0), [], [])), (15, (.istore 4, 17, 0, .null, [], [])), (17, (.iload 4, 19, 0, .null, [], [])), (19, (.iload_n 2, 20, 0, .null, [], [])), (20, (.if_icmp .ge 110, 23, 130, .null, [], [])), (23, (.iload_n 3, 24, 0, .null, [], [])), (24, (.aload_n 0, 25, 0, .null, [], [])), (25, (.getfield 44, 28, 0, .null, [], [(2, 4)])), (28, (.if_icmp .ge 102, 31, 130, .null, [], [])), (31, (.aload_n 0, 32, 0, .null, [], [])), (32, (.getfield 9, 35, 0, .null, [], [(2, 0)])), (35, (.iload_n 1, 36, 0, .null, [], [])), (36, (.iaload, 37, 0, .null, [], [])), (37, (.bipush 120, 39, 0, .int (120), [], [])), (39, (.if_icmp .ne 12, 42, 51, .null, [], [])), (42, (.iload 4, 44, 0, .null, [], [])), (44, (.ifCond .ne 7, 47, 51, .null, [], [])), (47, (.iconst 1, 48, 0, .int (1), [], [])), (48, (.goto 4, 51, 52, .null, [], [])), (51, (.iconst 0, 52, 0, .int (0), [], [])), (52, (.istore 5, 54, 0, .null, [], [])), (54, (.aload_n 0, 55, 0, .null, [], [])), (55, (.getfield 27, 58, 0, .null, [], [(2, 6)])), (58, (.iload_n 3, 59, 0, .null, [], [])), (59, (.aload_n 0, 60, 0, .null, [], [])), (60, (.getfield 27, 63, 0, .null, [], [(2, 6)])), (63, (.iload_n 1, 64, 0, .null, [], [])), (64, (.iaload, 65, 0, .null, [], [])), (65, (.iconst 1, 66, 0, .int (1), [], [])), (66, (.iadd, 67, 0, .null, [], [])), (67, (.iastore, 68, 0, .null, [], [])), (68, (.aload_n 0, 69, 0, .null, [], [])), (69, (.getfield 30, 72, 0, .null, [], [(2, 7)])), (72, (.iload_n 3, 73, 0, .null, [], [])), (73, (.iload 5, 75, 0, .null, [], [])), (75, (.ifCond .eq 14, 78, 89, .null, [], [])), (78, (.aload_n 0, 79, 0, .null, [], [])), (79, (.getfield 30, 82, 0, .null, [], [(2, 7)])), (82, (.iload_n 1, 83, 0, .null, [], [])), (83, (.iaload, 84, 0, .null, [], [])), (84, (.iconst 1, 85, 0, .int (1), [], [])), (85, (.iadd, 86, 0, .null, [], [])), (86, (.goto 9, 89, 95, .null, [], [])), (89, (.aload_n 0, 90, 0, .null, [], [])), (90, (.getfield 30, 93, 0, .null, [], [(2, 7)])), (93, (.iload_n 1, 94, 0, .null, [], [])), (94, (.iaload, 95, 0, .null, [], [])), (95, (.iastore, 96, 0, .null, [], [])), (96, (.aload_n 0, 97, 0, .null, [], [])), (97, (.getfield 33, 100, 0, .null, [], [(2, 8)])), (100, (.iload_n 3, 101, 0, .null, [], [])), (101, (.iload 5, 103, 0, .null, [], [])), (103, (.ifCond .eq 7, 106, 110, .null, [], [])), (106, (.iload_n 1, 107, 0, .null, [], [])), (107, (.goto 9, 110, 116, .null, [], [])), (110, (.aload_n 0, 111, 0, .null, [], [])), (111, (.getfield 33, 114, 0, .null, [], [(2, 8)])), (114, (.iload_n 1, 115, 0, .null, [], [])), (115, (.iaload, 116, 0, .null, [], [])), (116, (.iastore, 117, 0, .null, [], [])), (117, (.aload_n 0, 118, 0, .null, [], [])), (118, (.getfield 24, 121, 0, .null, [], [(2, 5)])), (121, (.iload_n 3, 122, 0, .null, [], [])), (122, (.iaload, 123, 0, .null, [], [])), (123, (.istore_n 3, 124, 0, .null, [], [])), (124, (.iinc 4 1, 127, 0, .int (1), [], [])), (127, (.goto (-110), 130, 17, .null, [], [])), (130, (.return_, 131, 0, .null, [], []))]
noncomputable abbrev jX2_measureParts : List (Nat × sf_J sf_S) := [(6, sf_jI sf_layC [] 1 gX2_partsOf)]
abbrev wX2_measureParts_95 {ρ : Type} (q : Nat) (k : Int32 → Int32 → Int32 → Int32 → Int32 → Int32 → Int32 → sf_S → Option ρ) : sf_M ρ := fun L st σ => sf_lda L 0 fun a0 => sf_eq a0 q (sf_ldi L 1 fun x1 => sf_ldi L 2 fun x2 => sf_ldi L 3 fun x3 => sf_ldi L 4 fun x4 => sf_ldi L 5 fun x5 => sf_i1 st fun y0 st => sf_i1 st fun y1 st => sf_a1 st fun b2 st => sf_eq b2 (q + 7) (sf_nil st (k x1 x2 x3 x4 x5 y0 y1 σ)))
theorem wX2_measureParts_95_ok {ρ : Type} {Wt : Nat → sf_L → List Value → sf_S → Prop} {Post : ρ → Prop} (hm : sf_mono Wt) {q : Nat} {k : Int32 → Int32 → Int32 → Int32 → Int32 → Int32 → Int32 → sf_S → Option ρ} (h : ∀ (x1 : Int32) (x2 : Int32) (x3 : Int32) (x4 : Int32) (x5 : Int32) (y0 : Int32) (y1 : Int32) (σ : sf_S) (u : ρ), k x1 x2 x3 x4 x5 y0 y1 σ = some u → Post u → Wt 95 [(0, some (.ref q)), (1, some (.int x1)), (2, some (.int x2)), (3, some (.int x3)), (4, some (.int x4)), (5, some (.int x5))] [.int y0, .int y1, .ref (q + 7)] σ) : sf_CK Wt Post 95 (wX2_measureParts_95 q k) := by
  intro L st σ u hf hp
  unfold wX2_measureParts_95 at hf
  have hf0 := hf
  obtain ⟨a0, e0, hf1⟩ := sf_lda_inv hf0
  obtain ⟨rfl, hf2⟩ := sf_eq_inv hf1
  obtain ⟨x1, e1, hf3⟩ := sf_ldi_inv hf2
  obtain ⟨x2, e2, hf4⟩ := sf_ldi_inv hf3
  obtain ⟨x3, e3, hf5⟩ := sf_ldi_inv hf4
  obtain ⟨x4, e4, hf6⟩ := sf_ldi_inv hf5
  obtain ⟨x5, e5, hf7⟩ := sf_ldi_inv hf6
  obtain ⟨y0, st, rfl, hf8⟩ := sf_i1_inv hf7
  obtain ⟨y1, st, rfl, hf9⟩ := sf_i1_inv hf8
  obtain ⟨b2, st, rfl, hf10⟩ := sf_a1_inv hf9
  obtain ⟨rfl, hf11⟩ := sf_eq_inv hf10
  obtain ⟨rfl, hz⟩ := sf_nil_inv hf11
  exact hm _ [(0, some (.ref _)), (1, some (.int x1)), (2, some (.int x2)), (3, some (.int x3)), (4, some (.int x4)), (5, some (.int x5))] _ _ _ (sf_le_ok (And.intro e0 (And.intro e1 (And.intro e2 (And.intro e3 (And.intro e4 (And.intro e5 trivial))))))) (h _ _ _ _ _ _ _ _ _ hz hp)
abbrev wX2_measureParts_52 {ρ : Type} (q : Nat) (k : Int32 → Int32 → Int32 → Int32 → Int32 → sf_S → Option ρ) : sf_M ρ := fun L st σ => sf_lda L 0 fun a0 => sf_eq a0 q (sf_ldi L 1 fun x1 => sf_ldi L 2 fun x2 => sf_ldi L 3 fun x3 => sf_ldi L 4 fun x4 => sf_i1 st fun y0 st => sf_nil st (k x1 x2 x3 x4 y0 σ))
theorem wX2_measureParts_52_ok {ρ : Type} {Wt : Nat → sf_L → List Value → sf_S → Prop} {Post : ρ → Prop} (hm : sf_mono Wt) {q : Nat} {k : Int32 → Int32 → Int32 → Int32 → Int32 → sf_S → Option ρ} (h : ∀ (x1 : Int32) (x2 : Int32) (x3 : Int32) (x4 : Int32) (y0 : Int32) (σ : sf_S) (u : ρ), k x1 x2 x3 x4 y0 σ = some u → Post u → Wt 52 [(0, some (.ref q)), (1, some (.int x1)), (2, some (.int x2)), (3, some (.int x3)), (4, some (.int x4))] [.int y0] σ) : sf_CK Wt Post 52 (wX2_measureParts_52 q k) := by
  intro L st σ u hf hp
  unfold wX2_measureParts_52 at hf
  have hf0 := hf
  obtain ⟨a0, e0, hf1⟩ := sf_lda_inv hf0
  obtain ⟨rfl, hf2⟩ := sf_eq_inv hf1
  obtain ⟨x1, e1, hf3⟩ := sf_ldi_inv hf2
  obtain ⟨x2, e2, hf4⟩ := sf_ldi_inv hf3
  obtain ⟨x3, e3, hf5⟩ := sf_ldi_inv hf4
  obtain ⟨x4, e4, hf6⟩ := sf_ldi_inv hf5
  obtain ⟨y0, st, rfl, hf7⟩ := sf_i1_inv hf6
  obtain ⟨rfl, hz⟩ := sf_nil_inv hf7
  exact hm _ [(0, some (.ref _)), (1, some (.int x1)), (2, some (.int x2)), (3, some (.int x3)), (4, some (.int x4))] _ _ _ (sf_le_ok (And.intro e0 (And.intro e1 (And.intro e2 (And.intro e3 (And.intro e4 trivial)))))) (h _ _ _ _ _ _ _ hz hp)
abbrev wX2_measureParts_17 {ρ : Type} (q : Nat) (k : Int32 → Int32 → Int32 → Int32 → sf_S → Option ρ) : sf_M ρ := fun L st σ => sf_lda L 0 fun a0 => sf_eq a0 q (sf_ldi L 1 fun x1 => sf_ldi L 2 fun x2 => sf_ldi L 3 fun x3 => sf_ldi L 4 fun x4 => sf_nil st (k x1 x2 x3 x4 σ))
theorem wX2_measureParts_17_ok {ρ : Type} {Wt : Nat → sf_L → List Value → sf_S → Prop} {Post : ρ → Prop} (hm : sf_mono Wt) {q : Nat} {k : Int32 → Int32 → Int32 → Int32 → sf_S → Option ρ} (h : ∀ (x1 : Int32) (x2 : Int32) (x3 : Int32) (x4 : Int32) (σ : sf_S) (u : ρ), k x1 x2 x3 x4 σ = some u → Post u → Wt 17 [(0, some (.ref q)), (1, some (.int x1)), (2, some (.int x2)), (3, some (.int x3)), (4, some (.int x4))] [] σ) : sf_CK Wt Post 17 (wX2_measureParts_17 q k) := by
  intro L st σ u hf hp
  unfold wX2_measureParts_17 at hf
  have hf0 := hf
  obtain ⟨a0, e0, hf1⟩ := sf_lda_inv hf0
  obtain ⟨rfl, hf2⟩ := sf_eq_inv hf1
  obtain ⟨x1, e1, hf3⟩ := sf_ldi_inv hf2
  obtain ⟨x2, e2, hf4⟩ := sf_ldi_inv hf3
  obtain ⟨x3, e3, hf5⟩ := sf_ldi_inv hf4
  obtain ⟨x4, e4, hf6⟩ := sf_ldi_inv hf5
  obtain ⟨rfl, hz⟩ := sf_nil_inv hf6
  exact hm _ [(0, some (.ref _)), (1, some (.int x1)), (2, some (.int x2)), (3, some (.int x3)), (4, some (.int x4))] _ _ _ (sf_le_ok (And.intro e0 (And.intro e1 (And.intro e2 (And.intro e3 (And.intro e4 trivial)))))) (h _ _ _ _ _ _ hz hp)
noncomputable def dX2_measureParts_95 (q : Nat) (K17 : Int32 → Int32 → Int32 → Int32 → sf_S → Option sf_S) (x1 : Int32) (x2 : Int32) (x3 : Int32) (x4 : Int32) (x5 : Int32) (y0 : Int32) (y1 : Int32) (σ : sf_S) : Option sf_S :=
  if sf_in y1 40 then
    let s1 := sf_up σ (q + 7) y1.toNatClampNeg y0
    if x5 = 0 then
      if sf_in x1 40 then
        if sf_in x3 40 then
          let s2 := sf_up s1 (q + 8) x3.toNatClampNeg (s1 (q + 8) x1.toNatClampNeg)
          if sf_in x3 40 then
            let v3 := (s2 (q + 5) x3.toNatClampNeg)
            K17 x1 x2 v3 (x4 + (1 : Int32)) s2
          else
            none
        else
          none
      else
        none
    else
      if sf_in x3 40 then
        let s4 := sf_up s1 (q + 8) x3.toNatClampNeg x1
        if sf_in x3 40 then
          let v5 := (s4 (q + 5) x3.toNatClampNeg)
          K17 x1 x2 v5 (x4 + (1 : Int32)) s4
        else
          none
      else
        none
  else
    none
set_option maxRecDepth 100000 in
set_option maxHeartbeats 4000000 in
theorem rX2_measureParts_95 {Wt : Nat → sf_L → List Value → sf_S → Prop} {Post : sf_S → Prop} (hs : sf_Snd Wt sf_layC sf_hV jX2_measureParts tX2_measureParts Post) (hm : sf_mono Wt) {q : Nat} (hq : q = 1 ∨ q = 36) {K17 : Int32 → Int32 → Int32 → Int32 → sf_S → Option sf_S} (hK17 : sf_CK Wt Post 17 (wX2_measureParts_17 q K17)) : sf_CK Wt Post 95 (wX2_measureParts_95 q (dX2_measureParts_95 q K17)) := by
  refine wX2_measureParts_95_ok hm ?_
  intro x1 x2 x3 x4 x5 y0 y1 σ u h hp
  rcases hq with rfl | rfl
  · exact sf_run_ok hs (sf_sm_cons hK17 sf_sm_nil) 83 95 _ _ σ u h hp
  · exact sf_run_ok hs (sf_sm_cons hK17 sf_sm_nil) 83 95 _ _ σ u h hp
noncomputable def dX2_measureParts_52 (q : Nat) (K17 : Int32 → Int32 → Int32 → Int32 → sf_S → Option sf_S) (x1 : Int32) (x2 : Int32) (x3 : Int32) (x4 : Int32) (y0 : Int32) (σ : sf_S) : Option sf_S :=
  if sf_in x1 40 then
    if sf_in x3 40 then
      let s1 := sf_up σ (q + 6) x3.toNatClampNeg ((σ (q + 6) x1.toNatClampNeg) + (1 : Int32))
      if y0 = 0 then
        if sf_in x1 40 then
          dX2_measureParts_95 q K17 x1 x2 x3 x4 y0 (s1 (q + 7) x1.toNatClampNeg) x3 s1
        else
          none
      else
        if sf_in x1 40 then
          dX2_measureParts_95 q K17 x1 x2 x3 x4 y0 ((s1 (q + 7) x1.toNatClampNeg) + (1 : Int32)) x3 s1
        else
          none
    else
      none
  else
    none
set_option maxRecDepth 100000 in
set_option maxHeartbeats 4000000 in
theorem rX2_measureParts_52 {Wt : Nat → sf_L → List Value → sf_S → Prop} {Post : sf_S → Prop} (hs : sf_Snd Wt sf_layC sf_hV jX2_measureParts tX2_measureParts Post) (hm : sf_mono Wt) {q : Nat} (hq : q = 1 ∨ q = 36) {K17 : Int32 → Int32 → Int32 → Int32 → sf_S → Option sf_S} (hK17 : sf_CK Wt Post 17 (wX2_measureParts_17 q K17)) : sf_CK Wt Post 52 (wX2_measureParts_52 q (dX2_measureParts_52 q K17)) := by
  refine wX2_measureParts_52_ok hm ?_
  intro x1 x2 x3 x4 y0 σ u h hp
  rcases hq with rfl | rfl
  · exact sf_run_ok hs (sf_sm_cons (rX2_measureParts_95 hs hm (Or.inl rfl) hK17) sf_sm_nil) 83 52 _ _ σ u h hp
  · exact sf_run_ok hs (sf_sm_cons (rX2_measureParts_95 hs hm (Or.inr rfl) hK17) sf_sm_nil) 83 52 _ _ σ u h hp
noncomputable def dX2_measureParts_17 (q : Nat) : Nat → Int32 → Int32 → Int32 → Int32 → sf_S → Option sf_S
  | 0 => fun _ _ _ _ _ => none
  | n + 1 => fun x1 x2 x3 x4 σ =>
    if x2 ≤ x4 then
      some σ
    else
      if (σ q 4) ≤ x3 then
        some σ
      else
        if sf_in x1 40 then
          if ¬ (σ (q + 1) x1.toNatClampNeg) = (120 : Int32) then
            dX2_measureParts_52 q (dX2_measureParts_17 q n) x1 x2 x3 x4 (0 : Int32) σ
          else
            if ¬ x4 = 0 then
              dX2_measureParts_52 q (dX2_measureParts_17 q n) x1 x2 x3 x4 (0 : Int32) σ
            else
              dX2_measureParts_52 q (dX2_measureParts_17 q n) x1 x2 x3 x4 (1 : Int32) σ
        else
          none
set_option maxRecDepth 100000 in
set_option maxHeartbeats 4000000 in
theorem rX2_measureParts_17 {Wt : Nat → sf_L → List Value → sf_S → Prop} {Post : sf_S → Prop} (hs : sf_Snd Wt sf_layC sf_hV jX2_measureParts tX2_measureParts Post) (hm : sf_mono Wt) {q : Nat} (hq : q = 1 ∨ q = 36) : ∀ n : Nat, sf_CK Wt Post 17 (wX2_measureParts_17 q (dX2_measureParts_17 q n)) := by
  intro n
  induction n with
  | zero => exact wX2_measureParts_17_ok hm (fun x1 x2 x3 x4 σ u h _ => by simp [dX2_measureParts_17] at h)
  | succ n ih =>
    refine wX2_measureParts_17_ok hm ?_
    intro x1 x2 x3 x4 σ u h hp
    rcases hq with rfl | rfl
    · exact sf_run_ok hs (sf_sm_cons (rX2_measureParts_52 hs hm (Or.inl rfl) ih) sf_sm_nil) 83 17 _ _ σ u h hp
    · exact sf_run_ok hs (sf_sm_cons (rX2_measureParts_52 hs hm (Or.inr rfl) ih) sf_sm_nil) 83 17 _ _ σ u h hp
noncomputable def dX2_measureParts (q : Nat) (x1 : Int32) (σ : sf_S) : Option sf_S :=
  if sf_in x1 40 then
    (dX2_partsOf (σ (q + 1) x1.toNatClampNeg) σ).bind fun u1 =>
    dX2_measureParts_17 q sf_F x1 u1.1 (x1 + (1 : Int32)) (0 : Int32) u1.2
  else
    none
noncomputable abbrev gX2_measureParts (av : List Value) (σ : sf_S) : Option sf_S := match av with
  | [.ref q, .int x1] => (match sf_rv [1, 36] q with | true => dX2_measureParts q x1 σ | false => none)
  | _ => none
set_option maxRecDepth 100000 in
set_option maxHeartbeats 4000000 in
theorem rX2_measureParts {Wt : Nat → sf_L → List Value → sf_S → Prop} {Post : sf_S → Prop} (hs : sf_Snd Wt sf_layC sf_hV jX2_measureParts tX2_measureParts Post) (hm : sf_mono Wt) : ∀ av σ u, gX2_measureParts av σ = some u → Post u → (∀ ad, (lg_sl (av.map (sf_v ad))).length ≤ 6) ∧ Wt 0 (sf_ent 0 av) [] σ := by
  intro av σ u h hp
  unfold gX2_measureParts at h
  split at h
  · rename_i q x1
    split at h
    · rename_i hq
      have hq : q = 1 ∨ q = 36 := by simpa using sf_rv_mem hq
      refine ⟨fun ad => Nat.le_of_ble_eq_true rfl, ?_⟩
      rcases hq with rfl | rfl
      · exact sf_run_ok hs (sf_sm_cons (rX2_measureParts_17 hs hm (Or.inl rfl) sf_F) sf_sm_nil) 83 0 _ _ σ u h hp
      · exact sf_run_ok hs (sf_sm_cons (rX2_measureParts_17 hs hm (Or.inr rfl) sf_F) sf_sm_nil) 83 0 _ _ σ u h hp
    · cases h
  · cases h
theorem kX2_measureParts (l : Launch) : sf_C l sf_layC yX2_measureParts cX2_measureParts 6 none (sf_rm 2 120) (fun av σ => (gX2_measureParts av σ).map sf_vV) :=
  sf_met (tab := tX2_measureParts) (J := jX2_measureParts) (fl := sf_fl2) (cl := sf_cl2) (by decide +kernel) ⟨rfl, rfl⟩ sf_RH_V (by decide +kernel) sf_fl2_ok sf_cl2_ok
    (sf_JO_cons (sf_je_S (n := 1) (tv := sf_vI) (kX2_partsOf l) mwX2_partsOf (by decide +kernel : decode cX2_measureParts 6 = .ok (.invokestatic 89, 3)) wt_569 wt_570 (by decide +kernel) (sf_RM_of (by omega) (by omega))) (sf_JO_nil))
    (fun Wt Post hs hm => rX2_measureParts hs hm)
-- ===== StreamFuser$Plan.measure()V =====
abbrev tX2_measure : List (Nat × sf_E) := [(0, (.aload_n 0, 1, 0, .null, [], [])), (1, (.getfield 44, 4, 0, .null, [], [(2, 4)])), (4, (.iconst 1, 5, 0, .int (1), [], [])), (5, (.isub, 6, 0, .null, [], [])), (6, (.istore_n 1, 7, 0, .null, [], [])), (7, (.iload_n 1, 8, 0, .null, [], [])), (8, (.ifCond .lt 14, 11, 22, .null, [], [])), (11, (.aload_n 0, 12, 0, .null, [], [])), (12, (.iload_n 1, 13, 0, .null, [], [])), (13, (.invokevirtual 72, 16, 0, .null, [], [])), (16, (.iinc 1 (-1), 19, 0, .int (-1), [], [])), (19, (.goto (-12), 22, 7, .null, [], [])), (22, (.aload_n 0, 23, 0, .null, [], [])), (23, (.iconst (-1), 24, 0, .int (-1), [], [])), (24, (.putfield 40, 27, 0, .null, [], [(2, 10)])), (27, (.aload_n 0, 28, 0, .null, [], [])), (28, (.iconst 0, 29, 0, .int (0), [], [])), (29, (.putfield 76, 32, 0, .int 0, [], [(2, 11)])), (32, (.aload_n 0, 33, 0, .null, [], [])), (33, (.getfield 44, 36, 0, .null, [], [(2, 4)])), (36, (.ifCond .le 24, 39, 60, .null, [], [])), (39, (.aload_n 0, 40, 0, .null, [], [])), (40, (.getfield 27, 43, 0, .null, [], [(2, 6)])), (43, (.iconst 0, 44, 0, .int (0), [], [])), (44, (.iconst 0, 45, 0, .int (0), [], [])), (45, (.iastore, 46, 0, .null, [], [])), (46, (.aload_n 0, 47, 0, .null, [], [])), (47, (.getfield 30, 50, 0, .null, [], [(2, 7)])), (50, (.iconst 0, 51, 0, .int (0), [], [])), (51, (.iconst 0, 52, 0, .int (0), [], [])), (52, (.iastore, 53, 0, .null, [], [])), (53, (.aload_n 0, 54, 0, .null, [], [])), (54, (.getfield 33, 57, 0, .null, [], [(2, 8)])), (57, (.iconst 0, 58, 0, .int (0), [], [])), (58, (.iconst (-1), 59, 0, .int (-1), [], [])), (59, (.iastore, 60, 0, .null, [], [])), (60, (.iconst 0, 61, 0, .int (0), [], [])), (61, (.istore_n 1, 62, 0, .null, [], [])), (62, (.iload_n 1, 63, 0, .null, [], [])), (63, (.aload_n 0, 64, 0, .null, [], [])), (64, (.getfield 44, 67, 0, .null, [], [(2, 4)])), (67, (.if_icmp .ge 47, 70, 114, .null, [], [])), (70, (.aload_n 0, 71, 0, .null, [], [])), (71, (.iload_n 1, 72, 0, .null, [], [])), (72, (.invokevirtual 80, 75, 0, .null, [], [])), (75, (.aload_n 0, 76, 0, .null, [], [])), (76, (.aload_n 0, 77, 0, .null, [], [])), (77, (.getfield 40, 80, 0, .null, [], [(2, 10)])), (80, (.aload_n 0, 81, 0, .null, [], [])), (81, (.getfield 27, 84, 0, .null, [], [(2, 6)])), (84, (.iload_n 1, 85, 0, .null, [], [])), (85, (.iaload, 86, 0, .null, [], [])), (86, (.invokestatic 83, 89, 0, .null, [], [])), (89, (.putfield 40, 92, 0, .null, [], [(2, 10)])), (92, (.aload_n 0, 93, 0, .null, [], [])), (93, (.getfield 9, 96, 0, .null, [], [(2, 0)])), (96, (.iload_n 1, 97, 0, .null, [], [])), (97, (.iaload, 98, 0, .null, [], [])), (98, (.bipush 105, 100, 0, .int (105), [], [])), (100, (.if_icmp .ne 8, 103, 108, .null, [], [])), (103, (.aload_n 0, 104, 0, .null, [], [])), (104, (.iconst 1, 105, 0, .int (1), [], [])), (105, (.putfield 76, 108, 0, .int 0, [], [(2, 11)])), (108, (.iinc 1 1, 111, 0, .int (1), [], [])), (111, (.goto (-49), 114, 62, .null, [], [])), (114, (.return_, 115, 0, .null, [], []))]
noncomputable abbrev jX2_measure : List (Nat × sf_J sf_S) := [(13, sf_jV sf_layC [2] 2 gX2_measureFromParts), (72, sf_jV sf_layC [2] 2 gX2_measureParts), (86, sf_jmax)]
abbrev wX2_measure_62 {ρ : Type} (q : Nat) (k : Int32 → sf_S → Option ρ) : sf_M ρ := fun L st σ => sf_lda L 0 fun a0 => sf_eq a0 q (sf_ldi L 1 fun x1 => sf_nil st (k x1 σ))
theorem wX2_measure_62_ok {ρ : Type} {Wt : Nat → sf_L → List Value → sf_S → Prop} {Post : ρ → Prop} (hm : sf_mono Wt) {q : Nat} {k : Int32 → sf_S → Option ρ} (h : ∀ (x1 : Int32) (σ : sf_S) (u : ρ), k x1 σ = some u → Post u → Wt 62 [(0, some (.ref q)), (1, some (.int x1))] [] σ) : sf_CK Wt Post 62 (wX2_measure_62 q k) := by
  intro L st σ u hf hp
  unfold wX2_measure_62 at hf
  have hf0 := hf
  obtain ⟨a0, e0, hf1⟩ := sf_lda_inv hf0
  obtain ⟨rfl, hf2⟩ := sf_eq_inv hf1
  obtain ⟨x1, e1, hf3⟩ := sf_ldi_inv hf2
  obtain ⟨rfl, hz⟩ := sf_nil_inv hf3
  exact hm _ [(0, some (.ref _)), (1, some (.int x1))] _ _ _ (sf_le_ok (And.intro e0 (And.intro e1 trivial))) (h _ _ _ hz hp)
abbrev wX2_measure_7 {ρ : Type} (q : Nat) (k : Int32 → sf_S → Option ρ) : sf_M ρ := fun L st σ => sf_lda L 0 fun a0 => sf_eq a0 q (sf_ldi L 1 fun x1 => sf_nil st (k x1 σ))
theorem wX2_measure_7_ok {ρ : Type} {Wt : Nat → sf_L → List Value → sf_S → Prop} {Post : ρ → Prop} (hm : sf_mono Wt) {q : Nat} {k : Int32 → sf_S → Option ρ} (h : ∀ (x1 : Int32) (σ : sf_S) (u : ρ), k x1 σ = some u → Post u → Wt 7 [(0, some (.ref q)), (1, some (.int x1))] [] σ) : sf_CK Wt Post 7 (wX2_measure_7 q k) := by
  intro L st σ u hf hp
  unfold wX2_measure_7 at hf
  have hf0 := hf
  obtain ⟨a0, e0, hf1⟩ := sf_lda_inv hf0
  obtain ⟨rfl, hf2⟩ := sf_eq_inv hf1
  obtain ⟨x1, e1, hf3⟩ := sf_ldi_inv hf2
  obtain ⟨rfl, hz⟩ := sf_nil_inv hf3
  exact hm _ [(0, some (.ref _)), (1, some (.int x1))] _ _ _ (sf_le_ok (And.intro e0 (And.intro e1 trivial))) (h _ _ _ hz hp)
noncomputable def dX2_measure_62 (q : Nat) : Nat → Int32 → sf_S → Option sf_S
  | 0 => fun _ _ => none
  | n + 1 => fun x1 σ =>
    if (σ q 4) ≤ x1 then
      some σ
    else
      (dX2_measureParts q x1 σ).bind fun u1 =>
      if sf_in x1 40 then
        let v2 := (u1 q 10)
        let v3 := (u1 (q + 6) x1.toNatClampNeg)
        let s4 := sf_up u1 q 10 (if v2 < v3 then v3 else v2)
        if sf_in x1 40 then
          if ¬ (s4 (q + 1) x1.toNatClampNeg) = (105 : Int32) then
            dX2_measure_62 q n (x1 + (1 : Int32)) s4
          else
            let s5 := sf_up s4 q 11 (1 : Int32)
            dX2_measure_62 q n (x1 + (1 : Int32)) s5
        else
          none
      else
        none
set_option maxRecDepth 100000 in
set_option maxHeartbeats 4000000 in
theorem rX2_measure_62 {Wt : Nat → sf_L → List Value → sf_S → Prop} {Post : sf_S → Prop} (hs : sf_Snd Wt sf_layC sf_hV jX2_measure tX2_measure Post) (hm : sf_mono Wt) {q : Nat} (hq : q = 1 ∨ q = 36) : ∀ n : Nat, sf_CK Wt Post 62 (wX2_measure_62 q (dX2_measure_62 q n)) := by
  intro n
  induction n with
  | zero => exact wX2_measure_62_ok hm (fun x1 σ u h _ => by simp [dX2_measure_62] at h)
  | succ n ih =>
    refine wX2_measure_62_ok hm ?_
    intro x1 σ u h hp
    rcases hq with rfl | rfl
    · exact sf_run_ok hs (sf_sm_cons ih sf_sm_nil) 71 62 _ _ σ u h hp
    · exact sf_run_ok hs (sf_sm_cons ih sf_sm_nil) 71 62 _ _ σ u h hp
noncomputable def dX2_measure_7 (q : Nat) : Nat → Int32 → sf_S → Option sf_S
  | 0 => fun _ _ => none
  | n + 1 => fun x1 σ =>
    if x1 < 0 then
      let s1 := sf_up σ q 10 (-1 : Int32)
      let s2 := sf_up s1 q 11 (0 : Int32)
      if (s2 q 4) ≤ 0 then
        dX2_measure_62 q sf_F (0 : Int32) s2
      else
        if sf_in (0 : Int32) 40 then
          let s3 := sf_up s2 (q + 6) ((0 : Int32)).toNatClampNeg (0 : Int32)
          if sf_in (0 : Int32) 40 then
            let s4 := sf_up s3 (q + 7) ((0 : Int32)).toNatClampNeg (0 : Int32)
            if sf_in (0 : Int32) 40 then
              let s5 := sf_up s4 (q + 8) ((0 : Int32)).toNatClampNeg (-1 : Int32)
              dX2_measure_62 q sf_F (0 : Int32) s5
            else
              none
          else
            none
        else
          none
    else
      (dX2_measureFromParts q x1 σ).bind fun u6 =>
      dX2_measure_7 q n (x1 + (-1 : Int32)) u6
set_option maxRecDepth 100000 in
set_option maxHeartbeats 4000000 in
theorem rX2_measure_7 {Wt : Nat → sf_L → List Value → sf_S → Prop} {Post : sf_S → Prop} (hs : sf_Snd Wt sf_layC sf_hV jX2_measure tX2_measure Post) (hm : sf_mono Wt) {q : Nat} (hq : q = 1 ∨ q = 36) : ∀ n : Nat, sf_CK Wt Post 7 (wX2_measure_7 q (dX2_measure_7 q n)) := by
  intro n
  induction n with
  | zero => exact wX2_measure_7_ok hm (fun x1 σ u h _ => by simp [dX2_measure_7] at h)
  | succ n ih =>
    refine wX2_measure_7_ok hm ?_
    intro x1 σ u h hp
    rcases hq with rfl | rfl
    · exact sf_run_ok hs (sf_sm_cons ih (sf_sm_cons (rX2_measure_62 hs hm (Or.inl rfl) sf_F) sf_sm_nil)) 71 7 _ _ σ u h hp
    · exact sf_run_ok hs (sf_sm_cons ih (sf_sm_cons (rX2_measure_62 hs hm (Or.inr rfl) sf_F) sf_sm_nil)) 71 7 _ _ σ u h hp
noncomputable def dX2_measure (q : Nat) (σ : sf_S) : Option sf_S :=
  let v1 := ((σ q 4) - (1 : Int32))
  dX2_measure_7 q sf_F v1 σ
noncomputable abbrev gX2_measure (av : List Value) (σ : sf_S) : Option sf_S := match av with
  | [.ref q] => (match sf_rv [1, 36] q with | true => dX2_measure q σ | false => none)
  | _ => none
set_option maxRecDepth 100000 in
set_option maxHeartbeats 4000000 in
theorem rX2_measure {Wt : Nat → sf_L → List Value → sf_S → Prop} {Post : sf_S → Prop} (hs : sf_Snd Wt sf_layC sf_hV jX2_measure tX2_measure Post) (hm : sf_mono Wt) : ∀ av σ u, gX2_measure av σ = some u → Post u → (∀ ad, (lg_sl (av.map (sf_v ad))).length ≤ 2) ∧ Wt 0 (sf_ent 0 av) [] σ := by
  intro av σ u h hp
  unfold gX2_measure at h
  split at h
  · rename_i q
    split at h
    · rename_i hq
      have hq : q = 1 ∨ q = 36 := by simpa using sf_rv_mem hq
      refine ⟨fun ad => Nat.le_of_ble_eq_true rfl, ?_⟩
      rcases hq with rfl | rfl
      · exact sf_run_ok hs (sf_sm_cons (rX2_measure_7 hs hm (Or.inl rfl) sf_F) sf_sm_nil) 71 0 _ _ σ u h hp
      · exact sf_run_ok hs (sf_sm_cons (rX2_measure_7 hs hm (Or.inr rfl) sf_F) sf_sm_nil) 71 0 _ _ σ u h hp
    · cases h
  · cases h
theorem kX2_measure (l : Launch) : sf_C l sf_layC yX2_measure cX2_measure 2 none (sf_rm 3 145) (fun av σ => (gX2_measure av σ).map sf_vV) :=
  sf_met (tab := tX2_measure) (J := jX2_measure) (fl := sf_fl2) (cl := sf_cl2) (by decide +kernel) ⟨rfl, rfl⟩ sf_RH_V (by decide +kernel) sf_fl2_ok sf_cl2_ok
    (sf_JO_cons (sf_je_V (n := 2) (cs := [2]) (tv := sf_vV) (kX2_measureFromParts l) mwX2_measureFromParts (by decide +kernel : decode cX2_measure 13 = .ok (.invokevirtual 72, 3)) wt_565 wt_567 wt_19 (by decide +kernel) (by decide) (by decide) (List.forall_mem_cons.mpr ⟨⟨_, _, rfl⟩, fun _ h => absurd h List.not_mem_nil⟩) (sf_RM_of (by omega) (by omega))) (sf_JO_cons (sf_je_V (n := 2) (cs := [2]) (tv := sf_vV) (kX2_measureParts l) mwX2_measureParts (by decide +kernel : decode cX2_measure 72 = .ok (.invokevirtual 80, 3)) wt_572 wt_574 wt_20 (by decide +kernel) (by decide) (by decide) (List.forall_mem_cons.mpr ⟨⟨_, _, rfl⟩, fun _ h => absurd h List.not_mem_nil⟩) (sf_RM_of (by omega) (by omega))) (sf_JO_cons (sf_je_max (by decide +kernel : decode cX2_measure 86 = .ok (.invokestatic 83, 3)) wt_576 wt_547 wt_89 wt_548 (sf_RB_of (by omega) (by omega))) (sf_JO_nil))))
    (fun Wt Post hs hm => rX2_measure hs hm)
-- ===== StreamFuser$Plan.takeFrom(LStreamFuser$Plan;)V =====
abbrev tX2_takeFrom : List (Nat × sf_E) := [(0, (.aload_n 0, 1, 0, .null, [], [])), (1, (.iconst 0, 2, 0, .int (0), [], [])), (2, (.putfield 44, 5, 0, .null, [], [(2, 4)])), (5, (.iconst 0, 6, 0, .int (0), [], [])), (6, (.istore_n 2, 7, 0, .null, [], [])), (7, (.iload_n 2, 8, 0, .null, [], [])), (8, (.aload_n 1, 9, 0, .null, [], [])), (9, (.getfield 44, 12, 0, .null, [], [(2, 4)])), (12, (.if_icmp .ge 37, 15, 49, .null, [], [])), (15, (.aload_n 0, 16, 0, .null, [], [])), (16, (.aload_n 1, 17, 0, .null, [], [])), (17, (.getfield 9, 20, 0, .null, [], [(2, 0)])), (20, (.iload_n 2, 21, 0, .null, [], [])), (21, (.iaload, 22, 0, .null, [], [])), (22, (.aload_n 1, 23, 0, .null, [], [])), (23, (.getfield 15, 26, 0, .null, [], [(2, 1)])), (26, (.iload_n 2, 27, 0, .null, [], [])), (27, (.iaload, 28, 0, .null, [], [])), (28, (.aload_n 1, 29, 0, .null, [], [])), (29, (.getfield 18, 32, 0, .null, [], [(2, 2)])), (32, (.iload_n 2, 33, 0, .null, [], [])), (33, (.iaload, 34, 0, .null, [], [])), (34, (.aload_n 1, 35, 0, .null, [], [])), (35, (.getfield 21, 38, 0, .null, [], [(2, 3)])), (38, (.iload_n 2, 39, 0, .null, [], [])), (39, (.iaload, 40, 0, .null, [], [])), (40, (.invokevirtual 58, 43, 0, .null, [], [])), (43, (.iinc 2 1, 46, 0, .int (1), [], [])), (46, (.goto (-39), 49, 7, .null, [], [])), (49, (.aload_n 0, 50, 0, .null, [], [])), (50, (.invokevirtual 62, 53, 0, .null, [], [])), (53, (.return_, 54, 0, .null, [], []))]
noncomputable abbrev jX2_takeFrom : List (Nat × sf_J sf_S) := [(40, sf_jV sf_layC [2] 5 gX2_add), (50, sf_jV sf_layC [2] 1 gX2_measure)]
abbrev wX2_takeFrom_7 {ρ : Type} (q : Nat) (r1 : Nat) (k : Int32 → sf_S → Option ρ) : sf_M ρ := fun L st σ => sf_lda L 0 fun a0 => sf_eq a0 q (sf_lda L 1 fun a1 => sf_eq a1 r1 (sf_ldi L 2 fun x2 => sf_nil st (k x2 σ)))
theorem wX2_takeFrom_7_ok {ρ : Type} {Wt : Nat → sf_L → List Value → sf_S → Prop} {Post : ρ → Prop} (hm : sf_mono Wt) {q : Nat} {r1 : Nat} {k : Int32 → sf_S → Option ρ} (h : ∀ (x2 : Int32) (σ : sf_S) (u : ρ), k x2 σ = some u → Post u → Wt 7 [(0, some (.ref q)), (1, some (.ref r1)), (2, some (.int x2))] [] σ) : sf_CK Wt Post 7 (wX2_takeFrom_7 q r1 k) := by
  intro L st σ u hf hp
  unfold wX2_takeFrom_7 at hf
  have hf0 := hf
  obtain ⟨a0, e0, hf1⟩ := sf_lda_inv hf0
  obtain ⟨rfl, hf2⟩ := sf_eq_inv hf1
  obtain ⟨a1, e1, hf3⟩ := sf_lda_inv hf2
  obtain ⟨rfl, hf4⟩ := sf_eq_inv hf3
  obtain ⟨x2, e2, hf5⟩ := sf_ldi_inv hf4
  obtain ⟨rfl, hz⟩ := sf_nil_inv hf5
  exact hm _ [(0, some (.ref _)), (1, some (.ref _)), (2, some (.int x2))] _ _ _ (sf_le_ok (And.intro e0 (And.intro e1 (And.intro e2 trivial)))) (h _ _ _ hz hp)
noncomputable def dX2_takeFrom_7 (q : Nat) (r1 : Nat) : Nat → Int32 → sf_S → Option sf_S
  | 0 => fun _ _ => none
  | n + 1 => fun x2 σ =>
    if (σ r1 4) ≤ x2 then
      (dX2_measure q σ).bind fun u1 =>
      some u1
    else
      if sf_in x2 40 then
        if sf_in x2 40 then
          if sf_in x2 40 then
            if sf_in x2 40 then
              (dX2_add q (σ (r1 + 1) x2.toNatClampNeg) (σ (r1 + 2) x2.toNatClampNeg) (σ (r1 + 3) x2.toNatClampNeg) (σ (r1 + 4) x2.toNatClampNeg) σ).bind fun u2 =>
              dX2_takeFrom_7 q r1 n (x2 + (1 : Int32)) u2
            else
              none
          else
            none
        else
          none
      else
        none
set_option maxRecDepth 100000 in
set_option maxHeartbeats 4000000 in
theorem rX2_takeFrom_7 {Wt : Nat → sf_L → List Value → sf_S → Prop} {Post : sf_S → Prop} (hs : sf_Snd Wt sf_layC sf_hV jX2_takeFrom tX2_takeFrom Post) (hm : sf_mono Wt) {q r1 : Nat} (hq : (q = 1 ∧ r1 = 36) ∨ (q = 36 ∧ r1 = 1)) : ∀ n : Nat, sf_CK Wt Post 7 (wX2_takeFrom_7 q r1 (dX2_takeFrom_7 q r1 n)) := by
  intro n
  induction n with
  | zero => exact wX2_takeFrom_7_ok hm (fun x2 σ u h _ => by simp [dX2_takeFrom_7] at h)
  | succ n ih =>
    refine wX2_takeFrom_7_ok hm ?_
    intro x2 σ u h hp
    rcases hq with ⟨rfl, rfl⟩ | ⟨rfl, rfl⟩
    · exact sf_run_ok hs (sf_sm_cons ih sf_sm_nil) 37 7 _ _ σ u h hp
    · exact sf_run_ok hs (sf_sm_cons ih sf_sm_nil) 37 7 _ _ σ u h hp
noncomputable def dX2_takeFrom (q : Nat) (r1 : Nat) (σ : sf_S) : Option sf_S :=
  let s1 := sf_up σ q 4 (0 : Int32)
  dX2_takeFrom_7 q r1 sf_F (0 : Int32) s1
noncomputable abbrev gX2_takeFrom (av : List Value) (σ : sf_S) : Option sf_S := match av with
  | [.ref q, .ref r1] => (match sf_rv2 [(1, 36), (36, 1)] q r1 with | true => dX2_takeFrom q r1 σ | false => none)
  | _ => none
set_option maxRecDepth 100000 in
set_option maxHeartbeats 4000000 in
theorem rX2_takeFrom {Wt : Nat → sf_L → List Value → sf_S → Prop} {Post : sf_S → Prop} (hs : sf_Snd Wt sf_layC sf_hV jX2_takeFrom tX2_takeFrom Post) (hm : sf_mono Wt) : ∀ av σ u, gX2_takeFrom av σ = some u → Post u → (∀ ad, (lg_sl (av.map (sf_v ad))).length ≤ 3) ∧ Wt 0 (sf_ent 0 av) [] σ := by
  intro av σ u h hp
  unfold gX2_takeFrom at h
  split at h
  · rename_i q r1
    split at h
    · rename_i hq
      have hq : (q = 1 ∧ r1 = 36) ∨ (q = 36 ∧ r1 = 1) := by simpa using sf_rv2_mem hq
      refine ⟨fun ad => Nat.le_of_ble_eq_true rfl, ?_⟩
      rcases hq with ⟨rfl, rfl⟩ | ⟨rfl, rfl⟩
      · exact sf_run_ok hs (sf_sm_cons (rX2_takeFrom_7 hs hm (Or.inl ⟨rfl, rfl⟩) sf_F) sf_sm_nil) 37 0 _ _ σ u h hp
      · exact sf_run_ok hs (sf_sm_cons (rX2_takeFrom_7 hs hm (Or.inr ⟨rfl, rfl⟩) sf_F) sf_sm_nil) 37 0 _ _ σ u h hp
    · cases h
  · cases h
theorem kX2_takeFrom (l : Launch) : sf_C l sf_layC yX2_takeFrom cX2_takeFrom 3 none (sf_rm 4 166) (fun av σ => (gX2_takeFrom av σ).map sf_vV) :=
  sf_met (tab := tX2_takeFrom) (J := jX2_takeFrom) (fl := sf_fl2) (cl := sf_cl2) (by decide +kernel) ⟨rfl, rfl⟩ sf_RH_V (by decide +kernel) sf_fl2_ok sf_cl2_ok
    (sf_JO_cons (sf_je_V (n := 5) (cs := [2]) (tv := sf_vV) (kX2_add l) mwX2_add (by decide +kernel : decode cX2_takeFrom 40 = .ok (.invokevirtual 58, 3)) wt_615 wt_617 wt_26 (by decide +kernel) (by decide) (by decide) (List.forall_mem_cons.mpr ⟨⟨_, _, rfl⟩, fun _ h => absurd h List.not_mem_nil⟩) (sf_RM_of (by omega) (by omega))) (sf_JO_cons (sf_je_V (n := 1) (cs := [2]) (tv := sf_vV) (kX2_measure l) mwX2_measure (by decide +kernel : decode cX2_takeFrom 50 = .ok (.invokevirtual 62, 3)) wt_619 wt_563 wt_18 (by decide +kernel) (by decide) (by decide) (List.forall_mem_cons.mpr ⟨⟨_, _, rfl⟩, fun _ h => absurd h List.not_mem_nil⟩) (sf_RM_of (by omega) (by omega))) (sf_JO_nil)))
    (fun Wt Post hs hm => rX2_takeFrom hs hm)
