/-! ===== 21.X11 ===== -/
-- ===== StreamFuser.type(I)I =====
abbrev tX11_type : List (Nat × sf_E) := [(0, (.iload_n 1, 1, 0, .null, [], [])), (1, (.ifCond .lt 10, 4, 11, .null, [], [])), (4, (.iload_n 1, 5, 0, .null, [], [])), (5, (.sipush 255, 8, 0, .int (255), [], [])), (8, (.if_icmp .le 6, 11, 14, .null, [], [])), (11, (.bipush (-2), 13, 0, .int (-2), [], [])), (13, (.ireturn, 14, 0, .null, [], [])), (14, (.aload_n 0, 15, 0, .null, [], [])), (15, (.getfield 79, 18, 0, .null, [], [(9, 9)])), (18, (.iload_n 1, 19, 0, .null, [], [])), (19, (.invokevirtual 92, 22, 0, .null, [], [])), (22, (.ifCond .eq 13, 25, 35, .null, [], [])), (25, (.aload_n 0, 26, 0, .null, [], [])), (26, (.getfield 79, 29, 0, .null, [], [(9, 9)])), (29, (.getfield 96, 32, 0, .null, [], [(4, 2)])), (32, (.goto 5, 35, 37, .null, [], [])), (35, (.bipush (-4), 37, 0, .int (-4), [], [])), (37, (.ireturn, 38, 0, .null, [], []))]
noncomputable abbrev jX11_type : List (Nat × sf_J (Int32 × sf_S)) := [(19, sf_jI sf_layC [4] 2 gX4_append)]
noncomputable def dX11_type (x1 : Int32) (σ : sf_S) : Option (Int32 × sf_S) :=
  if x1 < 0 then
    some ((-2 : Int32), σ)
  else
    if x1 ≤ (255 : Int32) then
      (dX4_append x1 σ).bind fun u1 =>
      if u1.1 = 0 then
        some ((-4 : Int32), u1.2)
      else
        some ((u1.2 46 2), u1.2)
    else
      some ((-2 : Int32), σ)
noncomputable abbrev gX11_type (av : List Value) (σ : sf_S) : Option (Int32 × sf_S) := match av with
  | [.ref q, .int x1] => (match sf_rv [0] q with | true => dX11_type x1 σ | false => none)
  | _ => none
set_option maxRecDepth 100000 in
set_option maxHeartbeats 4000000 in
theorem rX11_type {Wt : Nat → sf_L → List Value → sf_S → Prop} {Post : (Int32 × sf_S) → Prop} (hs : sf_Snd Wt sf_layC sf_hI jX11_type tX11_type Post) (hm : sf_mono Wt) : ∀ av σ u, gX11_type av σ = some u → Post u → (∀ ad, (lg_sl (av.map (sf_v ad))).length ≤ 2) ∧ Wt 0 (sf_ent 0 av) [] σ := by
  intro av σ u h hp
  unfold gX11_type at h
  split at h
  · rename_i q x1
    split at h
    · rename_i hq
      have hq : q = 0 := by simpa using sf_rv_mem hq
      subst hq
      refine ⟨fun ad => Nat.le_of_ble_eq_true rfl, ?_⟩
      exact sf_run_ok hs sf_sm_nil 23 0 _ _ σ u h hp
    · cases h
  · cases h
theorem kX11_type (l : Launch) : sf_C l sf_layC yX11_type cX11_type 2 (some .int) (sf_rm 2 121) (fun av σ => (gX11_type av σ).map sf_vI) :=
  sf_met (tab := tX11_type) (J := jX11_type) (fl := sf_fl11) (cl := sf_cl11) (by decide +kernel) ⟨rfl, rfl⟩ sf_RH_I (by decide +kernel) sf_fl11_ok sf_cl11_ok
    (sf_JO_cons (sf_je_N (n := 2) (cs := [4]) (tv := sf_vI) "StreamFuser" (kX4_append l) mwX4_append (by decide +kernel : decode cX11_type 19 = .ok (.invokevirtual 92, 3)) wt_538 wt_540 wt_0 (by decide +kernel) (by decide) (by decide) (List.forall_mem_cons.mpr ⟨⟨_, _, rfl⟩, fun _ h => absurd h List.not_mem_nil⟩) (sf_RM_of (by omega) (by omega))) (sf_JO_nil))
    (fun Wt Post hs hm => rX11_type hs hm)
-- ===== StreamFuser.wipe()I =====
abbrev tX11_wipe : List (Nat × sf_E) := [(0, (.aload_n 0, 1, 0, .null, [], [])), (1, (.getfield 79, 4, 0, .null, [], [(9, 9)])), (4, (.getfield 96, 7, 0, .null, [], [(4, 2)])), (7, (.istore_n 1, 8, 0, .null, [], [])), (8, (.aload_n 0, 9, 0, .null, [], [])), (9, (.getfield 79, 12, 0, .null, [], [(9, 9)])), (12, (.iconst 0, 13, 0, .int (0), [], [])), (13, (.putfield 96, 16, 0, .null, [], [(4, 2)])), (16, (.iload_n 1, 17, 0, .null, [], [])), (17, (.ireturn, 18, 0, .null, [], []))]
noncomputable abbrev jX11_wipe : List (Nat × sf_J (Int32 × sf_S)) := []
noncomputable def dX11_wipe (σ : sf_S) : Option (Int32 × sf_S) :=
  let v1 := (σ 46 2)
  let s2 := sf_up σ 46 2 (0 : Int32)
  some (v1, s2)
noncomputable abbrev gX11_wipe (av : List Value) (σ : sf_S) : Option (Int32 × sf_S) := match av with
  | [.ref q] => (match sf_rv [0] q with | true => dX11_wipe σ | false => none)
  | _ => none
set_option maxRecDepth 100000 in
set_option maxHeartbeats 4000000 in
theorem rX11_wipe {Wt : Nat → sf_L → List Value → sf_S → Prop} {Post : (Int32 × sf_S) → Prop} (hs : sf_Snd Wt sf_layC sf_hI jX11_wipe tX11_wipe Post) (hm : sf_mono Wt) : ∀ av σ u, gX11_wipe av σ = some u → Post u → (∀ ad, (lg_sl (av.map (sf_v ad))).length ≤ 2) ∧ Wt 0 (sf_ent 0 av) [] σ := by
  intro av σ u h hp
  unfold gX11_wipe at h
  split at h
  · rename_i q
    split at h
    · rename_i hq
      have hq : q = 0 := by simpa using sf_rv_mem hq
      subst hq
      refine ⟨fun ad => Nat.le_of_ble_eq_true rfl, ?_⟩
      exact sf_run_ok hs sf_sm_nil 15 0 _ _ σ u h hp
    · cases h
  · cases h
theorem kX11_wipe (l : Launch) : sf_C l sf_layC yX11_wipe cX11_wipe 2 (some .int) (sf_rm 1 100) (fun av σ => (gX11_wipe av σ).map sf_vI) :=
  sf_met (tab := tX11_wipe) (J := jX11_wipe) (fl := sf_fl11) (cl := sf_cl11) (by decide +kernel) ⟨rfl, rfl⟩ sf_RH_I (by decide +kernel) sf_fl11_ok sf_cl11_ok
    (sf_JO_nil)
    (fun Wt Post hs hm => rX11_wipe hs hm)
-- ===== StreamFuser.fault()I =====
abbrev tX11_fault : List (Nat × sf_E) := [(0, (.aload_n 0, 1, 0, .null, [], [])), (1, (.getfield 79, 4, 0, .null, [], [(9, 9)])), (4, (.invokevirtual 100, 7, 0, .null, [], [])), (7, (.ireturn, 8, 0, .null, [], []))]
noncomputable abbrev jX11_fault : List (Nat × sf_J (Int32 × sf_S)) := [(4, sf_jI sf_layC [4] 1 gX4_read)]
noncomputable def dX11_fault (σ : sf_S) : Option (Int32 × sf_S) :=
  (dX4_read σ).bind fun u1 =>
  some (u1.1, u1.2)
noncomputable abbrev gX11_fault (av : List Value) (σ : sf_S) : Option (Int32 × sf_S) := match av with
  | [.ref q] => (match sf_rv [0] q with | true => dX11_fault σ | false => none)
  | _ => none
set_option maxRecDepth 100000 in
set_option maxHeartbeats 4000000 in
theorem rX11_fault {Wt : Nat → sf_L → List Value → sf_S → Prop} {Post : (Int32 × sf_S) → Prop} (hs : sf_Snd Wt sf_layC sf_hI jX11_fault tX11_fault Post) (hm : sf_mono Wt) : ∀ av σ u, gX11_fault av σ = some u → Post u → (∀ ad, (lg_sl (av.map (sf_v ad))).length ≤ 1) ∧ Wt 0 (sf_ent 0 av) [] σ := by
  intro av σ u h hp
  unfold gX11_fault at h
  split at h
  · rename_i q
    split at h
    · rename_i hq
      have hq : q = 0 := by simpa using sf_rv_mem hq
      subst hq
      refine ⟨fun ad => Nat.le_of_ble_eq_true rfl, ?_⟩
      exact sf_run_ok hs sf_sm_nil 9 0 _ _ σ u h hp
    · cases h
  · cases h
theorem kX11_fault (l : Launch) : sf_C l sf_layC yX11_fault cX11_fault 1 (some .int) (sf_rm 6 210) (fun av σ => (gX11_fault av σ).map sf_vI) :=
  sf_met (tab := tX11_fault) (J := jX11_fault) (fl := sf_fl11) (cl := sf_cl11) (by decide +kernel) ⟨rfl, rfl⟩ sf_RH_I (by decide +kernel) sf_fl11_ok sf_cl11_ok
    (sf_JO_cons (sf_je_N (n := 1) (cs := [4]) (tv := sf_vI) "StreamFuser" (kX4_read l) mwX4_read (by decide +kernel : decode cX11_fault 4 = .ok (.invokevirtual 100, 3)) wt_550 wt_552 wt_1 (by decide +kernel) (by decide) (by decide) (List.forall_mem_cons.mpr ⟨⟨_, _, rfl⟩, fun _ h => absurd h List.not_mem_nil⟩) (sf_RM_of (by omega) (by omega))) (sf_JO_nil))
    (fun Wt Post hs hm => rX11_fault hs hm)
-- ===== StreamFuser.plan()I =====
abbrev tX11_plan : List (Nat × sf_E) := [(0, (.aload_n 0, 1, 0, .null, [], [])), (1, (.getfield 79, 4, 0, .null, [], [(9, 9)])), (4, (.invokevirtual 100, 7, 0, .null, [], [])), (7, (.istore_n 1, 8, 0, .null, [], [])), (8, (.iload_n 1, 9, 0, .null, [], [])), (9, (.iconst (-1), 10, 0, .int (-1), [], [])), (10, (.if_icmp .eq 9, 13, 19, .null, [], [])), (13, (.sipush (-1000), 16, 0, .int (-1000), [], [])), (16, (.iload_n 1, 17, 0, .null, [], [])), (17, (.isub, 18, 0, .null, [], [])), (18, (.ireturn, 19, 0, .null, [], [])), (19, (.aload_n 0, 20, 0, .null, [], [])), (20, (.getfield 16, 23, 0, .null, [], [(9, 0)])), (23, (.aload_n 0, 24, 0, .null, [], [])), (24, (.getfield 73, 27, 0, .null, [], [(9, 8)])), (27, (.invokevirtual 104, 30, 0, .null, [], [])), (30, (.aload_n 0, 31, 0, .null, [], [])), (31, (.getfield 25, 34, 0, .null, [], [(9, 1)])), (34, (.invokevirtual 107, 37, 0, .null, [], [])), (37, (.aload_n 0, 38, 0, .null, [], [])), (38, (.getfield 16, 41, 0, .null, [], [(9, 0)])), (41, (.getfield 110, 44, 0, .null, [], [(2, 4)])), (44, (.ireturn, 45, 0, .null, [], []))]
noncomputable abbrev jX11_plan : List (Nat × sf_J (Int32 × sf_S)) := [(4, sf_jI sf_layC [4] 1 gX4_read), (27, sf_jV sf_layC [2] 2 gX2_takeFrom), (34, sf_jV sf_layC [3] 1 gX3_print)]
noncomputable def dX11_plan (σ : sf_S) : Option (Int32 × sf_S) :=
  (dX4_read σ).bind fun u1 =>
  if u1.1 = (-1 : Int32) then
    (dX2_takeFrom 1 36 u1.2).bind fun u2 =>
    (dX3_print u2).bind fun u3 =>
    some ((u3 1 4), u3)
  else
    some (((-1000 : Int32) - u1.1), u1.2)
noncomputable abbrev gX11_plan (av : List Value) (σ : sf_S) : Option (Int32 × sf_S) := match av with
  | [.ref q] => (match sf_rv [0] q with | true => dX11_plan σ | false => none)
  | _ => none
set_option maxRecDepth 100000 in
set_option maxHeartbeats 4000000 in
theorem rX11_plan {Wt : Nat → sf_L → List Value → sf_S → Prop} {Post : (Int32 × sf_S) → Prop} (hs : sf_Snd Wt sf_layC sf_hI jX11_plan tX11_plan Post) (hm : sf_mono Wt) : ∀ av σ u, gX11_plan av σ = some u → Post u → (∀ ad, (lg_sl (av.map (sf_v ad))).length ≤ 2) ∧ Wt 0 (sf_ent 0 av) [] σ := by
  intro av σ u h hp
  unfold gX11_plan at h
  split at h
  · rename_i q
    split at h
    · rename_i hq
      have hq : q = 0 := by simpa using sf_rv_mem hq
      subst hq
      refine ⟨fun ad => Nat.le_of_ble_eq_true rfl, ?_⟩
      exact sf_run_ok hs sf_sm_nil 28 0 _ _ σ u h hp
    · cases h
  · cases h
theorem kX11_plan (l : Launch) : sf_C l sf_layC yX11_plan cX11_plan 2 (some .int) (sf_rm 6 210) (fun av σ => (gX11_plan av σ).map sf_vI) :=
  sf_met (tab := tX11_plan) (J := jX11_plan) (fl := sf_fl11) (cl := sf_cl11) (by decide +kernel) ⟨rfl, rfl⟩ sf_RH_I (by decide +kernel) sf_fl11_ok sf_cl11_ok
    (sf_JO_cons (sf_je_N (n := 1) (cs := [4]) (tv := sf_vI) "StreamFuser" (kX4_read l) mwX4_read (by decide +kernel : decode cX11_plan 4 = .ok (.invokevirtual 100, 3)) wt_550 wt_552 wt_1 (by decide +kernel) (by decide) (by decide) (List.forall_mem_cons.mpr ⟨⟨_, _, rfl⟩, fun _ h => absurd h List.not_mem_nil⟩) (sf_RM_of (by omega) (by omega))) (sf_JO_cons (sf_je_N (n := 2) (cs := [2]) (tv := sf_vV) "StreamFuser" (kX2_takeFrom l) mwX2_takeFrom (by decide +kernel : decode cX11_plan 27 = .ok (.invokevirtual 104, 3)) wt_611 wt_613 wt_10 (by decide +kernel) (by decide) (by decide) (List.forall_mem_cons.mpr ⟨⟨_, _, rfl⟩, fun _ h => absurd h List.not_mem_nil⟩) (sf_RM_of (by omega) (by omega))) (sf_JO_cons (sf_je_N (n := 1) (cs := [3]) (tv := sf_vV) "StreamFuser" (kX3_print l) mwX3_print (by decide +kernel : decode cX11_plan 34 = .ok (.invokevirtual 107, 3)) wt_632 wt_634 wt_14 (by decide +kernel) (by decide) (by decide) (List.forall_mem_cons.mpr ⟨⟨_, _, rfl⟩, fun _ h => absurd h List.not_mem_nil⟩) (sf_RM_of (by omega) (by omega))) (sf_JO_nil))))
    (fun Wt Post hs hm => rX11_plan hs hm)
-- ===== StreamFuser.node(II)I =====
abbrev tX11_node : List (Nat × sf_E) := [(0, (.aload_n 0, 1, 0, .null, [], [])), (1, (.getfield 16, 4, 0, .null, [], [(9, 0)])), (4, (.iload_n 1, 5, 0, .null, [], [])), (5, (.invokevirtual 113, 8, 0, .null, [], [])), (8, (.ifCond .ne 6, 11, 14, .null, [], [])), (11, (.ldc 116, 13, 0, .int (-2147483648), [], [])), (13, (.ireturn, 14, 0, .null, [], [])), (14, (.iload_n 2, 15, 0, .null, [], [])), (15, (.tableswitch 105 0 5 #[37, 47, 57, 67, 77, 87], 52, 120, .null, [((0), 52), ((1), 62), ((2), 72), ((3), 82), ((4), 92), ((5), 102)], [])), (52, (.aload_n 0, 53, 0, .null, [], [])), (53, (.getfield 16, 56, 0, .null, [], [(9, 0)])), (56, (.getfield 117, 59, 0, .null, [], [(2, 0)])), (59, (.iload_n 1, 60, 0, .null, [], [])), (60, (.iaload, 61, 0, .null, [], [])), (61, (.ireturn, 62, 0, .null, [], [])), (62, (.aload_n 0, 63, 0, .null, [], [])), (63, (.getfield 16, 66, 0, .null, [], [(9, 0)])), (66, (.getfield 121, 69, 0, .null, [], [(2, 1)])), (69, (.iload_n 1, 70, 0, .null, [], [])), (70, (.iaload, 71, 0, .null, [], [])), (71, (.ireturn, 72, 0, .null, [], [])), (72, (.aload_n 0, 73, 0, .null, [], [])), (73, (.getfield 16, 76, 0, .null, [], [(9, 0)])), (76, (.getfield 124, 79, 0, .null, [], [(2, 2)])), (79, (.iload_n 1, 80, 0, .null, [], [])), (80, (.iaload, 81, 0, .null, [], [])), (81, (.ireturn, 82, 0, .null, [], [])), (82, (.aload_n 0, 83, 0, .null, [], [])), (83, (.getfield 16, 86, 0, .null, [], [(9, 0)])), (86, (.getfield 127, 89, 0, .null, [], [(2, 3)])), (89, (.iload_n 1, 90, 0, .null, [], [])), (90, (.iaload, 91, 0, .null, [], [])), (91, (.ireturn, 92, 0, .null, [], [])), (92, (.aload_n 0, 93, 0, .null, [], [])), (93, (.getfield 16, 96, 0, .null, [], [(9, 0)])), (96, (.getfield 130, 99, 0, .null, [], [(2, 6)])), (99, (.iload_n 1, 100, 0, .null, [], [])), (100, (.iaload, 101, 0, .null, [], [])), (101, (.ireturn, 102, 0, .null, [], [])), (102, (.aload_n 0, 103, 0, .null, [], [])), (103, (.getfield 16, 106, 0, .null, [], [(9, 0)])), (106, (.getfield 133, 109, 0, .null, [], [(2, 9)])), (109, (.iload_n 1, 110, 0, .null, [], [])), (110, (.baload, 111, 0, .null, [], [])), (111, (.ifCond .eq 7, 114, 118, .null, [], [])), (114, (.iconst 1, 115, 0, .int (1), [], [])), (115, (.goto 4, 118, 119, .null, [], [])), (118, (.iconst 0, 119, 0, .int (0), [], [])), (119, (.ireturn, 120, 0, .null, [], [])), (120, (.ldc 116, 122, 0, .int (-2147483648), [], [])), (122, (.ireturn, 123, 0, .null, [], []))]
noncomputable abbrev jX11_node : List (Nat × sf_J (Int32 × sf_S)) := [(5, sf_jI sf_layC [2] 2 gX2_has)]
noncomputable def dX11_node (x1 : Int32) (x2 : Int32) (σ : sf_S) : Option (Int32 × sf_S) :=
  (dX2_has 1 x1 σ).bind fun u1 =>
  if ¬ u1.1 = 0 then
    if x2 = (0 : Int32) then
      if sf_in x1 40 then
        some ((u1.2 2 x1.toNatClampNeg), u1.2)
      else
        none
    else
    if x2 = (1 : Int32) then
      if sf_in x1 40 then
        some ((u1.2 3 x1.toNatClampNeg), u1.2)
      else
        none
    else
    if x2 = (2 : Int32) then
      if sf_in x1 40 then
        some ((u1.2 4 x1.toNatClampNeg), u1.2)
      else
        none
    else
    if x2 = (3 : Int32) then
      if sf_in x1 40 then
        some ((u1.2 5 x1.toNatClampNeg), u1.2)
      else
        none
    else
    if x2 = (4 : Int32) then
      if sf_in x1 40 then
        some ((u1.2 7 x1.toNatClampNeg), u1.2)
      else
        none
    else
    if x2 = (5 : Int32) then
      if sf_in x1 40 then
        if (u1.2 10 x1.toNatClampNeg) = 0 then
          some ((0 : Int32), u1.2)
        else
          some ((1 : Int32), u1.2)
      else
        none
    else
      some ((-2147483648 : Int32), u1.2)
  else
    some ((-2147483648 : Int32), u1.2)
noncomputable abbrev gX11_node (av : List Value) (σ : sf_S) : Option (Int32 × sf_S) := match av with
  | [.ref q, .int x1, .int x2] => (match sf_rv [0] q with | true => dX11_node x1 x2 σ | false => none)
  | _ => none
set_option maxRecDepth 100000 in
set_option maxHeartbeats 4000000 in
theorem rX11_node {Wt : Nat → sf_L → List Value → sf_S → Prop} {Post : (Int32 × sf_S) → Prop} (hs : sf_Snd Wt sf_layC sf_hI jX11_node tX11_node Post) (hm : sf_mono Wt) : ∀ av σ u, gX11_node av σ = some u → Post u → (∀ ad, (lg_sl (av.map (sf_v ad))).length ≤ 3) ∧ Wt 0 (sf_ent 0 av) [] σ := by
  intro av σ u h hp
  unfold gX11_node at h
  split at h
  · rename_i q x1 x2
    split at h
    · rename_i hq
      have hq : q = 0 := by simpa using sf_rv_mem hq
      subst hq
      refine ⟨fun ad => Nat.le_of_ble_eq_true rfl, ?_⟩
      exact sf_run_ok hs sf_sm_nil 56 0 _ _ σ u h hp
    · cases h
  · cases h
theorem kX11_node (l : Launch) : sf_C l sf_layC yX11_node cX11_node 3 (some .int) (sf_rm 2 121) (fun av σ => (gX11_node av σ).map sf_vI) :=
  sf_met (tab := tX11_node) (J := jX11_node) (fl := sf_fl11) (cl := sf_cl11) (by decide +kernel) ⟨rfl, rfl⟩ sf_RH_I (by decide +kernel) sf_fl11_ok sf_cl11_ok
    (sf_JO_cons (sf_je_N (n := 2) (cs := [2]) (tv := sf_vI) "StreamFuser" (kX2_has l) mwX2_has (by decide +kernel : decode cX11_node 5 = .ok (.invokevirtual 113, 3)) wt_659 wt_661 wt_18 (by decide +kernel) (by decide) (by decide) (List.forall_mem_cons.mpr ⟨⟨_, _, rfl⟩, fun _ h => absurd h List.not_mem_nil⟩) (sf_RM_of (by omega) (by omega))) (sf_JO_nil))
    (fun Wt Post hs hm => rX11_node hs hm)
-- ===== StreamFuser.text(I)I =====
abbrev tX11_text : List (Nat × sf_E) := [(0, (.aload_n 0, 1, 0, .null, [], [])), (1, (.getfield 16, 4, 0, .null, [], [(9, 0)])), (4, (.getfield 110, 7, 0, .null, [], [(2, 4)])), (7, (.ifCond .ne 6, 10, 13, .null, [], [])), (10, (.bipush (-2), 12, 0, .int (-2), [], [])), (12, (.ireturn, 13, 0, .null, [], [])), (13, (.iload_n 1, 14, 0, .null, [], [])), (14, (.iconst (-1), 15, 0, .int (-1), [], [])), (15, (.if_icmp .ne 11, 18, 26, .null, [], [])), (18, (.aload_n 0, 19, 0, .null, [], [])), (19, (.getfield 25, 22, 0, .null, [], [(9, 1)])), (22, (.getfield 137, 25, 0, .null, [], [(3, 2)])), (25, (.ireturn, 26, 0, .null, [], [])), (26, (.iload_n 1, 27, 0, .null, [], [])), (27, (.ifCond .lt 26, 30, 53, .null, [], [])), (30, (.iload_n 1, 31, 0, .null, [], [])), (31, (.aload_n 0, 32, 0, .null, [], [])), (32, (.getfield 25, 35, 0, .null, [], [(9, 1)])), (35, (.getfield 137, 38, 0, .null, [], [(3, 2)])), (38, (.if_icmp .ge 15, 41, 53, .null, [], [])), (41, (.aload_n 0, 42, 0, .null, [], [])), (42, (.getfield 25, 45, 0, .null, [], [(9, 1)])), (45, (.getfield 138, 48, 0, .null, [], [(3, 1)])), (48, (.iload_n 1, 49, 0, .null, [], [])), (49, (.baload, 50, 0, .null, [], [])), (50, (.goto 5, 53, 55, .null, [], [])), (53, (.bipush (-2), 55, 0, .int (-2), [], [])), (55, (.ireturn, 56, 0, .null, [], []))]
noncomputable abbrev jX11_text : List (Nat × sf_J (Int32 × sf_S)) := []
noncomputable def dX11_text (x1 : Int32) (σ : sf_S) : Option (Int32 × sf_S) :=
  if ¬ (σ 1 4) = 0 then
    if ¬ x1 = (-1 : Int32) then
      if x1 < 0 then
        some ((-2 : Int32), σ)
      else
        if (σ 11 2) ≤ x1 then
          some ((-2 : Int32), σ)
        else
          if sf_in x1 400 then
            some ((σ 12 x1.toNatClampNeg), σ)
          else
            none
    else
      some ((σ 11 2), σ)
  else
    some ((-2 : Int32), σ)
noncomputable abbrev gX11_text (av : List Value) (σ : sf_S) : Option (Int32 × sf_S) := match av with
  | [.ref q, .int x1] => (match sf_rv [0] q with | true => dX11_text x1 σ | false => none)
  | _ => none
set_option maxRecDepth 100000 in
set_option maxHeartbeats 4000000 in
theorem rX11_text {Wt : Nat → sf_L → List Value → sf_S → Prop} {Post : (Int32 × sf_S) → Prop} (hs : sf_Snd Wt sf_layC sf_hI jX11_text tX11_text Post) (hm : sf_mono Wt) : ∀ av σ u, gX11_text av σ = some u → Post u → (∀ ad, (lg_sl (av.map (sf_v ad))).length ≤ 2) ∧ Wt 0 (sf_ent 0 av) [] σ := by
  intro av σ u h hp
  unfold gX11_text at h
  split at h
  · rename_i q x1
    split at h
    · rename_i hq
      have hq : q = 0 := by simpa using sf_rv_mem hq
      subst hq
      refine ⟨fun ad => Nat.le_of_ble_eq_true rfl, ?_⟩
      exact sf_run_ok hs sf_sm_nil 33 0 _ _ σ u h hp
    · cases h
  · cases h
theorem kX11_text (l : Launch) : sf_C l sf_layC yX11_text cX11_text 2 (some .int) (sf_rm 1 100) (fun av σ => (gX11_text av σ).map sf_vI) :=
  sf_met (tab := tX11_text) (J := jX11_text) (fl := sf_fl11) (cl := sf_cl11) (by decide +kernel) ⟨rfl, rfl⟩ sf_RH_I (by decide +kernel) sf_fl11_ok sf_cl11_ok
    (sf_JO_nil)
    (fun Wt Post hs hm => rX11_text hs hm)
-- ===== StreamFuser.tidy(I)I =====
abbrev tX11_tidy : List (Nat × sf_E) := [(0, (.iload_n 1, 1, 0, .null, [], [])), (1, (.ifCond .lt 8, 4, 9, .null, [], [])), (4, (.iload_n 1, 5, 0, .null, [], [])), (5, (.iconst 1, 6, 0, .int (1), [], [])), (6, (.if_icmp .le 6, 9, 12, .null, [], [])), (9, (.bipush (-2), 11, 0, .int (-2), [], [])), (11, (.ireturn, 12, 0, .null, [], [])), (12, (.aload_n 0, 13, 0, .null, [], [])), (13, (.getfield 16, 16, 0, .null, [], [(9, 0)])), (16, (.getfield 110, 19, 0, .null, [], [(2, 4)])), (19, (.ifCond .ne 6, 22, 25, .null, [], [])), (22, (.bipush (-3), 24, 0, .int (-3), [], [])), (24, (.ireturn, 25, 0, .null, [], [])), (25, (.aload_n 0, 26, 0, .null, [], [])), (26, (.getfield 32, 29, 0, .null, [], [(9, 2)])), (29, (.iload_n 1, 30, 0, .null, [], [])), (30, (.iconst 1, 31, 0, .int (1), [], [])), (31, (.if_icmp .ne 7, 34, 38, .null, [], [])), (34, (.iconst 1, 35, 0, .int (1), [], [])), (35, (.goto 4, 38, 39, .null, [], [])), (38, (.iconst 0, 39, 0, .int (0), [], [])), (39, (.invokevirtual 142, 42, 0, .null, [], [])), (42, (.aload_n 0, 43, 0, .null, [], [])), (43, (.getfield 25, 46, 0, .null, [], [(9, 1)])), (46, (.invokevirtual 107, 49, 0, .null, [], [])), (49, (.aload_n 0, 50, 0, .null, [], [])), (50, (.getfield 32, 53, 0, .null, [], [(9, 2)])), (53, (.getfield 146, 56, 0, .null, [], [(5, 2)])), (56, (.ireturn, 57, 0, .null, [], []))]
noncomputable abbrev jX11_tidy : List (Nat × sf_J (Int32 × sf_S)) := [(39, sf_jV sf_layC [5] 2 gX5_simplify), (46, sf_jV sf_layC [3] 1 gX3_print)]
noncomputable def dX11_tidy (x1 : Int32) (σ : sf_S) : Option (Int32 × sf_S) :=
  if x1 < 0 then
    some ((-2 : Int32), σ)
  else
    if x1 ≤ (1 : Int32) then
      if ¬ (σ 1 4) = 0 then
        if ¬ x1 = (1 : Int32) then
          (dX5_simplify 13 (0 : Int32) σ).bind fun u1 =>
          (dX3_print u1).bind fun u2 =>
          some ((u2 13 2), u2)
        else
          (dX5_simplify 13 (1 : Int32) σ).bind fun u3 =>
          (dX3_print u3).bind fun u4 =>
          some ((u4 13 2), u4)
      else
        some ((-3 : Int32), σ)
    else
      some ((-2 : Int32), σ)
noncomputable abbrev gX11_tidy (av : List Value) (σ : sf_S) : Option (Int32 × sf_S) := match av with
  | [.ref q, .int x1] => (match sf_rv [0] q with | true => dX11_tidy x1 σ | false => none)
  | _ => none
set_option maxRecDepth 100000 in
set_option maxHeartbeats 4000000 in
theorem rX11_tidy {Wt : Nat → sf_L → List Value → sf_S → Prop} {Post : (Int32 × sf_S) → Prop} (hs : sf_Snd Wt sf_layC sf_hI jX11_tidy tX11_tidy Post) (hm : sf_mono Wt) : ∀ av σ u, gX11_tidy av σ = some u → Post u → (∀ ad, (lg_sl (av.map (sf_v ad))).length ≤ 2) ∧ Wt 0 (sf_ent 0 av) [] σ := by
  intro av σ u h hp
  unfold gX11_tidy at h
  split at h
  · rename_i q x1
    split at h
    · rename_i hq
      have hq : q = 0 := by simpa using sf_rv_mem hq
      subst hq
      refine ⟨fun ad => Nat.le_of_ble_eq_true rfl, ?_⟩
      exact sf_run_ok hs sf_sm_nil 34 0 _ _ σ u h hp
    · cases h
  · cases h
theorem kX11_tidy (l : Launch) : sf_C l sf_layC yX11_tidy cX11_tidy 2 (some .int) (sf_rm 6 217) (fun av σ => (gX11_tidy av σ).map sf_vI) :=
  sf_met (tab := tX11_tidy) (J := jX11_tidy) (fl := sf_fl11) (cl := sf_cl11) (by decide +kernel) ⟨rfl, rfl⟩ sf_RH_I (by decide +kernel) sf_fl11_ok sf_cl11_ok
    (sf_JO_cons (sf_je_N (n := 2) (cs := [5]) (tv := sf_vV) "StreamFuser" (kX5_simplify l) mwX5_simplify (by decide +kernel : decode cX11_tidy 39 = .ok (.invokevirtual 142, 3)) wt_672 wt_674 wt_19 (by decide +kernel) (by decide) (by decide) (List.forall_mem_cons.mpr ⟨⟨_, _, rfl⟩, fun _ h => absurd h List.not_mem_nil⟩) (sf_RM_of (by omega) (by omega))) (sf_JO_cons (sf_je_N (n := 1) (cs := [3]) (tv := sf_vV) "StreamFuser" (kX3_print l) mwX3_print (by decide +kernel : decode cX11_tidy 46 = .ok (.invokevirtual 107, 3)) wt_632 wt_634 wt_14 (by decide +kernel) (by decide) (by decide) (List.forall_mem_cons.mpr ⟨⟨_, _, rfl⟩, fun _ h => absurd h List.not_mem_nil⟩) (sf_RM_of (by omega) (by omega))) (sf_JO_nil)))
    (fun Wt Post hs hm => rX11_tidy hs hm)
-- ===== StreamFuser.rules(I)I =====
abbrev tX11_rules : List (Nat × sf_E) := [(0, (.iload_n 1, 1, 0, .null, [], [])), (1, (.ifCond .lt 21, 4, 22, .null, [], [])), (4, (.iload_n 1, 5, 0, .null, [], [])), (5, (.bipush 13, 7, 0, .int (13), [], [])), (7, (.if_icmp .ge 15, 10, 22, .null, [], [])), (10, (.aload_n 0, 11, 0, .null, [], [])), (11, (.getfield 32, 14, 0, .null, [], [(9, 2)])), (14, (.getfield 149, 17, 0, .null, [], [(5, 1)])), (17, (.iload_n 1, 18, 0, .null, [], [])), (18, (.iaload, 19, 0, .null, [], [])), (19, (.goto 5, 22, 24, .null, [], [])), (22, (.bipush (-2), 24, 0, .int (-2), [], [])), (24, (.ireturn, 25, 0, .null, [], []))]
noncomputable abbrev jX11_rules : List (Nat × sf_J (Int32 × sf_S)) := []
noncomputable def dX11_rules (x1 : Int32) (σ : sf_S) : Option (Int32 × sf_S) :=
  if x1 < 0 then
    some ((-2 : Int32), σ)
  else
    if (13 : Int32) ≤ x1 then
      some ((-2 : Int32), σ)
    else
      if sf_in x1 13 then
        some ((σ 14 x1.toNatClampNeg), σ)
      else
        none
noncomputable abbrev gX11_rules (av : List Value) (σ : sf_S) : Option (Int32 × sf_S) := match av with
  | [.ref q, .int x1] => (match sf_rv [0] q with | true => dX11_rules x1 σ | false => none)
  | _ => none
set_option maxRecDepth 100000 in
set_option maxHeartbeats 4000000 in
theorem rX11_rules {Wt : Nat → sf_L → List Value → sf_S → Prop} {Post : (Int32 × sf_S) → Prop} (hs : sf_Snd Wt sf_layC sf_hI jX11_rules tX11_rules Post) (hm : sf_mono Wt) : ∀ av σ u, gX11_rules av σ = some u → Post u → (∀ ad, (lg_sl (av.map (sf_v ad))).length ≤ 2) ∧ Wt 0 (sf_ent 0 av) [] σ := by
  intro av σ u h hp
  unfold gX11_rules at h
  split at h
  · rename_i q x1
    split at h
    · rename_i hq
      have hq : q = 0 := by simpa using sf_rv_mem hq
      subst hq
      refine ⟨fun ad => Nat.le_of_ble_eq_true rfl, ?_⟩
      exact sf_run_ok hs sf_sm_nil 18 0 _ _ σ u h hp
    · cases h
  · cases h
theorem kX11_rules (l : Launch) : sf_C l sf_layC yX11_rules cX11_rules 2 (some .int) (sf_rm 1 100) (fun av σ => (gX11_rules av σ).map sf_vI) :=
  sf_met (tab := tX11_rules) (J := jX11_rules) (fl := sf_fl11) (cl := sf_cl11) (by decide +kernel) ⟨rfl, rfl⟩ sf_RH_I (by decide +kernel) sf_fl11_ok sf_cl11_ok
    (sf_JO_nil)
    (fun Wt Post hs hm => rX11_rules hs hm)
-- ===== StreamFuser.saves(I)I =====
abbrev tX11_saves : List (Nat × sf_E) := [(0, (.iload_n 1, 1, 0, .null, [], [])), (1, (.ifCond .lt 19, 4, 20, .null, [], [])), (4, (.iload_n 1, 5, 0, .null, [], [])), (5, (.bipush 40, 7, 0, .int (40), [], [])), (7, (.if_icmp .gt 13, 10, 20, .null, [], [])), (10, (.aload_n 0, 11, 0, .null, [], [])), (11, (.getfield 16, 14, 0, .null, [], [(9, 0)])), (14, (.getfield 110, 17, 0, .null, [], [(2, 4)])), (17, (.ifCond .ne 6, 20, 23, .null, [], [])), (20, (.ldc 116, 22, 0, .int (-2147483648), [], [])), (22, (.ireturn, 23, 0, .null, [], [])), (23, (.aload_n 0, 24, 0, .null, [], [])), (24, (.getfield 73, 27, 0, .null, [], [(9, 8)])), (27, (.aload_n 0, 28, 0, .null, [], [])), (28, (.getfield 16, 31, 0, .null, [], [(9, 0)])), (31, (.invokevirtual 104, 34, 0, .null, [], [])), (34, (.aload_n 0, 35, 0, .null, [], [])), (35, (.getfield 89, 38, 0, .null, [], [(9, 12)])), (38, (.iload_n 1, 39, 0, .null, [], [])), (39, (.invokevirtual 152, 42, 0, .null, [], [])), (42, (.aload_n 0, 43, 0, .null, [], [])), (43, (.getfield 86, 46, 0, .null, [], [(9, 11)])), (46, (.getfield 156, 49, 0, .null, [], [(6, 2)])), (49, (.istore_n 2, 50, 0, .null, [], [])), (50, (.aload_n 0, 51, 0, .null, [], [])), (51, (.getfield 83, 54, 0, .null, [], [(9, 10)])), (54, (.iconst 0, 55, 0, .int (0), [], [])), (55, (.invokevirtual 142, 58, 0, .null, [], [])), (58, (.aload_n 0, 59, 0, .null, [], [])), (59, (.getfield 89, 62, 0, .null, [], [(9, 12)])), (62, (.iload_n 1, 63, 0, .null, [], [])), (63, (.invokevirtual 152, 66, 0, .null, [], [])), (66, (.iload_n 2, 67, 0, .null, [], [])), (67, (.aload_n 0, 68, 0, .null, [], [])), (68, (.getfield 86, 71, 0, .null, [], [(9, 11)])), (71, (.getfield 156, 74, 0, .null, [], [(6, 2)])), (74, (.isub, 75, 0, .null, [], [])), (75, (.ireturn, 76, 0, .null, [], []))]
noncomputable abbrev jX11_saves : List (Nat × sf_J (Int32 × sf_S)) := [(31, sf_jV sf_layC [2] 2 gX2_takeFrom), (39, sf_jV sf_layC [0] 2 gX0_play), (55, sf_jV sf_layC [5] 2 gX5_simplify), (63, sf_jV sf_layC [0] 2 gX0_play)]
noncomputable def dX11_saves (x1 : Int32) (σ : sf_S) : Option (Int32 × sf_S) :=
  if x1 < 0 then
    some ((-2147483648 : Int32), σ)
  else
    if (40 : Int32) < x1 then
      some ((-2147483648 : Int32), σ)
    else
      if ¬ (σ 1 4) = 0 then
        (dX2_takeFrom 36 1 σ).bind fun u1 =>
        (dX0_play 55 x1 u1).bind fun u2 =>
        let v3 := (u2 51 2)
        (dX5_simplify 49 (0 : Int32) u2).bind fun u4 =>
        (dX0_play 55 x1 u4).bind fun u5 =>
        some ((v3 - (u5 51 2)), u5)
      else
        some ((-2147483648 : Int32), σ)
noncomputable abbrev gX11_saves (av : List Value) (σ : sf_S) : Option (Int32 × sf_S) := match av with
  | [.ref q, .int x1] => (match sf_rv [0] q with | true => dX11_saves x1 σ | false => none)
  | _ => none
set_option maxRecDepth 100000 in
set_option maxHeartbeats 4000000 in
theorem rX11_saves {Wt : Nat → sf_L → List Value → sf_S → Prop} {Post : (Int32 × sf_S) → Prop} (hs : sf_Snd Wt sf_layC sf_hI jX11_saves tX11_saves Post) (hm : sf_mono Wt) : ∀ av σ u, gX11_saves av σ = some u → Post u → (∀ ad, (lg_sl (av.map (sf_v ad))).length ≤ 3) ∧ Wt 0 (sf_ent 0 av) [] σ := by
  intro av σ u h hp
  unfold gX11_saves at h
  split at h
  · rename_i q x1
    split at h
    · rename_i hq
      have hq : q = 0 := by simpa using sf_rv_mem hq
      subst hq
      refine ⟨fun ad => Nat.le_of_ble_eq_true rfl, ?_⟩
      exact sf_run_ok hs sf_sm_nil 43 0 _ _ σ u h hp
    · cases h
  · cases h
theorem kX11_saves (l : Launch) : sf_C l sf_layC yX11_saves cX11_saves 3 (some .int) (sf_rm 442 16752) (fun av σ => (gX11_saves av σ).map sf_vI) :=
  sf_met (tab := tX11_saves) (J := jX11_saves) (fl := sf_fl11) (cl := sf_cl11) (by decide +kernel) ⟨rfl, rfl⟩ sf_RH_I (by decide +kernel) sf_fl11_ok sf_cl11_ok
    (sf_JO_cons (sf_je_N (n := 2) (cs := [2]) (tv := sf_vV) "StreamFuser" (kX2_takeFrom l) mwX2_takeFrom (by decide +kernel : decode cX11_saves 31 = .ok (.invokevirtual 104, 3)) wt_611 wt_613 wt_10 (by decide +kernel) (by decide) (by decide) (List.forall_mem_cons.mpr ⟨⟨_, _, rfl⟩, fun _ h => absurd h List.not_mem_nil⟩) (sf_RM_of (by omega) (by omega))) (sf_JO_cons (sf_je_N (n := 2) (cs := [0]) (tv := sf_vV) "StreamFuser" (kX0_play l) mwX0_play (by decide +kernel : decode cX11_saves 39 = .ok (.invokevirtual 152, 3)) wt_759 wt_761 wt_36 (by decide +kernel) (by decide) (by decide) (List.forall_mem_cons.mpr ⟨⟨_, _, rfl⟩, fun _ h => absurd h List.not_mem_nil⟩) (sf_RM_of (by omega) (by omega))) (sf_JO_cons (sf_je_N (n := 2) (cs := [5]) (tv := sf_vV) "StreamFuser" (kX5_simplify l) mwX5_simplify (by decide +kernel : decode cX11_saves 55 = .ok (.invokevirtual 142, 3)) wt_672 wt_674 wt_19 (by decide +kernel) (by decide) (by decide) (List.forall_mem_cons.mpr ⟨⟨_, _, rfl⟩, fun _ h => absurd h List.not_mem_nil⟩) (sf_RM_of (by omega) (by omega))) (sf_JO_cons (sf_je_N (n := 2) (cs := [0]) (tv := sf_vV) "StreamFuser" (kX0_play l) mwX0_play (by decide +kernel : decode cX11_saves 63 = .ok (.invokevirtual 152, 3)) wt_759 wt_761 wt_36 (by decide +kernel) (by decide) (by decide) (List.forall_mem_cons.mpr ⟨⟨_, _, rfl⟩, fun _ h => absurd h List.not_mem_nil⟩) (sf_RM_of (by omega) (by omega))) (sf_JO_nil)))))
    (fun Wt Post hs hm => rX11_saves hs hm)
-- ===== StreamFuser.run(II)I =====
abbrev tX11_run : List (Nat × sf_E) := [(0, (.iload_n 1, 1, 0, .null, [], [])), (1, (.ifCond .lt 18, 4, 19, .null, [], [])), (4, (.iload_n 1, 5, 0, .null, [], [])), (5, (.iconst 2, 6, 0, .int (2), [], [])), (6, (.if_icmp .gt 13, 9, 19, .null, [], [])), (9, (.iload_n 2, 10, 0, .null, [], [])), (10, (.ifCond .lt 9, 13, 19, .null, [], [])), (13, (.iload_n 2, 14, 0, .null, [], [])), (14, (.bipush 40, 16, 0, .int (40), [], [])), (16, (.if_icmp .le 6, 19, 22, .null, [], [])), (19, (.bipush (-2), 21, 0, .int (-2), [], [])), (21, (.ireturn, 22, 0, .null, [], [])), (22, (.aload_n 0, 23, 0, .null, [], [])), (23, (.getfield 16, 26, 0, .null, [], [(9, 0)])), (26, (.getfield 110, 29, 0, .null, [], [(2, 4)])), (29, (.ifCond .eq 18, 32, 47, .null, [], [])), (32, (.iload_n 1, 33, 0, .null, [], [])), (33, (.iconst 2, 34, 0, .int (2), [], [])), (34, (.if_icmp .ne 16, 37, 50, .null, [], [])), (37, (.aload_n 0, 38, 0, .null, [], [])), (38, (.getfield 16, 41, 0, .null, [], [(9, 0)])), (41, (.getfield 159, 44, 0, .null, [], [(2, 11)])), (44, (.ifCond .eq 6, 47, 50, .null, [], [])), (47, (.bipush (-3), 49, 0, .int (-3), [], [])), (49, (.ireturn, 50, 0, .null, [], [])), (50, (.iload_n 1, 51, 0, .null, [], [])), (51, (.ifCond .ne 14, 54, 65, .null, [], [])), (54, (.aload_n 0, 55, 0, .null, [], [])), (55, (.getfield 55, 58, 0, .null, [], [(9, 5)])), (58, (.iload_n 2, 59, 0, .null, [], [])), (59, (.invokevirtual 152, 62, 0, .null, [], [])), (62, (.goto 27, 65, 89, .null, [], [])), (65, (.iload_n 1, 66, 0, .null, [], [])), (66, (.iconst 1, 67, 0, .int (1), [], [])), (67, (.if_icmp .ne 14, 70, 81, .null, [], [])), (70, (.aload_n 0, 71, 0, .null, [], [])), (71, (.getfield 62, 74, 0, .null, [], [(9, 6)])), (74, (.iload_n 2, 75, 0, .null, [], [])), (75, (.invokevirtual 163, 78, 0, .null, [], [])), (78, (.goto 11, 81, 89, .null, [], [])), (81, (.aload_n 0, 82, 0, .null, [], [])), (82, (.getfield 69, 85, 0, .null, [], [(9, 7)])), (85, (.iload_n 2, 86, 0, .null, [], [])), (86, (.invokevirtual 164, 89, 0, .null, [], [])), (89, (.aload_n 0, 90, 0, .null, [], [])), (90, (.getfield 46, 93, 0, .null, [], [(9, 4)])), (93, (.getfield 165, 96, 0, .null, [], [(6, 1)])), (96, (.ireturn, 97, 0, .null, [], []))]
noncomputable abbrev jX11_run : List (Nat × sf_J (Int32 × sf_S)) := [(59, sf_jV sf_layC [0] 2 gX0_play), (75, sf_jV sf_layC [8] 2 gX8_play), (86, sf_jV sf_layC [1] 2 gX1_play)]
abbrev wX11_run_50 {ρ : Type} (k : Int32 → Int32 → sf_S → Option ρ) : sf_M ρ := fun L st σ => sf_lda L 0 fun a0 => sf_eq a0 0 (sf_ldi L 1 fun x1 => sf_ldi L 2 fun x2 => sf_nil st (k x1 x2 σ))
theorem wX11_run_50_ok {ρ : Type} {Wt : Nat → sf_L → List Value → sf_S → Prop} {Post : ρ → Prop} (hm : sf_mono Wt) {k : Int32 → Int32 → sf_S → Option ρ} (h : ∀ (x1 : Int32) (x2 : Int32) (σ : sf_S) (u : ρ), k x1 x2 σ = some u → Post u → Wt 50 [(0, some (.ref 0)), (1, some (.int x1)), (2, some (.int x2))] [] σ) : sf_CK Wt Post 50 (wX11_run_50 k) := by
  intro L st σ u hf hp
  unfold wX11_run_50 at hf
  have hf0 := hf
  obtain ⟨a0, e0, hf1⟩ := sf_lda_inv hf0
  obtain ⟨rfl, hf2⟩ := sf_eq_inv hf1
  obtain ⟨x1, e1, hf3⟩ := sf_ldi_inv hf2
  obtain ⟨x2, e2, hf4⟩ := sf_ldi_inv hf3
  obtain ⟨rfl, hz⟩ := sf_nil_inv hf4
  exact hm _ [(0, some (.ref _)), (1, some (.int x1)), (2, some (.int x2))] _ _ _ (sf_le_ok (And.intro e0 (And.intro e1 (And.intro e2 trivial)))) (h _ _ _ _ hz hp)
noncomputable def dX11_run_50 (x1 : Int32) (x2 : Int32) (σ : sf_S) : Option (Int32 × sf_S) :=
  if ¬ x1 = 0 then
    if ¬ x1 = (1 : Int32) then
      (dX1_play x2 σ).bind fun u1 =>
      some ((u1 19 1), u1)
    else
      (dX8_play x2 σ).bind fun u2 =>
      some ((u2 19 1), u2)
  else
    (dX0_play 23 x2 σ).bind fun u3 =>
    some ((u3 19 1), u3)
set_option maxRecDepth 100000 in
set_option maxHeartbeats 4000000 in
theorem rX11_run_50 {Wt : Nat → sf_L → List Value → sf_S → Prop} {Post : (Int32 × sf_S) → Prop} (hs : sf_Snd Wt sf_layC sf_hI jX11_run tX11_run Post) (hm : sf_mono Wt) : sf_CK Wt Post 50 (wX11_run_50 (dX11_run_50)) := by
  refine wX11_run_50_ok hm ?_
  intro x1 x2 σ u h hp
  exact sf_run_ok hs sf_sm_nil 53 50 _ _ σ u h hp
noncomputable def dX11_run (x1 : Int32) (x2 : Int32) (σ : sf_S) : Option (Int32 × sf_S) :=
  if x1 < 0 then
    some ((-2 : Int32), σ)
  else
    if (2 : Int32) < x1 then
      some ((-2 : Int32), σ)
    else
      if x2 < 0 then
        some ((-2 : Int32), σ)
      else
        if x2 ≤ (40 : Int32) then
          if (σ 1 4) = 0 then
            some ((-3 : Int32), σ)
          else
            if ¬ x1 = (2 : Int32) then
              dX11_run_50 x1 x2 σ
            else
              if (σ 1 11) = 0 then
                dX11_run_50 x1 x2 σ
              else
                some ((-3 : Int32), σ)
        else
          some ((-2 : Int32), σ)
noncomputable abbrev gX11_run (av : List Value) (σ : sf_S) : Option (Int32 × sf_S) := match av with
  | [.ref q, .int x1, .int x2] => (match sf_rv [0] q with | true => dX11_run x1 x2 σ | false => none)
  | _ => none
set_option maxRecDepth 100000 in
set_option maxHeartbeats 4000000 in
theorem rX11_run {Wt : Nat → sf_L → List Value → sf_S → Prop} {Post : (Int32 × sf_S) → Prop} (hs : sf_Snd Wt sf_layC sf_hI jX11_run tX11_run Post) (hm : sf_mono Wt) : ∀ av σ u, gX11_run av σ = some u → Post u → (∀ ad, (lg_sl (av.map (sf_v ad))).length ≤ 3) ∧ Wt 0 (sf_ent 0 av) [] σ := by
  intro av σ u h hp
  unfold gX11_run at h
  split at h
  · rename_i q x1 x2
    split at h
    · rename_i hq
      have hq : q = 0 := by simpa using sf_rv_mem hq
      subst hq
      refine ⟨fun ad => Nat.le_of_ble_eq_true rfl, ?_⟩
      exact sf_run_ok hs (sf_sm_cons (rX11_run_50 hs hm) sf_sm_nil) 53 0 _ _ σ u h hp
    · cases h
  · cases h
theorem kX11_run (l : Launch) : sf_C l sf_layC yX11_run cX11_run 3 (some .int) (sf_rm 484 17760) (fun av σ => (gX11_run av σ).map sf_vI) :=
  sf_met (tab := tX11_run) (J := jX11_run) (fl := sf_fl11) (cl := sf_cl11) (by decide +kernel) ⟨rfl, rfl⟩ sf_RH_I (by decide +kernel) sf_fl11_ok sf_cl11_ok
    (sf_JO_cons (sf_je_N (n := 2) (cs := [0]) (tv := sf_vV) "StreamFuser" (kX0_play l) mwX0_play (by decide +kernel : decode cX11_run 59 = .ok (.invokevirtual 152, 3)) wt_759 wt_761 wt_36 (by decide +kernel) (by decide) (by decide) (List.forall_mem_cons.mpr ⟨⟨_, _, rfl⟩, fun _ h => absurd h List.not_mem_nil⟩) (sf_RM_of (by omega) (by omega))) (sf_JO_cons (sf_je_N (n := 2) (cs := [8]) (tv := sf_vV) "StreamFuser" (kX8_play l) mwX8_play (by decide +kernel : decode cX11_run 75 = .ok (.invokevirtual 163, 3)) wt_926 wt_928 wt_53 (by decide +kernel) (by decide) (by decide) (List.forall_mem_cons.mpr ⟨⟨_, _, rfl⟩, fun _ h => absurd h List.not_mem_nil⟩) (sf_RM_of (by omega) (by omega))) (sf_JO_cons (sf_je_N (n := 2) (cs := [1]) (tv := sf_vV) "StreamFuser" (kX1_play l) mwX1_play (by decide +kernel : decode cX11_run 86 = .ok (.invokevirtual 164, 3)) wt_979 wt_981 wt_60 (by decide +kernel) (by decide) (by decide) (List.forall_mem_cons.mpr ⟨⟨_, _, rfl⟩, fun _ h => absurd h List.not_mem_nil⟩) (sf_RM_of (by omega) (by omega))) (sf_JO_nil))))
    (fun Wt Post hs hm => rX11_run hs hm)
-- ===== StreamFuser.result(I)J =====
abbrev tX11_result : List (Nat × sf_E) := [(0, (.iload_n 1, 1, 0, .null, [], [])), (1, (.ifCond .lt 27, 4, 28, .null, [], [])), (4, (.iload_n 1, 5, 0, .null, [], [])), (5, (.aload_n 0, 6, 0, .null, [], [])), (6, (.getfield 46, 9, 0, .null, [], [(9, 4)])), (9, (.getfield 165, 12, 0, .null, [], [(6, 1)])), (12, (.if_icmp .ge 16, 15, 28, .null, [], [])), (15, (.aload_n 0, 16, 0, .null, [], [])), (16, (.getfield 46, 19, 0, .null, [], [(9, 4)])), (19, (.getfield 166, 22, 0, .null, [], [(6, 0)])), (22, (.iload_n 1, 23, 0, .null, [], [])), (23, (.iaload, 24, 0, .null, [], [])), (24, (.i2l, 25, 0, .null, [], [])), (25, (.goto 6, 28, 31, .null, [], [])), (28, (.ldc2_w 169, 31, 0, .long (-9223372036854775806), [], [])), (31, (.lreturn, 32, 0, .null, [], []))]
noncomputable abbrev jX11_result : List (Nat × sf_J (Int64 × sf_S)) := []
noncomputable def dX11_result (x1 : Int32) (σ : sf_S) : Option (Int64 × sf_S) :=
  if x1 < 0 then
    some ((-9223372036854775806 : Int64), σ)
  else
    if (σ 19 1) ≤ x1 then
      some ((-9223372036854775806 : Int64), σ)
    else
      if sf_in x1 40 then
        some (((σ 20 x1.toNatClampNeg)).toInt64, σ)
      else
        none
noncomputable abbrev gX11_result (av : List Value) (σ : sf_S) : Option (Int64 × sf_S) := match av with
  | [.ref q, .int x1] => (match sf_rv [0] q with | true => dX11_result x1 σ | false => none)
  | _ => none
set_option maxRecDepth 100000 in
set_option maxHeartbeats 4000000 in
theorem rX11_result {Wt : Nat → sf_L → List Value → sf_S → Prop} {Post : (Int64 × sf_S) → Prop} (hs : sf_Snd Wt sf_layC sf_hL jX11_result tX11_result Post) (hm : sf_mono Wt) : ∀ av σ u, gX11_result av σ = some u → Post u → (∀ ad, (lg_sl (av.map (sf_v ad))).length ≤ 2) ∧ Wt 0 (sf_ent 0 av) [] σ := by
  intro av σ u h hp
  unfold gX11_result at h
  split at h
  · rename_i q x1
    split at h
    · rename_i hq
      have hq : q = 0 := by simpa using sf_rv_mem hq
      subst hq
      refine ⟨fun ad => Nat.le_of_ble_eq_true rfl, ?_⟩
      exact sf_run_ok hs sf_sm_nil 21 0 _ _ σ u h hp
    · cases h
  · cases h
theorem kX11_result (l : Launch) : sf_C l sf_layC yX11_result cX11_result 2 (some .long) (sf_rm 1 100) (fun av σ => (gX11_result av σ).map sf_vL) :=
  sf_met (tab := tX11_result) (J := jX11_result) (fl := sf_fl11) (cl := sf_cl11) (by decide +kernel) ⟨rfl, rfl⟩ sf_RH_L (by decide +kernel) sf_fl11_ok sf_cl11_ok
    (sf_JO_nil)
    (fun Wt Post hs hm => rX11_result hs hm)
-- ===== StreamFuser.fold(I)J =====
abbrev tX11_fold : List (Nat × sf_E) := [(0, (.iload_n 1, 1, 0, .null, [], [])), (1, (.ifCond .lt 8, 4, 9, .null, [], [])), (4, (.iload_n 1, 5, 0, .null, [], [])), (5, (.iconst 2, 6, 0, .int (2), [], [])), (6, (.if_icmp .le 7, 9, 13, .null, [], [])), (9, (.ldc2_w 169, 12, 0, .long (-9223372036854775806), [], [])), (12, (.lreturn, 13, 0, .null, [], [])), (13, (.iload_n 1, 14, 0, .null, [], [])), (14, (.ifCond .ne 11, 17, 25, .null, [], [])), (17, (.aload_n 0, 18, 0, .null, [], [])), (18, (.getfield 46, 21, 0, .null, [], [(9, 4)])), (21, (.invokevirtual 171, 24, 0, .null, [], [])), (24, (.lreturn, 25, 0, .null, [], [])), (25, (.aload_n 0, 26, 0, .null, [], [])), (26, (.getfield 46, 29, 0, .null, [], [(9, 4)])), (29, (.getfield 165, 32, 0, .null, [], [(6, 1)])), (32, (.ifCond .ne 7, 35, 39, .null, [], [])), (35, (.ldc2_w 175, 38, 0, .long (-9223372036854775805), [], [])), (38, (.lreturn, 39, 0, .null, [], [])), (39, (.iload_n 1, 40, 0, .null, [], [])), (40, (.iconst 1, 41, 0, .int (1), [], [])), (41, (.if_icmp .ne 14, 44, 55, .null, [], [])), (44, (.aload_n 0, 45, 0, .null, [], [])), (45, (.getfield 46, 48, 0, .null, [], [(9, 4)])), (48, (.invokevirtual 177, 51, 0, .null, [], [])), (51, (.i2l, 52, 0, .null, [], [])), (52, (.goto 11, 55, 63, .null, [], [])), (55, (.aload_n 0, 56, 0, .null, [], [])), (56, (.getfield 46, 59, 0, .null, [], [(9, 4)])), (59, (.invokevirtual 180, 62, 0, .null, [], [])), (62, (.i2l, 63, 0, .null, [], [])), (63, (.lreturn, 64, 0, .null, [], []))]
noncomputable abbrev jX11_fold : List (Nat × sf_J (Int64 × sf_S)) := [(21, sf_jL sf_layC [6] 1 gX6_sum), (48, sf_jI sf_layC [6] 1 gX6_greatest), (59, sf_jI sf_layC [6] 1 gX6_smallest)]
noncomputable def dX11_fold (x1 : Int32) (σ : sf_S) : Option (Int64 × sf_S) :=
  if x1 < 0 then
    some ((-9223372036854775806 : Int64), σ)
  else
    if x1 ≤ (2 : Int32) then
      if ¬ x1 = 0 then
        if ¬ (σ 19 1) = 0 then
          if ¬ x1 = (1 : Int32) then
            (dX6_smallest 19 σ).bind fun u1 =>
            some (u1.1.toInt64, u1.2)
          else
            (dX6_greatest 19 σ).bind fun u2 =>
            some (u2.1.toInt64, u2.2)
        else
          some ((-9223372036854775805 : Int64), σ)
      else
        (dX6_sum 19 σ).bind fun u3 =>
        some (u3.1, u3.2)
    else
      some ((-9223372036854775806 : Int64), σ)
noncomputable abbrev gX11_fold (av : List Value) (σ : sf_S) : Option (Int64 × sf_S) := match av with
  | [.ref q, .int x1] => (match sf_rv [0] q with | true => dX11_fold x1 σ | false => none)
  | _ => none
set_option maxRecDepth 100000 in
set_option maxHeartbeats 4000000 in
theorem rX11_fold {Wt : Nat → sf_L → List Value → sf_S → Prop} {Post : (Int64 × sf_S) → Prop} (hs : sf_Snd Wt sf_layC sf_hL jX11_fold tX11_fold Post) (hm : sf_mono Wt) : ∀ av σ u, gX11_fold av σ = some u → Post u → (∀ ad, (lg_sl (av.map (sf_v ad))).length ≤ 2) ∧ Wt 0 (sf_ent 0 av) [] σ := by
  intro av σ u h hp
  unfold gX11_fold at h
  split at h
  · rename_i q x1
    split at h
    · rename_i hq
      have hq : q = 0 := by simpa using sf_rv_mem hq
      subst hq
      refine ⟨fun ad => Nat.le_of_ble_eq_true rfl, ?_⟩
      exact sf_run_ok hs sf_sm_nil 37 0 _ _ σ u h hp
    · cases h
  · cases h
theorem kX11_fold (l : Launch) : sf_C l sf_layC yX11_fold cX11_fold 2 (some .long) (sf_rm 2 123) (fun av σ => (gX11_fold av σ).map sf_vL) :=
  sf_met (tab := tX11_fold) (J := jX11_fold) (fl := sf_fl11) (cl := sf_cl11) (by decide +kernel) ⟨rfl, rfl⟩ sf_RH_L (by decide +kernel) sf_fl11_ok sf_cl11_ok
    (sf_JO_cons (sf_je_N (n := 1) (cs := [6]) (tv := sf_vL) "StreamFuser" (kX6_sum l) mwX6_sum (by decide +kernel : decode cX11_fold 21 = .ok (.invokevirtual 171, 3)) wt_1059 wt_1061 wt_70 (by decide +kernel) (by decide) (by decide) (List.forall_mem_cons.mpr ⟨⟨_, _, rfl⟩, fun _ h => absurd h List.not_mem_nil⟩) (sf_RM_of (by omega) (by omega))) (sf_JO_cons (sf_je_N (n := 1) (cs := [6]) (tv := sf_vI) "StreamFuser" (kX6_greatest l) mwX6_greatest (by decide +kernel : decode cX11_fold 48 = .ok (.invokevirtual 177, 3)) wt_1064 wt_1066 wt_71 (by decide +kernel) (by decide) (by decide) (List.forall_mem_cons.mpr ⟨⟨_, _, rfl⟩, fun _ h => absurd h List.not_mem_nil⟩) (sf_RM_of (by omega) (by omega))) (sf_JO_cons (sf_je_N (n := 1) (cs := [6]) (tv := sf_vI) "StreamFuser" (kX6_smallest l) mwX6_smallest (by decide +kernel : decode cX11_fold 59 = .ok (.invokevirtual 180, 3)) wt_1070 wt_1072 wt_72 (by decide +kernel) (by decide) (by decide) (List.forall_mem_cons.mpr ⟨⟨_, _, rfl⟩, fun _ h => absurd h List.not_mem_nil⟩) (sf_RM_of (by omega) (by omega))) (sf_JO_nil))))
    (fun Wt Post hs hm => rX11_fold hs hm)
-- ===== StreamFuser.failure(I)I =====
abbrev tX11_failure : List (Nat × sf_E) := [(0, (.iload_n 1, 1, 0, .null, [], [])), (1, (.ifCond .lt 8, 4, 9, .null, [], [])), (4, (.iload_n 1, 5, 0, .null, [], [])), (5, (.iconst 1, 6, 0, .int (1), [], [])), (6, (.if_icmp .le 6, 9, 12, .null, [], [])), (9, (.bipush (-2), 11, 0, .int (-2), [], [])), (11, (.ireturn, 12, 0, .null, [], [])), (12, (.iload_n 1, 13, 0, .null, [], [])), (13, (.ifCond .ne 13, 16, 26, .null, [], [])), (16, (.aload_n 0, 17, 0, .null, [], [])), (17, (.getfield 46, 20, 0, .null, [], [(9, 4)])), (20, (.getfield 183, 23, 0, .null, [], [(6, 5)])), (23, (.goto 10, 26, 33, .null, [], [])), (26, (.aload_n 0, 27, 0, .null, [], [])), (27, (.getfield 46, 30, 0, .null, [], [(9, 4)])), (30, (.getfield 186, 33, 0, .null, [], [(6, 6)])), (33, (.ireturn, 34, 0, .null, [], []))]
noncomputable abbrev jX11_failure : List (Nat × sf_J (Int32 × sf_S)) := []
noncomputable def dX11_failure (x1 : Int32) (σ : sf_S) : Option (Int32 × sf_S) :=
  if x1 < 0 then
    some ((-2 : Int32), σ)
  else
    if x1 ≤ (1 : Int32) then
      if ¬ x1 = 0 then
        some ((σ 19 6), σ)
      else
        some ((σ 19 5), σ)
    else
      some ((-2 : Int32), σ)
noncomputable abbrev gX11_failure (av : List Value) (σ : sf_S) : Option (Int32 × sf_S) := match av with
  | [.ref q, .int x1] => (match sf_rv [0] q with | true => dX11_failure x1 σ | false => none)
  | _ => none
set_option maxRecDepth 100000 in
set_option maxHeartbeats 4000000 in
theorem rX11_failure {Wt : Nat → sf_L → List Value → sf_S → Prop} {Post : (Int32 × sf_S) → Prop} (hs : sf_Snd Wt sf_layC sf_hI jX11_failure tX11_failure Post) (hm : sf_mono Wt) : ∀ av σ u, gX11_failure av σ = some u → Post u → (∀ ad, (lg_sl (av.map (sf_v ad))).length ≤ 2) ∧ Wt 0 (sf_ent 0 av) [] σ := by
  intro av σ u h hp
  unfold gX11_failure at h
  split at h
  · rename_i q x1
    split at h
    · rename_i hq
      have hq : q = 0 := by simpa using sf_rv_mem hq
      subst hq
      refine ⟨fun ad => Nat.le_of_ble_eq_true rfl, ?_⟩
      exact sf_run_ok hs sf_sm_nil 22 0 _ _ σ u h hp
    · cases h
  · cases h
theorem kX11_failure (l : Launch) : sf_C l sf_layC yX11_failure cX11_failure 2 (some .int) (sf_rm 1 100) (fun av σ => (gX11_failure av σ).map sf_vI) :=
  sf_met (tab := tX11_failure) (J := jX11_failure) (fl := sf_fl11) (cl := sf_cl11) (by decide +kernel) ⟨rfl, rfl⟩ sf_RH_I (by decide +kernel) sf_fl11_ok sf_cl11_ok
    (sf_JO_nil)
    (fun Wt Post hs hm => rX11_failure hs hm)
-- ===== StreamFuser.told(I)I =====
abbrev tX11_told : List (Nat × sf_E) := [(0, (.iload_n 1, 1, 0, .null, [], [])), (1, (.tableswitch 63 0 3 #[31, 39, 47, 55], 32, 64, .null, [((0), 32), ((1), 40), ((2), 48), ((3), 56)], [])), (32, (.aload_n 0, 33, 0, .null, [], [])), (33, (.getfield 46, 36, 0, .null, [], [(9, 4)])), (36, (.getfield 156, 39, 0, .null, [], [(6, 2)])), (39, (.ireturn, 40, 0, .null, [], [])), (40, (.aload_n 0, 41, 0, .null, [], [])), (41, (.getfield 46, 44, 0, .null, [], [(9, 4)])), (44, (.getfield 189, 47, 0, .null, [], [(6, 3)])), (47, (.ireturn, 48, 0, .null, [], [])), (48, (.aload_n 0, 49, 0, .null, [], [])), (49, (.getfield 46, 52, 0, .null, [], [(9, 4)])), (52, (.getfield 192, 55, 0, .null, [], [(6, 4)])), (55, (.ireturn, 56, 0, .null, [], [])), (56, (.aload_n 0, 57, 0, .null, [], [])), (57, (.getfield 46, 60, 0, .null, [], [(9, 4)])), (60, (.getfield 195, 63, 0, .null, [], [(6, 9)])), (63, (.ireturn, 64, 0, .null, [], [])), (64, (.bipush (-2), 66, 0, .int (-2), [], [])), (66, (.ireturn, 67, 0, .null, [], []))]
noncomputable abbrev jX11_told : List (Nat × sf_J (Int32 × sf_S)) := []
noncomputable def dX11_told (x1 : Int32) (σ : sf_S) : Option (Int32 × sf_S) :=
  if x1 = (0 : Int32) then
    some ((σ 19 2), σ)
  else
  if x1 = (1 : Int32) then
    some ((σ 19 3), σ)
  else
  if x1 = (2 : Int32) then
    some ((σ 19 4), σ)
  else
  if x1 = (3 : Int32) then
    some ((σ 19 9), σ)
  else
    some ((-2 : Int32), σ)
noncomputable abbrev gX11_told (av : List Value) (σ : sf_S) : Option (Int32 × sf_S) := match av with
  | [.ref q, .int x1] => (match sf_rv [0] q with | true => dX11_told x1 σ | false => none)
  | _ => none
set_option maxRecDepth 100000 in
set_option maxHeartbeats 4000000 in
theorem rX11_told {Wt : Nat → sf_L → List Value → sf_S → Prop} {Post : (Int32 × sf_S) → Prop} (hs : sf_Snd Wt sf_layC sf_hI jX11_told tX11_told Post) (hm : sf_mono Wt) : ∀ av σ u, gX11_told av σ = some u → Post u → (∀ ad, (lg_sl (av.map (sf_v ad))).length ≤ 2) ∧ Wt 0 (sf_ent 0 av) [] σ := by
  intro av σ u h hp
  unfold gX11_told at h
  split at h
  · rename_i q x1
    split at h
    · rename_i hq
      have hq : q = 0 := by simpa using sf_rv_mem hq
      subst hq
      refine ⟨fun ad => Nat.le_of_ble_eq_true rfl, ?_⟩
      exact sf_run_ok hs sf_sm_nil 25 0 _ _ σ u h hp
    · cases h
  · cases h
theorem kX11_told (l : Launch) : sf_C l sf_layC yX11_told cX11_told 2 (some .int) (sf_rm 1 100) (fun av σ => (gX11_told av σ).map sf_vI) :=
  sf_met (tab := tX11_told) (J := jX11_told) (fl := sf_fl11) (cl := sf_cl11) (by decide +kernel) ⟨rfl, rfl⟩ sf_RH_I (by decide +kernel) sf_fl11_ok sf_cl11_ok
    (sf_JO_nil)
    (fun Wt Post hs hm => rX11_told hs hm)
-- ===== StreamFuser.written(II)J =====
abbrev tX11_written : List (Nat × sf_E) := [(0, (.iload_n 1, 1, 0, .null, [], [])), (1, (.ifCond .lt 23, 4, 24, .null, [], [])), (4, (.iload_n 1, 5, 0, .null, [], [])), (5, (.aload_n 0, 6, 0, .null, [], [])), (6, (.getfield 46, 9, 0, .null, [], [(9, 4)])), (9, (.invokevirtual 198, 12, 0, .null, [], [])), (12, (.if_icmp .ge 12, 15, 24, .null, [], [])), (15, (.iload_n 2, 16, 0, .null, [], [])), (16, (.ifCond .lt 8, 19, 24, .null, [], [])), (19, (.iload_n 2, 20, 0, .null, [], [])), (20, (.iconst 1, 21, 0, .int (1), [], [])), (21, (.if_icmp .le 7, 24, 28, .null, [], [])), (24, (.ldc2_w 169, 27, 0, .long (-9223372036854775806), [], [])), (27, (.lreturn, 28, 0, .null, [], [])), (28, (.iload_n 2, 29, 0, .null, [], [])), (29, (.ifCond .ne 16, 32, 45, .null, [], [])), (32, (.aload_n 0, 33, 0, .null, [], [])), (33, (.getfield 46, 36, 0, .null, [], [(9, 4)])), (36, (.getfield 201, 39, 0, .null, [], [(6, 7)])), (39, (.iload_n 1, 40, 0, .null, [], [])), (40, (.iaload, 41, 0, .null, [], [])), (41, (.i2l, 42, 0, .null, [], [])), (42, (.goto 13, 45, 55, .null, [], [])), (45, (.aload_n 0, 46, 0, .null, [], [])), (46, (.getfield 46, 49, 0, .null, [], [(9, 4)])), (49, (.getfield 204, 52, 0, .null, [], [(6, 8)])), (52, (.iload_n 1, 53, 0, .null, [], [])), (53, (.iaload, 54, 0, .null, [], [])), (54, (.i2l, 55, 0, .null, [], [])), (55, (.lreturn, 56, 0, .null, [], []))]
noncomputable abbrev jX11_written : List (Nat × sf_J (Int64 × sf_S)) := [(9, sf_jI sf_layC [6] 1 gX6_kept)]
noncomputable def dX11_written (x1 : Int32) (x2 : Int32) (σ : sf_S) : Option (Int64 × sf_S) :=
  if x1 < 0 then
    some ((-9223372036854775806 : Int64), σ)
  else
    (dX6_kept 19 σ).bind fun u1 =>
    if u1.1 ≤ x1 then
      some ((-9223372036854775806 : Int64), u1.2)
    else
      if x2 < 0 then
        some ((-9223372036854775806 : Int64), u1.2)
      else
        if x2 ≤ (1 : Int32) then
          if ¬ x2 = 0 then
            if sf_in x1 40 then
              some (((u1.2 22 x1.toNatClampNeg)).toInt64, u1.2)
            else
              none
          else
            if sf_in x1 40 then
              some (((u1.2 21 x1.toNatClampNeg)).toInt64, u1.2)
            else
              none
        else
          some ((-9223372036854775806 : Int64), u1.2)
noncomputable abbrev gX11_written (av : List Value) (σ : sf_S) : Option (Int64 × sf_S) := match av with
  | [.ref q, .int x1, .int x2] => (match sf_rv [0] q with | true => dX11_written x1 x2 σ | false => none)
  | _ => none
set_option maxRecDepth 100000 in
set_option maxHeartbeats 4000000 in
theorem rX11_written {Wt : Nat → sf_L → List Value → sf_S → Prop} {Post : (Int64 × sf_S) → Prop} (hs : sf_Snd Wt sf_layC sf_hL jX11_written tX11_written Post) (hm : sf_mono Wt) : ∀ av σ u, gX11_written av σ = some u → Post u → (∀ ad, (lg_sl (av.map (sf_v ad))).length ≤ 3) ∧ Wt 0 (sf_ent 0 av) [] σ := by
  intro av σ u h hp
  unfold gX11_written at h
  split at h
  · rename_i q x1 x2
    split at h
    · rename_i hq
      have hq : q = 0 := by simpa using sf_rv_mem hq
      subst hq
      refine ⟨fun ad => Nat.le_of_ble_eq_true rfl, ?_⟩
      exact sf_run_ok hs sf_sm_nil 35 0 _ _ σ u h hp
    · cases h
  · cases h
theorem kX11_written (l : Launch) : sf_C l sf_layC yX11_written cX11_written 3 (some .long) (sf_rm 2 120) (fun av σ => (gX11_written av σ).map sf_vL) :=
  sf_met (tab := tX11_written) (J := jX11_written) (fl := sf_fl11) (cl := sf_cl11) (by decide +kernel) ⟨rfl, rfl⟩ sf_RH_L (by decide +kernel) sf_fl11_ok sf_cl11_ok
    (sf_JO_cons (sf_je_N (n := 1) (cs := [6]) (tv := sf_vI) "StreamFuser" (kX6_kept l) mwX6_kept (by decide +kernel : decode cX11_written 9 = .ok (.invokevirtual 198, 3)) wt_1088 wt_1090 wt_73 (by decide +kernel) (by decide) (by decide) (List.forall_mem_cons.mpr ⟨⟨_, _, rfl⟩, fun _ h => absurd h List.not_mem_nil⟩) (sf_RM_of (by omega) (by omega))) (sf_JO_nil))
    (fun Wt Post hs hm => rX11_written hs hm)
-- ===== StreamFuser.count(I)I =====
abbrev tX11_count : List (Nat × sf_E) := [(0, (.iload_n 1, 1, 0, .null, [], [])), (1, (.tableswitch 120 0 8 #[51, 59, 67, 75, 83, 91, 99, 107, 115], 52, 121, .null, [((0), 52), ((1), 60), ((2), 68), ((3), 76), ((4), 84), ((5), 92), ((6), 100), ((7), 108), ((8), 116)], [])), (52, (.aload_n 0, 53, 0, .null, [], [])), (53, (.getfield 16, 56, 0, .null, [], [(9, 0)])), (56, (.getfield 110, 59, 0, .null, [], [(2, 4)])), (59, (.ireturn, 60, 0, .null, [], [])), (60, (.aload_n 0, 61, 0, .null, [], [])), (61, (.getfield 79, 64, 0, .null, [], [(9, 9)])), (64, (.getfield 96, 67, 0, .null, [], [(4, 2)])), (67, (.ireturn, 68, 0, .null, [], [])), (68, (.aload_n 0, 69, 0, .null, [], [])), (69, (.getfield 46, 72, 0, .null, [], [(9, 4)])), (72, (.getfield 165, 75, 0, .null, [], [(6, 1)])), (75, (.ireturn, 76, 0, .null, [], [])), (76, (.aload_n 0, 77, 0, .null, [], [])), (77, (.getfield 46, 80, 0, .null, [], [(9, 4)])), (80, (.getfield 183, 83, 0, .null, [], [(6, 5)])), (83, (.ireturn, 84, 0, .null, [], [])), (84, (.aload_n 0, 85, 0, .null, [], [])), (85, (.getfield 46, 88, 0, .null, [], [(9, 4)])), (88, (.getfield 195, 91, 0, .null, [], [(6, 9)])), (91, (.ireturn, 92, 0, .null, [], [])), (92, (.aload_n 0, 93, 0, .null, [], [])), (93, (.getfield 46, 96, 0, .null, [], [(9, 4)])), (96, (.getfield 156, 99, 0, .null, [], [(6, 2)])), (99, (.ireturn, 100, 0, .null, [], [])), (100, (.aload_n 0, 101, 0, .null, [], [])), (101, (.getfield 32, 104, 0, .null, [], [(9, 2)])), (104, (.getfield 146, 107, 0, .null, [], [(5, 2)])), (107, (.ireturn, 108, 0, .null, [], [])), (108, (.aload_n 0, 109, 0, .null, [], [])), (109, (.getfield 16, 112, 0, .null, [], [(9, 0)])), (112, (.getfield 253, 115, 0, .null, [], [(2, 10)])), (115, (.ireturn, 116, 0, .null, [], [])), (116, (.aload_n 0, 117, 0, .null, [], [])), (117, (.getfield 256, 120, 0, .null, [], [(9, 13)])), (120, (.ireturn, 121, 0, .null, [], [])), (121, (.bipush (-2), 123, 0, .int (-2), [], [])), (123, (.ireturn, 124, 0, .null, [], []))]
noncomputable abbrev jX11_count : List (Nat × sf_J (Int32 × sf_S)) := []
noncomputable def dX11_count (x1 : Int32) (σ : sf_S) : Option (Int32 × sf_S) :=
  if x1 = (0 : Int32) then
    some ((σ 1 4), σ)
  else
  if x1 = (1 : Int32) then
    some ((σ 46 2), σ)
  else
  if x1 = (2 : Int32) then
    some ((σ 19 1), σ)
  else
  if x1 = (3 : Int32) then
    some ((σ 19 5), σ)
  else
  if x1 = (4 : Int32) then
    some ((σ 19 9), σ)
  else
  if x1 = (5 : Int32) then
    some ((σ 19 2), σ)
  else
  if x1 = (6 : Int32) then
    some ((σ 13 2), σ)
  else
  if x1 = (7 : Int32) then
    some ((σ 1 10), σ)
  else
  if x1 = (8 : Int32) then
    some ((σ 0 13), σ)
  else
    some ((-2 : Int32), σ)
noncomputable abbrev gX11_count (av : List Value) (σ : sf_S) : Option (Int32 × sf_S) := match av with
  | [.ref q, .int x1] => (match sf_rv [0] q with | true => dX11_count x1 σ | false => none)
  | _ => none
set_option maxRecDepth 100000 in
set_option maxHeartbeats 4000000 in
theorem rX11_count {Wt : Nat → sf_L → List Value → sf_S → Prop} {Post : (Int32 × sf_S) → Prop} (hs : sf_Snd Wt sf_layC sf_hI jX11_count tX11_count Post) (hm : sf_mono Wt) : ∀ av σ u, gX11_count av σ = some u → Post u → (∀ ad, (lg_sl (av.map (sf_v ad))).length ≤ 2) ∧ Wt 0 (sf_ent 0 av) [] σ := by
  intro av σ u h hp
  unfold gX11_count at h
  split at h
  · rename_i q x1
    split at h
    · rename_i hq
      have hq : q = 0 := by simpa using sf_rv_mem hq
      subst hq
      refine ⟨fun ad => Nat.le_of_ble_eq_true rfl, ?_⟩
      exact sf_run_ok hs sf_sm_nil 44 0 _ _ σ u h hp
    · cases h
  · cases h
theorem kX11_count (l : Launch) : sf_C l sf_layC yX11_count cX11_count 2 (some .int) (sf_rm 1 100) (fun av σ => (gX11_count av σ).map sf_vI) :=
  sf_met (tab := tX11_count) (J := jX11_count) (fl := sf_fl11) (cl := sf_cl11) (by decide +kernel) ⟨rfl, rfl⟩ sf_RH_I (by decide +kernel) sf_fl11_ok sf_cl11_ok
    (sf_JO_nil)
    (fun Wt Post hs hm => rX11_count hs hm)
-- ===== StreamFuser.mixPlan(J)J =====
abbrev tX11_mixPlan : List (Nat × sf_E) := [(0, (.lload_n 1, 1, 0, .null, [], [])), (1, (.lstore_n 3, 2, 0, .null, [], [])), (2, (.iconst 0, 3, 0, .int (0), [], [])), (3, (.istore 5, 5, 0, .null, [], [])), (5, (.iload 5, 7, 0, .null, [], [])), (7, (.aload_n 0, 8, 0, .null, [], [])), (8, (.getfield 16, 11, 0, .null, [], [(9, 0)])), (11, (.getfield 110, 14, 0, .null, [], [(2, 4)])), (14, (.if_icmp .ge 40, 17, 54, .null, [], [])), (17, (.iconst 0, 18, 0, .int (0), [], [])), (18, (.istore 6, 20, 0, .null, [], [])), (20, (.iload 6, 22, 0, .null, [], [])), (22, (.iconst 5, 23, 0, .int (5), [], [])), (23, (.if_icmp .gt 25, 26, 48, .null, [], [])), (26, (.ldc2_w 261, 29, 0, .long (31), [], [])), (29, (.lload_n 3, 30, 0, .null, [], [])), (30, (.lmul, 31, 0, .null, [], [])), (31, (.aload_n 0, 32, 0, .null, [], [])), (32, (.iload 5, 34, 0, .null, [], [])), (34, (.iload 6, 36, 0, .null, [], [])), (36, (.invokevirtual 282, 39, 0, .null, [], [])), (39, (.i2l, 40, 0, .null, [], [])), (40, (.ladd, 41, 0, .null, [], [])), (41, (.lstore_n 3, 42, 0, .null, [], [])), (42, (.iinc 6 1, 45, 0, .int (1), [], [])), (45, (.goto (-25), 48, 20, .null, [], [])), (48, (.iinc 5 1, 51, 0, .int (1), [], [])), (51, (.goto (-46), 54, 5, .null, [], [])), (54, (.ldc2_w 261, 57, 0, .long (31), [], [])), (57, (.lload_n 3, 58, 0, .null, [], [])), (58, (.lmul, 59, 0, .null, [], [])), (59, (.aload_n 0, 60, 0, .null, [], [])), (60, (.iconst (-1), 61, 0, .int (-1), [], [])), (61, (.invokevirtual 285, 64, 0, .null, [], [])), (64, (.i2l, 65, 0, .null, [], [])), (65, (.ladd, 66, 0, .null, [], [])), (66, (.lstore_n 3, 67, 0, .null, [], [])), (67, (.aload_n 0, 68, 0, .null, [], [])), (68, (.getfield 16, 71, 0, .null, [], [(9, 0)])), (71, (.getfield 110, 74, 0, .null, [], [(2, 4)])), (74, (.ifCond .ne 5, 77, 79, .null, [], [])), (77, (.lload_n 3, 78, 0, .null, [], [])), (78, (.lreturn, 79, 0, .null, [], [])), (79, (.iconst 0, 80, 0, .int (0), [], [])), (80, (.istore 5, 82, 0, .null, [], [])), (82, (.iload 5, 84, 0, .null, [], [])), (84, (.aload_n 0, 85, 0, .null, [], [])), (85, (.getfield 25, 88, 0, .null, [], [(9, 1)])), (88, (.getfield 137, 91, 0, .null, [], [(3, 2)])), (91, (.if_icmp .ge 23, 94, 114, .null, [], [])), (94, (.ldc2_w 261, 97, 0, .long (31), [], [])), (97, (.lload_n 3, 98, 0, .null, [], [])), (98, (.lmul, 99, 0, .null, [], [])), (99, (.aload_n 0, 100, 0, .null, [], [])), (100, (.iload 5, 102, 0, .null, [], [])), (102, (.invokevirtual 285, 105, 0, .null, [], [])), (105, (.i2l, 106, 0, .null, [], [])), (106, (.ladd, 107, 0, .null, [], [])), (107, (.lstore_n 3, 108, 0, .null, [], [])), (108, (.iinc 5 1, 111, 0, .int (1), [], [])), (111, (.goto (-29), 114, 82, .null, [], [])), (114, (.lload_n 3, 115, 0, .null, [], [])), (115, (.lreturn, 116, 0, .null, [], []))]
noncomputable abbrev jX11_mixPlan : List (Nat × sf_J (Int64 × sf_S)) := [(36, sf_jI sf_layC [9] 3 gX11_node), (61, sf_jI sf_layC [9] 2 gX11_text), (102, sf_jI sf_layC [9] 2 gX11_text)]
abbrev wX11_mixPlan_82 {ρ : Type} (k : Int64 → Int32 → sf_S → Option ρ) : sf_M ρ := fun L st σ => sf_lda L 0 fun a0 => sf_eq a0 0 (sf_ldl L 3 fun x3 => sf_ldi L 5 fun x5 => sf_nil st (k x3 x5 σ))
theorem wX11_mixPlan_82_ok {ρ : Type} {Wt : Nat → sf_L → List Value → sf_S → Prop} {Post : ρ → Prop} (hm : sf_mono Wt) {k : Int64 → Int32 → sf_S → Option ρ} (h : ∀ (x3 : Int64) (x5 : Int32) (σ : sf_S) (u : ρ), k x3 x5 σ = some u → Post u → Wt 82 [(0, some (.ref 0)), (3, some (.long x3)), (5, some (.int x5))] [] σ) : sf_CK Wt Post 82 (wX11_mixPlan_82 k) := by
  intro L st σ u hf hp
  unfold wX11_mixPlan_82 at hf
  have hf0 := hf
  obtain ⟨a0, e0, hf1⟩ := sf_lda_inv hf0
  obtain ⟨rfl, hf2⟩ := sf_eq_inv hf1
  obtain ⟨x3, e3, hf3⟩ := sf_ldl_inv hf2
  obtain ⟨x5, e5, hf4⟩ := sf_ldi_inv hf3
  obtain ⟨rfl, hz⟩ := sf_nil_inv hf4
  exact hm _ [(0, some (.ref _)), (3, some (.long x3)), (5, some (.int x5))] _ _ _ (sf_le_ok (And.intro e0 (And.intro e3 (And.intro e5 trivial)))) (h _ _ _ _ hz hp)
abbrev wX11_mixPlan_20 {ρ : Type} (k : Int64 → Int32 → Int32 → sf_S → Option ρ) : sf_M ρ := fun L st σ => sf_lda L 0 fun a0 => sf_eq a0 0 (sf_ldl L 3 fun x3 => sf_ldi L 5 fun x5 => sf_ldi L 6 fun x6 => sf_nil st (k x3 x5 x6 σ))
theorem wX11_mixPlan_20_ok {ρ : Type} {Wt : Nat → sf_L → List Value → sf_S → Prop} {Post : ρ → Prop} (hm : sf_mono Wt) {k : Int64 → Int32 → Int32 → sf_S → Option ρ} (h : ∀ (x3 : Int64) (x5 : Int32) (x6 : Int32) (σ : sf_S) (u : ρ), k x3 x5 x6 σ = some u → Post u → Wt 20 [(0, some (.ref 0)), (3, some (.long x3)), (5, some (.int x5)), (6, some (.int x6))] [] σ) : sf_CK Wt Post 20 (wX11_mixPlan_20 k) := by
  intro L st σ u hf hp
  unfold wX11_mixPlan_20 at hf
  have hf0 := hf
  obtain ⟨a0, e0, hf1⟩ := sf_lda_inv hf0
  obtain ⟨rfl, hf2⟩ := sf_eq_inv hf1
  obtain ⟨x3, e3, hf3⟩ := sf_ldl_inv hf2
  obtain ⟨x5, e5, hf4⟩ := sf_ldi_inv hf3
  obtain ⟨x6, e6, hf5⟩ := sf_ldi_inv hf4
  obtain ⟨rfl, hz⟩ := sf_nil_inv hf5
  exact hm _ [(0, some (.ref _)), (3, some (.long x3)), (5, some (.int x5)), (6, some (.int x6))] _ _ _ (sf_le_ok (And.intro e0 (And.intro e3 (And.intro e5 (And.intro e6 trivial))))) (h _ _ _ _ _ hz hp)
abbrev wX11_mixPlan_5 {ρ : Type} (k : Int64 → Int32 → sf_S → Option ρ) : sf_M ρ := fun L st σ => sf_lda L 0 fun a0 => sf_eq a0 0 (sf_ldl L 3 fun x3 => sf_ldi L 5 fun x5 => sf_nil st (k x3 x5 σ))
theorem wX11_mixPlan_5_ok {ρ : Type} {Wt : Nat → sf_L → List Value → sf_S → Prop} {Post : ρ → Prop} (hm : sf_mono Wt) {k : Int64 → Int32 → sf_S → Option ρ} (h : ∀ (x3 : Int64) (x5 : Int32) (σ : sf_S) (u : ρ), k x3 x5 σ = some u → Post u → Wt 5 [(0, some (.ref 0)), (3, some (.long x3)), (5, some (.int x5))] [] σ) : sf_CK Wt Post 5 (wX11_mixPlan_5 k) := by
  intro L st σ u hf hp
  unfold wX11_mixPlan_5 at hf
  have hf0 := hf
  obtain ⟨a0, e0, hf1⟩ := sf_lda_inv hf0
  obtain ⟨rfl, hf2⟩ := sf_eq_inv hf1
  obtain ⟨x3, e3, hf3⟩ := sf_ldl_inv hf2
  obtain ⟨x5, e5, hf4⟩ := sf_ldi_inv hf3
  obtain ⟨rfl, hz⟩ := sf_nil_inv hf4
  exact hm _ [(0, some (.ref _)), (3, some (.long x3)), (5, some (.int x5))] _ _ _ (sf_le_ok (And.intro e0 (And.intro e3 (And.intro e5 trivial)))) (h _ _ _ _ hz hp)
noncomputable def dX11_mixPlan_82 : Nat → Int64 → Int32 → sf_S → Option (Int64 × sf_S)
  | 0 => fun _ _ _ => none
  | n + 1 => fun x3 x5 σ =>
    if (σ 11 2) ≤ x5 then
      some (x3, σ)
    else
      (dX11_text x5 σ).bind fun u1 =>
      let v2 := (((31 : Int64) * x3) + u1.1.toInt64)
      dX11_mixPlan_82 n v2 (x5 + (1 : Int32)) u1.2
set_option maxRecDepth 100000 in
set_option maxHeartbeats 4000000 in
theorem rX11_mixPlan_82 {Wt : Nat → sf_L → List Value → sf_S → Prop} {Post : (Int64 × sf_S) → Prop} (hs : sf_Snd Wt sf_layC sf_hL jX11_mixPlan tX11_mixPlan Post) (hm : sf_mono Wt) : ∀ n : Nat, sf_CK Wt Post 82 (wX11_mixPlan_82 (dX11_mixPlan_82 n)) := by
  intro n
  induction n with
  | zero => exact wX11_mixPlan_82_ok hm (fun x3 x5 σ u h _ => by simp [dX11_mixPlan_82] at h)
  | succ n ih =>
    refine wX11_mixPlan_82_ok hm ?_
    intro x3 x5 σ u h hp
    exact sf_run_ok hs (sf_sm_cons ih sf_sm_nil) 68 82 _ _ σ u h hp
noncomputable def dX11_mixPlan_20 (K5 : Int64 → Int32 → sf_S → Option (Int64 × sf_S)) : Nat → Int64 → Int32 → Int32 → sf_S → Option (Int64 × sf_S)
  | 0 => fun _ _ _ _ => none
  | n + 1 => fun x3 x5 x6 σ =>
    if (5 : Int32) < x6 then
      K5 x3 (x5 + (1 : Int32)) σ
    else
      (dX11_node x5 x6 σ).bind fun u1 =>
      let v2 := (((31 : Int64) * x3) + u1.1.toInt64)
      dX11_mixPlan_20 K5 n v2 x5 (x6 + (1 : Int32)) u1.2
set_option maxRecDepth 100000 in
set_option maxHeartbeats 4000000 in
theorem rX11_mixPlan_20 {Wt : Nat → sf_L → List Value → sf_S → Prop} {Post : (Int64 × sf_S) → Prop} (hs : sf_Snd Wt sf_layC sf_hL jX11_mixPlan tX11_mixPlan Post) (hm : sf_mono Wt) {K5 : Int64 → Int32 → sf_S → Option (Int64 × sf_S)} (hK5 : sf_CK Wt Post 5 (wX11_mixPlan_5 K5)) : ∀ n : Nat, sf_CK Wt Post 20 (wX11_mixPlan_20 (dX11_mixPlan_20 K5 n)) := by
  intro n
  induction n with
  | zero => exact wX11_mixPlan_20_ok hm (fun x3 x5 x6 σ u h _ => by simp [dX11_mixPlan_20] at h)
  | succ n ih =>
    refine wX11_mixPlan_20_ok hm ?_
    intro x3 x5 x6 σ u h hp
    exact sf_run_ok hs (sf_sm_cons hK5 (sf_sm_cons ih sf_sm_nil)) 68 20 _ _ σ u h hp
noncomputable def dX11_mixPlan_5 : Nat → Int64 → Int32 → sf_S → Option (Int64 × sf_S)
  | 0 => fun _ _ _ => none
  | n + 1 => fun x3 x5 σ =>
    if (σ 1 4) ≤ x5 then
      (dX11_text (-1 : Int32) σ).bind fun u1 =>
      let v2 := (((31 : Int64) * x3) + u1.1.toInt64)
      if ¬ (u1.2 1 4) = 0 then
        dX11_mixPlan_82 sf_F v2 (0 : Int32) u1.2
      else
        some (v2, u1.2)
    else
      dX11_mixPlan_20 (dX11_mixPlan_5 n) sf_F x3 x5 (0 : Int32) σ
set_option maxRecDepth 100000 in
set_option maxHeartbeats 4000000 in
theorem rX11_mixPlan_5 {Wt : Nat → sf_L → List Value → sf_S → Prop} {Post : (Int64 × sf_S) → Prop} (hs : sf_Snd Wt sf_layC sf_hL jX11_mixPlan tX11_mixPlan Post) (hm : sf_mono Wt) : ∀ n : Nat, sf_CK Wt Post 5 (wX11_mixPlan_5 (dX11_mixPlan_5 n)) := by
  intro n
  induction n with
  | zero => exact wX11_mixPlan_5_ok hm (fun x3 x5 σ u h _ => by simp [dX11_mixPlan_5] at h)
  | succ n ih =>
    refine wX11_mixPlan_5_ok hm ?_
    intro x3 x5 σ u h hp
    exact sf_run_ok hs (sf_sm_cons (rX11_mixPlan_20 hs hm ih sf_F) (sf_sm_cons (rX11_mixPlan_82 hs hm sf_F) sf_sm_nil)) 68 5 _ _ σ u h hp
noncomputable def dX11_mixPlan (x1 : Int64) (σ : sf_S) : Option (Int64 × sf_S) :=
  dX11_mixPlan_5 sf_F x1 (0 : Int32) σ
noncomputable abbrev gX11_mixPlan (av : List Value) (σ : sf_S) : Option (Int64 × sf_S) := match av with
  | [.ref q, .long x1] => (match sf_rv [0] q with | true => dX11_mixPlan x1 σ | false => none)
  | _ => none
set_option maxRecDepth 100000 in
set_option maxHeartbeats 4000000 in
theorem rX11_mixPlan {Wt : Nat → sf_L → List Value → sf_S → Prop} {Post : (Int64 × sf_S) → Prop} (hs : sf_Snd Wt sf_layC sf_hL jX11_mixPlan tX11_mixPlan Post) (hm : sf_mono Wt) : ∀ av σ u, gX11_mixPlan av σ = some u → Post u → (∀ ad, (lg_sl (av.map (sf_v ad))).length ≤ 7) ∧ Wt 0 (sf_ent 0 av) [] σ := by
  intro av σ u h hp
  unfold gX11_mixPlan at h
  split at h
  · rename_i q x1
    split at h
    · rename_i hq
      have hq : q = 0 := by simpa using sf_rv_mem hq
      subst hq
      refine ⟨fun ad => Nat.le_of_ble_eq_true rfl, ?_⟩
      exact sf_run_ok hs (sf_sm_cons (rX11_mixPlan_5 hs hm sf_F) sf_sm_nil) 68 0 _ _ σ u h hp
    · cases h
  · cases h
theorem kX11_mixPlan (l : Launch) : sf_C l sf_layC yX11_mixPlan cX11_mixPlan 7 (some .long) (sf_rm 3 143) (fun av σ => (gX11_mixPlan av σ).map sf_vL) :=
  sf_met (tab := tX11_mixPlan) (J := jX11_mixPlan) (fl := sf_fl11) (cl := sf_cl11) (by decide +kernel) ⟨rfl, rfl⟩ sf_RH_L (by decide +kernel) sf_fl11_ok sf_cl11_ok
    (sf_JO_cons (sf_je_V (n := 3) (cs := [9]) (tv := sf_vI) (kX11_node l) mwX11_node (by decide +kernel : decode cX11_mixPlan 36 = .ok (.invokevirtual 282, 3)) wt_1173 wt_656 wt_657 (by decide +kernel) (by decide) (by decide) (List.forall_mem_cons.mpr ⟨⟨_, _, rfl⟩, fun _ h => absurd h List.not_mem_nil⟩) (sf_RM_of (by omega) (by omega))) (sf_JO_cons (sf_je_V (n := 2) (cs := [9]) (tv := sf_vI) (kX11_text l) mwX11_text (by decide +kernel : decode cX11_mixPlan 61 = .ok (.invokevirtual 285, 3)) wt_1174 wt_665 wt_666 (by decide +kernel) (by decide) (by decide) (List.forall_mem_cons.mpr ⟨⟨_, _, rfl⟩, fun _ h => absurd h List.not_mem_nil⟩) (sf_RM_of (by omega) (by omega))) (sf_JO_cons (sf_je_V (n := 2) (cs := [9]) (tv := sf_vI) (kX11_text l) mwX11_text (by decide +kernel : decode cX11_mixPlan 102 = .ok (.invokevirtual 285, 3)) wt_1174 wt_665 wt_666 (by decide +kernel) (by decide) (by decide) (List.forall_mem_cons.mpr ⟨⟨_, _, rfl⟩, fun _ h => absurd h List.not_mem_nil⟩) (sf_RM_of (by omega) (by omega))) (sf_JO_nil))))
    (fun Wt Post hs hm => rX11_mixPlan hs hm)
-- ===== StreamFuser.mixRun(J)J =====
abbrev tX11_mixRun : List (Nat × sf_E) := [(0, (.lload_n 1, 1, 0, .null, [], [])), (1, (.lstore_n 3, 2, 0, .null, [], [])), (2, (.iconst 0, 3, 0, .int (0), [], [])), (3, (.istore 5, 5, 0, .null, [], [])), (5, (.iload 5, 7, 0, .null, [], [])), (7, (.aload_n 0, 8, 0, .null, [], [])), (8, (.getfield 46, 11, 0, .null, [], [(9, 4)])), (11, (.getfield 165, 14, 0, .null, [], [(6, 1)])), (14, (.if_icmp .ge 22, 17, 36, .null, [], [])), (17, (.ldc2_w 261, 20, 0, .long (31), [], [])), (20, (.lload_n 3, 21, 0, .null, [], [])), (21, (.lmul, 22, 0, .null, [], [])), (22, (.aload_n 0, 23, 0, .null, [], [])), (23, (.iload 5, 25, 0, .null, [], [])), (25, (.invokevirtual 288, 28, 0, .null, [], [])), (28, (.ladd, 29, 0, .null, [], [])), (29, (.lstore_n 3, 30, 0, .null, [], [])), (30, (.iinc 5 1, 33, 0, .int (1), [], [])), (33, (.goto (-28), 36, 5, .null, [], [])), (36, (.iconst 0, 37, 0, .int (0), [], [])), (37, (.istore 5, 39, 0, .null, [], [])), (39, (.iload 5, 41, 0, .null, [], [])), (41, (.iconst 2, 42, 0, .int (2), [], [])), (42, (.if_icmp .gt 22, 45, 64, .null, [], [])), (45, (.ldc2_w 261, 48, 0, .long (31), [], [])), (48, (.lload_n 3, 49, 0, .null, [], [])), (49, (.lmul, 50, 0, .null, [], [])), (50, (.aload_n 0, 51, 0, .null, [], [])), (51, (.iload 5, 53, 0, .null, [], [])), (53, (.invokevirtual 292, 56, 0, .null, [], [])), (56, (.ladd, 57, 0, .null, [], [])), (57, (.lstore_n 3, 58, 0, .null, [], [])), (58, (.iinc 5 1, 61, 0, .int (1), [], [])), (61, (.goto (-22), 64, 39, .null, [], [])), (64, (.iconst 0, 65, 0, .int (0), [], [])), (65, (.istore 5, 67, 0, .null, [], [])), (67, (.iload 5, 69, 0, .null, [], [])), (69, (.iconst 1, 70, 0, .int (1), [], [])), (70, (.if_icmp .gt 23, 73, 93, .null, [], [])), (73, (.ldc2_w 261, 76, 0, .long (31), [], [])), (76, (.lload_n 3, 77, 0, .null, [], [])), (77, (.lmul, 78, 0, .null, [], [])), (78, (.aload_n 0, 79, 0, .null, [], [])), (79, (.iload 5, 81, 0, .null, [], [])), (81, (.invokevirtual 295, 84, 0, .null, [], [])), (84, (.i2l, 85, 0, .null, [], [])), (85, (.ladd, 86, 0, .null, [], [])), (86, (.lstore_n 3, 87, 0, .null, [], [])), (87, (.iinc 5 1, 90, 0, .int (1), [], [])), (90, (.goto (-23), 93, 67, .null, [], [])), (93, (.iconst 0, 94, 0, .int (0), [], [])), (94, (.istore 5, 96, 0, .null, [], [])), (96, (.iload 5, 98, 0, .null, [], [])), (98, (.iconst 3, 99, 0, .int (3), [], [])), (99, (.if_icmp .gt 23, 102, 122, .null, [], [])), (102, (.ldc2_w 261, 105, 0, .long (31), [], [])), (105, (.lload_n 3, 106, 0, .null, [], [])), (106, (.lmul, 107, 0, .null, [], [])), (107, (.aload_n 0, 108, 0, .null, [], [])), (108, (.iload 5, 110, 0, .null, [], [])), (110, (.invokevirtual 297, 113, 0, .null, [], [])), (113, (.i2l, 114, 0, .null, [], [])), (114, (.ladd, 115, 0, .null, [], [])), (115, (.lstore_n 3, 116, 0, .null, [], [])), (116, (.iinc 5 1, 119, 0, .int (1), [], [])), (119, (.goto (-23), 122, 96, .null, [], [])), (122, (.iconst 0, 123, 0, .int (0), [], [])), (123, (.istore 5, 125, 0, .null, [], [])), (125, (.iload 5, 127, 0, .null, [], [])), (127, (.aload_n 0, 128, 0, .null, [], [])), (128, (.getfield 46, 131, 0, .null, [], [(9, 4)])), (131, (.invokevirtual 198, 134, 0, .null, [], [])), (134, (.if_icmp .ge 39, 137, 173, .null, [], [])), (137, (.iconst 0, 138, 0, .int (0), [], [])), (138, (.istore 6, 140, 0, .null, [], [])), (140, (.iload 6, 142, 0, .null, [], [])), (142, (.iconst 1, 143, 0, .int (1), [], [])), (143, (.if_icmp .gt 24, 146, 167, .null, [], [])), (146, (.ldc2_w 261, 149, 0, .long (31), [], [])), (149, (.lload_n 3, 150, 0, .null, [], [])), (150, (.lmul, 151, 0, .null, [], [])), (151, (.aload_n 0, 152, 0, .null, [], [])), (152, (.iload 5, 154, 0, .null, [], [])), (154, (.iload 6, 156, 0, .null, [], [])), (156, (.invokevirtual 300, 159, 0, .null, [], [])), (159, (.ladd, 160, 0, .null, [], [])), (160, (.lstore_n 3, 161, 0, .null, [], [])), (161, (.iinc 6 1, 164, 0, .int (1), [], [])), (164, (.goto (-24), 167, 140, .null, [], [])), (167, (.iinc 5 1, 170, 0, .int (1), [], [])), (170, (.goto (-45), 173, 125, .null, [], [])), (173, (.lload_n 3, 174, 0, .null, [], [])), (174, (.lreturn, 175, 0, .null, [], []))]
noncomputable abbrev jX11_mixRun : List (Nat × sf_J (Int64 × sf_S)) := [(25, sf_jL sf_layC [9] 2 gX11_result), (53, sf_jL sf_layC [9] 2 gX11_fold), (81, sf_jI sf_layC [9] 2 gX11_failure), (110, sf_jI sf_layC [9] 2 gX11_told), (131, sf_jI sf_layC [6] 1 gX6_kept), (156, sf_jL sf_layC [9] 3 gX11_written)]
abbrev wX11_mixRun_140 {ρ : Type} (k : Int64 → Int32 → Int32 → sf_S → Option ρ) : sf_M ρ := fun L st σ => sf_lda L 0 fun a0 => sf_eq a0 0 (sf_ldl L 3 fun x3 => sf_ldi L 5 fun x5 => sf_ldi L 6 fun x6 => sf_nil st (k x3 x5 x6 σ))
theorem wX11_mixRun_140_ok {ρ : Type} {Wt : Nat → sf_L → List Value → sf_S → Prop} {Post : ρ → Prop} (hm : sf_mono Wt) {k : Int64 → Int32 → Int32 → sf_S → Option ρ} (h : ∀ (x3 : Int64) (x5 : Int32) (x6 : Int32) (σ : sf_S) (u : ρ), k x3 x5 x6 σ = some u → Post u → Wt 140 [(0, some (.ref 0)), (3, some (.long x3)), (5, some (.int x5)), (6, some (.int x6))] [] σ) : sf_CK Wt Post 140 (wX11_mixRun_140 k) := by
  intro L st σ u hf hp
  unfold wX11_mixRun_140 at hf
  have hf0 := hf
  obtain ⟨a0, e0, hf1⟩ := sf_lda_inv hf0
  obtain ⟨rfl, hf2⟩ := sf_eq_inv hf1
  obtain ⟨x3, e3, hf3⟩ := sf_ldl_inv hf2
  obtain ⟨x5, e5, hf4⟩ := sf_ldi_inv hf3
  obtain ⟨x6, e6, hf5⟩ := sf_ldi_inv hf4
  obtain ⟨rfl, hz⟩ := sf_nil_inv hf5
  exact hm _ [(0, some (.ref _)), (3, some (.long x3)), (5, some (.int x5)), (6, some (.int x6))] _ _ _ (sf_le_ok (And.intro e0 (And.intro e3 (And.intro e5 (And.intro e6 trivial))))) (h _ _ _ _ _ hz hp)
abbrev wX11_mixRun_125 {ρ : Type} (k : Int64 → Int32 → sf_S → Option ρ) : sf_M ρ := fun L st σ => sf_lda L 0 fun a0 => sf_eq a0 0 (sf_ldl L 3 fun x3 => sf_ldi L 5 fun x5 => sf_nil st (k x3 x5 σ))
theorem wX11_mixRun_125_ok {ρ : Type} {Wt : Nat → sf_L → List Value → sf_S → Prop} {Post : ρ → Prop} (hm : sf_mono Wt) {k : Int64 → Int32 → sf_S → Option ρ} (h : ∀ (x3 : Int64) (x5 : Int32) (σ : sf_S) (u : ρ), k x3 x5 σ = some u → Post u → Wt 125 [(0, some (.ref 0)), (3, some (.long x3)), (5, some (.int x5))] [] σ) : sf_CK Wt Post 125 (wX11_mixRun_125 k) := by
  intro L st σ u hf hp
  unfold wX11_mixRun_125 at hf
  have hf0 := hf
  obtain ⟨a0, e0, hf1⟩ := sf_lda_inv hf0
  obtain ⟨rfl, hf2⟩ := sf_eq_inv hf1
  obtain ⟨x3, e3, hf3⟩ := sf_ldl_inv hf2
  obtain ⟨x5, e5, hf4⟩ := sf_ldi_inv hf3
  obtain ⟨rfl, hz⟩ := sf_nil_inv hf4
  exact hm _ [(0, some (.ref _)), (3, some (.long x3)), (5, some (.int x5))] _ _ _ (sf_le_ok (And.intro e0 (And.intro e3 (And.intro e5 trivial)))) (h _ _ _ _ hz hp)
abbrev wX11_mixRun_96 {ρ : Type} (k : Int64 → Int32 → sf_S → Option ρ) : sf_M ρ := fun L st σ => sf_lda L 0 fun a0 => sf_eq a0 0 (sf_ldl L 3 fun x3 => sf_ldi L 5 fun x5 => sf_nil st (k x3 x5 σ))
theorem wX11_mixRun_96_ok {ρ : Type} {Wt : Nat → sf_L → List Value → sf_S → Prop} {Post : ρ → Prop} (hm : sf_mono Wt) {k : Int64 → Int32 → sf_S → Option ρ} (h : ∀ (x3 : Int64) (x5 : Int32) (σ : sf_S) (u : ρ), k x3 x5 σ = some u → Post u → Wt 96 [(0, some (.ref 0)), (3, some (.long x3)), (5, some (.int x5))] [] σ) : sf_CK Wt Post 96 (wX11_mixRun_96 k) := by
  intro L st σ u hf hp
  unfold wX11_mixRun_96 at hf
  have hf0 := hf
  obtain ⟨a0, e0, hf1⟩ := sf_lda_inv hf0
  obtain ⟨rfl, hf2⟩ := sf_eq_inv hf1
  obtain ⟨x3, e3, hf3⟩ := sf_ldl_inv hf2
  obtain ⟨x5, e5, hf4⟩ := sf_ldi_inv hf3
  obtain ⟨rfl, hz⟩ := sf_nil_inv hf4
  exact hm _ [(0, some (.ref _)), (3, some (.long x3)), (5, some (.int x5))] _ _ _ (sf_le_ok (And.intro e0 (And.intro e3 (And.intro e5 trivial)))) (h _ _ _ _ hz hp)
abbrev wX11_mixRun_67 {ρ : Type} (k : Int64 → Int32 → sf_S → Option ρ) : sf_M ρ := fun L st σ => sf_lda L 0 fun a0 => sf_eq a0 0 (sf_ldl L 3 fun x3 => sf_ldi L 5 fun x5 => sf_nil st (k x3 x5 σ))
theorem wX11_mixRun_67_ok {ρ : Type} {Wt : Nat → sf_L → List Value → sf_S → Prop} {Post : ρ → Prop} (hm : sf_mono Wt) {k : Int64 → Int32 → sf_S → Option ρ} (h : ∀ (x3 : Int64) (x5 : Int32) (σ : sf_S) (u : ρ), k x3 x5 σ = some u → Post u → Wt 67 [(0, some (.ref 0)), (3, some (.long x3)), (5, some (.int x5))] [] σ) : sf_CK Wt Post 67 (wX11_mixRun_67 k) := by
  intro L st σ u hf hp
  unfold wX11_mixRun_67 at hf
  have hf0 := hf
  obtain ⟨a0, e0, hf1⟩ := sf_lda_inv hf0
  obtain ⟨rfl, hf2⟩ := sf_eq_inv hf1
  obtain ⟨x3, e3, hf3⟩ := sf_ldl_inv hf2
  obtain ⟨x5, e5, hf4⟩ := sf_ldi_inv hf3
  obtain ⟨rfl, hz⟩ := sf_nil_inv hf4
  exact hm _ [(0, some (.ref _)), (3, some (.long x3)), (5, some (.int x5))] _ _ _ (sf_le_ok (And.intro e0 (And.intro e3 (And.intro e5 trivial)))) (h _ _ _ _ hz hp)
abbrev wX11_mixRun_39 {ρ : Type} (k : Int64 → Int32 → sf_S → Option ρ) : sf_M ρ := fun L st σ => sf_lda L 0 fun a0 => sf_eq a0 0 (sf_ldl L 3 fun x3 => sf_ldi L 5 fun x5 => sf_nil st (k x3 x5 σ))
theorem wX11_mixRun_39_ok {ρ : Type} {Wt : Nat → sf_L → List Value → sf_S → Prop} {Post : ρ → Prop} (hm : sf_mono Wt) {k : Int64 → Int32 → sf_S → Option ρ} (h : ∀ (x3 : Int64) (x5 : Int32) (σ : sf_S) (u : ρ), k x3 x5 σ = some u → Post u → Wt 39 [(0, some (.ref 0)), (3, some (.long x3)), (5, some (.int x5))] [] σ) : sf_CK Wt Post 39 (wX11_mixRun_39 k) := by
  intro L st σ u hf hp
  unfold wX11_mixRun_39 at hf
  have hf0 := hf
  obtain ⟨a0, e0, hf1⟩ := sf_lda_inv hf0
  obtain ⟨rfl, hf2⟩ := sf_eq_inv hf1
  obtain ⟨x3, e3, hf3⟩ := sf_ldl_inv hf2
  obtain ⟨x5, e5, hf4⟩ := sf_ldi_inv hf3
  obtain ⟨rfl, hz⟩ := sf_nil_inv hf4
  exact hm _ [(0, some (.ref _)), (3, some (.long x3)), (5, some (.int x5))] _ _ _ (sf_le_ok (And.intro e0 (And.intro e3 (And.intro e5 trivial)))) (h _ _ _ _ hz hp)
abbrev wX11_mixRun_5 {ρ : Type} (k : Int64 → Int32 → sf_S → Option ρ) : sf_M ρ := fun L st σ => sf_lda L 0 fun a0 => sf_eq a0 0 (sf_ldl L 3 fun x3 => sf_ldi L 5 fun x5 => sf_nil st (k x3 x5 σ))
theorem wX11_mixRun_5_ok {ρ : Type} {Wt : Nat → sf_L → List Value → sf_S → Prop} {Post : ρ → Prop} (hm : sf_mono Wt) {k : Int64 → Int32 → sf_S → Option ρ} (h : ∀ (x3 : Int64) (x5 : Int32) (σ : sf_S) (u : ρ), k x3 x5 σ = some u → Post u → Wt 5 [(0, some (.ref 0)), (3, some (.long x3)), (5, some (.int x5))] [] σ) : sf_CK Wt Post 5 (wX11_mixRun_5 k) := by
  intro L st σ u hf hp
  unfold wX11_mixRun_5 at hf
  have hf0 := hf
  obtain ⟨a0, e0, hf1⟩ := sf_lda_inv hf0
  obtain ⟨rfl, hf2⟩ := sf_eq_inv hf1
  obtain ⟨x3, e3, hf3⟩ := sf_ldl_inv hf2
  obtain ⟨x5, e5, hf4⟩ := sf_ldi_inv hf3
  obtain ⟨rfl, hz⟩ := sf_nil_inv hf4
  exact hm _ [(0, some (.ref _)), (3, some (.long x3)), (5, some (.int x5))] _ _ _ (sf_le_ok (And.intro e0 (And.intro e3 (And.intro e5 trivial)))) (h _ _ _ _ hz hp)
noncomputable def dX11_mixRun_140 (K125 : Int64 → Int32 → sf_S → Option (Int64 × sf_S)) : Nat → Int64 → Int32 → Int32 → sf_S → Option (Int64 × sf_S)
  | 0 => fun _ _ _ _ => none
  | n + 1 => fun x3 x5 x6 σ =>
    if (1 : Int32) < x6 then
      K125 x3 (x5 + (1 : Int32)) σ
    else
      (dX11_written x5 x6 σ).bind fun u1 =>
      let v2 := (((31 : Int64) * x3) + u1.1)
      dX11_mixRun_140 K125 n v2 x5 (x6 + (1 : Int32)) u1.2
set_option maxRecDepth 100000 in
set_option maxHeartbeats 4000000 in
theorem rX11_mixRun_140 {Wt : Nat → sf_L → List Value → sf_S → Prop} {Post : (Int64 × sf_S) → Prop} (hs : sf_Snd Wt sf_layC sf_hL jX11_mixRun tX11_mixRun Post) (hm : sf_mono Wt) {K125 : Int64 → Int32 → sf_S → Option (Int64 × sf_S)} (hK125 : sf_CK Wt Post 125 (wX11_mixRun_125 K125)) : ∀ n : Nat, sf_CK Wt Post 140 (wX11_mixRun_140 (dX11_mixRun_140 K125 n)) := by
  intro n
  induction n with
  | zero => exact wX11_mixRun_140_ok hm (fun x3 x5 x6 σ u h _ => by simp [dX11_mixRun_140] at h)
  | succ n ih =>
    refine wX11_mixRun_140_ok hm ?_
    intro x3 x5 x6 σ u h hp
    exact sf_run_ok hs (sf_sm_cons hK125 (sf_sm_cons ih sf_sm_nil)) 98 140 _ _ σ u h hp
noncomputable def dX11_mixRun_125 : Nat → Int64 → Int32 → sf_S → Option (Int64 × sf_S)
  | 0 => fun _ _ _ => none
  | n + 1 => fun x3 x5 σ =>
    (dX6_kept 19 σ).bind fun u1 =>
    if u1.1 ≤ x5 then
      some (x3, u1.2)
    else
      dX11_mixRun_140 (dX11_mixRun_125 n) sf_F x3 x5 (0 : Int32) u1.2
set_option maxRecDepth 100000 in
set_option maxHeartbeats 4000000 in
theorem rX11_mixRun_125 {Wt : Nat → sf_L → List Value → sf_S → Prop} {Post : (Int64 × sf_S) → Prop} (hs : sf_Snd Wt sf_layC sf_hL jX11_mixRun tX11_mixRun Post) (hm : sf_mono Wt) : ∀ n : Nat, sf_CK Wt Post 125 (wX11_mixRun_125 (dX11_mixRun_125 n)) := by
  intro n
  induction n with
  | zero => exact wX11_mixRun_125_ok hm (fun x3 x5 σ u h _ => by simp [dX11_mixRun_125] at h)
  | succ n ih =>
    refine wX11_mixRun_125_ok hm ?_
    intro x3 x5 σ u h hp
    exact sf_run_ok hs (sf_sm_cons (rX11_mixRun_140 hs hm ih sf_F) sf_sm_nil) 98 125 _ _ σ u h hp
noncomputable def dX11_mixRun_96 : Nat → Int64 → Int32 → sf_S → Option (Int64 × sf_S)
  | 0 => fun _ _ _ => none
  | n + 1 => fun x3 x5 σ =>
    if (3 : Int32) < x5 then
      dX11_mixRun_125 sf_F x3 (0 : Int32) σ
    else
      (dX11_told x5 σ).bind fun u1 =>
      let v2 := (((31 : Int64) * x3) + u1.1.toInt64)
      dX11_mixRun_96 n v2 (x5 + (1 : Int32)) u1.2
set_option maxRecDepth 100000 in
set_option maxHeartbeats 4000000 in
theorem rX11_mixRun_96 {Wt : Nat → sf_L → List Value → sf_S → Prop} {Post : (Int64 × sf_S) → Prop} (hs : sf_Snd Wt sf_layC sf_hL jX11_mixRun tX11_mixRun Post) (hm : sf_mono Wt) : ∀ n : Nat, sf_CK Wt Post 96 (wX11_mixRun_96 (dX11_mixRun_96 n)) := by
  intro n
  induction n with
  | zero => exact wX11_mixRun_96_ok hm (fun x3 x5 σ u h _ => by simp [dX11_mixRun_96] at h)
  | succ n ih =>
    refine wX11_mixRun_96_ok hm ?_
    intro x3 x5 σ u h hp
    exact sf_run_ok hs (sf_sm_cons ih (sf_sm_cons (rX11_mixRun_125 hs hm sf_F) sf_sm_nil)) 98 96 _ _ σ u h hp
noncomputable def dX11_mixRun_67 : Nat → Int64 → Int32 → sf_S → Option (Int64 × sf_S)
  | 0 => fun _ _ _ => none
  | n + 1 => fun x3 x5 σ =>
    if (1 : Int32) < x5 then
      dX11_mixRun_96 sf_F x3 (0 : Int32) σ
    else
      (dX11_failure x5 σ).bind fun u1 =>
      let v2 := (((31 : Int64) * x3) + u1.1.toInt64)
      dX11_mixRun_67 n v2 (x5 + (1 : Int32)) u1.2
set_option maxRecDepth 100000 in
set_option maxHeartbeats 4000000 in
theorem rX11_mixRun_67 {Wt : Nat → sf_L → List Value → sf_S → Prop} {Post : (Int64 × sf_S) → Prop} (hs : sf_Snd Wt sf_layC sf_hL jX11_mixRun tX11_mixRun Post) (hm : sf_mono Wt) : ∀ n : Nat, sf_CK Wt Post 67 (wX11_mixRun_67 (dX11_mixRun_67 n)) := by
  intro n
  induction n with
  | zero => exact wX11_mixRun_67_ok hm (fun x3 x5 σ u h _ => by simp [dX11_mixRun_67] at h)
  | succ n ih =>
    refine wX11_mixRun_67_ok hm ?_
    intro x3 x5 σ u h hp
    exact sf_run_ok hs (sf_sm_cons ih (sf_sm_cons (rX11_mixRun_96 hs hm sf_F) sf_sm_nil)) 98 67 _ _ σ u h hp
noncomputable def dX11_mixRun_39 : Nat → Int64 → Int32 → sf_S → Option (Int64 × sf_S)
  | 0 => fun _ _ _ => none
  | n + 1 => fun x3 x5 σ =>
    if (2 : Int32) < x5 then
      dX11_mixRun_67 sf_F x3 (0 : Int32) σ
    else
      (dX11_fold x5 σ).bind fun u1 =>
      let v2 := (((31 : Int64) * x3) + u1.1)
      dX11_mixRun_39 n v2 (x5 + (1 : Int32)) u1.2
set_option maxRecDepth 100000 in
set_option maxHeartbeats 4000000 in
theorem rX11_mixRun_39 {Wt : Nat → sf_L → List Value → sf_S → Prop} {Post : (Int64 × sf_S) → Prop} (hs : sf_Snd Wt sf_layC sf_hL jX11_mixRun tX11_mixRun Post) (hm : sf_mono Wt) : ∀ n : Nat, sf_CK Wt Post 39 (wX11_mixRun_39 (dX11_mixRun_39 n)) := by
  intro n
  induction n with
  | zero => exact wX11_mixRun_39_ok hm (fun x3 x5 σ u h _ => by simp [dX11_mixRun_39] at h)
  | succ n ih =>
    refine wX11_mixRun_39_ok hm ?_
    intro x3 x5 σ u h hp
    exact sf_run_ok hs (sf_sm_cons ih (sf_sm_cons (rX11_mixRun_67 hs hm sf_F) sf_sm_nil)) 98 39 _ _ σ u h hp
noncomputable def dX11_mixRun_5 : Nat → Int64 → Int32 → sf_S → Option (Int64 × sf_S)
  | 0 => fun _ _ _ => none
  | n + 1 => fun x3 x5 σ =>
    if (σ 19 1) ≤ x5 then
      dX11_mixRun_39 sf_F x3 (0 : Int32) σ
    else
      (dX11_result x5 σ).bind fun u1 =>
      let v2 := (((31 : Int64) * x3) + u1.1)
      dX11_mixRun_5 n v2 (x5 + (1 : Int32)) u1.2
set_option maxRecDepth 100000 in
set_option maxHeartbeats 4000000 in
theorem rX11_mixRun_5 {Wt : Nat → sf_L → List Value → sf_S → Prop} {Post : (Int64 × sf_S) → Prop} (hs : sf_Snd Wt sf_layC sf_hL jX11_mixRun tX11_mixRun Post) (hm : sf_mono Wt) : ∀ n : Nat, sf_CK Wt Post 5 (wX11_mixRun_5 (dX11_mixRun_5 n)) := by
  intro n
  induction n with
  | zero => exact wX11_mixRun_5_ok hm (fun x3 x5 σ u h _ => by simp [dX11_mixRun_5] at h)
  | succ n ih =>
    refine wX11_mixRun_5_ok hm ?_
    intro x3 x5 σ u h hp
    exact sf_run_ok hs (sf_sm_cons ih (sf_sm_cons (rX11_mixRun_39 hs hm sf_F) sf_sm_nil)) 98 5 _ _ σ u h hp
noncomputable def dX11_mixRun (x1 : Int64) (σ : sf_S) : Option (Int64 × sf_S) :=
  dX11_mixRun_5 sf_F x1 (0 : Int32) σ
noncomputable abbrev gX11_mixRun (av : List Value) (σ : sf_S) : Option (Int64 × sf_S) := match av with
  | [.ref q, .long x1] => (match sf_rv [0] q with | true => dX11_mixRun x1 σ | false => none)
  | _ => none
set_option maxRecDepth 100000 in
set_option maxHeartbeats 4000000 in
theorem rX11_mixRun {Wt : Nat → sf_L → List Value → sf_S → Prop} {Post : (Int64 × sf_S) → Prop} (hs : sf_Snd Wt sf_layC sf_hL jX11_mixRun tX11_mixRun Post) (hm : sf_mono Wt) : ∀ av σ u, gX11_mixRun av σ = some u → Post u → (∀ ad, (lg_sl (av.map (sf_v ad))).length ≤ 7) ∧ Wt 0 (sf_ent 0 av) [] σ := by
  intro av σ u h hp
  unfold gX11_mixRun at h
  split at h
  · rename_i q x1
    split at h
    · rename_i hq
      have hq : q = 0 := by simpa using sf_rv_mem hq
      subst hq
      refine ⟨fun ad => Nat.le_of_ble_eq_true rfl, ?_⟩
      exact sf_run_ok hs (sf_sm_cons (rX11_mixRun_5 hs hm sf_F) sf_sm_nil) 98 0 _ _ σ u h hp
    · cases h
  · cases h
theorem kX11_mixRun (l : Launch) : sf_C l sf_layC yX11_mixRun cX11_mixRun 7 (some .long) (sf_rm 3 144) (fun av σ => (gX11_mixRun av σ).map sf_vL) :=
  sf_met (tab := tX11_mixRun) (J := jX11_mixRun) (fl := sf_fl11) (cl := sf_cl11) (by decide +kernel) ⟨rfl, rfl⟩ sf_RH_L (by decide +kernel) sf_fl11_ok sf_cl11_ok
    (sf_JO_cons (sf_je_V (n := 2) (cs := [9]) (tv := sf_vL) (kX11_result l) mwX11_result (by decide +kernel : decode cX11_mixRun 25 = .ok (.invokevirtual 288, 3)) wt_1180 wt_1051 wt_1052 (by decide +kernel) (by decide) (by decide) (List.forall_mem_cons.mpr ⟨⟨_, _, rfl⟩, fun _ h => absurd h List.not_mem_nil⟩) (sf_RM_of (by omega) (by omega))) (sf_JO_cons (sf_je_V (n := 2) (cs := [9]) (tv := sf_vL) (kX11_fold l) mwX11_fold (by decide +kernel : decode cX11_mixRun 53 = .ok (.invokevirtual 292, 3)) wt_1181 wt_1056 wt_1057 (by decide +kernel) (by decide) (by decide) (List.forall_mem_cons.mpr ⟨⟨_, _, rfl⟩, fun _ h => absurd h List.not_mem_nil⟩) (sf_RM_of (by omega) (by omega))) (sf_JO_cons (sf_je_V (n := 2) (cs := [9]) (tv := sf_vI) (kX11_failure l) mwX11_failure (by decide +kernel : decode cX11_mixRun 81 = .ok (.invokevirtual 295, 3)) wt_1182 wt_1077 wt_1078 (by decide +kernel) (by decide) (by decide) (List.forall_mem_cons.mpr ⟨⟨_, _, rfl⟩, fun _ h => absurd h List.not_mem_nil⟩) (sf_RM_of (by omega) (by omega))) (sf_JO_cons (sf_je_V (n := 2) (cs := [9]) (tv := sf_vI) (kX11_told l) mwX11_told (by decide +kernel : decode cX11_mixRun 110 = .ok (.invokevirtual 297, 3)) wt_1183 wt_1081 wt_1082 (by decide +kernel) (by decide) (by decide) (List.forall_mem_cons.mpr ⟨⟨_, _, rfl⟩, fun _ h => absurd h List.not_mem_nil⟩) (sf_RM_of (by omega) (by omega))) (sf_JO_cons (sf_je_N (n := 1) (cs := [6]) (tv := sf_vI) "StreamFuser" (kX6_kept l) mwX6_kept (by decide +kernel : decode cX11_mixRun 131 = .ok (.invokevirtual 198, 3)) wt_1088 wt_1090 wt_73 (by decide +kernel) (by decide) (by decide) (List.forall_mem_cons.mpr ⟨⟨_, _, rfl⟩, fun _ h => absurd h List.not_mem_nil⟩) (sf_RM_of (by omega) (by omega))) (sf_JO_cons (sf_je_V (n := 3) (cs := [9]) (tv := sf_vL) (kX11_written l) mwX11_written (by decide +kernel : decode cX11_mixRun 156 = .ok (.invokevirtual 300, 3)) wt_1184 wt_1085 wt_1086 (by decide +kernel) (by decide) (by decide) (List.forall_mem_cons.mpr ⟨⟨_, _, rfl⟩, fun _ h => absurd h List.not_mem_nil⟩) (sf_RM_of (by omega) (by omega))) (sf_JO_nil)))))))
    (fun Wt Post hs hm => rX11_mixRun hs hm)
-- ===== StreamFuser.digest()J =====
abbrev tX11_digest : List (Nat × sf_E) := [(0, (.ldc2_w 259, 3, 0, .long (17), [], [])), (3, (.lstore_n 1, 4, 0, .null, [], [])), (4, (.iconst 0, 5, 0, .int (0), [], [])), (5, (.istore_n 3, 6, 0, .null, [], [])), (6, (.iload_n 3, 7, 0, .null, [], [])), (7, (.bipush 7, 9, 0, .int (7), [], [])), (9, (.if_icmp .gt 22, 12, 31, .null, [], [])), (12, (.ldc2_w 261, 15, 0, .long (31), [], [])), (15, (.lload_n 1, 16, 0, .null, [], [])), (16, (.lmul, 17, 0, .null, [], [])), (17, (.aload_n 0, 18, 0, .null, [], [])), (18, (.iload_n 3, 19, 0, .null, [], [])), (19, (.invokevirtual 263, 22, 0, .null, [], [])), (22, (.i2l, 23, 0, .null, [], [])), (23, (.ladd, 24, 0, .null, [], [])), (24, (.lstore_n 1, 25, 0, .null, [], [])), (25, (.iinc 3 1, 28, 0, .int (1), [], [])), (28, (.goto (-22), 31, 6, .null, [], [])), (31, (.ldc2_w 261, 34, 0, .long (31), [], [])), (34, (.lload_n 1, 35, 0, .null, [], [])), (35, (.lmul, 36, 0, .null, [], [])), (36, (.aload_n 0, 37, 0, .null, [], [])), (37, (.invokevirtual 266, 40, 0, .null, [], [])), (40, (.i2l, 41, 0, .null, [], [])), (41, (.ladd, 42, 0, .null, [], [])), (42, (.lstore_n 1, 43, 0, .null, [], [])), (43, (.aload_n 0, 44, 0, .null, [], [])), (44, (.lload_n 1, 45, 0, .null, [], [])), (45, (.invokevirtual 269, 48, 0, .null, [], [])), (48, (.lstore_n 1, 49, 0, .null, [], [])), (49, (.iconst 0, 50, 0, .int (0), [], [])), (50, (.istore_n 3, 51, 0, .null, [], [])), (51, (.iload_n 3, 52, 0, .null, [], [])), (52, (.bipush 13, 54, 0, .int (13), [], [])), (54, (.if_icmp .ge 22, 57, 76, .null, [], [])), (57, (.ldc2_w 261, 60, 0, .long (31), [], [])), (60, (.lload_n 1, 61, 0, .null, [], [])), (61, (.lmul, 62, 0, .null, [], [])), (62, (.aload_n 0, 63, 0, .null, [], [])), (63, (.iload_n 3, 64, 0, .null, [], [])), (64, (.invokevirtual 273, 67, 0, .null, [], [])), (67, (.i2l, 68, 0, .null, [], [])), (68, (.ladd, 69, 0, .null, [], [])), (69, (.lstore_n 1, 70, 0, .null, [], [])), (70, (.iinc 3 1, 73, 0, .int (1), [], [])), (73, (.goto (-22), 76, 51, .null, [], [])), (76, (.aload_n 0, 77, 0, .null, [], [])), (77, (.lload_n 1, 78, 0, .null, [], [])), (78, (.invokevirtual 276, 81, 0, .null, [], [])), (81, (.lstore_n 1, 82, 0, .null, [], [])), (82, (.ldc2_w 261, 85, 0, .long (31), [], [])), (85, (.lload_n 1, 86, 0, .null, [], [])), (86, (.lmul, 87, 0, .null, [], [])), (87, (.aload_n 0, 88, 0, .null, [], [])), (88, (.iconst 3, 89, 0, .int (3), [], [])), (89, (.invokevirtual 279, 92, 0, .null, [], [])), (92, (.i2l, 93, 0, .null, [], [])), (93, (.ladd, 94, 0, .null, [], [])), (94, (.lreturn, 95, 0, .null, [], []))]
noncomputable abbrev jX11_digest : List (Nat × sf_J (Int64 × sf_S)) := [(19, sf_jI sf_layC [9] 2 gX11_count), (37, sf_jI sf_layC [9] 1 gX11_fault), (45, sf_jL sf_layC [9] 2 gX11_mixPlan), (64, sf_jI sf_layC [9] 2 gX11_rules), (78, sf_jL sf_layC [9] 2 gX11_mixRun), (89, sf_jI sf_layC [9] 2 gX11_saves)]
abbrev wX11_digest_51 {ρ : Type} (k : Int64 → Int32 → sf_S → Option ρ) : sf_M ρ := fun L st σ => sf_lda L 0 fun a0 => sf_eq a0 0 (sf_ldl L 1 fun x1 => sf_ldi L 3 fun x3 => sf_nil st (k x1 x3 σ))
theorem wX11_digest_51_ok {ρ : Type} {Wt : Nat → sf_L → List Value → sf_S → Prop} {Post : ρ → Prop} (hm : sf_mono Wt) {k : Int64 → Int32 → sf_S → Option ρ} (h : ∀ (x1 : Int64) (x3 : Int32) (σ : sf_S) (u : ρ), k x1 x3 σ = some u → Post u → Wt 51 [(0, some (.ref 0)), (1, some (.long x1)), (3, some (.int x3))] [] σ) : sf_CK Wt Post 51 (wX11_digest_51 k) := by
  intro L st σ u hf hp
  unfold wX11_digest_51 at hf
  have hf0 := hf
  obtain ⟨a0, e0, hf1⟩ := sf_lda_inv hf0
  obtain ⟨rfl, hf2⟩ := sf_eq_inv hf1
  obtain ⟨x1, e1, hf3⟩ := sf_ldl_inv hf2
  obtain ⟨x3, e3, hf4⟩ := sf_ldi_inv hf3
  obtain ⟨rfl, hz⟩ := sf_nil_inv hf4
  exact hm _ [(0, some (.ref _)), (1, some (.long x1)), (3, some (.int x3))] _ _ _ (sf_le_ok (And.intro e0 (And.intro e1 (And.intro e3 trivial)))) (h _ _ _ _ hz hp)
abbrev wX11_digest_6 {ρ : Type} (k : Int64 → Int32 → sf_S → Option ρ) : sf_M ρ := fun L st σ => sf_lda L 0 fun a0 => sf_eq a0 0 (sf_ldl L 1 fun x1 => sf_ldi L 3 fun x3 => sf_nil st (k x1 x3 σ))
theorem wX11_digest_6_ok {ρ : Type} {Wt : Nat → sf_L → List Value → sf_S → Prop} {Post : ρ → Prop} (hm : sf_mono Wt) {k : Int64 → Int32 → sf_S → Option ρ} (h : ∀ (x1 : Int64) (x3 : Int32) (σ : sf_S) (u : ρ), k x1 x3 σ = some u → Post u → Wt 6 [(0, some (.ref 0)), (1, some (.long x1)), (3, some (.int x3))] [] σ) : sf_CK Wt Post 6 (wX11_digest_6 k) := by
  intro L st σ u hf hp
  unfold wX11_digest_6 at hf
  have hf0 := hf
  obtain ⟨a0, e0, hf1⟩ := sf_lda_inv hf0
  obtain ⟨rfl, hf2⟩ := sf_eq_inv hf1
  obtain ⟨x1, e1, hf3⟩ := sf_ldl_inv hf2
  obtain ⟨x3, e3, hf4⟩ := sf_ldi_inv hf3
  obtain ⟨rfl, hz⟩ := sf_nil_inv hf4
  exact hm _ [(0, some (.ref _)), (1, some (.long x1)), (3, some (.int x3))] _ _ _ (sf_le_ok (And.intro e0 (And.intro e1 (And.intro e3 trivial)))) (h _ _ _ _ hz hp)
noncomputable def dX11_digest_51 : Nat → Int64 → Int32 → sf_S → Option (Int64 × sf_S)
  | 0 => fun _ _ _ => none
  | n + 1 => fun x1 x3 σ =>
    if (13 : Int32) ≤ x3 then
      (dX11_mixRun x1 σ).bind fun u1 =>
      (dX11_saves (3 : Int32) u1.2).bind fun u2 =>
      some ((((31 : Int64) * u1.1) + u2.1.toInt64), u2.2)
    else
      (dX11_rules x3 σ).bind fun u3 =>
      let v4 := (((31 : Int64) * x1) + u3.1.toInt64)
      dX11_digest_51 n v4 (x3 + (1 : Int32)) u3.2
set_option maxRecDepth 100000 in
set_option maxHeartbeats 4000000 in
theorem rX11_digest_51 {Wt : Nat → sf_L → List Value → sf_S → Prop} {Post : (Int64 × sf_S) → Prop} (hs : sf_Snd Wt sf_layC sf_hL jX11_digest tX11_digest Post) (hm : sf_mono Wt) : ∀ n : Nat, sf_CK Wt Post 51 (wX11_digest_51 (dX11_digest_51 n)) := by
  intro n
  induction n with
  | zero => exact wX11_digest_51_ok hm (fun x1 x3 σ u h _ => by simp [dX11_digest_51] at h)
  | succ n ih =>
    refine wX11_digest_51_ok hm ?_
    intro x1 x3 σ u h hp
    exact sf_run_ok hs (sf_sm_cons ih sf_sm_nil) 64 51 _ _ σ u h hp
noncomputable def dX11_digest_6 : Nat → Int64 → Int32 → sf_S → Option (Int64 × sf_S)
  | 0 => fun _ _ _ => none
  | n + 1 => fun x1 x3 σ =>
    if (7 : Int32) < x3 then
      (dX11_fault σ).bind fun u1 =>
      let v2 := (((31 : Int64) * x1) + u1.1.toInt64)
      (dX11_mixPlan v2 u1.2).bind fun u3 =>
      dX11_digest_51 sf_F u3.1 (0 : Int32) u3.2
    else
      (dX11_count x3 σ).bind fun u4 =>
      let v5 := (((31 : Int64) * x1) + u4.1.toInt64)
      dX11_digest_6 n v5 (x3 + (1 : Int32)) u4.2
set_option maxRecDepth 100000 in
set_option maxHeartbeats 4000000 in
theorem rX11_digest_6 {Wt : Nat → sf_L → List Value → sf_S → Prop} {Post : (Int64 × sf_S) → Prop} (hs : sf_Snd Wt sf_layC sf_hL jX11_digest tX11_digest Post) (hm : sf_mono Wt) : ∀ n : Nat, sf_CK Wt Post 6 (wX11_digest_6 (dX11_digest_6 n)) := by
  intro n
  induction n with
  | zero => exact wX11_digest_6_ok hm (fun x1 x3 σ u h _ => by simp [dX11_digest_6] at h)
  | succ n ih =>
    refine wX11_digest_6_ok hm ?_
    intro x1 x3 σ u h hp
    exact sf_run_ok hs (sf_sm_cons ih (sf_sm_cons (rX11_digest_51 hs hm sf_F) sf_sm_nil)) 64 6 _ _ σ u h hp
noncomputable def dX11_digest (σ : sf_S) : Option (Int64 × sf_S) :=
  dX11_digest_6 sf_F (17 : Int64) (0 : Int32) σ
noncomputable abbrev gX11_digest (av : List Value) (σ : sf_S) : Option (Int64 × sf_S) := match av with
  | [.ref q] => (match sf_rv [0] q with | true => dX11_digest σ | false => none)
  | _ => none
set_option maxRecDepth 100000 in
set_option maxHeartbeats 4000000 in
theorem rX11_digest {Wt : Nat → sf_L → List Value → sf_S → Prop} {Post : (Int64 × sf_S) → Prop} (hs : sf_Snd Wt sf_layC sf_hL jX11_digest tX11_digest Post) (hm : sf_mono Wt) : ∀ av σ u, gX11_digest av σ = some u → Post u → (∀ ad, (lg_sl (av.map (sf_v ad))).length ≤ 4) ∧ Wt 0 (sf_ent 0 av) [] σ := by
  intro av σ u h hp
  unfold gX11_digest at h
  split at h
  · rename_i q
    split at h
    · rename_i hq
      have hq : q = 0 := by simpa using sf_rv_mem hq
      subst hq
      refine ⟨fun ad => Nat.le_of_ble_eq_true rfl, ?_⟩
      exact sf_run_ok hs (sf_sm_cons (rX11_digest_6 hs hm sf_F) sf_sm_nil) 64 0 _ _ σ u h hp
    · cases h
  · cases h
theorem kX11_digest (l : Launch) : sf_C l sf_layC yX11_digest cX11_digest 4 (some .long) (sf_rm 443 16774) (fun av σ => (gX11_digest av σ).map sf_vL) :=
  sf_met (tab := tX11_digest) (J := jX11_digest) (fl := sf_fl11) (cl := sf_cl11) (by decide +kernel) ⟨rfl, rfl⟩ sf_RH_L (by decide +kernel) sf_fl11_ok sf_cl11_ok
    (sf_JO_cons (sf_je_V (n := 2) (cs := [9]) (tv := sf_vI) (kX11_count l) mwX11_count (by decide +kernel : decode cX11_digest 19 = .ok (.invokevirtual 263, 3)) wt_1167 wt_1158 wt_1159 (by decide +kernel) (by decide) (by decide) (List.forall_mem_cons.mpr ⟨⟨_, _, rfl⟩, fun _ h => absurd h List.not_mem_nil⟩) (sf_RM_of (by omega) (by omega))) (sf_JO_cons (sf_je_V (n := 1) (cs := [9]) (tv := sf_vI) (kX11_fault l) mwX11_fault (by decide +kernel : decode cX11_digest 37 = .ok (.invokevirtual 266, 3)) wt_1168 wt_547 wt_548 (by decide +kernel) (by decide) (by decide) (List.forall_mem_cons.mpr ⟨⟨_, _, rfl⟩, fun _ h => absurd h List.not_mem_nil⟩) (sf_RM_of (by omega) (by omega))) (sf_JO_cons (sf_je_V (n := 2) (cs := [9]) (tv := sf_vL) (kX11_mixPlan l) mwX11_mixPlan (by decide +kernel : decode cX11_digest 45 = .ok (.invokevirtual 269, 3)) wt_1169 wt_1171 wt_81 (by decide +kernel) (by decide) (by decide) (List.forall_mem_cons.mpr ⟨⟨_, _, rfl⟩, fun _ h => absurd h List.not_mem_nil⟩) (sf_RM_of (by omega) (by omega))) (sf_JO_cons (sf_je_V (n := 2) (cs := [9]) (tv := sf_vI) (kX11_rules l) mwX11_rules (by decide +kernel : decode cX11_digest 64 = .ok (.invokevirtual 273, 3)) wt_1175 wt_752 wt_753 (by decide +kernel) (by decide) (by decide) (List.forall_mem_cons.mpr ⟨⟨_, _, rfl⟩, fun _ h => absurd h List.not_mem_nil⟩) (sf_RM_of (by omega) (by omega))) (sf_JO_cons (sf_je_V (n := 2) (cs := [9]) (tv := sf_vL) (kX11_mixRun l) mwX11_mixRun (by decide +kernel : decode cX11_digest 78 = .ok (.invokevirtual 276, 3)) wt_1176 wt_1178 wt_82 (by decide +kernel) (by decide) (by decide) (List.forall_mem_cons.mpr ⟨⟨_, _, rfl⟩, fun _ h => absurd h List.not_mem_nil⟩) (sf_RM_of (by omega) (by omega))) (sf_JO_cons (sf_je_V (n := 2) (cs := [9]) (tv := sf_vI) (kX11_saves l) mwX11_saves (by decide +kernel : decode cX11_digest 89 = .ok (.invokevirtual 279, 3)) wt_1185 wt_756 wt_757 (by decide +kernel) (by decide) (by decide) (List.forall_mem_cons.mpr ⟨⟨_, _, rfl⟩, fun _ h => absurd h List.not_mem_nil⟩) (sf_RM_of (by omega) (by omega))) (sf_JO_nil)))))))
    (fun Wt Post hs hm => rX11_digest hs hm)
-- ===== StreamFuser.find(I)I =====
abbrev tX11_find : List (Nat × sf_E) := [(0, (.aload_n 0, 1, 0, .null, [], [])), (1, (.bipush (-10), 3, 0, .int (-10), [], [])), (3, (.iload_n 1, 4, 0, .null, [], [])), (4, (.isub, 5, 0, .null, [], [])), (5, (.putfield 256, 8, 0, .null, [], [(9, 13)])), (8, (.iload_n 1, 9, 0, .null, [], [])), (9, (.ireturn, 10, 0, .null, [], []))]
noncomputable abbrev jX11_find : List (Nat × sf_J (Int32 × sf_S)) := []
noncomputable def dX11_find (x1 : Int32) (σ : sf_S) : Option (Int32 × sf_S) :=
  let s1 := sf_up σ 0 13 ((-10 : Int32) - x1)
  some (x1, s1)
noncomputable abbrev gX11_find (av : List Value) (σ : sf_S) : Option (Int32 × sf_S) := match av with
  | [.ref q, .int x1] => (match sf_rv [0] q with | true => dX11_find x1 σ | false => none)
  | _ => none
set_option maxRecDepth 100000 in
set_option maxHeartbeats 4000000 in
theorem rX11_find {Wt : Nat → sf_L → List Value → sf_S → Prop} {Post : (Int32 × sf_S) → Prop} (hs : sf_Snd Wt sf_layC sf_hI jX11_find tX11_find Post) (hm : sf_mono Wt) : ∀ av σ u, gX11_find av σ = some u → Post u → (∀ ad, (lg_sl (av.map (sf_v ad))).length ≤ 2) ∧ Wt 0 (sf_ent 0 av) [] σ := by
  intro av σ u h hp
  unfold gX11_find at h
  split at h
  · rename_i q x1
    split at h
    · rename_i hq
      have hq : q = 0 := by simpa using sf_rv_mem hq
      subst hq
      refine ⟨fun ad => Nat.le_of_ble_eq_true rfl, ?_⟩
      exact sf_run_ok hs sf_sm_nil 12 0 _ _ σ u h hp
    · cases h
  · cases h
theorem kX11_find (l : Launch) : sf_C l sf_layC yX11_find cX11_find 2 (some .int) (sf_rm 1 100) (fun av σ => (gX11_find av σ).map sf_vI) :=
  sf_met (tab := tX11_find) (J := jX11_find) (fl := sf_fl11) (cl := sf_cl11) (by decide +kernel) ⟨rfl, rfl⟩ sf_RH_I (by decide +kernel) sf_fl11_ok sf_cl11_ok
    (sf_JO_nil)
    (fun Wt Post hs hm => rX11_find hs hm)
-- ===== StreamFuser.sheet(III)I =====
abbrev tX11_sheet : List (Nat × sf_E) := [(0, (.iload_n 1, 1, 0, .null, [], [])), (1, (.invokestatic 207, 4, 0, .null, [], [])), (4, (.ifCond .eq 16, 7, 20, .null, [], [])), (7, (.iload_n 2, 8, 0, .null, [], [])), (8, (.invokestatic 210, 11, 0, .null, [], [])), (11, (.ifCond .eq 9, 14, 20, .null, [], [])), (14, (.iload_n 3, 15, 0, .null, [], [])), (15, (.bipush 60, 17, 0, .int (60), [], [])), (17, (.if_icmp .le 6, 20, 23, .null, [], [])), (20, (.bipush (-2), 22, 0, .int (-2), [], [])), (22, (.ireturn, 23, 0, .null, [], [])), (23, (.iload_n 3, 24, 0, .null, [], [])), (24, (.ifCond .ge 10, 27, 34, .null, [], [])), (27, (.aload_n 0, 28, 0, .null, [], [])), (28, (.bipush (-15), 30, 0, .int (-15), [], [])), (30, (.invokevirtual 213, 33, 0, .null, [], [])), (33, (.ireturn, 34, 0, .null, [], [])), (34, (.aload_n 0, 35, 0, .null, [], [])), (35, (.getfield 39, 38, 0, .null, [], [(9, 3)])), (38, (.iload_n 1, 39, 0, .null, [], [])), (39, (.iload_n 2, 40, 0, .null, [], [])), (40, (.iload_n 3, 41, 0, .null, [], [])), (41, (.invokevirtual 217, 44, 0, .null, [], [])), (44, (.iload_n 3, 45, 0, .null, [], [])), (45, (.ireturn, 46, 0, .null, [], []))]
noncomputable abbrev jX11_sheet : List (Nat × sf_J (Int32 × sf_S)) := [(1, sf_jI sf_layC [] 1 gX11_isSheet), (8, sf_jI sf_layC [] 1 gX11_isForm), (30, sf_jI sf_layC [9] 2 gX11_find), (41, sf_jV sf_layC [7] 4 gX7_renew)]
noncomputable def dX11_sheet (x1 : Int32) (x2 : Int32) (x3 : Int32) (σ : sf_S) : Option (Int32 × sf_S) :=
  (dX11_isSheet x1 σ).bind fun u1 =>
  if u1.1 = 0 then
    some ((-2 : Int32), u1.2)
  else
    (dX11_isForm x2 u1.2).bind fun u2 =>
    if u2.1 = 0 then
      some ((-2 : Int32), u2.2)
    else
      if x3 ≤ (60 : Int32) then
        if 0 ≤ x3 then
          (dX7_renew x1 x2 x3 u2.2).bind fun u3 =>
          some (x3, u3)
        else
          (dX11_find (-15 : Int32) u2.2).bind fun u4 =>
          some (u4.1, u4.2)
      else
        some ((-2 : Int32), u2.2)
noncomputable abbrev gX11_sheet (av : List Value) (σ : sf_S) : Option (Int32 × sf_S) := match av with
  | [.ref q, .int x1, .int x2, .int x3] => (match sf_rv [0] q with | true => dX11_sheet x1 x2 x3 σ | false => none)
  | _ => none
set_option maxRecDepth 100000 in
set_option maxHeartbeats 4000000 in
theorem rX11_sheet {Wt : Nat → sf_L → List Value → sf_S → Prop} {Post : (Int32 × sf_S) → Prop} (hs : sf_Snd Wt sf_layC sf_hI jX11_sheet tX11_sheet Post) (hm : sf_mono Wt) : ∀ av σ u, gX11_sheet av σ = some u → Post u → (∀ ad, (lg_sl (av.map (sf_v ad))).length ≤ 4) ∧ Wt 0 (sf_ent 0 av) [] σ := by
  intro av σ u h hp
  unfold gX11_sheet at h
  split at h
  · rename_i q x1 x2 x3
    split at h
    · rename_i hq
      have hq : q = 0 := by simpa using sf_rv_mem hq
      subst hq
      refine ⟨fun ad => Nat.le_of_ble_eq_true rfl, ?_⟩
      exact sf_run_ok hs sf_sm_nil 30 0 _ _ σ u h hp
    · cases h
  · cases h
theorem kX11_sheet (l : Launch) : sf_C l sf_layC yX11_sheet cX11_sheet 4 (some .int) (sf_rm 2 124) (fun av σ => (gX11_sheet av σ).map sf_vI) :=
  sf_met (tab := tX11_sheet) (J := jX11_sheet) (fl := sf_fl11) (cl := sf_cl11) (by decide +kernel) ⟨rfl, rfl⟩ sf_RH_I (by decide +kernel) sf_fl11_ok sf_cl11_ok
    (sf_JO_cons (sf_je_S (n := 1) (tv := sf_vI) (kX11_isSheet l) mwX11_isSheet (by decide +kernel : decode cX11_sheet 1 = .ok (.invokestatic 207, 3)) wt_1096 wt_892 (by decide +kernel) (sf_RM_of (by omega) (by omega))) (sf_JO_cons (sf_je_S (n := 1) (tv := sf_vI) (kX11_isForm l) mwX11_isForm (by decide +kernel : decode cX11_sheet 8 = .ok (.invokestatic 210, 3)) wt_1097 wt_1098 (by decide +kernel) (sf_RM_of (by omega) (by omega))) (sf_JO_cons (sf_je_V (n := 2) (cs := [9]) (tv := sf_vI) (kX11_find l) mwX11_find (by decide +kernel : decode cX11_sheet 30 = .ok (.invokevirtual 213, 3)) wt_1100 wt_1102 wt_74 (by decide +kernel) (by decide) (by decide) (List.forall_mem_cons.mpr ⟨⟨_, _, rfl⟩, fun _ h => absurd h List.not_mem_nil⟩) (sf_RM_of (by omega) (by omega))) (sf_JO_cons (sf_je_N (n := 4) (cs := [7]) (tv := sf_vV) "StreamFuser" (kX7_renew l) mwX7_renew (by decide +kernel : decode cX11_sheet 41 = .ok (.invokevirtual 217, 3)) wt_1104 wt_1106 wt_75 (by decide +kernel) (by decide) (by decide) (List.forall_mem_cons.mpr ⟨⟨_, _, rfl⟩, fun _ h => absurd h List.not_mem_nil⟩) (sf_RM_of (by omega) (by omega))) (sf_JO_nil)))))
    (fun Wt Post hs hm => rX11_sheet hs hm)
-- ===== StreamFuser.lose(I)I =====
abbrev tX11_lose : List (Nat × sf_E) := [(0, (.iload_n 1, 1, 0, .null, [], [])), (1, (.invokestatic 207, 4, 0, .null, [], [])), (4, (.ifCond .ne 6, 7, 10, .null, [], [])), (7, (.bipush (-2), 9, 0, .int (-2), [], [])), (9, (.ireturn, 10, 0, .null, [], [])), (10, (.aload_n 0, 11, 0, .null, [], [])), (11, (.getfield 39, 14, 0, .null, [], [(9, 3)])), (14, (.iload_n 1, 15, 0, .null, [], [])), (15, (.invokevirtual 221, 18, 0, .null, [], [])), (18, (.ifCond .eq 10, 21, 28, .null, [], [])), (21, (.aload_n 0, 22, 0, .null, [], [])), (22, (.bipush (-11), 24, 0, .int (-11), [], [])), (24, (.invokevirtual 213, 27, 0, .null, [], [])), (27, (.ireturn, 28, 0, .null, [], [])), (28, (.aload_n 0, 29, 0, .null, [], [])), (29, (.getfield 39, 32, 0, .null, [], [(9, 3)])), (32, (.getfield 224, 35, 0, .null, [], [(7, 1)])), (35, (.iload_n 1, 36, 0, .null, [], [])), (36, (.iaload, 37, 0, .null, [], [])), (37, (.istore_n 2, 38, 0, .null, [], [])), (38, (.aload_n 0, 39, 0, .null, [], [])), (39, (.getfield 39, 42, 0, .null, [], [(9, 3)])), (42, (.getfield 224, 45, 0, .null, [], [(7, 1)])), (45, (.iload_n 1, 46, 0, .null, [], [])), (46, (.iconst (-1), 47, 0, .int (-1), [], [])), (47, (.iastore, 48, 0, .null, [], [])), (48, (.iload_n 2, 49, 0, .null, [], [])), (49, (.ireturn, 50, 0, .null, [], []))]
noncomputable abbrev jX11_lose : List (Nat × sf_J (Int32 × sf_S)) := [(1, sf_jI sf_layC [] 1 gX11_isSheet), (15, sf_jI sf_layC [7] 2 gX7_isLost), (24, sf_jI sf_layC [9] 2 gX11_find)]
noncomputable def dX11_lose (x1 : Int32) (σ : sf_S) : Option (Int32 × sf_S) :=
  (dX11_isSheet x1 σ).bind fun u1 =>
  if ¬ u1.1 = 0 then
    (dX7_isLost x1 u1.2).bind fun u2 =>
    if u2.1 = 0 then
      if sf_in x1 4 then
        let v3 := (u2.2 17 x1.toNatClampNeg)
        if sf_in x1 4 then
          let s4 := sf_up u2.2 17 x1.toNatClampNeg (-1 : Int32)
          some (v3, s4)
        else
          none
      else
        none
    else
      (dX11_find (-11 : Int32) u2.2).bind fun u5 =>
      some (u5.1, u5.2)
  else
    some ((-2 : Int32), u1.2)
noncomputable abbrev gX11_lose (av : List Value) (σ : sf_S) : Option (Int32 × sf_S) := match av with
  | [.ref q, .int x1] => (match sf_rv [0] q with | true => dX11_lose x1 σ | false => none)
  | _ => none
set_option maxRecDepth 100000 in
set_option maxHeartbeats 4000000 in
theorem rX11_lose {Wt : Nat → sf_L → List Value → sf_S → Prop} {Post : (Int32 × sf_S) → Prop} (hs : sf_Snd Wt sf_layC sf_hI jX11_lose tX11_lose Post) (hm : sf_mono Wt) : ∀ av σ u, gX11_lose av σ = some u → Post u → (∀ ad, (lg_sl (av.map (sf_v ad))).length ≤ 3) ∧ Wt 0 (sf_ent 0 av) [] σ := by
  intro av σ u h hp
  unfold gX11_lose at h
  split at h
  · rename_i q x1
    split at h
    · rename_i hq
      have hq : q = 0 := by simpa using sf_rv_mem hq
      subst hq
      refine ⟨fun ad => Nat.le_of_ble_eq_true rfl, ?_⟩
      exact sf_run_ok hs sf_sm_nil 33 0 _ _ σ u h hp
    · cases h
  · cases h
theorem kX11_lose (l : Launch) : sf_C l sf_layC yX11_lose cX11_lose 3 (some .int) (sf_rm 2 121) (fun av σ => (gX11_lose av σ).map sf_vI) :=
  sf_met (tab := tX11_lose) (J := jX11_lose) (fl := sf_fl11) (cl := sf_cl11) (by decide +kernel) ⟨rfl, rfl⟩ sf_RH_I (by decide +kernel) sf_fl11_ok sf_cl11_ok
    (sf_JO_cons (sf_je_S (n := 1) (tv := sf_vI) (kX11_isSheet l) mwX11_isSheet (by decide +kernel : decode cX11_lose 1 = .ok (.invokestatic 207, 3)) wt_1096 wt_892 (by decide +kernel) (sf_RM_of (by omega) (by omega))) (sf_JO_cons (sf_je_N (n := 2) (cs := [7]) (tv := sf_vI) "StreamFuser" (kX7_isLost l) mwX7_isLost (by decide +kernel : decode cX11_lose 15 = .ok (.invokevirtual 221, 3)) wt_1112 wt_878 wt_49 (by decide +kernel) (by decide) (by decide) (List.forall_mem_cons.mpr ⟨⟨_, _, rfl⟩, fun _ h => absurd h List.not_mem_nil⟩) (sf_RM_of (by omega) (by omega))) (sf_JO_cons (sf_je_V (n := 2) (cs := [9]) (tv := sf_vI) (kX11_find l) mwX11_find (by decide +kernel : decode cX11_lose 24 = .ok (.invokevirtual 213, 3)) wt_1100 wt_1102 wt_74 (by decide +kernel) (by decide) (by decide) (List.forall_mem_cons.mpr ⟨⟨_, _, rfl⟩, fun _ h => absurd h List.not_mem_nil⟩) (sf_RM_of (by omega) (by omega))) (sf_JO_nil))))
    (fun Wt Post hs hm => rX11_lose hs hm)
-- ===== StreamFuser.copy(IIIII)I =====
abbrev tX11_copy : List (Nat × sf_E) := [(0, (.iload_n 1, 1, 0, .null, [], [])), (1, (.invokestatic 207, 4, 0, .null, [], [])), (4, (.ifCond .eq 10, 7, 14, .null, [], [])), (7, (.iload_n 3, 8, 0, .null, [], [])), (8, (.invokestatic 207, 11, 0, .null, [], [])), (11, (.ifCond .ne 6, 14, 17, .null, [], [])), (14, (.bipush (-2), 16, 0, .int (-2), [], [])), (16, (.ireturn, 17, 0, .null, [], [])), (17, (.aload_n 0, 18, 0, .null, [], [])), (18, (.getfield 39, 21, 0, .null, [], [(9, 3)])), (21, (.iload_n 1, 22, 0, .null, [], [])), (22, (.invokevirtual 221, 25, 0, .null, [], [])), (25, (.ifCond .ne 14, 28, 39, .null, [], [])), (28, (.aload_n 0, 29, 0, .null, [], [])), (29, (.getfield 39, 32, 0, .null, [], [(9, 3)])), (32, (.iload_n 3, 33, 0, .null, [], [])), (33, (.invokevirtual 221, 36, 0, .null, [], [])), (36, (.ifCond .eq 10, 39, 46, .null, [], [])), (39, (.aload_n 0, 40, 0, .null, [], [])), (40, (.bipush (-11), 42, 0, .int (-11), [], [])), (42, (.invokevirtual 213, 45, 0, .null, [], [])), (45, (.ireturn, 46, 0, .null, [], [])), (46, (.aload_n 0, 47, 0, .null, [], [])), (47, (.getfield 39, 50, 0, .null, [], [(9, 3)])), (50, (.getfield 237, 53, 0, .null, [], [(7, 0)])), (53, (.iload_n 1, 54, 0, .null, [], [])), (54, (.iaload, 55, 0, .null, [], [])), (55, (.aload_n 0, 56, 0, .null, [], [])), (56, (.getfield 39, 59, 0, .null, [], [(9, 3)])), (59, (.getfield 237, 62, 0, .null, [], [(7, 0)])), (62, (.iload_n 3, 63, 0, .null, [], [])), (63, (.iaload, 64, 0, .null, [], [])), (64, (.if_icmp .eq 10, 67, 74, .null, [], [])), (67, (.aload_n 0, 68, 0, .null, [], [])), (68, (.bipush (-14), 70, 0, .int (-14), [], [])), (70, (.invokevirtual 213, 73, 0, .null, [], [])), (73, (.ireturn, 74, 0, .null, [], [])), (74, (.aload_n 0, 75, 0, .null, [], [])), (75, (.getfield 39, 78, 0, .null, [], [(9, 3)])), (78, (.iload_n 1, 79, 0, .null, [], [])), (79, (.iload_n 2, 80, 0, .null, [], [])), (80, (.iload 5, 82, 0, .null, [], [])), (82, (.invokevirtual 240, 85, 0, .null, [], [])), (85, (.ifCond .eq 18, 88, 103, .null, [], [])), (88, (.aload_n 0, 89, 0, .null, [], [])), (89, (.getfield 39, 92, 0, .null, [], [(9, 3)])), (92, (.iload_n 3, 93, 0, .null, [], [])), (93, (.iload 4, 95, 0, .null, [], [])), (95, (.iload 5, 97, 0, .null, [], [])), (97, (.invokevirtual 240, 100, 0, .null, [], [])), (100, (.ifCond .ne 10, 103, 110, .null, [], [])), (103, (.aload_n 0, 104, 0, .null, [], [])), (104, (.bipush (-12), 106, 0, .int (-12), [], [])), (106, (.invokevirtual 213, 109, 0, .null, [], [])), (109, (.ireturn, 110, 0, .null, [], [])), (110, (.aload_n 0, 111, 0, .null, [], [])), (111, (.getfield 39, 114, 0, .null, [], [(9, 3)])), (114, (.iload_n 1, 115, 0, .null, [], [])), (115, (.iload_n 2, 116, 0, .null, [], [])), (116, (.iload_n 3, 117, 0, .null, [], [])), (117, (.iload 4, 119, 0, .null, [], [])), (119, (.iload 5, 121, 0, .null, [], [])), (121, (.invokevirtual 244, 124, 0, .null, [], [])), (124, (.iconst 1, 125, 0, .int (1), [], [])), (125, (.ireturn, 126, 0, .null, [], []))]
noncomputable abbrev jX11_copy : List (Nat × sf_J (Int32 × sf_S)) := [(1, sf_jI sf_layC [] 1 gX11_isSheet), (8, sf_jI sf_layC [] 1 gX11_isSheet), (22, sf_jI sf_layC [7] 2 gX7_isLost), (33, sf_jI sf_layC [7] 2 gX7_isLost), (42, sf_jI sf_layC [9] 2 gX11_find), (70, sf_jI sf_layC [9] 2 gX11_find), (82, sf_jI sf_layC [7] 4 gX7_hasPart), (97, sf_jI sf_layC [7] 4 gX7_hasPart), (106, sf_jI sf_layC [9] 2 gX11_find), (121, sf_jV sf_layC [7] 6 gX7_move)]
noncomputable def dX11_copy (x1 : Int32) (x2 : Int32) (x3 : Int32) (x4 : Int32) (x5 : Int32) (σ : sf_S) : Option (Int32 × sf_S) :=
  (dX11_isSheet x1 σ).bind fun u1 =>
  if u1.1 = 0 then
    some ((-2 : Int32), u1.2)
  else
    (dX11_isSheet x3 u1.2).bind fun u2 =>
    if ¬ u2.1 = 0 then
      (dX7_isLost x1 u2.2).bind fun u3 =>
      if ¬ u3.1 = 0 then
        (dX11_find (-11 : Int32) u3.2).bind fun u4 =>
        some (u4.1, u4.2)
      else
        (dX7_isLost x3 u3.2).bind fun u5 =>
        if u5.1 = 0 then
          if sf_in x1 4 then
            if sf_in x3 4 then
              if (u5.2 16 x1.toNatClampNeg) = (u5.2 16 x3.toNatClampNeg) then
                (dX7_hasPart x1 x2 x5 u5.2).bind fun u6 =>
                if u6.1 = 0 then
                  (dX11_find (-12 : Int32) u6.2).bind fun u7 =>
                  some (u7.1, u7.2)
                else
                  (dX7_hasPart x3 x4 x5 u6.2).bind fun u8 =>
                  if ¬ u8.1 = 0 then
                    (dX7_move x1 x2 x3 x4 x5 u8.2).bind fun u9 =>
                    some ((1 : Int32), u9)
                  else
                    (dX11_find (-12 : Int32) u8.2).bind fun u10 =>
                    some (u10.1, u10.2)
              else
                (dX11_find (-14 : Int32) u5.2).bind fun u11 =>
                some (u11.1, u11.2)
            else
              none
          else
            none
        else
          (dX11_find (-11 : Int32) u5.2).bind fun u12 =>
          some (u12.1, u12.2)
    else
      some ((-2 : Int32), u2.2)
noncomputable abbrev gX11_copy (av : List Value) (σ : sf_S) : Option (Int32 × sf_S) := match av with
  | [.ref q, .int x1, .int x2, .int x3, .int x4, .int x5] => (match sf_rv [0] q with | true => dX11_copy x1 x2 x3 x4 x5 σ | false => none)
  | _ => none
set_option maxRecDepth 100000 in
set_option maxHeartbeats 4000000 in
theorem rX11_copy {Wt : Nat → sf_L → List Value → sf_S → Prop} {Post : (Int32 × sf_S) → Prop} (hs : sf_Snd Wt sf_layC sf_hI jX11_copy tX11_copy Post) (hm : sf_mono Wt) : ∀ av σ u, gX11_copy av σ = some u → Post u → (∀ ad, (lg_sl (av.map (sf_v ad))).length ≤ 6) ∧ Wt 0 (sf_ent 0 av) [] σ := by
  intro av σ u h hp
  unfold gX11_copy at h
  split at h
  · rename_i q x1 x2 x3 x4 x5
    split at h
    · rename_i hq
      have hq : q = 0 := by simpa using sf_rv_mem hq
      subst hq
      refine ⟨fun ad => Nat.le_of_ble_eq_true rfl, ?_⟩
      exact sf_run_ok hs sf_sm_nil 70 0 _ _ σ u h hp
    · cases h
  · cases h
theorem kX11_copy (l : Launch) : sf_C l sf_layC yX11_copy cX11_copy 6 (some .int) (sf_rm 3 148) (fun av σ => (gX11_copy av σ).map sf_vI) :=
  sf_met (tab := tX11_copy) (J := jX11_copy) (fl := sf_fl11) (cl := sf_cl11) (by decide +kernel) ⟨rfl, rfl⟩ sf_RH_I (by decide +kernel) sf_fl11_ok sf_cl11_ok
    (sf_JO_cons (sf_je_S (n := 1) (tv := sf_vI) (kX11_isSheet l) mwX11_isSheet (by decide +kernel : decode cX11_copy 1 = .ok (.invokestatic 207, 3)) wt_1096 wt_892 (by decide +kernel) (sf_RM_of (by omega) (by omega))) (sf_JO_cons (sf_je_S (n := 1) (tv := sf_vI) (kX11_isSheet l) mwX11_isSheet (by decide +kernel : decode cX11_copy 8 = .ok (.invokestatic 207, 3)) wt_1096 wt_892 (by decide +kernel) (sf_RM_of (by omega) (by omega))) (sf_JO_cons (sf_je_N (n := 2) (cs := [7]) (tv := sf_vI) "StreamFuser" (kX7_isLost l) mwX7_isLost (by decide +kernel : decode cX11_copy 22 = .ok (.invokevirtual 221, 3)) wt_1112 wt_878 wt_49 (by decide +kernel) (by decide) (by decide) (List.forall_mem_cons.mpr ⟨⟨_, _, rfl⟩, fun _ h => absurd h List.not_mem_nil⟩) (sf_RM_of (by omega) (by omega))) (sf_JO_cons (sf_je_N (n := 2) (cs := [7]) (tv := sf_vI) "StreamFuser" (kX7_isLost l) mwX7_isLost (by decide +kernel : decode cX11_copy 33 = .ok (.invokevirtual 221, 3)) wt_1112 wt_878 wt_49 (by decide +kernel) (by decide) (by decide) (List.forall_mem_cons.mpr ⟨⟨_, _, rfl⟩, fun _ h => absurd h List.not_mem_nil⟩) (sf_RM_of (by omega) (by omega))) (sf_JO_cons (sf_je_V (n := 2) (cs := [9]) (tv := sf_vI) (kX11_find l) mwX11_find (by decide +kernel : decode cX11_copy 42 = .ok (.invokevirtual 213, 3)) wt_1100 wt_1102 wt_74 (by decide +kernel) (by decide) (by decide) (List.forall_mem_cons.mpr ⟨⟨_, _, rfl⟩, fun _ h => absurd h List.not_mem_nil⟩) (sf_RM_of (by omega) (by omega))) (sf_JO_cons (sf_je_V (n := 2) (cs := [9]) (tv := sf_vI) (kX11_find l) mwX11_find (by decide +kernel : decode cX11_copy 70 = .ok (.invokevirtual 213, 3)) wt_1100 wt_1102 wt_74 (by decide +kernel) (by decide) (by decide) (List.forall_mem_cons.mpr ⟨⟨_, _, rfl⟩, fun _ h => absurd h List.not_mem_nil⟩) (sf_RM_of (by omega) (by omega))) (sf_JO_cons (sf_je_N (n := 4) (cs := [7]) (tv := sf_vI) "StreamFuser" (kX7_hasPart l) mwX7_hasPart (by decide +kernel : decode cX11_copy 82 = .ok (.invokevirtual 240, 3)) wt_1142 wt_1144 wt_79 (by decide +kernel) (by decide) (by decide) (List.forall_mem_cons.mpr ⟨⟨_, _, rfl⟩, fun _ h => absurd h List.not_mem_nil⟩) (sf_RM_of (by omega) (by omega))) (sf_JO_cons (sf_je_N (n := 4) (cs := [7]) (tv := sf_vI) "StreamFuser" (kX7_hasPart l) mwX7_hasPart (by decide +kernel : decode cX11_copy 97 = .ok (.invokevirtual 240, 3)) wt_1142 wt_1144 wt_79 (by decide +kernel) (by decide) (by decide) (List.forall_mem_cons.mpr ⟨⟨_, _, rfl⟩, fun _ h => absurd h List.not_mem_nil⟩) (sf_RM_of (by omega) (by omega))) (sf_JO_cons (sf_je_V (n := 2) (cs := [9]) (tv := sf_vI) (kX11_find l) mwX11_find (by decide +kernel : decode cX11_copy 106 = .ok (.invokevirtual 213, 3)) wt_1100 wt_1102 wt_74 (by decide +kernel) (by decide) (by decide) (List.forall_mem_cons.mpr ⟨⟨_, _, rfl⟩, fun _ h => absurd h List.not_mem_nil⟩) (sf_RM_of (by omega) (by omega))) (sf_JO_cons (sf_je_N (n := 6) (cs := [7]) (tv := sf_vV) "StreamFuser" (kX7_move l) mwX7_move (by decide +kernel : decode cX11_copy 121 = .ok (.invokevirtual 244, 3)) wt_1146 wt_1148 wt_80 (by decide +kernel) (by decide) (by decide) (List.forall_mem_cons.mpr ⟨⟨_, _, rfl⟩, fun _ h => absurd h List.not_mem_nil⟩) (sf_RM_of (by omega) (by omega))) (sf_JO_nil)))))))))))
    (fun Wt Post hs hm => rX11_copy hs hm)
-- ===== StreamFuser.write(I)I =====
abbrev tX11_write : List (Nat × sf_E) := [(0, (.iload_n 1, 1, 0, .null, [], [])), (1, (.invokestatic 207, 4, 0, .null, [], [])), (4, (.ifCond .ne 6, 7, 10, .null, [], [])), (7, (.bipush (-2), 9, 0, .int (-2), [], [])), (9, (.ireturn, 10, 0, .null, [], [])), (10, (.aload_n 0, 11, 0, .null, [], [])), (11, (.getfield 39, 14, 0, .null, [], [(9, 3)])), (14, (.iload_n 1, 15, 0, .null, [], [])), (15, (.invokevirtual 221, 18, 0, .null, [], [])), (18, (.ifCond .eq 10, 21, 28, .null, [], [])), (21, (.aload_n 0, 22, 0, .null, [], [])), (22, (.bipush (-11), 24, 0, .int (-11), [], [])), (24, (.invokevirtual 213, 27, 0, .null, [], [])), (27, (.ireturn, 28, 0, .null, [], [])), (28, (.aload_n 0, 29, 0, .null, [], [])), (29, (.getfield 39, 32, 0, .null, [], [(9, 3)])), (32, (.getfield 224, 35, 0, .null, [], [(7, 1)])), (35, (.iload_n 1, 36, 0, .null, [], [])), (36, (.iaload, 37, 0, .null, [], [])), (37, (.aload_n 0, 38, 0, .null, [], [])), (38, (.getfield 46, 41, 0, .null, [], [(9, 4)])), (41, (.getfield 165, 44, 0, .null, [], [(6, 1)])), (44, (.invokestatic 248, 47, 0, .null, [], [])), (47, (.istore_n 2, 48, 0, .null, [], [])), (48, (.iconst 0, 49, 0, .int (0), [], [])), (49, (.istore_n 3, 50, 0, .null, [], [])), (50, (.iload_n 3, 51, 0, .null, [], [])), (51, (.iload_n 2, 52, 0, .null, [], [])), (52, (.if_icmp .ge 27, 55, 79, .null, [], [])), (55, (.aload_n 0, 56, 0, .null, [], [])), (56, (.getfield 39, 59, 0, .null, [], [(9, 3)])), (59, (.iload_n 1, 60, 0, .null, [], [])), (60, (.iload_n 3, 61, 0, .null, [], [])), (61, (.aload_n 0, 62, 0, .null, [], [])), (62, (.getfield 46, 65, 0, .null, [], [(9, 4)])), (65, (.getfield 166, 68, 0, .null, [], [(6, 0)])), (68, (.iload_n 3, 69, 0, .null, [], [])), (69, (.iaload, 70, 0, .null, [], [])), (70, (.invokevirtual 230, 73, 0, .null, [], [])), (73, (.iinc 3 1, 76, 0, .int (1), [], [])), (76, (.goto (-26), 79, 50, .null, [], [])), (79, (.iload_n 2, 80, 0, .null, [], [])), (80, (.ireturn, 81, 0, .null, [], []))]
noncomputable abbrev jX11_write : List (Nat × sf_J (Int32 × sf_S)) := [(1, sf_jI sf_layC [] 1 gX11_isSheet), (15, sf_jI sf_layC [7] 2 gX7_isLost), (24, sf_jI sf_layC [9] 2 gX11_find), (44, sf_jmin), (70, sf_jV sf_layC [7] 4 gX7_store)]
abbrev wX11_write_50 {ρ : Type} (k : Int32 → Int32 → Int32 → sf_S → Option ρ) : sf_M ρ := fun L st σ => sf_lda L 0 fun a0 => sf_eq a0 0 (sf_ldi L 1 fun x1 => sf_ldi L 2 fun x2 => sf_ldi L 3 fun x3 => sf_nil st (k x1 x2 x3 σ))
theorem wX11_write_50_ok {ρ : Type} {Wt : Nat → sf_L → List Value → sf_S → Prop} {Post : ρ → Prop} (hm : sf_mono Wt) {k : Int32 → Int32 → Int32 → sf_S → Option ρ} (h : ∀ (x1 : Int32) (x2 : Int32) (x3 : Int32) (σ : sf_S) (u : ρ), k x1 x2 x3 σ = some u → Post u → Wt 50 [(0, some (.ref 0)), (1, some (.int x1)), (2, some (.int x2)), (3, some (.int x3))] [] σ) : sf_CK Wt Post 50 (wX11_write_50 k) := by
  intro L st σ u hf hp
  unfold wX11_write_50 at hf
  have hf0 := hf
  obtain ⟨a0, e0, hf1⟩ := sf_lda_inv hf0
  obtain ⟨rfl, hf2⟩ := sf_eq_inv hf1
  obtain ⟨x1, e1, hf3⟩ := sf_ldi_inv hf2
  obtain ⟨x2, e2, hf4⟩ := sf_ldi_inv hf3
  obtain ⟨x3, e3, hf5⟩ := sf_ldi_inv hf4
  obtain ⟨rfl, hz⟩ := sf_nil_inv hf5
  exact hm _ [(0, some (.ref _)), (1, some (.int x1)), (2, some (.int x2)), (3, some (.int x3))] _ _ _ (sf_le_ok (And.intro e0 (And.intro e1 (And.intro e2 (And.intro e3 trivial))))) (h _ _ _ _ _ hz hp)
noncomputable def dX11_write_50 : Nat → Int32 → Int32 → Int32 → sf_S → Option (Int32 × sf_S)
  | 0 => fun _ _ _ _ => none
  | n + 1 => fun x1 x2 x3 σ =>
    if x2 ≤ x3 then
      some (x2, σ)
    else
      if sf_in x3 40 then
        (dX7_store x1 x3 (σ 20 x3.toNatClampNeg) σ).bind fun u1 =>
        dX11_write_50 n x1 x2 (x3 + (1 : Int32)) u1
      else
        none
set_option maxRecDepth 100000 in
set_option maxHeartbeats 4000000 in
theorem rX11_write_50 {Wt : Nat → sf_L → List Value → sf_S → Prop} {Post : (Int32 × sf_S) → Prop} (hs : sf_Snd Wt sf_layC sf_hI jX11_write tX11_write Post) (hm : sf_mono Wt) : ∀ n : Nat, sf_CK Wt Post 50 (wX11_write_50 (dX11_write_50 n)) := by
  intro n
  induction n with
  | zero => exact wX11_write_50_ok hm (fun x1 x2 x3 σ u h _ => by simp [dX11_write_50] at h)
  | succ n ih =>
    refine wX11_write_50_ok hm ?_
    intro x1 x2 x3 σ u h hp
    exact sf_run_ok hs (sf_sm_cons ih sf_sm_nil) 48 50 _ _ σ u h hp
noncomputable def dX11_write (x1 : Int32) (σ : sf_S) : Option (Int32 × sf_S) :=
  (dX11_isSheet x1 σ).bind fun u1 =>
  if ¬ u1.1 = 0 then
    (dX7_isLost x1 u1.2).bind fun u2 =>
    if u2.1 = 0 then
      if sf_in x1 4 then
        let v3 := (u2.2 17 x1.toNatClampNeg)
        let v4 := (u2.2 19 1)
        let v5 := (if v4 < v3 then v4 else v3)
        dX11_write_50 sf_F x1 v5 (0 : Int32) u2.2
      else
        none
    else
      (dX11_find (-11 : Int32) u2.2).bind fun u6 =>
      some (u6.1, u6.2)
  else
    some ((-2 : Int32), u1.2)
noncomputable abbrev gX11_write (av : List Value) (σ : sf_S) : Option (Int32 × sf_S) := match av with
  | [.ref q, .int x1] => (match sf_rv [0] q with | true => dX11_write x1 σ | false => none)
  | _ => none
set_option maxRecDepth 100000 in
set_option maxHeartbeats 4000000 in
theorem rX11_write {Wt : Nat → sf_L → List Value → sf_S → Prop} {Post : (Int32 × sf_S) → Prop} (hs : sf_Snd Wt sf_layC sf_hI jX11_write tX11_write Post) (hm : sf_mono Wt) : ∀ av σ u, gX11_write av σ = some u → Post u → (∀ ad, (lg_sl (av.map (sf_v ad))).length ≤ 4) ∧ Wt 0 (sf_ent 0 av) [] σ := by
  intro av σ u h hp
  unfold gX11_write at h
  split at h
  · rename_i q x1
    split at h
    · rename_i hq
      have hq : q = 0 := by simpa using sf_rv_mem hq
      subst hq
      refine ⟨fun ad => Nat.le_of_ble_eq_true rfl, ?_⟩
      exact sf_run_ok hs (sf_sm_cons (rX11_write_50 hs hm sf_F) sf_sm_nil) 48 0 _ _ σ u h hp
    · cases h
  · cases h
theorem kX11_write (l : Launch) : sf_C l sf_layC yX11_write cX11_write 4 (some .int) (sf_rm 3 145) (fun av σ => (gX11_write av σ).map sf_vI) :=
  sf_met (tab := tX11_write) (J := jX11_write) (fl := sf_fl11) (cl := sf_cl11) (by decide +kernel) ⟨rfl, rfl⟩ sf_RH_I (by decide +kernel) sf_fl11_ok sf_cl11_ok
    (sf_JO_cons (sf_je_S (n := 1) (tv := sf_vI) (kX11_isSheet l) mwX11_isSheet (by decide +kernel : decode cX11_write 1 = .ok (.invokestatic 207, 3)) wt_1096 wt_892 (by decide +kernel) (sf_RM_of (by omega) (by omega))) (sf_JO_cons (sf_je_N (n := 2) (cs := [7]) (tv := sf_vI) "StreamFuser" (kX7_isLost l) mwX7_isLost (by decide +kernel : decode cX11_write 15 = .ok (.invokevirtual 221, 3)) wt_1112 wt_878 wt_49 (by decide +kernel) (by decide) (by decide) (List.forall_mem_cons.mpr ⟨⟨_, _, rfl⟩, fun _ h => absurd h List.not_mem_nil⟩) (sf_RM_of (by omega) (by omega))) (sf_JO_cons (sf_je_V (n := 2) (cs := [9]) (tv := sf_vI) (kX11_find l) mwX11_find (by decide +kernel : decode cX11_write 24 = .ok (.invokevirtual 213, 3)) wt_1100 wt_1102 wt_74 (by decide +kernel) (by decide) (by decide) (List.forall_mem_cons.mpr ⟨⟨_, _, rfl⟩, fun _ h => absurd h List.not_mem_nil⟩) (sf_RM_of (by omega) (by omega))) (sf_JO_cons (sf_je_min (by decide +kernel : decode cX11_write 44 = .ok (.invokestatic 248, 3)) wt_1156 wt_748 wt_157 wt_749 (sf_RB_of (by omega) (by omega))) (sf_JO_cons (sf_je_N (n := 4) (cs := [7]) (tv := sf_vV) "StreamFuser" (kX7_store l) mwX7_store (by decide +kernel : decode cX11_write 70 = .ok (.invokevirtual 230, 3)) wt_1125 wt_1127 wt_78 (by decide +kernel) (by decide) (by decide) (List.forall_mem_cons.mpr ⟨⟨_, _, rfl⟩, fun _ h => absurd h List.not_mem_nil⟩) (sf_RM_of (by omega) (by omega))) (sf_JO_nil))))))
    (fun Wt Post hs hm => rX11_write hs hm)
-- ===== StreamFuser.elementError(III)I =====
abbrev tX11_elementError : List (Nat × sf_E) := [(0, (.iload_n 1, 1, 0, .null, [], [])), (1, (.invokestatic 207, 4, 0, .null, [], [])), (4, (.ifCond .eq 10, 7, 14, .null, [], [])), (7, (.iload_n 2, 8, 0, .null, [], [])), (8, (.invokestatic 210, 11, 0, .null, [], [])), (11, (.ifCond .ne 6, 14, 17, .null, [], [])), (14, (.bipush (-2), 16, 0, .int (-2), [], [])), (16, (.ireturn, 17, 0, .null, [], [])), (17, (.aload_n 0, 18, 0, .null, [], [])), (18, (.getfield 39, 21, 0, .null, [], [(9, 3)])), (21, (.iload_n 1, 22, 0, .null, [], [])), (22, (.invokevirtual 221, 25, 0, .null, [], [])), (25, (.ifCond .eq 6, 28, 31, .null, [], [])), (28, (.bipush (-11), 30, 0, .int (-11), [], [])), (30, (.ireturn, 31, 0, .null, [], [])), (31, (.aload_n 0, 32, 0, .null, [], [])), (32, (.getfield 39, 35, 0, .null, [], [(9, 3)])), (35, (.getfield 237, 38, 0, .null, [], [(7, 0)])), (38, (.iload_n 1, 39, 0, .null, [], [])), (39, (.iaload, 40, 0, .null, [], [])), (40, (.iload_n 2, 41, 0, .null, [], [])), (41, (.if_icmp .eq 6, 44, 47, .null, [], [])), (44, (.bipush (-13), 46, 0, .int (-13), [], [])), (46, (.ireturn, 47, 0, .null, [], [])), (47, (.aload_n 0, 48, 0, .null, [], [])), (48, (.getfield 39, 51, 0, .null, [], [(9, 3)])), (51, (.iload_n 1, 52, 0, .null, [], [])), (52, (.iload_n 3, 53, 0, .null, [], [])), (53, (.invokevirtual 304, 56, 0, .null, [], [])), (56, (.ifCond .eq 7, 59, 63, .null, [], [])), (59, (.iconst 0, 60, 0, .int (0), [], [])), (60, (.goto 5, 63, 65, .null, [], [])), (63, (.bipush (-12), 65, 0, .int (-12), [], [])), (65, (.ireturn, 66, 0, .null, [], []))]
noncomputable abbrev jX11_elementError : List (Nat × sf_J (Int32 × sf_S)) := [(1, sf_jI sf_layC [] 1 gX11_isSheet), (8, sf_jI sf_layC [] 1 gX11_isForm), (22, sf_jI sf_layC [7] 2 gX7_isLost), (53, sf_jI sf_layC [7] 3 gX7_hasElement)]
noncomputable def dX11_elementError (x1 : Int32) (x2 : Int32) (x3 : Int32) (σ : sf_S) : Option (Int32 × sf_S) :=
  (dX11_isSheet x1 σ).bind fun u1 =>
  if u1.1 = 0 then
    some ((-2 : Int32), u1.2)
  else
    (dX11_isForm x2 u1.2).bind fun u2 =>
    if ¬ u2.1 = 0 then
      (dX7_isLost x1 u2.2).bind fun u3 =>
      if u3.1 = 0 then
        if sf_in x1 4 then
          if (u3.2 16 x1.toNatClampNeg) = x2 then
            (dX7_hasElement x1 x3 u3.2).bind fun u4 =>
            if u4.1 = 0 then
              some ((-12 : Int32), u4.2)
            else
              some ((0 : Int32), u4.2)
          else
            some ((-13 : Int32), u3.2)
        else
          none
      else
        some ((-11 : Int32), u3.2)
    else
      some ((-2 : Int32), u2.2)
noncomputable abbrev gX11_elementError (av : List Value) (σ : sf_S) : Option (Int32 × sf_S) := match av with
  | [.ref q, .int x1, .int x2, .int x3] => (match sf_rv [0] q with | true => dX11_elementError x1 x2 x3 σ | false => none)
  | _ => none
set_option maxRecDepth 100000 in
set_option maxHeartbeats 4000000 in
theorem rX11_elementError {Wt : Nat → sf_L → List Value → sf_S → Prop} {Post : (Int32 × sf_S) → Prop} (hs : sf_Snd Wt sf_layC sf_hI jX11_elementError tX11_elementError Post) (hm : sf_mono Wt) : ∀ av σ u, gX11_elementError av σ = some u → Post u → (∀ ad, (lg_sl (av.map (sf_v ad))).length ≤ 4) ∧ Wt 0 (sf_ent 0 av) [] σ := by
  intro av σ u h hp
  unfold gX11_elementError at h
  split at h
  · rename_i q x1 x2 x3
    split at h
    · rename_i hq
      have hq : q = 0 := by simpa using sf_rv_mem hq
      subst hq
      refine ⟨fun ad => Nat.le_of_ble_eq_true rfl, ?_⟩
      exact sf_run_ok hs sf_sm_nil 39 0 _ _ σ u h hp
    · cases h
  · cases h
theorem kX11_elementError (l : Launch) : sf_C l sf_layC yX11_elementError cX11_elementError 4 (some .int) (sf_rm 2 122) (fun av σ => (gX11_elementError av σ).map sf_vI) :=
  sf_met (tab := tX11_elementError) (J := jX11_elementError) (fl := sf_fl11) (cl := sf_cl11) (by decide +kernel) ⟨rfl, rfl⟩ sf_RH_I (by decide +kernel) sf_fl11_ok sf_cl11_ok
    (sf_JO_cons (sf_je_S (n := 1) (tv := sf_vI) (kX11_isSheet l) mwX11_isSheet (by decide +kernel : decode cX11_elementError 1 = .ok (.invokestatic 207, 3)) wt_1096 wt_892 (by decide +kernel) (sf_RM_of (by omega) (by omega))) (sf_JO_cons (sf_je_S (n := 1) (tv := sf_vI) (kX11_isForm l) mwX11_isForm (by decide +kernel : decode cX11_elementError 8 = .ok (.invokestatic 210, 3)) wt_1097 wt_1098 (by decide +kernel) (sf_RM_of (by omega) (by omega))) (sf_JO_cons (sf_je_N (n := 2) (cs := [7]) (tv := sf_vI) "StreamFuser" (kX7_isLost l) mwX7_isLost (by decide +kernel : decode cX11_elementError 22 = .ok (.invokevirtual 221, 3)) wt_1112 wt_878 wt_49 (by decide +kernel) (by decide) (by decide) (List.forall_mem_cons.mpr ⟨⟨_, _, rfl⟩, fun _ h => absurd h List.not_mem_nil⟩) (sf_RM_of (by omega) (by omega))) (sf_JO_cons (sf_je_N (n := 3) (cs := [7]) (tv := sf_vI) "StreamFuser" (kX7_hasElement l) mwX7_hasElement (by decide +kernel : decode cX11_elementError 53 = .ok (.invokevirtual 304, 3)) wt_1121 wt_1123 wt_77 (by decide +kernel) (by decide) (by decide) (List.forall_mem_cons.mpr ⟨⟨_, _, rfl⟩, fun _ h => absurd h List.not_mem_nil⟩) (sf_RM_of (by omega) (by omega))) (sf_JO_nil)))))
    (fun Wt Post hs hm => rX11_elementError hs hm)
-- ===== StreamFuser.lay(IIII)I =====
abbrev tX11_lay : List (Nat × sf_E) := [(0, (.aload_n 0, 1, 0, .null, [], [])), (1, (.iload_n 1, 2, 0, .null, [], [])), (2, (.iload_n 2, 3, 0, .null, [], [])), (3, (.iload_n 3, 4, 0, .null, [], [])), (4, (.invokevirtual 226, 7, 0, .null, [], [])), (7, (.istore 5, 9, 0, .null, [], [])), (9, (.iload 5, 11, 0, .null, [], [])), (11, (.bipush (-2), 13, 0, .int (-2), [], [])), (13, (.if_icmp .ne 6, 16, 19, .null, [], [])), (16, (.bipush (-2), 18, 0, .int (-2), [], [])), (18, (.ireturn, 19, 0, .null, [], [])), (19, (.iload 5, 21, 0, .null, [], [])), (21, (.ifCond .eq 10, 24, 31, .null, [], [])), (24, (.aload_n 0, 25, 0, .null, [], [])), (25, (.iload 5, 27, 0, .null, [], [])), (27, (.invokevirtual 213, 30, 0, .null, [], [])), (30, (.ireturn, 31, 0, .null, [], [])), (31, (.aload_n 0, 32, 0, .null, [], [])), (32, (.getfield 39, 35, 0, .null, [], [(9, 3)])), (35, (.iload_n 1, 36, 0, .null, [], [])), (36, (.iload_n 3, 37, 0, .null, [], [])), (37, (.iload 4, 39, 0, .null, [], [])), (39, (.invokevirtual 230, 42, 0, .null, [], [])), (42, (.iconst 1, 43, 0, .int (1), [], [])), (43, (.ireturn, 44, 0, .null, [], []))]
noncomputable abbrev jX11_lay : List (Nat × sf_J (Int32 × sf_S)) := [(4, sf_jI sf_layC [9] 4 gX11_elementError), (27, sf_jI sf_layC [9] 2 gX11_find), (39, sf_jV sf_layC [7] 4 gX7_store)]
noncomputable def dX11_lay (x1 : Int32) (x2 : Int32) (x3 : Int32) (x4 : Int32) (σ : sf_S) : Option (Int32 × sf_S) :=
  (dX11_elementError x1 x2 x3 σ).bind fun u1 =>
  if ¬ u1.1 = (-2 : Int32) then
    if u1.1 = 0 then
      (dX7_store x1 x3 x4 u1.2).bind fun u2 =>
      some ((1 : Int32), u2)
    else
      (dX11_find u1.1 u1.2).bind fun u3 =>
      some (u3.1, u3.2)
  else
    some ((-2 : Int32), u1.2)
noncomputable abbrev gX11_lay (av : List Value) (σ : sf_S) : Option (Int32 × sf_S) := match av with
  | [.ref q, .int x1, .int x2, .int x3, .int x4] => (match sf_rv [0] q with | true => dX11_lay x1 x2 x3 x4 σ | false => none)
  | _ => none
set_option maxRecDepth 100000 in
set_option maxHeartbeats 4000000 in
theorem rX11_lay {Wt : Nat → sf_L → List Value → sf_S → Prop} {Post : (Int32 × sf_S) → Prop} (hs : sf_Snd Wt sf_layC sf_hI jX11_lay tX11_lay Post) (hm : sf_mono Wt) : ∀ av σ u, gX11_lay av σ = some u → Post u → (∀ ad, (lg_sl (av.map (sf_v ad))).length ≤ 6) ∧ Wt 0 (sf_ent 0 av) [] σ := by
  intro av σ u h hp
  unfold gX11_lay at h
  split at h
  · rename_i q x1 x2 x3 x4
    split at h
    · rename_i hq
      have hq : q = 0 := by simpa using sf_rv_mem hq
      subst hq
      refine ⟨fun ad => Nat.le_of_ble_eq_true rfl, ?_⟩
      exact sf_run_ok hs sf_sm_nil 30 0 _ _ σ u h hp
    · cases h
  · cases h
theorem kX11_lay (l : Launch) : sf_C l sf_layC yX11_lay cX11_lay 6 (some .int) (sf_rm 3 145) (fun av σ => (gX11_lay av σ).map sf_vI) :=
  sf_met (tab := tX11_lay) (J := jX11_lay) (fl := sf_fl11) (cl := sf_cl11) (by decide +kernel) ⟨rfl, rfl⟩ sf_RH_I (by decide +kernel) sf_fl11_ok sf_cl11_ok
    (sf_JO_cons (sf_je_V (n := 4) (cs := [9]) (tv := sf_vI) (kX11_elementError l) mwX11_elementError (by decide +kernel : decode cX11_lay 4 = .ok (.invokevirtual 226, 3)) wt_1117 wt_1119 wt_76 (by decide +kernel) (by decide) (by decide) (List.forall_mem_cons.mpr ⟨⟨_, _, rfl⟩, fun _ h => absurd h List.not_mem_nil⟩) (sf_RM_of (by omega) (by omega))) (sf_JO_cons (sf_je_V (n := 2) (cs := [9]) (tv := sf_vI) (kX11_find l) mwX11_find (by decide +kernel : decode cX11_lay 27 = .ok (.invokevirtual 213, 3)) wt_1100 wt_1102 wt_74 (by decide +kernel) (by decide) (by decide) (List.forall_mem_cons.mpr ⟨⟨_, _, rfl⟩, fun _ h => absurd h List.not_mem_nil⟩) (sf_RM_of (by omega) (by omega))) (sf_JO_cons (sf_je_N (n := 4) (cs := [7]) (tv := sf_vV) "StreamFuser" (kX7_store l) mwX7_store (by decide +kernel : decode cX11_lay 39 = .ok (.invokevirtual 230, 3)) wt_1125 wt_1127 wt_78 (by decide +kernel) (by decide) (by decide) (List.forall_mem_cons.mpr ⟨⟨_, _, rfl⟩, fun _ h => absurd h List.not_mem_nil⟩) (sf_RM_of (by omega) (by omega))) (sf_JO_nil))))
    (fun Wt Post hs hm => rX11_lay hs hm)
-- ===== StreamFuser.get(III)I =====
abbrev tX11_get : List (Nat × sf_E) := [(0, (.aload_n 0, 1, 0, .null, [], [])), (1, (.iload_n 1, 2, 0, .null, [], [])), (2, (.iload_n 2, 3, 0, .null, [], [])), (3, (.iload_n 3, 4, 0, .null, [], [])), (4, (.invokevirtual 226, 7, 0, .null, [], [])), (7, (.istore 4, 9, 0, .null, [], [])), (9, (.iload 4, 11, 0, .null, [], [])), (11, (.ifCond .ne 13, 14, 24, .null, [], [])), (14, (.aload_n 0, 15, 0, .null, [], [])), (15, (.getfield 39, 18, 0, .null, [], [(9, 3)])), (18, (.iload_n 1, 19, 0, .null, [], [])), (19, (.iload_n 3, 20, 0, .null, [], [])), (20, (.invokevirtual 233, 23, 0, .null, [], [])), (23, (.ireturn, 24, 0, .null, [], [])), (24, (.iload 4, 26, 0, .null, [], [])), (26, (.bipush (-2), 28, 0, .int (-2), [], [])), (28, (.if_icmp .eq 10, 31, 38, .null, [], [])), (31, (.aload_n 0, 32, 0, .null, [], [])), (32, (.iload 4, 34, 0, .null, [], [])), (34, (.invokevirtual 213, 37, 0, .null, [], [])), (37, (.pop, 38, 0, .null, [], [])), (38, (.ldc 116, 40, 0, .int (-2147483648), [], [])), (40, (.ireturn, 41, 0, .null, [], []))]
noncomputable abbrev jX11_get : List (Nat × sf_J (Int32 × sf_S)) := [(4, sf_jI sf_layC [9] 4 gX11_elementError), (20, sf_jI sf_layC [7] 3 gX7_at), (34, sf_jI sf_layC [9] 2 gX11_find)]
noncomputable def dX11_get (x1 : Int32) (x2 : Int32) (x3 : Int32) (σ : sf_S) : Option (Int32 × sf_S) :=
  (dX11_elementError x1 x2 x3 σ).bind fun u1 =>
  if ¬ u1.1 = 0 then
    if u1.1 = (-2 : Int32) then
      some ((-2147483648 : Int32), u1.2)
    else
      (dX11_find u1.1 u1.2).bind fun u2 =>
      some ((-2147483648 : Int32), u2.2)
  else
    (dX7_at x1 x3 u1.2).bind fun u3 =>
    some (u3.1, u3.2)
noncomputable abbrev gX11_get (av : List Value) (σ : sf_S) : Option (Int32 × sf_S) := match av with
  | [.ref q, .int x1, .int x2, .int x3] => (match sf_rv [0] q with | true => dX11_get x1 x2 x3 σ | false => none)
  | _ => none
set_option maxRecDepth 100000 in
set_option maxHeartbeats 4000000 in
theorem rX11_get {Wt : Nat → sf_L → List Value → sf_S → Prop} {Post : (Int32 × sf_S) → Prop} (hs : sf_Snd Wt sf_layC sf_hI jX11_get tX11_get Post) (hm : sf_mono Wt) : ∀ av σ u, gX11_get av σ = some u → Post u → (∀ ad, (lg_sl (av.map (sf_v ad))).length ≤ 5) ∧ Wt 0 (sf_ent 0 av) [] σ := by
  intro av σ u h hp
  unfold gX11_get at h
  split at h
  · rename_i q x1 x2 x3
    split at h
    · rename_i hq
      have hq : q = 0 := by simpa using sf_rv_mem hq
      subst hq
      refine ⟨fun ad => Nat.le_of_ble_eq_true rfl, ?_⟩
      exact sf_run_ok hs sf_sm_nil 28 0 _ _ σ u h hp
    · cases h
  · cases h
theorem kX11_get (l : Launch) : sf_C l sf_layC yX11_get cX11_get 5 (some .int) (sf_rm 3 145) (fun av σ => (gX11_get av σ).map sf_vI) :=
  sf_met (tab := tX11_get) (J := jX11_get) (fl := sf_fl11) (cl := sf_cl11) (by decide +kernel) ⟨rfl, rfl⟩ sf_RH_I (by decide +kernel) sf_fl11_ok sf_cl11_ok
    (sf_JO_cons (sf_je_V (n := 4) (cs := [9]) (tv := sf_vI) (kX11_elementError l) mwX11_elementError (by decide +kernel : decode cX11_get 4 = .ok (.invokevirtual 226, 3)) wt_1117 wt_1119 wt_76 (by decide +kernel) (by decide) (by decide) (List.forall_mem_cons.mpr ⟨⟨_, _, rfl⟩, fun _ h => absurd h List.not_mem_nil⟩) (sf_RM_of (by omega) (by omega))) (sf_JO_cons (sf_je_N (n := 3) (cs := [7]) (tv := sf_vI) "StreamFuser" (kX7_at l) mwX7_at (by decide +kernel : decode cX11_get 20 = .ok (.invokevirtual 233, 3)) wt_1137 wt_916 wt_51 (by decide +kernel) (by decide) (by decide) (List.forall_mem_cons.mpr ⟨⟨_, _, rfl⟩, fun _ h => absurd h List.not_mem_nil⟩) (sf_RM_of (by omega) (by omega))) (sf_JO_cons (sf_je_V (n := 2) (cs := [9]) (tv := sf_vI) (kX11_find l) mwX11_find (by decide +kernel : decode cX11_get 34 = .ok (.invokevirtual 213, 3)) wt_1100 wt_1102 wt_74 (by decide +kernel) (by decide) (by decide) (List.forall_mem_cons.mpr ⟨⟨_, _, rfl⟩, fun _ h => absurd h List.not_mem_nil⟩) (sf_RM_of (by omega) (by omega))) (sf_JO_nil))))
    (fun Wt Post hs hm => rX11_get hs hm)
