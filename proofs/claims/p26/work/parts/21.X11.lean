/-! ===== 21.X11 ===== -/
-- ===== StreamFuser.type(I)I =====
abbrev tX11_type : List (Nat × sf_E) := [(0, (.iload_n 1, 1, 0, .null, [], [])), (1, (.ifCond .lt 10, 4, 11, .null, [], [])), (4, (.iload_n 1, 5, 0, .null, [], [])), (5, (.sipush 255, 8, 0, .int (255), [], [])), (8, (.if_icmp .le 6, 11, 14, .null, [], [])), (11, (.bipush (-2), 13, 0, .int (-2), [], [])), (13, (.ireturn, 14, 0, .null, [], [])), (14, (.aload_n 0, 15, 0, .null, [], [])), (15, (.getfield 79, 18, 0, .null, [], [(9, 9)])), (18, (.iload_n 1, 19, 0, .null, [], [])), (19, (.invokevirtual 92, 22, 0, .null, [], [])), (22, (.ifCond .eq 13, 25, 35, .null, [], [])), (25, (.aload_n 0, 26, 0, .null, [], [])), (26, (.getfield 79, 29, 0, .null, [], [(9, 9)])), (29, (.getfield 96, 32, 0, .null, [], [(4, 2)])), (32, (.goto 5, 35, 37, .null, [], [])), (35, (.bipush (-4), 37, 0, .int (-4), [], [])), (37, (.ireturn, 38, 0, .null, [], []))]
noncomputable abbrev jX11_type : List (Nat × sf_J (Int32 × sf_S)) := [(19, sf_jI sf_layC [4] 2 gX4_append)]
noncomputable def dX11_type (x1 : Int32) (σ : sf_S) : Option (Int32 × sf_S) :=
  if x1 < 0 then
    some ((-2 : Int32), σ)
  else
    if x1 ≤ (255 : Int32) then
      (dX4_append x1 σ).bind fun u1 =>
      if u1.1 = 0 then
        some ((-4 : Int32), u1.2)
      else
        some ((u1.2 46 2), u1.2)
    else
      some ((-2 : Int32), σ)
noncomputable abbrev gX11_type (av : List Value) (σ : sf_S) : Option (Int32 × sf_S) := match av with
  | [.ref q, .int x1] => (match sf_rv [0] q with | true => dX11_type x1 σ | false => none)
  | _ => none
set_option maxRecDepth 100000 in
set_option maxHeartbeats 4000000 in
theorem rX11_type {Wt : Nat → sf_L → List Value → sf_S → Prop} {Post : (Int32 × sf_S) → Prop} (hs : sf_Snd Wt sf_layC sf_hI jX11_type tX11_type Post) (hm : sf_mono Wt) : ∀ av σ u, gX11_type av σ = some u → Post u → (∀ ad, (lg_sl (av.map (sf_v ad))).length ≤ 2) ∧ Wt 0 (sf_ent 0 av) [] σ := by
  intro av σ u h hp
  unfold gX11_type at h
  split at h
  · rename_i q x1
    split at h
    · rename_i hq
      have hq : q = 0 := by simpa using sf_rv_mem hq
      subst hq
      refine ⟨fun ad => Nat.le_of_ble_eq_true rfl, ?_⟩
      exact sf_run_ok hs sf_sm_nil 23 0 _ _ σ u h hp
    · cases h
  · cases h
theorem kX11_type (l : Launch) : sf_C l sf_layC yX11_type cX11_type 2 (some .int) (sf_rm 2 121) (fun av σ => (gX11_type av σ).map sf_vI) :=
  sf_met (tab := tX11_type) (J := jX11_type) (fl := sf_fl11) (cl := sf_cl11) (by decide +kernel) ⟨rfl, rfl⟩ sf_RH_I (by decide +kernel) sf_fl11_ok sf_cl11_ok
    (sf_JO_cons (sf_je_N (n := 2) (cs := [4]) (tv := sf_vI) "StreamFuser" (kX4_append l) mwX4_append (by decide +kernel : decode cX11_type 19 = .ok (.invokevirtual 92, 3)) wt_953 wt_955 wt_61 (by decide +kernel) (by decide) (by decide) (List.forall_mem_cons.mpr ⟨⟨_, _, rfl⟩, fun _ h => absurd h List.not_mem_nil⟩) (sf_RM_of (by omega) (by omega))) (sf_JO_nil))
    (fun Wt Post hs hm => rX11_type hs hm)
-- ===== StreamFuser.wipe()I =====
abbrev tX11_wipe : List (Nat × sf_E) := [(0, (.aload_n 0, 1, 0, .null, [], [])), (1, (.getfield 79, 4, 0, .null, [], [(9, 9)])), (4, (.getfield 96, 7, 0, .null, [], [(4, 2)])), (7, (.istore_n 1, 8, 0, .null, [], [])), (8, (.aload_n 0, 9, 0, .null, [], [])), (9, (.getfield 79, 12, 0, .null, [], [(9, 9)])), (12, (.iconst 0, 13, 0, .int (0), [], [])), (13, (.putfield 96, 16, 0, .null, [], [(4, 2)])), (16, (.iload_n 1, 17, 0, .null, [], [])), (17, (.ireturn, 18, 0, .null, [], []))]
noncomputable abbrev jX11_wipe : List (Nat × sf_J (Int32 × sf_S)) := []
noncomputable def dX11_wipe (σ : sf_S) : Option (Int32 × sf_S) :=
  let v1 := (σ 46 2)
  let s2 := sf_up σ 46 2 (0 : Int32)
  some (v1, s2)
noncomputable abbrev gX11_wipe (av : List Value) (σ : sf_S) : Option (Int32 × sf_S) := match av with
  | [.ref q] => (match sf_rv [0] q with | true => dX11_wipe σ | false => none)
  | _ => none
set_option maxRecDepth 100000 in
set_option maxHeartbeats 4000000 in
theorem rX11_wipe {Wt : Nat → sf_L → List Value → sf_S → Prop} {Post : (Int32 × sf_S) → Prop} (hs : sf_Snd Wt sf_layC sf_hI jX11_wipe tX11_wipe Post) (hm : sf_mono Wt) : ∀ av σ u, gX11_wipe av σ = some u → Post u → (∀ ad, (lg_sl (av.map (sf_v ad))).length ≤ 2) ∧ Wt 0 (sf_ent 0 av) [] σ := by
  intro av σ u h hp
  unfold gX11_wipe at h
  split at h
  · rename_i q
    split at h
    · rename_i hq
      have hq : q = 0 := by simpa using sf_rv_mem hq
      subst hq
      refine ⟨fun ad => Nat.le_of_ble_eq_true rfl, ?_⟩
      exact sf_run_ok hs sf_sm_nil 15 0 _ _ σ u h hp
    · cases h
  · cases h
theorem kX11_wipe (l : Launch) : sf_C l sf_layC yX11_wipe cX11_wipe 2 (some .int) (sf_rm 1 100) (fun av σ => (gX11_wipe av σ).map sf_vI) :=
  sf_met (tab := tX11_wipe) (J := jX11_wipe) (fl := sf_fl11) (cl := sf_cl11) (by decide +kernel) ⟨rfl, rfl⟩ sf_RH_I (by decide +kernel) sf_fl11_ok sf_cl11_ok
    (sf_JO_nil)
    (fun Wt Post hs hm => rX11_wipe hs hm)
-- ===== StreamFuser.fault()I =====
abbrev tX11_fault : List (Nat × sf_E) := [(0, (.aload_n 0, 1, 0, .null, [], [])), (1, (.getfield 79, 4, 0, .null, [], [(9, 9)])), (4, (.invokevirtual 100, 7, 0, .null, [], [])), (7, (.ireturn, 8, 0, .null, [], []))]
noncomputable abbrev jX11_fault : List (Nat × sf_J (Int32 × sf_S)) := [(4, sf_jI sf_layC [4] 1 gX4_read)]
noncomputable def dX11_fault (σ : sf_S) : Option (Int32 × sf_S) :=
  (dX4_read σ).bind fun u1 =>
  some (u1.1, u1.2)
noncomputable abbrev gX11_fault (av : List Value) (σ : sf_S) : Option (Int32 × sf_S) := match av with
  | [.ref q] => (match sf_rv [0] q with | true => dX11_fault σ | false => none)
  | _ => none
set_option maxRecDepth 100000 in
set_option maxHeartbeats 4000000 in
theorem rX11_fault {Wt : Nat → sf_L → List Value → sf_S → Prop} {Post : (Int32 × sf_S) → Prop} (hs : sf_Snd Wt sf_layC sf_hI jX11_fault tX11_fault Post) (hm : sf_mono Wt) : ∀ av σ u, gX11_fault av σ = some u → Post u → (∀ ad, (lg_sl (av.map (sf_v ad))).length ≤ 1) ∧ Wt 0 (sf_ent 0 av) [] σ := by
  intro av σ u h hp
  unfold gX11_fault at h
  split at h
  · rename_i q
    split at h
    · rename_i hq
      have hq : q = 0 := by simpa using sf_rv_mem hq
      subst hq
      refine ⟨fun ad => Nat.le_of_ble_eq_true rfl, ?_⟩
      exact sf_run_ok hs sf_sm_nil 9 0 _ _ σ u h hp
    · cases h
  · cases h
theorem kX11_fault (l : Launch) : sf_C l sf_layC yX11_fault cX11_fault 1 (some .int) (sf_rm 6 210) (fun av σ => (gX11_fault av σ).map sf_vI) :=
  sf_met (tab := tX11_fault) (J := jX11_fault) (fl := sf_fl11) (cl := sf_cl11) (by decide +kernel) ⟨rfl, rfl⟩ sf_RH_I (by decide +kernel) sf_fl11_ok sf_cl11_ok
    (sf_JO_cons (sf_je_N (n := 1) (cs := [4]) (tv := sf_vI) "StreamFuser" (kX4_read l) mwX4_read (by decide +kernel : decode cX11_fault 4 = .ok (.invokevirtual 100, 3)) wt_961 wt_963 wt_62 (by decide +kernel) (by decide) (by decide) (List.forall_mem_cons.mpr ⟨⟨_, _, rfl⟩, fun _ h => absurd h List.not_mem_nil⟩) (sf_RM_of (by omega) (by omega))) (sf_JO_nil))
    (fun Wt Post hs hm => rX11_fault hs hm)
-- ===== StreamFuser.plan()I =====
abbrev tX11_plan : List (Nat × sf_E) := [(0, (.aload_n 0, 1, 0, .null, [], [])), (1, (.getfield 79, 4, 0, .null, [], [(9, 9)])), (4, (.invokevirtual 100, 7, 0, .null, [], [])), (7, (.istore_n 1, 8, 0, .null, [], [])), (8, (.iload_n 1, 9, 0, .null, [], [])), (9, (.iconst (-1), 10, 0, .int (-1), [], [])), (10, (.if_icmp .eq 9, 13, 19, .null, [], [])), (13, (.sipush (-1000), 16, 0, .int (-1000), [], [])), (16, (.iload_n 1, 17, 0, .null, [], [])), (17, (.isub, 18, 0, .null, [], [])), (18, (.ireturn, 19, 0, .null, [], [])), (19, (.aload_n 0, 20, 0, .null, [], [])), (20, (.getfield 16, 23, 0, .null, [], [(9, 0)])), (23, (.aload_n 0, 24, 0, .null, [], [])), (24, (.getfield 73, 27, 0, .null, [], [(9, 8)])), (27, (.invokevirtual 104, 30, 0, .null, [], [])), (30, (.aload_n 0, 31, 0, .null, [], [])), (31, (.getfield 25, 34, 0, .null, [], [(9, 1)])), (34, (.invokevirtual 107, 37, 0, .null, [], [])), (37, (.aload_n 0, 38, 0, .null, [], [])), (38, (.getfield 16, 41, 0, .null, [], [(9, 0)])), (41, (.getfield 110, 44, 0, .null, [], [(2, 4)])), (44, (.ireturn, 45, 0, .null, [], []))]
noncomputable abbrev jX11_plan : List (Nat × sf_J (Int32 × sf_S)) := [(4, sf_jI sf_layC [4] 1 gX4_read), (27, sf_jV sf_layC [2] 2 gX2_takeFrom), (34, sf_jV sf_layC [3] 1 gX3_print)]
noncomputable def dX11_plan (σ : sf_S) : Option (Int32 × sf_S) :=
  (dX4_read σ).bind fun u1 =>
  if u1.1 = (-1 : Int32) then
    (dX2_takeFrom 1 36 u1.2).bind fun u2 =>
    (dX3_print u2).bind fun u3 =>
    some ((u3 1 4), u3)
  else
    some (((-1000 : Int32) - u1.1), u1.2)
noncomputable abbrev gX11_plan (av : List Value) (σ : sf_S) : Option (Int32 × sf_S) := match av with
  | [.ref q] => (match sf_rv [0] q with | true => dX11_plan σ | false => none)
  | _ => none
set_option maxRecDepth 100000 in
set_option maxHeartbeats 4000000 in
theorem rX11_plan {Wt : Nat → sf_L → List Value → sf_S → Prop} {Post : (Int32 × sf_S) → Prop} (hs : sf_Snd Wt sf_layC sf_hI jX11_plan tX11_plan Post) (hm : sf_mono Wt) : ∀ av σ u, gX11_plan av σ = some u → Post u → (∀ ad, (lg_sl (av.map (sf_v ad))).length ≤ 2) ∧ Wt 0 (sf_ent 0 av) [] σ := by
  intro av σ u h hp
  unfold gX11_plan at h
  split at h
  · rename_i q
    split at h
    · rename_i hq
      have hq : q = 0 := by simpa using sf_rv_mem hq
      subst hq
      refine ⟨fun ad => Nat.le_of_ble_eq_true rfl, ?_⟩
      exact sf_run_ok hs sf_sm_nil 28 0 _ _ σ u h hp
    · cases h
  · cases h
theorem kX11_plan (l : Launch) : sf_C l sf_layC yX11_plan cX11_plan 2 (some .int) (sf_rm 6 210) (fun av σ => (gX11_plan av σ).map sf_vI) :=
  sf_met (tab := tX11_plan) (J := jX11_plan) (fl := sf_fl11) (cl := sf_cl11) (by decide +kernel) ⟨rfl, rfl⟩ sf_RH_I (by decide +kernel) sf_fl11_ok sf_cl11_ok
    (sf_JO_cons (sf_je_N (n := 1) (cs := [4]) (tv := sf_vI) "StreamFuser" (kX4_read l) mwX4_read (by decide +kernel : decode cX11_plan 4 = .ok (.invokevirtual 100, 3)) wt_961 wt_963 wt_62 (by decide +kernel) (by decide) (by decide) (List.forall_mem_cons.mpr ⟨⟨_, _, rfl⟩, fun _ h => absurd h List.not_mem_nil⟩) (sf_RM_of (by omega) (by omega))) (sf_JO_cons (sf_je_N (n := 2) (cs := [2]) (tv := sf_vV) "StreamFuser" (kX2_takeFrom l) mwX2_takeFrom (by decide +kernel : decode cX11_plan 27 = .ok (.invokevirtual 104, 3)) wt_611 wt_613 wt_25 (by decide +kernel) (by decide) (by decide) (List.forall_mem_cons.mpr ⟨⟨_, _, rfl⟩, fun _ h => absurd h List.not_mem_nil⟩) (sf_RM_of (by omega) (by omega))) (sf_JO_cons (sf_je_N (n := 1) (cs := [3]) (tv := sf_vV) "StreamFuser" (kX3_print l) mwX3_print (by decide +kernel : decode cX11_plan 34 = .ok (.invokevirtual 107, 3)) wt_577 wt_579 wt_21 (by decide +kernel) (by decide) (by decide) (List.forall_mem_cons.mpr ⟨⟨_, _, rfl⟩, fun _ h => absurd h List.not_mem_nil⟩) (sf_RM_of (by omega) (by omega))) (sf_JO_nil))))
    (fun Wt Post hs hm => rX11_plan hs hm)
-- ===== StreamFuser.node(II)I =====
abbrev tX11_node : List (Nat × sf_E) := [(0, (.aload_n 0, 1, 0, .null, [], [])), (1, (.getfield 16, 4, 0, .null, [], [(9, 0)])), (4, (.iload_n 1, 5, 0, .null, [], [])), (5, (.invokevirtual 113, 8, 0, .null, [], [])), (8, (.ifCond .ne 6, 11, 14, .null, [], [])), (11, (.ldc 116, 13, 0, .int (-2147483648), [], [])), (13, (.ireturn, 14, 0, .null, [], [])), (14, (.iload_n 2, 15, 0, .null, [], [])), (15, (.tableswitch 105 0 5 #[37, 47, 57, 67, 77, 87], 52, 120, .null, [((0), 52), ((1), 62), ((2), 72), ((3), 82), ((4), 92), ((5), 102)], [])), (52, (.aload_n 0, 53, 0, .null, [], [])), (53, (.getfield 16, 56, 0, .null, [], [(9, 0)])), (56, (.getfield 117, 59, 0, .null, [], [(2, 0)])), (59, (.iload_n 1, 60, 0, .null, [], [])), (60, (.iaload, 61, 0, .null, [], [])), (61, (.ireturn, 62, 0, .null, [], [])), (62, (.aload_n 0, 63, 0, .null, [], [])), (63, (.getfield 16, 66, 0, .null, [], [(9, 0)])), (66, (.getfield 121, 69, 0, .null, [], [(2, 1)])), (69, (.iload_n 1, 70, 0, .null, [], [])), (70, (.iaload, 71, 0, .null, [], [])), (71, (.ireturn, 72, 0, .null, [], [])), (72, (.aload_n 0, 73, 0, .null, [], [])), (73, (.getfield 16, 76, 0, .null, [], [(9, 0)])), (76, (.getfield 124, 79, 0, .null, [], [(2, 2)])), (79, (.iload_n 1, 80, 0, .null, [], [])), (80, (.iaload, 81, 0, .null, [], [])), (81, (.ireturn, 82, 0, .null, [], [])), (82, (.aload_n 0, 83, 0, .null, [], [])), (83, (.getfield 16, 86, 0, .null, [], [(9, 0)])), (86, (.getfield 127, 89, 0, .null, [], [(2, 3)])), (89, (.iload_n 1, 90, 0, .null, [], [])), (90, (.iaload, 91, 0, .null, [], [])), (91, (.ireturn, 92, 0, .null, [], [])), (92, (.aload_n 0, 93, 0, .null, [], [])), (93, (.getfield 16, 96, 0, .null, [], [(9, 0)])), (96, (.getfield 130, 99, 0, .null, [], [(2, 6)])), (99, (.iload_n 1, 100, 0, .null, [], [])), (100, (.iaload, 101, 0, .null, [], [])), (101, (.ireturn, 102, 0, .null, [], [])), (102, (.aload_n 0, 103, 0, .null, [], [])), (103, (.getfield 16, 106, 0, .null, [], [(9, 0)])), (106, (.getfield 133, 109, 0, .null, [], [(2, 9)])), (109, (.iload_n 1, 110, 0, .null, [], [])), (110, (.baload, 111, 0, .null, [], [])), (111, (.ifCond .eq 7, 114, 118, .null, [], [])), (114, (.iconst 1, 115, 0, .int (1), [], [])), (115, (.goto 4, 118, 119, .null, [], [])), (118, (.iconst 0, 119, 0, .int (0), [], [])), (119, (.ireturn, 120, 0, .null, [], [])), (120, (.ldc 116, 122, 0, .int (-2147483648), [], [])), (122, (.ireturn, 123, 0, .null, [], []))]
noncomputable abbrev jX11_node : List (Nat × sf_J (Int32 × sf_S)) := [(5, sf_jI sf_layC [2] 2 gX2_has)]
noncomputable def dX11_node (x1 : Int32) (x2 : Int32) (σ : sf_S) : Option (Int32 × sf_S) :=
  (dX2_has 1 x1 σ).bind fun u1 =>
  if ¬ u1.1 = 0 then
    if x2 = (0 : Int32) then
      if sf_in x1 40 then
        some ((u1.2 2 x1.toNatClampNeg), u1.2)
      else
        none
    else
    if x2 = (1 : Int32) then
      if sf_in x1 40 then
        some ((u1.2 3 x1.toNatClampNeg), u1.2)
      else
        none
    else
    if x2 = (2 : Int32) then
      if sf_in x1 40 then
        some ((u1.2 4 x1.toNatClampNeg), u1.2)
      else
        none
    else
    if x2 = (3 : Int32) then
      if sf_in x1 40 then
        some ((u1.2 5 x1.toNatClampNeg), u1.2)
      else
        none
    else
    if x2 = (4 : Int32) then
      if sf_in x1 40 then
        some ((u1.2 7 x1.toNatClampNeg), u1.2)
      else
        none
    else
    if x2 = (5 : Int32) then
      if sf_in x1 40 then
        if (u1.2 10 x1.toNatClampNeg) = 0 then
          some ((0 : Int32), u1.2)
        else
          some ((1 : Int32), u1.2)
      else
        none
    else
      some ((-2147483648 : Int32), u1.2)
  else
    some ((-2147483648 : Int32), u1.2)
noncomputable abbrev gX11_node (av : List Value) (σ : sf_S) : Option (Int32 × sf_S) := match av with
  | [.ref q, .int x1, .int x2] => (match sf_rv [0] q with | true => dX11_node x1 x2 σ | false => none)
  | _ => none
set_option maxRecDepth 100000 in
set_option maxHeartbeats 4000000 in
theorem rX11_node {Wt : Nat → sf_L → List Value → sf_S → Prop} {Post : (Int32 × sf_S) → Prop} (hs : sf_Snd Wt sf_layC sf_hI jX11_node tX11_node Post) (hm : sf_mono Wt) : ∀ av σ u, gX11_node av σ = some u → Post u → (∀ ad, (lg_sl (av.map (sf_v ad))).length ≤ 3) ∧ Wt 0 (sf_ent 0 av) [] σ := by
  intro av σ u h hp
  unfold gX11_node at h
  split at h
  · rename_i q x1 x2
    split at h
    · rename_i hq
      have hq : q = 0 := by simpa using sf_rv_mem hq
      subst hq
      refine ⟨fun ad => Nat.le_of_ble_eq_true rfl, ?_⟩
      exact sf_run_ok hs sf_sm_nil 56 0 _ _ σ u h hp
    · cases h
  · cases h
theorem kX11_node (l : Launch) : sf_C l sf_layC yX11_node cX11_node 3 (some .int) (sf_rm 2 121) (fun av σ => (gX11_node av σ).map sf_vI) :=
  sf_met (tab := tX11_node) (J := jX11_node) (fl := sf_fl11) (cl := sf_cl11) (by decide +kernel) ⟨rfl, rfl⟩ sf_RH_I (by decide +kernel) sf_fl11_ok sf_cl11_ok
    (sf_JO_cons (sf_je_N (n := 2) (cs := [2]) (tv := sf_vI) "StreamFuser" (kX2_has l) mwX2_has (by decide +kernel : decode cX11_node 5 = .ok (.invokevirtual 113, 3)) wt_468 wt_470 wt_0 (by decide +kernel) (by decide) (by decide) (List.forall_mem_cons.mpr ⟨⟨_, _, rfl⟩, fun _ h => absurd h List.not_mem_nil⟩) (sf_RM_of (by omega) (by omega))) (sf_JO_nil))
    (fun Wt Post hs hm => rX11_node hs hm)
-- ===== StreamFuser.text(I)I =====
abbrev tX11_text : List (Nat × sf_E) := [(0, (.aload_n 0, 1, 0, .null, [], [])), (1, (.getfield 16, 4, 0, .null, [], [(9, 0)])), (4, (.getfield 110, 7, 0, .null, [], [(2, 4)])), (7, (.ifCond .ne 6, 10, 13, .null, [], [])), (10, (.bipush (-2), 12, 0, .int (-2), [], [])), (12, (.ireturn, 13, 0, .null, [], [])), (13, (.iload_n 1, 14, 0, .null, [], [])), (14, (.iconst (-1), 15, 0, .int (-1), [], [])), (15, (.if_icmp .ne 11, 18, 26, .null, [], [])), (18, (.aload_n 0, 19, 0, .null, [], [])), (19, (.getfield 25, 22, 0, .null, [], [(9, 1)])), (22, (.getfield 137, 25, 0, .null, [], [(3, 2)])), (25, (.ireturn, 26, 0, .null, [], [])), (26, (.iload_n 1, 27, 0, .null, [], [])), (27, (.ifCond .lt 26, 30, 53, .null, [], [])), (30, (.iload_n 1, 31, 0, .null, [], [])), (31, (.aload_n 0, 32, 0, .null, [], [])), (32, (.getfield 25, 35, 0, .null, [], [(9, 1)])), (35, (.getfield 137, 38, 0, .null, [], [(3, 2)])), (38, (.if_icmp .ge 15, 41, 53, .null, [], [])), (41, (.aload_n 0, 42, 0, .null, [], [])), (42, (.getfield 25, 45, 0, .null, [], [(9, 1)])), (45, (.getfield 138, 48, 0, .null, [], [(3, 1)])), (48, (.iload_n 1, 49, 0, .null, [], [])), (49, (.baload, 50, 0, .null, [], [])), (50, (.goto 5, 53, 55, .null, [], [])), (53, (.bipush (-2), 55, 0, .int (-2), [], [])), (55, (.ireturn, 56, 0, .null, [], []))]
noncomputable abbrev jX11_text : List (Nat × sf_J (Int32 × sf_S)) := []
noncomputable def dX11_text (x1 : Int32) (σ : sf_S) : Option (Int32 × sf_S) :=
  if ¬ (σ 1 4) = 0 then
    if ¬ x1 = (-1 : Int32) then
      if x1 < 0 then
        some ((-2 : Int32), σ)
      else
        if (σ 11 2) ≤ x1 then
          some ((-2 : Int32), σ)
        else
          if sf_in x1 400 then
            some ((σ 12 x1.toNatClampNeg), σ)
          else
            none
    else
      some ((σ 11 2), σ)
  else
    some ((-2 : Int32), σ)
noncomputable abbrev gX11_text (av : List Value) (σ : sf_S) : Option (Int32 × sf_S) := match av with
  | [.ref q, .int x1] => (match sf_rv [0] q with | true => dX11_text x1 σ | false => none)
  | _ => none
set_option maxRecDepth 100000 in
set_option maxHeartbeats 4000000 in
theorem rX11_text {Wt : Nat → sf_L → List Value → sf_S → Prop} {Post : (Int32 × sf_S) → Prop} (hs : sf_Snd Wt sf_layC sf_hI jX11_text tX11_text Post) (hm : sf_mono Wt) : ∀ av σ u, gX11_text av σ = some u → Post u → (∀ ad, (lg_sl (av.map (sf_v ad))).length ≤ 2) ∧ Wt 0 (sf_ent 0 av) [] σ := by
  intro av σ u h hp
  unfold gX11_text at h
  split at h
  · rename_i q x1
    split at h
    · rename_i hq
      have hq : q = 0 := by simpa using sf_rv_mem hq
      subst hq
      refine ⟨fun ad => Nat.le_of_ble_eq_true rfl, ?_⟩
      exact sf_run_ok hs sf_sm_nil 33 0 _ _ σ u h hp
    · cases h
  · cases h
theorem kX11_text (l : Launch) : sf_C l sf_layC yX11_text cX11_text 2 (some .int) (sf_rm 1 100) (fun av σ => (gX11_text av σ).map sf_vI) :=
  sf_met (tab := tX11_text) (J := jX11_text) (fl := sf_fl11) (cl := sf_cl11) (by decide +kernel) ⟨rfl, rfl⟩ sf_RH_I (by decide +kernel) sf_fl11_ok sf_cl11_ok
    (sf_JO_nil)
    (fun Wt Post hs hm => rX11_text hs hm)
-- ===== StreamFuser.tidy(I)I =====
abbrev tX11_tidy : List (Nat × sf_E) := [(0, (.iload_n 1, 1, 0, .null, [], [])), (1, (.ifCond .lt 8, 4, 9, .null, [], [])), (4, (.iload_n 1, 5, 0, .null, [], [])), (5, (.iconst 1, 6, 0, .int (1), [], [])), (6, (.if_icmp .le 6, 9, 12, .null, [], [])), (9, (.bipush (-2), 11, 0, .int (-2), [], [])), (11, (.ireturn, 12, 0, .null, [], [])), (12, (.aload_n 0, 13, 0, .null, [], [])), (13, (.getfield 16, 16, 0, .null, [], [(9, 0)])), (16, (.getfield 110, 19, 0, .null, [], [(2, 4)])), (19, (.ifCond .ne 6, 22, 25, .null, [], [])), (22, (.bipush (-3), 24, 0, .int (-3), [], [])), (24, (.ireturn, 25, 0, .null, [], [])), (25, (.aload_n 0, 26, 0, .null, [], [])), (26, (.getfield 32, 29, 0, .null, [], [(9, 2)])), (29, (.iload_n 1, 30, 0, .null, [], [])), (30, (.iconst 1, 31, 0, .int (1), [], [])), (31, (.if_icmp .ne 7, 34, 38, .null, [], [])), (34, (.iconst 1, 35, 0, .int (1), [], [])), (35, (.goto 4, 38, 39, .null, [], [])), (38, (.iconst 0, 39, 0, .int (0), [], [])), (39, (.invokevirtual 142, 42, 0, .null, [], [])), (42, (.aload_n 0, 43, 0, .null, [], [])), (43, (.getfield 25, 46, 0, .null, [], [(9, 1)])), (46, (.invokevirtual 107, 49, 0, .null, [], [])), (49, (.aload_n 0, 50, 0, .null, [], [])), (50, (.getfield 32, 53, 0, .null, [], [(9, 2)])), (53, (.getfield 146, 56, 0, .null, [], [(5, 2)])), (56, (.ireturn, 57, 0, .null, [], []))]
noncomputable abbrev jX11_tidy : List (Nat × sf_J (Int32 × sf_S)) := [(39, sf_jV sf_layC [5] 2 gX5_simplify), (46, sf_jV sf_layC [3] 1 gX3_print)]
noncomputable def dX11_tidy (x1 : Int32) (σ : sf_S) : Option (Int32 × sf_S) :=
  if x1 < 0 then
    some ((-2 : Int32), σ)
  else
    if x1 ≤ (1 : Int32) then
      if ¬ (σ 1 4) = 0 then
        if ¬ x1 = (1 : Int32) then
          (dX5_simplify 13 (0 : Int32) σ).bind fun u1 =>
          (dX3_print u1).bind fun u2 =>
          some ((u2 13 2), u2)
        else
          (dX5_simplify 13 (1 : Int32) σ).bind fun u3 =>
          (dX3_print u3).bind fun u4 =>
          some ((u4 13 2), u4)
      else
        some ((-3 : Int32), σ)
    else
      some ((-2 : Int32), σ)
noncomputable abbrev gX11_tidy (av : List Value) (σ : sf_S) : Option (Int32 × sf_S) := match av with
  | [.ref q, .int x1] => (match sf_rv [0] q with | true => dX11_tidy x1 σ | false => none)
  | _ => none
set_option maxRecDepth 100000 in
set_option maxHeartbeats 4000000 in
theorem rX11_tidy {Wt : Nat → sf_L → List Value → sf_S → Prop} {Post : (Int32 × sf_S) → Prop} (hs : sf_Snd Wt sf_layC sf_hI jX11_tidy tX11_tidy Post) (hm : sf_mono Wt) : ∀ av σ u, gX11_tidy av σ = some u → Post u → (∀ ad, (lg_sl (av.map (sf_v ad))).length ≤ 2) ∧ Wt 0 (sf_ent 0 av) [] σ := by
  intro av σ u h hp
  unfold gX11_tidy at h
  split at h
  · rename_i q x1
    split at h
    · rename_i hq
      have hq : q = 0 := by simpa using sf_rv_mem hq
      subst hq
      refine ⟨fun ad => Nat.le_of_ble_eq_true rfl, ?_⟩
      exact sf_run_ok hs sf_sm_nil 34 0 _ _ σ u h hp
    · cases h
  · cases h
theorem kX11_tidy (l : Launch) : sf_C l sf_layC yX11_tidy cX11_tidy 2 (some .int) (sf_rm 6 217) (fun av σ => (gX11_tidy av σ).map sf_vI) :=
  sf_met (tab := tX11_tidy) (J := jX11_tidy) (fl := sf_fl11) (cl := sf_cl11) (by decide +kernel) ⟨rfl, rfl⟩ sf_RH_I (by decide +kernel) sf_fl11_ok sf_cl11_ok
    (sf_JO_cons (sf_je_N (n := 2) (cs := [5]) (tv := sf_vV) "StreamFuser" (kX5_simplify l) mwX5_simplify (by decide +kernel : decode cX11_tidy 39 = .ok (.invokevirtual 142, 3)) wt_481 wt_483 wt_1 (by decide +kernel) (by decide) (by decide) (List.forall_mem_cons.mpr ⟨⟨_, _, rfl⟩, fun _ h => absurd h List.not_mem_nil⟩) (sf_RM_of (by omega) (by omega))) (sf_JO_cons (sf_je_N (n := 1) (cs := [3]) (tv := sf_vV) "StreamFuser" (kX3_print l) mwX3_print (by decide +kernel : decode cX11_tidy 46 = .ok (.invokevirtual 107, 3)) wt_577 wt_579 wt_21 (by decide +kernel) (by decide) (by decide) (List.forall_mem_cons.mpr ⟨⟨_, _, rfl⟩, fun _ h => absurd h List.not_mem_nil⟩) (sf_RM_of (by omega) (by omega))) (sf_JO_nil)))
    (fun Wt Post hs hm => rX11_tidy hs hm)
-- ===== StreamFuser.saves(I)I =====
abbrev tX11_saves : List (Nat × sf_E) := [(0, (.iload_n 1, 1, 0, .null, [], [])), (1, (.ifCond .lt 19, 4, 20, .null, [], [])), (4, (.iload_n 1, 5, 0, .null, [], [])), (5, (.bipush 40, 7, 0, .int (40), [], [])), (7, (.if_icmp .gt 13, 10, 20, .null, [], [])), (10, (.aload_n 0, 11, 0, .null, [], [])), (11, (.getfield 16, 14, 0, .null, [], [(9, 0)])), (14, (.getfield 110, 17, 0, .null, [], [(2, 4)])), (17, (.ifCond .ne 6, 20, 23, .null, [], [])), (20, (.ldc 116, 22, 0, .int (-2147483648), [], [])), (22, (.ireturn, 23, 0, .null, [], [])), (23, (.aload_n 0, 24, 0, .null, [], [])), (24, (.getfield 73, 27, 0, .null, [], [(9, 8)])), (27, (.aload_n 0, 28, 0, .null, [], [])), (28, (.getfield 16, 31, 0, .null, [], [(9, 0)])), (31, (.invokevirtual 104, 34, 0, .null, [], [])), (34, (.aload_n 0, 35, 0, .null, [], [])), (35, (.getfield 89, 38, 0, .null, [], [(9, 12)])), (38, (.iload_n 1, 39, 0, .null, [], [])), (39, (.invokevirtual 152, 42, 0, .null, [], [])), (42, (.aload_n 0, 43, 0, .null, [], [])), (43, (.getfield 86, 46, 0, .null, [], [(9, 11)])), (46, (.getfield 156, 49, 0, .null, [], [(6, 2)])), (49, (.istore_n 2, 50, 0, .null, [], [])), (50, (.aload_n 0, 51, 0, .null, [], [])), (51, (.getfield 83, 54, 0, .null, [], [(9, 10)])), (54, (.iconst 0, 55, 0, .int (0), [], [])), (55, (.invokevirtual 142, 58, 0, .null, [], [])), (58, (.aload_n 0, 59, 0, .null, [], [])), (59, (.getfield 89, 62, 0, .null, [], [(9, 12)])), (62, (.iload_n 1, 63, 0, .null, [], [])), (63, (.invokevirtual 152, 66, 0, .null, [], [])), (66, (.iload_n 2, 67, 0, .null, [], [])), (67, (.aload_n 0, 68, 0, .null, [], [])), (68, (.getfield 86, 71, 0, .null, [], [(9, 11)])), (71, (.getfield 156, 74, 0, .null, [], [(6, 2)])), (74, (.isub, 75, 0, .null, [], [])), (75, (.ireturn, 76, 0, .null, [], []))]
noncomputable abbrev jX11_saves : List (Nat × sf_J (Int32 × sf_S)) := [(31, sf_jV sf_layC [2] 2 gX2_takeFrom), (39, sf_jV sf_layC [0] 2 gX0_play), (55, sf_jV sf_layC [5] 2 gX5_simplify), (63, sf_jV sf_layC [0] 2 gX0_play)]
noncomputable def dX11_saves (x1 : Int32) (σ : sf_S) : Option (Int32 × sf_S) :=
  if x1 < 0 then
    some ((-2147483648 : Int32), σ)
  else
    if (40 : Int32) < x1 then
      some ((-2147483648 : Int32), σ)
    else
      if ¬ (σ 1 4) = 0 then
        (dX2_takeFrom 36 1 σ).bind fun u1 =>
        (dX0_play 55 x1 u1).bind fun u2 =>
        let v3 := (u2 51 2)
        (dX5_simplify 49 (0 : Int32) u2).bind fun u4 =>
        (dX0_play 55 x1 u4).bind fun u5 =>
        some ((v3 - (u5 51 2)), u5)
      else
        some ((-2147483648 : Int32), σ)
noncomputable abbrev gX11_saves (av : List Value) (σ : sf_S) : Option (Int32 × sf_S) := match av with
  | [.ref q, .int x1] => (match sf_rv [0] q with | true => dX11_saves x1 σ | false => none)
  | _ => none
set_option maxRecDepth 100000 in
set_option maxHeartbeats 4000000 in
theorem rX11_saves {Wt : Nat → sf_L → List Value → sf_S → Prop} {Post : (Int32 × sf_S) → Prop} (hs : sf_Snd Wt sf_layC sf_hI jX11_saves tX11_saves Post) (hm : sf_mono Wt) : ∀ av σ u, gX11_saves av σ = some u → Post u → (∀ ad, (lg_sl (av.map (sf_v ad))).length ≤ 3) ∧ Wt 0 (sf_ent 0 av) [] σ := by
  intro av σ u h hp
  unfold gX11_saves at h
  split at h
  · rename_i q x1
    split at h
    · rename_i hq
      have hq : q = 0 := by simpa using sf_rv_mem hq
      subst hq
      refine ⟨fun ad => Nat.le_of_ble_eq_true rfl, ?_⟩
      exact sf_run_ok hs sf_sm_nil 43 0 _ _ σ u h hp
    · cases h
  · cases h
theorem kX11_saves (l : Launch) : sf_C l sf_layC yX11_saves cX11_saves 3 (some .int) (sf_rm 442 16752) (fun av σ => (gX11_saves av σ).map sf_vI) :=
  sf_met (tab := tX11_saves) (J := jX11_saves) (fl := sf_fl11) (cl := sf_cl11) (by decide +kernel) ⟨rfl, rfl⟩ sf_RH_I (by decide +kernel) sf_fl11_ok sf_cl11_ok
    (sf_JO_cons (sf_je_N (n := 2) (cs := [2]) (tv := sf_vV) "StreamFuser" (kX2_takeFrom l) mwX2_takeFrom (by decide +kernel : decode cX11_saves 31 = .ok (.invokevirtual 104, 3)) wt_611 wt_613 wt_25 (by decide +kernel) (by decide) (by decide) (List.forall_mem_cons.mpr ⟨⟨_, _, rfl⟩, fun _ h => absurd h List.not_mem_nil⟩) (sf_RM_of (by omega) (by omega))) (sf_JO_cons (sf_je_N (n := 2) (cs := [0]) (tv := sf_vV) "StreamFuser" (kX0_play l) mwX0_play (by decide +kernel : decode cX11_saves 39 = .ok (.invokevirtual 152, 3)) wt_620 wt_622 wt_27 (by decide +kernel) (by decide) (by decide) (List.forall_mem_cons.mpr ⟨⟨_, _, rfl⟩, fun _ h => absurd h List.not_mem_nil⟩) (sf_RM_of (by omega) (by omega))) (sf_JO_cons (sf_je_N (n := 2) (cs := [5]) (tv := sf_vV) "StreamFuser" (kX5_simplify l) mwX5_simplify (by decide +kernel : decode cX11_saves 55 = .ok (.invokevirtual 142, 3)) wt_481 wt_483 wt_1 (by decide +kernel) (by decide) (by decide) (List.forall_mem_cons.mpr ⟨⟨_, _, rfl⟩, fun _ h => absurd h List.not_mem_nil⟩) (sf_RM_of (by omega) (by omega))) (sf_JO_cons (sf_je_N (n := 2) (cs := [0]) (tv := sf_vV) "StreamFuser" (kX0_play l) mwX0_play (by decide +kernel : decode cX11_saves 63 = .ok (.invokevirtual 152, 3)) wt_620 wt_622 wt_27 (by decide +kernel) (by decide) (by decide) (List.forall_mem_cons.mpr ⟨⟨_, _, rfl⟩, fun _ h => absurd h List.not_mem_nil⟩) (sf_RM_of (by omega) (by omega))) (sf_JO_nil)))))
    (fun Wt Post hs hm => rX11_saves hs hm)
-- ===== StreamFuser.run(II)I =====
abbrev tX11_run : List (Nat × sf_E) := [(0, (.iload_n 1, 1, 0, .null, [], [])), (1, (.ifCond .lt 18, 4, 19, .null, [], [])), (4, (.iload_n 1, 5, 0, .null, [], [])), (5, (.iconst 2, 6, 0, .int (2), [], [])), (6, (.if_icmp .gt 13, 9, 19, .null, [], [])), (9, (.iload_n 2, 10, 0, .null, [], [])), (10, (.ifCond .lt 9, 13, 19, .null, [], [])), (13, (.iload_n 2, 14, 0, .null, [], [])), (14, (.bipush 40, 16, 0, .int (40), [], [])), (16, (.if_icmp .le 6, 19, 22, .null, [], [])), (19, (.bipush (-2), 21, 0, .int (-2), [], [])), (21, (.ireturn, 22, 0, .null, [], [])), (22, (.aload_n 0, 23, 0, .null, [], [])), (23, (.getfield 16, 26, 0, .null, [], [(9, 0)])), (26, (.getfield 110, 29, 0, .null, [], [(2, 4)])), (29, (.ifCond .eq 18, 32, 47, .null, [], [])), (32, (.iload_n 1, 33, 0, .null, [], [])), (33, (.iconst 2, 34, 0, .int (2), [], [])), (34, (.if_icmp .ne 16, 37, 50, .null, [], [])), (37, (.aload_n 0, 38, 0, .null, [], [])), (38, (.getfield 16, 41, 0, .null, [], [(9, 0)])), (41, (.getfield 159, 44, 0, .null, [], [(2, 11)])), (44, (.ifCond .eq 6, 47, 50, .null, [], [])), (47, (.bipush (-3), 49, 0, .int (-3), [], [])), (49, (.ireturn, 50, 0, .null, [], [])), (50, (.iload_n 1, 51, 0, .null, [], [])), (51, (.ifCond .ne 14, 54, 65, .null, [], [])), (54, (.aload_n 0, 55, 0, .null, [], [])), (55, (.getfield 55, 58, 0, .null, [], [(9, 5)])), (58, (.iload_n 2, 59, 0, .null, [], [])), (59, (.invokevirtual 152, 62, 0, .null, [], [])), (62, (.goto 27, 65, 89, .null, [], [])), (65, (.iload_n 1, 66, 0, .null, [], [])), (66, (.iconst 1, 67, 0, .int (1), [], [])), (67, (.if_icmp .ne 14, 70, 81, .null, [], [])), (70, (.aload_n 0, 71, 0, .null, [], [])), (71, (.getfield 62, 74, 0, .null, [], [(9, 6)])), (74, (.iload_n 2, 75, 0, .null, [], [])), (75, (.invokevirtual 163, 78, 0, .null, [], [])), (78, (.goto 11, 81, 89, .null, [], [])), (81, (.aload_n 0, 82, 0, .null, [], [])), (82, (.getfield 69, 85, 0, .null, [], [(9, 7)])), (85, (.iload_n 2, 86, 0, .null, [], [])), (86, (.invokevirtual 164, 89, 0, .null, [], [])), (89, (.aload_n 0, 90, 0, .null, [], [])), (90, (.getfield 46, 93, 0, .null, [], [(9, 4)])), (93, (.getfield 165, 96, 0, .null, [], [(6, 1)])), (96, (.ireturn, 97, 0, .null, [], []))]
noncomputable abbrev jX11_run : List (Nat × sf_J (Int32 × sf_S)) := [(59, sf_jV sf_layC [0] 2 gX0_play), (75, sf_jV sf_layC [8] 2 gX8_play), (86, sf_jV sf_layC [1] 2 gX1_play)]
abbrev wX11_run_50 {ρ : Type} (k : Int32 → Int32 → sf_S → Option ρ) : sf_M ρ := fun L st σ => sf_lda L 0 fun a0 => sf_eq a0 0 (sf_ldi L 1 fun x1 => sf_ldi L 2 fun x2 => sf_nil st (k x1 x2 σ))
theorem wX11_run_50_ok {ρ : Type} {Wt : Nat → sf_L → List Value → sf_S → Prop} {Post : ρ → Prop} (hm : sf_mono Wt) {k : Int32 → Int32 → sf_S → Option ρ} (h : ∀ (x1 : Int32) (x2 : Int32) (σ : sf_S) (u : ρ), k x1 x2 σ = some u → Post u → Wt 50 [(0, some (.ref 0)), (1, some (.int x1)), (2, some (.int x2))] [] σ) : sf_CK Wt Post 50 (wX11_run_50 k) := by
  intro L st σ u hf hp
  unfold wX11_run_50 at hf
  have hf0 := hf
  obtain ⟨a0, e0, hf1⟩ := sf_lda_inv hf0
  obtain ⟨rfl, hf2⟩ := sf_eq_inv hf1
  obtain ⟨x1, e1, hf3⟩ := sf_ldi_inv hf2
  obtain ⟨x2, e2, hf4⟩ := sf_ldi_inv hf3
  obtain ⟨rfl, hz⟩ := sf_nil_inv hf4
  exact hm _ [(0, some (.ref _)), (1, some (.int x1)), (2, some (.int x2))] _ _ _ (sf_le_ok (And.intro e0 (And.intro e1 (And.intro e2 trivial)))) (h _ _ _ _ hz hp)
noncomputable def dX11_run_50 (x1 : Int32) (x2 : Int32) (σ : sf_S) : Option (Int32 × sf_S) :=
  if ¬ x1 = 0 then
    if ¬ x1 = (1 : Int32) then
      (dX1_play x2 σ).bind fun u1 =>
      some ((u1 19 1), u1)
    else
      (dX8_play x2 σ).bind fun u2 =>
      some ((u2 19 1), u2)
  else
    (dX0_play 23 x2 σ).bind fun u3 =>
    some ((u3 19 1), u3)
set_option maxRecDepth 100000 in
set_option maxHeartbeats 4000000 in
theorem rX11_run_50 {Wt : Nat → sf_L → List Value → sf_S → Prop} {Post : (Int32 × sf_S) → Prop} (hs : sf_Snd Wt sf_layC sf_hI jX11_run tX11_run Post) (hm : sf_mono Wt) : sf_CK Wt Post 50 (wX11_run_50 (dX11_run_50)) := by
  refine wX11_run_50_ok hm ?_
  intro x1 x2 σ u h hp
  exact sf_run_ok hs sf_sm_nil 53 50 _ _ σ u h hp
noncomputable def dX11_run (x1 : Int32) (x2 : Int32) (σ : sf_S) : Option (Int32 × sf_S) :=
  if x1 < 0 then
    some ((-2 : Int32), σ)
  else
    if (2 : Int32) < x1 then
      some ((-2 : Int32), σ)
    else
      if x2 < 0 then
        some ((-2 : Int32), σ)
      else
        if x2 ≤ (40 : Int32) then
          if (σ 1 4) = 0 then
            some ((-3 : Int32), σ)
          else
            if ¬ x1 = (2 : Int32) then
              dX11_run_50 x1 x2 σ
            else
              if (σ 1 11) = 0 then
                dX11_run_50 x1 x2 σ
              else
                some ((-3 : Int32), σ)
        else
          some ((-2 : Int32), σ)
noncomputable abbrev gX11_run (av : List Value) (σ : sf_S) : Option (Int32 × sf_S) := match av with
  | [.ref q, .int x1, .int x2] => (match sf_rv [0] q with | true => dX11_run x1 x2 σ | false => none)
  | _ => none
set_option maxRecDepth 100000 in
set_option maxHeartbeats 4000000 in
theorem rX11_run {Wt : Nat → sf_L → List Value → sf_S → Prop} {Post : (Int32 × sf_S) → Prop} (hs : sf_Snd Wt sf_layC sf_hI jX11_run tX11_run Post) (hm : sf_mono Wt) : ∀ av σ u, gX11_run av σ = some u → Post u → (∀ ad, (lg_sl (av.map (sf_v ad))).length ≤ 3) ∧ Wt 0 (sf_ent 0 av) [] σ := by
  intro av σ u h hp
  unfold gX11_run at h
  split at h
  · rename_i q x1 x2
    split at h
    · rename_i hq
      have hq : q = 0 := by simpa using sf_rv_mem hq
      subst hq
      refine ⟨fun ad => Nat.le_of_ble_eq_true rfl, ?_⟩
      exact sf_run_ok hs (sf_sm_cons (rX11_run_50 hs hm) sf_sm_nil) 53 0 _ _ σ u h hp
    · cases h
  · cases h
theorem kX11_run (l : Launch) : sf_C l sf_layC yX11_run cX11_run 3 (some .int) (sf_rm 484 17760) (fun av σ => (gX11_run av σ).map sf_vI) :=
  sf_met (tab := tX11_run) (J := jX11_run) (fl := sf_fl11) (cl := sf_cl11) (by decide +kernel) ⟨rfl, rfl⟩ sf_RH_I (by decide +kernel) sf_fl11_ok sf_cl11_ok
    (sf_JO_cons (sf_je_N (n := 2) (cs := [0]) (tv := sf_vV) "StreamFuser" (kX0_play l) mwX0_play (by decide +kernel : decode cX11_run 59 = .ok (.invokevirtual 152, 3)) wt_620 wt_622 wt_27 (by decide +kernel) (by decide) (by decide) (List.forall_mem_cons.mpr ⟨⟨_, _, rfl⟩, fun _ h => absurd h List.not_mem_nil⟩) (sf_RM_of (by omega) (by omega))) (sf_JO_cons (sf_je_N (n := 2) (cs := [8]) (tv := sf_vV) "StreamFuser" (kX8_play l) mwX8_play (by decide +kernel : decode cX11_run 75 = .ok (.invokevirtual 163, 3)) wt_787 wt_789 wt_44 (by decide +kernel) (by decide) (by decide) (List.forall_mem_cons.mpr ⟨⟨_, _, rfl⟩, fun _ h => absurd h List.not_mem_nil⟩) (sf_RM_of (by omega) (by omega))) (sf_JO_cons (sf_je_N (n := 2) (cs := [1]) (tv := sf_vV) "StreamFuser" (kX1_play l) mwX1_play (by decide +kernel : decode cX11_run 86 = .ok (.invokevirtual 164, 3)) wt_840 wt_842 wt_51 (by decide +kernel) (by decide) (by decide) (List.forall_mem_cons.mpr ⟨⟨_, _, rfl⟩, fun _ h => absurd h List.not_mem_nil⟩) (sf_RM_of (by omega) (by omega))) (sf_JO_nil))))
    (fun Wt Post hs hm => rX11_run hs hm)
-- ===== StreamFuser.result(I)J =====
abbrev tX11_result : List (Nat × sf_E) := [(0, (.iload_n 1, 1, 0, .null, [], [])), (1, (.ifCond .lt 27, 4, 28, .null, [], [])), (4, (.iload_n 1, 5, 0, .null, [], [])), (5, (.aload_n 0, 6, 0, .null, [], [])), (6, (.getfield 46, 9, 0, .null, [], [(9, 4)])), (9, (.getfield 165, 12, 0, .null, [], [(6, 1)])), (12, (.if_icmp .ge 16, 15, 28, .null, [], [])), (15, (.aload_n 0, 16, 0, .null, [], [])), (16, (.getfield 46, 19, 0, .null, [], [(9, 4)])), (19, (.getfield 166, 22, 0, .null, [], [(6, 0)])), (22, (.iload_n 1, 23, 0, .null, [], [])), (23, (.iaload, 24, 0, .null, [], [])), (24, (.i2l, 25, 0, .null, [], [])), (25, (.goto 6, 28, 31, .null, [], [])), (28, (.ldc2_w 169, 31, 0, .long (-9223372036854775806), [], [])), (31, (.lreturn, 32, 0, .null, [], []))]
noncomputable abbrev jX11_result : List (Nat × sf_J (Int64 × sf_S)) := []
noncomputable def dX11_result (x1 : Int32) (σ : sf_S) : Option (Int64 × sf_S) :=
  if x1 < 0 then
    some ((-9223372036854775806 : Int64), σ)
  else
    if (σ 19 1) ≤ x1 then
      some ((-9223372036854775806 : Int64), σ)
    else
      if sf_in x1 40 then
        some (((σ 20 x1.toNatClampNeg)).toInt64, σ)
      else
        none
noncomputable abbrev gX11_result (av : List Value) (σ : sf_S) : Option (Int64 × sf_S) := match av with
  | [.ref q, .int x1] => (match sf_rv [0] q with | true => dX11_result x1 σ | false => none)
  | _ => none
set_option maxRecDepth 100000 in
set_option maxHeartbeats 4000000 in
theorem rX11_result {Wt : Nat → sf_L → List Value → sf_S → Prop} {Post : (Int64 × sf_S) → Prop} (hs : sf_Snd Wt sf_layC sf_hL jX11_result tX11_result Post) (hm : sf_mono Wt) : ∀ av σ u, gX11_result av σ = some u → Post u → (∀ ad, (lg_sl (av.map (sf_v ad))).length ≤ 2) ∧ Wt 0 (sf_ent 0 av) [] σ := by
  intro av σ u h hp
  unfold gX11_result at h
  split at h
  · rename_i q x1
    split at h
    · rename_i hq
      have hq : q = 0 := by simpa using sf_rv_mem hq
      subst hq
      refine ⟨fun ad => Nat.le_of_ble_eq_true rfl, ?_⟩
      exact sf_run_ok hs sf_sm_nil 21 0 _ _ σ u h hp
    · cases h
  · cases h
theorem kX11_result (l : Launch) : sf_C l sf_layC yX11_result cX11_result 2 (some .long) (sf_rm 1 100) (fun av σ => (gX11_result av σ).map sf_vL) :=
  sf_met (tab := tX11_result) (J := jX11_result) (fl := sf_fl11) (cl := sf_cl11) (by decide +kernel) ⟨rfl, rfl⟩ sf_RH_L (by decide +kernel) sf_fl11_ok sf_cl11_ok
    (sf_JO_nil)
    (fun Wt Post hs hm => rX11_result hs hm)
-- ===== StreamFuser.failure(I)I =====
abbrev tX11_failure : List (Nat × sf_E) := [(0, (.iload_n 1, 1, 0, .null, [], [])), (1, (.ifCond .lt 8, 4, 9, .null, [], [])), (4, (.iload_n 1, 5, 0, .null, [], [])), (5, (.iconst 1, 6, 0, .int (1), [], [])), (6, (.if_icmp .le 6, 9, 12, .null, [], [])), (9, (.bipush (-2), 11, 0, .int (-2), [], [])), (11, (.ireturn, 12, 0, .null, [], [])), (12, (.iload_n 1, 13, 0, .null, [], [])), (13, (.ifCond .ne 13, 16, 26, .null, [], [])), (16, (.aload_n 0, 17, 0, .null, [], [])), (17, (.getfield 46, 20, 0, .null, [], [(9, 4)])), (20, (.getfield 183, 23, 0, .null, [], [(6, 5)])), (23, (.goto 10, 26, 33, .null, [], [])), (26, (.aload_n 0, 27, 0, .null, [], [])), (27, (.getfield 46, 30, 0, .null, [], [(9, 4)])), (30, (.getfield 186, 33, 0, .null, [], [(6, 6)])), (33, (.ireturn, 34, 0, .null, [], []))]
noncomputable abbrev jX11_failure : List (Nat × sf_J (Int32 × sf_S)) := []
noncomputable def dX11_failure (x1 : Int32) (σ : sf_S) : Option (Int32 × sf_S) :=
  if x1 < 0 then
    some ((-2 : Int32), σ)
  else
    if x1 ≤ (1 : Int32) then
      if ¬ x1 = 0 then
        some ((σ 19 6), σ)
      else
        some ((σ 19 5), σ)
    else
      some ((-2 : Int32), σ)
noncomputable abbrev gX11_failure (av : List Value) (σ : sf_S) : Option (Int32 × sf_S) := match av with
  | [.ref q, .int x1] => (match sf_rv [0] q with | true => dX11_failure x1 σ | false => none)
  | _ => none
set_option maxRecDepth 100000 in
set_option maxHeartbeats 4000000 in
theorem rX11_failure {Wt : Nat → sf_L → List Value → sf_S → Prop} {Post : (Int32 × sf_S) → Prop} (hs : sf_Snd Wt sf_layC sf_hI jX11_failure tX11_failure Post) (hm : sf_mono Wt) : ∀ av σ u, gX11_failure av σ = some u → Post u → (∀ ad, (lg_sl (av.map (sf_v ad))).length ≤ 2) ∧ Wt 0 (sf_ent 0 av) [] σ := by
  intro av σ u h hp
  unfold gX11_failure at h
  split at h
  · rename_i q x1
    split at h
    · rename_i hq
      have hq : q = 0 := by simpa using sf_rv_mem hq
      subst hq
      refine ⟨fun ad => Nat.le_of_ble_eq_true rfl, ?_⟩
      exact sf_run_ok hs sf_sm_nil 22 0 _ _ σ u h hp
    · cases h
  · cases h
theorem kX11_failure (l : Launch) : sf_C l sf_layC yX11_failure cX11_failure 2 (some .int) (sf_rm 1 100) (fun av σ => (gX11_failure av σ).map sf_vI) :=
  sf_met (tab := tX11_failure) (J := jX11_failure) (fl := sf_fl11) (cl := sf_cl11) (by decide +kernel) ⟨rfl, rfl⟩ sf_RH_I (by decide +kernel) sf_fl11_ok sf_cl11_ok
    (sf_JO_nil)
    (fun Wt Post hs hm => rX11_failure hs hm)
-- ===== StreamFuser.told(I)I =====
abbrev tX11_told : List (Nat × sf_E) := [(0, (.iload_n 1, 1, 0, .null, [], [])), (1, (.tableswitch 63 0 3 #[31, 39, 47, 55], 32, 64, .null, [((0), 32), ((1), 40), ((2), 48), ((3), 56)], [])), (32, (.aload_n 0, 33, 0, .null, [], [])), (33, (.getfield 46, 36, 0, .null, [], [(9, 4)])), (36, (.getfield 156, 39, 0, .null, [], [(6, 2)])), (39, (.ireturn, 40, 0, .null, [], [])), (40, (.aload_n 0, 41, 0, .null, [], [])), (41, (.getfield 46, 44, 0, .null, [], [(9, 4)])), (44, (.getfield 189, 47, 0, .null, [], [(6, 3)])), (47, (.ireturn, 48, 0, .null, [], [])), (48, (.aload_n 0, 49, 0, .null, [], [])), (49, (.getfield 46, 52, 0, .null, [], [(9, 4)])), (52, (.getfield 192, 55, 0, .null, [], [(6, 4)])), (55, (.ireturn, 56, 0, .null, [], [])), (56, (.aload_n 0, 57, 0, .null, [], [])), (57, (.getfield 46, 60, 0, .null, [], [(9, 4)])), (60, (.getfield 195, 63, 0, .null, [], [(6, 9)])), (63, (.ireturn, 64, 0, .null, [], [])), (64, (.bipush (-2), 66, 0, .int (-2), [], [])), (66, (.ireturn, 67, 0, .null, [], []))]
noncomputable abbrev jX11_told : List (Nat × sf_J (Int32 × sf_S)) := []
noncomputable def dX11_told (x1 : Int32) (σ : sf_S) : Option (Int32 × sf_S) :=
  if x1 = (0 : Int32) then
    some ((σ 19 2), σ)
  else
  if x1 = (1 : Int32) then
    some ((σ 19 3), σ)
  else
  if x1 = (2 : Int32) then
    some ((σ 19 4), σ)
  else
  if x1 = (3 : Int32) then
    some ((σ 19 9), σ)
  else
    some ((-2 : Int32), σ)
noncomputable abbrev gX11_told (av : List Value) (σ : sf_S) : Option (Int32 × sf_S) := match av with
  | [.ref q, .int x1] => (match sf_rv [0] q with | true => dX11_told x1 σ | false => none)
  | _ => none
set_option maxRecDepth 100000 in
set_option maxHeartbeats 4000000 in
theorem rX11_told {Wt : Nat → sf_L → List Value → sf_S → Prop} {Post : (Int32 × sf_S) → Prop} (hs : sf_Snd Wt sf_layC sf_hI jX11_told tX11_told Post) (hm : sf_mono Wt) : ∀ av σ u, gX11_told av σ = some u → Post u → (∀ ad, (lg_sl (av.map (sf_v ad))).length ≤ 2) ∧ Wt 0 (sf_ent 0 av) [] σ := by
  intro av σ u h hp
  unfold gX11_told at h
  split at h
  · rename_i q x1
    split at h
    · rename_i hq
      have hq : q = 0 := by simpa using sf_rv_mem hq
      subst hq
      refine ⟨fun ad => Nat.le_of_ble_eq_true rfl, ?_⟩
      exact sf_run_ok hs sf_sm_nil 25 0 _ _ σ u h hp
    · cases h
  · cases h
theorem kX11_told (l : Launch) : sf_C l sf_layC yX11_told cX11_told 2 (some .int) (sf_rm 1 100) (fun av σ => (gX11_told av σ).map sf_vI) :=
  sf_met (tab := tX11_told) (J := jX11_told) (fl := sf_fl11) (cl := sf_cl11) (by decide +kernel) ⟨rfl, rfl⟩ sf_RH_I (by decide +kernel) sf_fl11_ok sf_cl11_ok
    (sf_JO_nil)
    (fun Wt Post hs hm => rX11_told hs hm)
-- ===== StreamFuser.written(II)J =====
abbrev tX11_written : List (Nat × sf_E) := [(0, (.iload_n 1, 1, 0, .null, [], [])), (1, (.ifCond .lt 23, 4, 24, .null, [], [])), (4, (.iload_n 1, 5, 0, .null, [], [])), (5, (.aload_n 0, 6, 0, .null, [], [])), (6, (.getfield 46, 9, 0, .null, [], [(9, 4)])), (9, (.invokevirtual 198, 12, 0, .null, [], [])), (12, (.if_icmp .ge 12, 15, 24, .null, [], [])), (15, (.iload_n 2, 16, 0, .null, [], [])), (16, (.ifCond .lt 8, 19, 24, .null, [], [])), (19, (.iload_n 2, 20, 0, .null, [], [])), (20, (.iconst 1, 21, 0, .int (1), [], [])), (21, (.if_icmp .le 7, 24, 28, .null, [], [])), (24, (.ldc2_w 169, 27, 0, .long (-9223372036854775806), [], [])), (27, (.lreturn, 28, 0, .null, [], [])), (28, (.iload_n 2, 29, 0, .null, [], [])), (29, (.ifCond .ne 16, 32, 45, .null, [], [])), (32, (.aload_n 0, 33, 0, .null, [], [])), (33, (.getfield 46, 36, 0, .null, [], [(9, 4)])), (36, (.getfield 201, 39, 0, .null, [], [(6, 7)])), (39, (.iload_n 1, 40, 0, .null, [], [])), (40, (.iaload, 41, 0, .null, [], [])), (41, (.i2l, 42, 0, .null, [], [])), (42, (.goto 13, 45, 55, .null, [], [])), (45, (.aload_n 0, 46, 0, .null, [], [])), (46, (.getfield 46, 49, 0, .null, [], [(9, 4)])), (49, (.getfield 204, 52, 0, .null, [], [(6, 8)])), (52, (.iload_n 1, 53, 0, .null, [], [])), (53, (.iaload, 54, 0, .null, [], [])), (54, (.i2l, 55, 0, .null, [], [])), (55, (.lreturn, 56, 0, .null, [], []))]
noncomputable abbrev jX11_written : List (Nat × sf_J (Int64 × sf_S)) := [(9, sf_jI sf_layC [6] 1 gX6_kept)]
noncomputable def dX11_written (x1 : Int32) (x2 : Int32) (σ : sf_S) : Option (Int64 × sf_S) :=
  if x1 < 0 then
    some ((-9223372036854775806 : Int64), σ)
  else
    (dX6_kept 19 σ).bind fun u1 =>
    if u1.1 ≤ x1 then
      some ((-9223372036854775806 : Int64), u1.2)
    else
      if x2 < 0 then
        some ((-9223372036854775806 : Int64), u1.2)
      else
        if x2 ≤ (1 : Int32) then
          if ¬ x2 = 0 then
            if sf_in x1 40 then
              some (((u1.2 22 x1.toNatClampNeg)).toInt64, u1.2)
            else
              none
          else
            if sf_in x1 40 then
              some (((u1.2 21 x1.toNatClampNeg)).toInt64, u1.2)
            else
              none
        else
          some ((-9223372036854775806 : Int64), u1.2)
noncomputable abbrev gX11_written (av : List Value) (σ : sf_S) : Option (Int64 × sf_S) := match av with
  | [.ref q, .int x1, .int x2] => (match sf_rv [0] q with | true => dX11_written x1 x2 σ | false => none)
  | _ => none
set_option maxRecDepth 100000 in
set_option maxHeartbeats 4000000 in
theorem rX11_written {Wt : Nat → sf_L → List Value → sf_S → Prop} {Post : (Int64 × sf_S) → Prop} (hs : sf_Snd Wt sf_layC sf_hL jX11_written tX11_written Post) (hm : sf_mono Wt) : ∀ av σ u, gX11_written av σ = some u → Post u → (∀ ad, (lg_sl (av.map (sf_v ad))).length ≤ 3) ∧ Wt 0 (sf_ent 0 av) [] σ := by
  intro av σ u h hp
  unfold gX11_written at h
  split at h
  · rename_i q x1 x2
    split at h
    · rename_i hq
      have hq : q = 0 := by simpa using sf_rv_mem hq
      subst hq
      refine ⟨fun ad => Nat.le_of_ble_eq_true rfl, ?_⟩
      exact sf_run_ok hs sf_sm_nil 35 0 _ _ σ u h hp
    · cases h
  · cases h
theorem kX11_written (l : Launch) : sf_C l sf_layC yX11_written cX11_written 3 (some .long) (sf_rm 2 120) (fun av σ => (gX11_written av σ).map sf_vL) :=
  sf_met (tab := tX11_written) (J := jX11_written) (fl := sf_fl11) (cl := sf_cl11) (by decide +kernel) ⟨rfl, rfl⟩ sf_RH_L (by decide +kernel) sf_fl11_ok sf_cl11_ok
    (sf_JO_cons (sf_je_N (n := 1) (cs := [6]) (tv := sf_vI) "StreamFuser" (kX6_kept l) mwX6_kept (by decide +kernel : decode cX11_written 9 = .ok (.invokevirtual 198, 3)) wt_1017 wt_1019 wt_70 (by decide +kernel) (by decide) (by decide) (List.forall_mem_cons.mpr ⟨⟨_, _, rfl⟩, fun _ h => absurd h List.not_mem_nil⟩) (sf_RM_of (by omega) (by omega))) (sf_JO_nil))
    (fun Wt Post hs hm => rX11_written hs hm)
-- ===== StreamFuser.count(I)I =====
abbrev tX11_count : List (Nat × sf_E) := [(0, (.iload_n 1, 1, 0, .null, [], [])), (1, (.tableswitch 120 0 8 #[51, 59, 67, 75, 83, 91, 99, 107, 115], 52, 121, .null, [((0), 52), ((1), 60), ((2), 68), ((3), 76), ((4), 84), ((5), 92), ((6), 100), ((7), 108), ((8), 116)], [])), (52, (.aload_n 0, 53, 0, .null, [], [])), (53, (.getfield 16, 56, 0, .null, [], [(9, 0)])), (56, (.getfield 110, 59, 0, .null, [], [(2, 4)])), (59, (.ireturn, 60, 0, .null, [], [])), (60, (.aload_n 0, 61, 0, .null, [], [])), (61, (.getfield 79, 64, 0, .null, [], [(9, 9)])), (64, (.getfield 96, 67, 0, .null, [], [(4, 2)])), (67, (.ireturn, 68, 0, .null, [], [])), (68, (.aload_n 0, 69, 0, .null, [], [])), (69, (.getfield 46, 72, 0, .null, [], [(9, 4)])), (72, (.getfield 165, 75, 0, .null, [], [(6, 1)])), (75, (.ireturn, 76, 0, .null, [], [])), (76, (.aload_n 0, 77, 0, .null, [], [])), (77, (.getfield 46, 80, 0, .null, [], [(9, 4)])), (80, (.getfield 183, 83, 0, .null, [], [(6, 5)])), (83, (.ireturn, 84, 0, .null, [], [])), (84, (.aload_n 0, 85, 0, .null, [], [])), (85, (.getfield 46, 88, 0, .null, [], [(9, 4)])), (88, (.getfield 195, 91, 0, .null, [], [(6, 9)])), (91, (.ireturn, 92, 0, .null, [], [])), (92, (.aload_n 0, 93, 0, .null, [], [])), (93, (.getfield 46, 96, 0, .null, [], [(9, 4)])), (96, (.getfield 156, 99, 0, .null, [], [(6, 2)])), (99, (.ireturn, 100, 0, .null, [], [])), (100, (.aload_n 0, 101, 0, .null, [], [])), (101, (.getfield 32, 104, 0, .null, [], [(9, 2)])), (104, (.getfield 146, 107, 0, .null, [], [(5, 2)])), (107, (.ireturn, 108, 0, .null, [], [])), (108, (.aload_n 0, 109, 0, .null, [], [])), (109, (.getfield 16, 112, 0, .null, [], [(9, 0)])), (112, (.getfield 253, 115, 0, .null, [], [(2, 10)])), (115, (.ireturn, 116, 0, .null, [], [])), (116, (.aload_n 0, 117, 0, .null, [], [])), (117, (.getfield 256, 120, 0, .null, [], [(9, 13)])), (120, (.ireturn, 121, 0, .null, [], [])), (121, (.bipush (-2), 123, 0, .int (-2), [], [])), (123, (.ireturn, 124, 0, .null, [], []))]
noncomputable abbrev jX11_count : List (Nat × sf_J (Int32 × sf_S)) := []
noncomputable def dX11_count (x1 : Int32) (σ : sf_S) : Option (Int32 × sf_S) :=
  if x1 = (0 : Int32) then
    some ((σ 1 4), σ)
  else
  if x1 = (1 : Int32) then
    some ((σ 46 2), σ)
  else
  if x1 = (2 : Int32) then
    some ((σ 19 1), σ)
  else
  if x1 = (3 : Int32) then
    some ((σ 19 5), σ)
  else
  if x1 = (4 : Int32) then
    some ((σ 19 9), σ)
  else
  if x1 = (5 : Int32) then
    some ((σ 19 2), σ)
  else
  if x1 = (6 : Int32) then
    some ((σ 13 2), σ)
  else
  if x1 = (7 : Int32) then
    some ((σ 1 10), σ)
  else
  if x1 = (8 : Int32) then
    some ((σ 0 13), σ)
  else
    some ((-2 : Int32), σ)
noncomputable abbrev gX11_count (av : List Value) (σ : sf_S) : Option (Int32 × sf_S) := match av with
  | [.ref q, .int x1] => (match sf_rv [0] q with | true => dX11_count x1 σ | false => none)
  | _ => none
set_option maxRecDepth 100000 in
set_option maxHeartbeats 4000000 in
theorem rX11_count {Wt : Nat → sf_L → List Value → sf_S → Prop} {Post : (Int32 × sf_S) → Prop} (hs : sf_Snd Wt sf_layC sf_hI jX11_count tX11_count Post) (hm : sf_mono Wt) : ∀ av σ u, gX11_count av σ = some u → Post u → (∀ ad, (lg_sl (av.map (sf_v ad))).length ≤ 2) ∧ Wt 0 (sf_ent 0 av) [] σ := by
  intro av σ u h hp
  unfold gX11_count at h
  split at h
  · rename_i q x1
    split at h
    · rename_i hq
      have hq : q = 0 := by simpa using sf_rv_mem hq
      subst hq
      refine ⟨fun ad => Nat.le_of_ble_eq_true rfl, ?_⟩
      exact sf_run_ok hs sf_sm_nil 44 0 _ _ σ u h hp
    · cases h
  · cases h
theorem kX11_count (l : Launch) : sf_C l sf_layC yX11_count cX11_count 2 (some .int) (sf_rm 1 100) (fun av σ => (gX11_count av σ).map sf_vI) :=
  sf_met (tab := tX11_count) (J := jX11_count) (fl := sf_fl11) (cl := sf_cl11) (by decide +kernel) ⟨rfl, rfl⟩ sf_RH_I (by decide +kernel) sf_fl11_ok sf_cl11_ok
    (sf_JO_nil)
    (fun Wt Post hs hm => rX11_count hs hm)
-- ===== StreamFuser.find(I)I =====
abbrev tX11_find : List (Nat × sf_E) := [(0, (.aload_n 0, 1, 0, .null, [], [])), (1, (.bipush (-10), 3, 0, .int (-10), [], [])), (3, (.iload_n 1, 4, 0, .null, [], [])), (4, (.isub, 5, 0, .null, [], [])), (5, (.putfield 256, 8, 0, .null, [], [(9, 13)])), (8, (.iload_n 1, 9, 0, .null, [], [])), (9, (.ireturn, 10, 0, .null, [], []))]
noncomputable abbrev jX11_find : List (Nat × sf_J (Int32 × sf_S)) := []
noncomputable def dX11_find (x1 : Int32) (σ : sf_S) : Option (Int32 × sf_S) :=
  let s1 := sf_up σ 0 13 ((-10 : Int32) - x1)
  some (x1, s1)
noncomputable abbrev gX11_find (av : List Value) (σ : sf_S) : Option (Int32 × sf_S) := match av with
  | [.ref q, .int x1] => (match sf_rv [0] q with | true => dX11_find x1 σ | false => none)
  | _ => none
set_option maxRecDepth 100000 in
set_option maxHeartbeats 4000000 in
theorem rX11_find {Wt : Nat → sf_L → List Value → sf_S → Prop} {Post : (Int32 × sf_S) → Prop} (hs : sf_Snd Wt sf_layC sf_hI jX11_find tX11_find Post) (hm : sf_mono Wt) : ∀ av σ u, gX11_find av σ = some u → Post u → (∀ ad, (lg_sl (av.map (sf_v ad))).length ≤ 2) ∧ Wt 0 (sf_ent 0 av) [] σ := by
  intro av σ u h hp
  unfold gX11_find at h
  split at h
  · rename_i q x1
    split at h
    · rename_i hq
      have hq : q = 0 := by simpa using sf_rv_mem hq
      subst hq
      refine ⟨fun ad => Nat.le_of_ble_eq_true rfl, ?_⟩
      exact sf_run_ok hs sf_sm_nil 12 0 _ _ σ u h hp
    · cases h
  · cases h
theorem kX11_find (l : Launch) : sf_C l sf_layC yX11_find cX11_find 2 (some .int) (sf_rm 1 100) (fun av σ => (gX11_find av σ).map sf_vI) :=
  sf_met (tab := tX11_find) (J := jX11_find) (fl := sf_fl11) (cl := sf_cl11) (by decide +kernel) ⟨rfl, rfl⟩ sf_RH_I (by decide +kernel) sf_fl11_ok sf_cl11_ok
    (sf_JO_nil)
    (fun Wt Post hs hm => rX11_find hs hm)
-- ===== StreamFuser.sheet(III)I =====
abbrev tX11_sheet : List (Nat × sf_E) := [(0, (.iload_n 1, 1, 0, .null, [], [])), (1, (.invokestatic 207, 4, 0, .null, [], [])), (4, (.ifCond .eq 16, 7, 20, .null, [], [])), (7, (.iload_n 2, 8, 0, .null, [], [])), (8, (.invokestatic 210, 11, 0, .null, [], [])), (11, (.ifCond .eq 9, 14, 20, .null, [], [])), (14, (.iload_n 3, 15, 0, .null, [], [])), (15, (.bipush 60, 17, 0, .int (60), [], [])), (17, (.if_icmp .le 6, 20, 23, .null, [], [])), (20, (.bipush (-2), 22, 0, .int (-2), [], [])), (22, (.ireturn, 23, 0, .null, [], [])), (23, (.iload_n 3, 24, 0, .null, [], [])), (24, (.ifCond .ge 10, 27, 34, .null, [], [])), (27, (.aload_n 0, 28, 0, .null, [], [])), (28, (.bipush (-15), 30, 0, .int (-15), [], [])), (30, (.invokevirtual 213, 33, 0, .null, [], [])), (33, (.ireturn, 34, 0, .null, [], [])), (34, (.aload_n 0, 35, 0, .null, [], [])), (35, (.getfield 39, 38, 0, .null, [], [(9, 3)])), (38, (.iload_n 1, 39, 0, .null, [], [])), (39, (.iload_n 2, 40, 0, .null, [], [])), (40, (.iload_n 3, 41, 0, .null, [], [])), (41, (.invokevirtual 217, 44, 0, .null, [], [])), (44, (.iload_n 3, 45, 0, .null, [], [])), (45, (.ireturn, 46, 0, .null, [], []))]
noncomputable abbrev jX11_sheet : List (Nat × sf_J (Int32 × sf_S)) := [(1, sf_jI sf_layC [] 1 gX11_isSheet), (8, sf_jI sf_layC [] 1 gX11_isForm), (30, sf_jI sf_layC [9] 2 gX11_find), (41, sf_jV sf_layC [7] 4 gX7_renew)]
noncomputable def dX11_sheet (x1 : Int32) (x2 : Int32) (x3 : Int32) (σ : sf_S) : Option (Int32 × sf_S) :=
  (dX11_isSheet x1 σ).bind fun u1 =>
  if u1.1 = 0 then
    some ((-2 : Int32), u1.2)
  else
    (dX11_isForm x2 u1.2).bind fun u2 =>
    if u2.1 = 0 then
      some ((-2 : Int32), u2.2)
    else
      if x3 ≤ (60 : Int32) then
        if 0 ≤ x3 then
          (dX7_renew x1 x2 x3 u2.2).bind fun u3 =>
          some (x3, u3)
        else
          (dX11_find (-15 : Int32) u2.2).bind fun u4 =>
          some (u4.1, u4.2)
      else
        some ((-2 : Int32), u2.2)
noncomputable abbrev gX11_sheet (av : List Value) (σ : sf_S) : Option (Int32 × sf_S) := match av with
  | [.ref q, .int x1, .int x2, .int x3] => (match sf_rv [0] q with | true => dX11_sheet x1 x2 x3 σ | false => none)
  | _ => none
set_option maxRecDepth 100000 in
set_option maxHeartbeats 4000000 in
theorem rX11_sheet {Wt : Nat → sf_L → List Value → sf_S → Prop} {Post : (Int32 × sf_S) → Prop} (hs : sf_Snd Wt sf_layC sf_hI jX11_sheet tX11_sheet Post) (hm : sf_mono Wt) : ∀ av σ u, gX11_sheet av σ = some u → Post u → (∀ ad, (lg_sl (av.map (sf_v ad))).length ≤ 4) ∧ Wt 0 (sf_ent 0 av) [] σ := by
  intro av σ u h hp
  unfold gX11_sheet at h
  split at h
  · rename_i q x1 x2 x3
    split at h
    · rename_i hq
      have hq : q = 0 := by simpa using sf_rv_mem hq
      subst hq
      refine ⟨fun ad => Nat.le_of_ble_eq_true rfl, ?_⟩
      exact sf_run_ok hs sf_sm_nil 30 0 _ _ σ u h hp
    · cases h
  · cases h
theorem kX11_sheet (l : Launch) : sf_C l sf_layC yX11_sheet cX11_sheet 4 (some .int) (sf_rm 2 124) (fun av σ => (gX11_sheet av σ).map sf_vI) :=
  sf_met (tab := tX11_sheet) (J := jX11_sheet) (fl := sf_fl11) (cl := sf_cl11) (by decide +kernel) ⟨rfl, rfl⟩ sf_RH_I (by decide +kernel) sf_fl11_ok sf_cl11_ok
    (sf_JO_cons (sf_je_S (n := 1) (tv := sf_vI) (kX11_isSheet l) mwX11_isSheet (by decide +kernel : decode cX11_sheet 1 = .ok (.invokestatic 207, 3)) wt_1029 wt_753 (by decide +kernel) (sf_RM_of (by omega) (by omega))) (sf_JO_cons (sf_je_S (n := 1) (tv := sf_vI) (kX11_isForm l) mwX11_isForm (by decide +kernel : decode cX11_sheet 8 = .ok (.invokestatic 210, 3)) wt_1030 wt_1031 (by decide +kernel) (sf_RM_of (by omega) (by omega))) (sf_JO_cons (sf_je_V (n := 2) (cs := [9]) (tv := sf_vI) (kX11_find l) mwX11_find (by decide +kernel : decode cX11_sheet 30 = .ok (.invokevirtual 213, 3)) wt_1033 wt_1035 wt_71 (by decide +kernel) (by decide) (by decide) (List.forall_mem_cons.mpr ⟨⟨_, _, rfl⟩, fun _ h => absurd h List.not_mem_nil⟩) (sf_RM_of (by omega) (by omega))) (sf_JO_cons (sf_je_N (n := 4) (cs := [7]) (tv := sf_vV) "StreamFuser" (kX7_renew l) mwX7_renew (by decide +kernel : decode cX11_sheet 41 = .ok (.invokevirtual 217, 3)) wt_1037 wt_1039 wt_72 (by decide +kernel) (by decide) (by decide) (List.forall_mem_cons.mpr ⟨⟨_, _, rfl⟩, fun _ h => absurd h List.not_mem_nil⟩) (sf_RM_of (by omega) (by omega))) (sf_JO_nil)))))
    (fun Wt Post hs hm => rX11_sheet hs hm)
-- ===== StreamFuser.elementError(III)I =====
abbrev tX11_elementError : List (Nat × sf_E) := [(0, (.iload_n 1, 1, 0, .null, [], [])), (1, (.invokestatic 207, 4, 0, .null, [], [])), (4, (.ifCond .eq 10, 7, 14, .null, [], [])), (7, (.iload_n 2, 8, 0, .null, [], [])), (8, (.invokestatic 210, 11, 0, .null, [], [])), (11, (.ifCond .ne 6, 14, 17, .null, [], [])), (14, (.bipush (-2), 16, 0, .int (-2), [], [])), (16, (.ireturn, 17, 0, .null, [], [])), (17, (.aload_n 0, 18, 0, .null, [], [])), (18, (.getfield 39, 21, 0, .null, [], [(9, 3)])), (21, (.iload_n 1, 22, 0, .null, [], [])), (22, (.invokevirtual 221, 25, 0, .null, [], [])), (25, (.ifCond .eq 6, 28, 31, .null, [], [])), (28, (.bipush (-11), 30, 0, .int (-11), [], [])), (30, (.ireturn, 31, 0, .null, [], [])), (31, (.aload_n 0, 32, 0, .null, [], [])), (32, (.getfield 39, 35, 0, .null, [], [(9, 3)])), (35, (.getfield 237, 38, 0, .null, [], [(7, 0)])), (38, (.iload_n 1, 39, 0, .null, [], [])), (39, (.iaload, 40, 0, .null, [], [])), (40, (.iload_n 2, 41, 0, .null, [], [])), (41, (.if_icmp .eq 6, 44, 47, .null, [], [])), (44, (.bipush (-13), 46, 0, .int (-13), [], [])), (46, (.ireturn, 47, 0, .null, [], [])), (47, (.aload_n 0, 48, 0, .null, [], [])), (48, (.getfield 39, 51, 0, .null, [], [(9, 3)])), (51, (.iload_n 1, 52, 0, .null, [], [])), (52, (.iload_n 3, 53, 0, .null, [], [])), (53, (.invokevirtual 304, 56, 0, .null, [], [])), (56, (.ifCond .eq 7, 59, 63, .null, [], [])), (59, (.iconst 0, 60, 0, .int (0), [], [])), (60, (.goto 5, 63, 65, .null, [], [])), (63, (.bipush (-12), 65, 0, .int (-12), [], [])), (65, (.ireturn, 66, 0, .null, [], []))]
noncomputable abbrev jX11_elementError : List (Nat × sf_J (Int32 × sf_S)) := [(1, sf_jI sf_layC [] 1 gX11_isSheet), (8, sf_jI sf_layC [] 1 gX11_isForm), (22, sf_jI sf_layC [7] 2 gX7_isLost), (53, sf_jI sf_layC [7] 3 gX7_hasElement)]
noncomputable def dX11_elementError (x1 : Int32) (x2 : Int32) (x3 : Int32) (σ : sf_S) : Option (Int32 × sf_S) :=
  (dX11_isSheet x1 σ).bind fun u1 =>
  if u1.1 = 0 then
    some ((-2 : Int32), u1.2)
  else
    (dX11_isForm x2 u1.2).bind fun u2 =>
    if ¬ u2.1 = 0 then
      (dX7_isLost x1 u2.2).bind fun u3 =>
      if u3.1 = 0 then
        if sf_in x1 4 then
          if (u3.2 16 x1.toNatClampNeg) = x2 then
            (dX7_hasElement x1 x3 u3.2).bind fun u4 =>
            if u4.1 = 0 then
              some ((-12 : Int32), u4.2)
            else
              some ((0 : Int32), u4.2)
          else
            some ((-13 : Int32), u3.2)
        else
          none
      else
        some ((-11 : Int32), u3.2)
    else
      some ((-2 : Int32), u2.2)
noncomputable abbrev gX11_elementError (av : List Value) (σ : sf_S) : Option (Int32 × sf_S) := match av with
  | [.ref q, .int x1, .int x2, .int x3] => (match sf_rv [0] q with | true => dX11_elementError x1 x2 x3 σ | false => none)
  | _ => none
set_option maxRecDepth 100000 in
set_option maxHeartbeats 4000000 in
theorem rX11_elementError {Wt : Nat → sf_L → List Value → sf_S → Prop} {Post : (Int32 × sf_S) → Prop} (hs : sf_Snd Wt sf_layC sf_hI jX11_elementError tX11_elementError Post) (hm : sf_mono Wt) : ∀ av σ u, gX11_elementError av σ = some u → Post u → (∀ ad, (lg_sl (av.map (sf_v ad))).length ≤ 4) ∧ Wt 0 (sf_ent 0 av) [] σ := by
  intro av σ u h hp
  unfold gX11_elementError at h
  split at h
  · rename_i q x1 x2 x3
    split at h
    · rename_i hq
      have hq : q = 0 := by simpa using sf_rv_mem hq
      subst hq
      refine ⟨fun ad => Nat.le_of_ble_eq_true rfl, ?_⟩
      exact sf_run_ok hs sf_sm_nil 39 0 _ _ σ u h hp
    · cases h
  · cases h
theorem kX11_elementError (l : Launch) : sf_C l sf_layC yX11_elementError cX11_elementError 4 (some .int) (sf_rm 2 122) (fun av σ => (gX11_elementError av σ).map sf_vI) :=
  sf_met (tab := tX11_elementError) (J := jX11_elementError) (fl := sf_fl11) (cl := sf_cl11) (by decide +kernel) ⟨rfl, rfl⟩ sf_RH_I (by decide +kernel) sf_fl11_ok sf_cl11_ok
    (sf_JO_cons (sf_je_S (n := 1) (tv := sf_vI) (kX11_isSheet l) mwX11_isSheet (by decide +kernel : decode cX11_elementError 1 = .ok (.invokestatic 207, 3)) wt_1029 wt_753 (by decide +kernel) (sf_RM_of (by omega) (by omega))) (sf_JO_cons (sf_je_S (n := 1) (tv := sf_vI) (kX11_isForm l) mwX11_isForm (by decide +kernel : decode cX11_elementError 8 = .ok (.invokestatic 210, 3)) wt_1030 wt_1031 (by decide +kernel) (sf_RM_of (by omega) (by omega))) (sf_JO_cons (sf_je_N (n := 2) (cs := [7]) (tv := sf_vI) "StreamFuser" (kX7_isLost l) mwX7_isLost (by decide +kernel : decode cX11_elementError 22 = .ok (.invokevirtual 221, 3)) wt_1049 wt_739 wt_40 (by decide +kernel) (by decide) (by decide) (List.forall_mem_cons.mpr ⟨⟨_, _, rfl⟩, fun _ h => absurd h List.not_mem_nil⟩) (sf_RM_of (by omega) (by omega))) (sf_JO_cons (sf_je_N (n := 3) (cs := [7]) (tv := sf_vI) "StreamFuser" (kX7_hasElement l) mwX7_hasElement (by decide +kernel : decode cX11_elementError 53 = .ok (.invokevirtual 304, 3)) wt_1050 wt_1052 wt_74 (by decide +kernel) (by decide) (by decide) (List.forall_mem_cons.mpr ⟨⟨_, _, rfl⟩, fun _ h => absurd h List.not_mem_nil⟩) (sf_RM_of (by omega) (by omega))) (sf_JO_nil)))))
    (fun Wt Post hs hm => rX11_elementError hs hm)
-- ===== StreamFuser.lay(IIII)I =====
abbrev tX11_lay : List (Nat × sf_E) := [(0, (.aload_n 0, 1, 0, .null, [], [])), (1, (.iload_n 1, 2, 0, .null, [], [])), (2, (.iload_n 2, 3, 0, .null, [], [])), (3, (.iload_n 3, 4, 0, .null, [], [])), (4, (.invokevirtual 226, 7, 0, .null, [], [])), (7, (.istore 5, 9, 0, .null, [], [])), (9, (.iload 5, 11, 0, .null, [], [])), (11, (.bipush (-2), 13, 0, .int (-2), [], [])), (13, (.if_icmp .ne 6, 16, 19, .null, [], [])), (16, (.bipush (-2), 18, 0, .int (-2), [], [])), (18, (.ireturn, 19, 0, .null, [], [])), (19, (.iload 5, 21, 0, .null, [], [])), (21, (.ifCond .eq 10, 24, 31, .null, [], [])), (24, (.aload_n 0, 25, 0, .null, [], [])), (25, (.iload 5, 27, 0, .null, [], [])), (27, (.invokevirtual 213, 30, 0, .null, [], [])), (30, (.ireturn, 31, 0, .null, [], [])), (31, (.aload_n 0, 32, 0, .null, [], [])), (32, (.getfield 39, 35, 0, .null, [], [(9, 3)])), (35, (.iload_n 1, 36, 0, .null, [], [])), (36, (.iload_n 3, 37, 0, .null, [], [])), (37, (.iload 4, 39, 0, .null, [], [])), (39, (.invokevirtual 230, 42, 0, .null, [], [])), (42, (.iconst 1, 43, 0, .int (1), [], [])), (43, (.ireturn, 44, 0, .null, [], []))]
noncomputable abbrev jX11_lay : List (Nat × sf_J (Int32 × sf_S)) := [(4, sf_jI sf_layC [9] 4 gX11_elementError), (27, sf_jI sf_layC [9] 2 gX11_find), (39, sf_jV sf_layC [7] 4 gX7_store)]
noncomputable def dX11_lay (x1 : Int32) (x2 : Int32) (x3 : Int32) (x4 : Int32) (σ : sf_S) : Option (Int32 × sf_S) :=
  (dX11_elementError x1 x2 x3 σ).bind fun u1 =>
  if ¬ u1.1 = (-2 : Int32) then
    if u1.1 = 0 then
      (dX7_store x1 x3 x4 u1.2).bind fun u2 =>
      some ((1 : Int32), u2)
    else
      (dX11_find u1.1 u1.2).bind fun u3 =>
      some (u3.1, u3.2)
  else
    some ((-2 : Int32), u1.2)
noncomputable abbrev gX11_lay (av : List Value) (σ : sf_S) : Option (Int32 × sf_S) := match av with
  | [.ref q, .int x1, .int x2, .int x3, .int x4] => (match sf_rv [0] q with | true => dX11_lay x1 x2 x3 x4 σ | false => none)
  | _ => none
set_option maxRecDepth 100000 in
set_option maxHeartbeats 4000000 in
theorem rX11_lay {Wt : Nat → sf_L → List Value → sf_S → Prop} {Post : (Int32 × sf_S) → Prop} (hs : sf_Snd Wt sf_layC sf_hI jX11_lay tX11_lay Post) (hm : sf_mono Wt) : ∀ av σ u, gX11_lay av σ = some u → Post u → (∀ ad, (lg_sl (av.map (sf_v ad))).length ≤ 6) ∧ Wt 0 (sf_ent 0 av) [] σ := by
  intro av σ u h hp
  unfold gX11_lay at h
  split at h
  · rename_i q x1 x2 x3 x4
    split at h
    · rename_i hq
      have hq : q = 0 := by simpa using sf_rv_mem hq
      subst hq
      refine ⟨fun ad => Nat.le_of_ble_eq_true rfl, ?_⟩
      exact sf_run_ok hs sf_sm_nil 30 0 _ _ σ u h hp
    · cases h
  · cases h
theorem kX11_lay (l : Launch) : sf_C l sf_layC yX11_lay cX11_lay 6 (some .int) (sf_rm 3 145) (fun av σ => (gX11_lay av σ).map sf_vI) :=
  sf_met (tab := tX11_lay) (J := jX11_lay) (fl := sf_fl11) (cl := sf_cl11) (by decide +kernel) ⟨rfl, rfl⟩ sf_RH_I (by decide +kernel) sf_fl11_ok sf_cl11_ok
    (sf_JO_cons (sf_je_V (n := 4) (cs := [9]) (tv := sf_vI) (kX11_elementError l) mwX11_elementError (by decide +kernel : decode cX11_lay 4 = .ok (.invokevirtual 226, 3)) wt_1045 wt_1047 wt_73 (by decide +kernel) (by decide) (by decide) (List.forall_mem_cons.mpr ⟨⟨_, _, rfl⟩, fun _ h => absurd h List.not_mem_nil⟩) (sf_RM_of (by omega) (by omega))) (sf_JO_cons (sf_je_V (n := 2) (cs := [9]) (tv := sf_vI) (kX11_find l) mwX11_find (by decide +kernel : decode cX11_lay 27 = .ok (.invokevirtual 213, 3)) wt_1033 wt_1035 wt_71 (by decide +kernel) (by decide) (by decide) (List.forall_mem_cons.mpr ⟨⟨_, _, rfl⟩, fun _ h => absurd h List.not_mem_nil⟩) (sf_RM_of (by omega) (by omega))) (sf_JO_cons (sf_je_N (n := 4) (cs := [7]) (tv := sf_vV) "StreamFuser" (kX7_store l) mwX7_store (by decide +kernel : decode cX11_lay 39 = .ok (.invokevirtual 230, 3)) wt_1054 wt_1056 wt_75 (by decide +kernel) (by decide) (by decide) (List.forall_mem_cons.mpr ⟨⟨_, _, rfl⟩, fun _ h => absurd h List.not_mem_nil⟩) (sf_RM_of (by omega) (by omega))) (sf_JO_nil))))
    (fun Wt Post hs hm => rX11_lay hs hm)
