/-! ===== 11.X6 ===== -/
-- ===== StreamFuser$Run.begin()V =====
abbrev tX6_begin : List (Nat × sf_E) := [(0, (.aload_n 0, 1, 0, .null, [], [])), (1, (.iconst 0, 2, 0, .int (0), [], [])), (2, (.putfield 21, 5, 0, .null, [], [(6, 1)])), (5, (.aload_n 0, 6, 0, .null, [], [])), (6, (.iconst 0, 7, 0, .int (0), [], [])), (7, (.putfield 25, 10, 0, .null, [], [(6, 2)])), (10, (.aload_n 0, 11, 0, .null, [], [])), (11, (.iconst 0, 12, 0, .int (0), [], [])), (12, (.putfield 28, 15, 0, .null, [], [(6, 3)])), (15, (.aload_n 0, 16, 0, .null, [], [])), (16, (.iconst 0, 17, 0, .int (0), [], [])), (17, (.putfield 31, 20, 0, .null, [], [(6, 4)])), (20, (.aload_n 0, 21, 0, .null, [], [])), (21, (.iconst 0, 22, 0, .int (0), [], [])), (22, (.putfield 34, 25, 0, .null, [], [(6, 5)])), (25, (.aload_n 0, 26, 0, .null, [], [])), (26, (.iconst 0, 27, 0, .int (0), [], [])), (27, (.putfield 37, 30, 0, .null, [], [(6, 6)])), (30, (.aload_n 0, 31, 0, .null, [], [])), (31, (.iconst 0, 32, 0, .int (0), [], [])), (32, (.putfield 40, 35, 0, .null, [], [(6, 9)])), (35, (.return_, 36, 0, .null, [], []))]
noncomputable abbrev jX6_begin : List (Nat × sf_J sf_S) := []
noncomputable def dX6_begin (q : Nat) (σ : sf_S) : Option sf_S :=
  let s1 := sf_up σ q 1 (0 : Int32)
  let s2 := sf_up s1 q 2 (0 : Int32)
  let s3 := sf_up s2 q 3 (0 : Int32)
  let s4 := sf_up s3 q 4 (0 : Int32)
  let s5 := sf_up s4 q 5 (0 : Int32)
  let s6 := sf_up s5 q 6 (0 : Int32)
  let s7 := sf_up s6 q 9 (0 : Int32)
  some s7
noncomputable abbrev gX6_begin (av : List Value) (σ : sf_S) : Option sf_S := match av with
  | [.ref q] => (match sf_rv [19, 51] q with | true => dX6_begin q σ | false => none)
  | _ => none
set_option maxRecDepth 100000 in
set_option maxHeartbeats 4000000 in
theorem rX6_begin {Wt : Nat → sf_L → List Value → sf_S → Prop} {Post : sf_S → Prop} (hs : sf_Snd Wt sf_layC sf_hV jX6_begin tX6_begin Post) (hm : sf_mono Wt) : ∀ av σ u, gX6_begin av σ = some u → Post u → (∀ ad, (lg_sl (av.map (sf_v ad))).length ≤ 1) ∧ Wt 0 (sf_ent 0 av) [] σ := by
  intro av σ u h hp
  unfold gX6_begin at h
  split at h
  · rename_i q
    split at h
    · rename_i hq
      have hq : q = 19 ∨ q = 51 := by simpa using sf_rv_mem hq
      refine ⟨fun ad => Nat.le_of_ble_eq_true rfl, ?_⟩
      rcases hq with rfl | rfl
      · exact sf_run_ok hs sf_sm_nil 27 0 _ _ σ u h hp
      · exact sf_run_ok hs sf_sm_nil 27 0 _ _ σ u h hp
    · cases h
  · cases h
theorem kX6_begin (l : Launch) : sf_C l sf_layC yX6_begin cX6_begin 1 none (sf_rm 1 100) (fun av σ => (gX6_begin av σ).map sf_vV) :=
  sf_met (tab := tX6_begin) (J := jX6_begin) (fl := sf_fl6) (cl := sf_cl6) (by decide +kernel) ⟨rfl, rfl⟩ sf_RH_V (by decide +kernel) sf_fl6_ok sf_cl6_ok
    (sf_JO_nil)
    (fun Wt Post hs hm => rX6_begin hs hm)
-- ===== StreamFuser$Run.give(I)V =====
abbrev tX6_give : List (Nat × sf_E) := [(0, (.aload_n 0, 1, 0, .null, [], [])), (1, (.getfield 21, 4, 0, .null, [], [(6, 1)])), (4, (.bipush 40, 6, 0, .int (40), [], [])), (6, (.if_icmp .lt 4, 9, 10, .null, [], [])), (9, (.return_, 10, 0, .null, [], [])), (10, (.aload_n 0, 11, 0, .null, [], [])), (11, (.getfield 9, 14, 0, .null, [], [(6, 0)])), (14, (.aload_n 0, 15, 0, .null, [], [])), (15, (.getfield 21, 18, 0, .null, [], [(6, 1)])), (18, (.iload_n 1, 19, 0, .null, [], [])), (19, (.iastore, 20, 0, .null, [], [])), (20, (.aload_n 0, 21, 0, .null, [], [])), (21, (.dup, 22, 0, .null, [], [])), (22, (.getfield 21, 25, 0, .null, [], [(6, 1)])), (25, (.iconst 1, 26, 0, .int (1), [], [])), (26, (.iadd, 27, 0, .null, [], [])), (27, (.putfield 21, 30, 0, .null, [], [(6, 1)])), (30, (.return_, 31, 0, .null, [], []))]
noncomputable abbrev jX6_give : List (Nat × sf_J sf_S) := []
noncomputable def dX6_give (q : Nat) (x1 : Int32) (σ : sf_S) : Option sf_S :=
  if (σ q 1) < (40 : Int32) then
    let v1 := (σ q 1)
    if sf_in v1 40 then
      let s2 := sf_up σ (q + 1) v1.toNatClampNeg x1
      let s3 := sf_up s2 q 1 ((s2 q 1) + (1 : Int32))
      some s3
    else
      none
  else
    some σ
noncomputable abbrev gX6_give (av : List Value) (σ : sf_S) : Option sf_S := match av with
  | [.ref q, .int x1] => (match sf_rv [19, 51] q with | true => dX6_give q x1 σ | false => none)
  | _ => none
set_option maxRecDepth 100000 in
set_option maxHeartbeats 4000000 in
theorem rX6_give {Wt : Nat → sf_L → List Value → sf_S → Prop} {Post : sf_S → Prop} (hs : sf_Snd Wt sf_layC sf_hV jX6_give tX6_give Post) (hm : sf_mono Wt) : ∀ av σ u, gX6_give av σ = some u → Post u → (∀ ad, (lg_sl (av.map (sf_v ad))).length ≤ 2) ∧ Wt 0 (sf_ent 0 av) [] σ := by
  intro av σ u h hp
  unfold gX6_give at h
  split at h
  · rename_i q x1
    split at h
    · rename_i hq
      have hq : q = 19 ∨ q = 51 := by simpa using sf_rv_mem hq
      refine ⟨fun ad => Nat.le_of_ble_eq_true rfl, ?_⟩
      rcases hq with rfl | rfl
      · exact sf_run_ok hs sf_sm_nil 23 0 _ _ σ u h hp
      · exact sf_run_ok hs sf_sm_nil 23 0 _ _ σ u h hp
    · cases h
  · cases h
theorem kX6_give (l : Launch) : sf_C l sf_layC yX6_give cX6_give 2 none (sf_rm 1 100) (fun av σ => (gX6_give av σ).map sf_vV) :=
  sf_met (tab := tX6_give) (J := jX6_give) (fl := sf_fl6) (cl := sf_cl6) (by decide +kernel) ⟨rfl, rfl⟩ sf_RH_V (by decide +kernel) sf_fl6_ok sf_cl6_ok
    (sf_JO_nil)
    (fun Wt Post hs hm => rX6_give hs hm)
-- ===== StreamFuser$Run.fail(II)V =====
abbrev tX6_fail : List (Nat × sf_E) := [(0, (.aload_n 0, 1, 0, .null, [], [])), (1, (.iload_n 1, 2, 0, .null, [], [])), (2, (.putfield 34, 5, 0, .null, [], [(6, 5)])), (5, (.aload_n 0, 6, 0, .null, [], [])), (6, (.iload_n 2, 7, 0, .null, [], [])), (7, (.putfield 37, 10, 0, .null, [], [(6, 6)])), (10, (.return_, 11, 0, .null, [], []))]
noncomputable abbrev jX6_fail : List (Nat × sf_J sf_S) := []
noncomputable def dX6_fail (q : Nat) (x1 : Int32) (x2 : Int32) (σ : sf_S) : Option sf_S :=
  let s1 := sf_up σ q 5 x1
  let s2 := sf_up s1 q 6 x2
  some s2
noncomputable abbrev gX6_fail (av : List Value) (σ : sf_S) : Option sf_S := match av with
  | [.ref q, .int x1, .int x2] => (match sf_rv [19, 51] q with | true => dX6_fail q x1 x2 σ | false => none)
  | _ => none
set_option maxRecDepth 100000 in
set_option maxHeartbeats 4000000 in
theorem rX6_fail {Wt : Nat → sf_L → List Value → sf_S → Prop} {Post : sf_S → Prop} (hs : sf_Snd Wt sf_layC sf_hV jX6_fail tX6_fail Post) (hm : sf_mono Wt) : ∀ av σ u, gX6_fail av σ = some u → Post u → (∀ ad, (lg_sl (av.map (sf_v ad))).length ≤ 3) ∧ Wt 0 (sf_ent 0 av) [] σ := by
  intro av σ u h hp
  unfold gX6_fail at h
  split at h
  · rename_i q x1 x2
    split at h
    · rename_i hq
      have hq : q = 19 ∨ q = 51 := by simpa using sf_rv_mem hq
      refine ⟨fun ad => Nat.le_of_ble_eq_true rfl, ?_⟩
      rcases hq with rfl | rfl
      · exact sf_run_ok hs sf_sm_nil 12 0 _ _ σ u h hp
      · exact sf_run_ok hs sf_sm_nil 12 0 _ _ σ u h hp
    · cases h
  · cases h
theorem kX6_fail (l : Launch) : sf_C l sf_layC yX6_fail cX6_fail 3 none (sf_rm 1 100) (fun av σ => (gX6_fail av σ).map sf_vV) :=
  sf_met (tab := tX6_fail) (J := jX6_fail) (fl := sf_fl6) (cl := sf_cl6) (by decide +kernel) ⟨rfl, rfl⟩ sf_RH_V (by decide +kernel) sf_fl6_ok sf_cl6_ok
    (sf_JO_nil)
    (fun Wt Post hs hm => rX6_fail hs hm)
-- ===== StreamFuser$Run.draw(I)Z =====
abbrev tX6_draw : List (Nat × sf_E) := [(0, (.iload_n 1, 1, 0, .null, [], [])), (1, (.sipush 500, 4, 0, .int (500), [], [])), (4, (.aload_n 0, 5, 0, .null, [], [])), (5, (.getfield 25, 8, 0, .null, [], [(6, 2)])), (8, (.isub, 9, 0, .null, [], [])), (9, (.if_icmp .le 18, 12, 27, .null, [], [])), (12, (.aload_n 0, 13, 0, .null, [], [])), (13, (.sipush 500, 16, 0, .int (500), [], [])), (16, (.putfield 25, 19, 0, .null, [], [(6, 2)])), (19, (.aload_n 0, 20, 0, .null, [], [])), (20, (.iconst 3, 21, 0, .int (3), [], [])), (21, (.iconst 0, 22, 0, .int (0), [], [])), (22, (.invokevirtual 43, 25, 0, .null, [], [])), (25, (.iconst 0, 26, 0, .int (0), [], [])), (26, (.ireturn, 27, 0, .null, [], [])), (27, (.aload_n 0, 28, 0, .null, [], [])), (28, (.dup, 29, 0, .null, [], [])), (29, (.getfield 25, 32, 0, .null, [], [(6, 2)])), (32, (.iload_n 1, 33, 0, .null, [], [])), (33, (.iadd, 34, 0, .null, [], [])), (34, (.putfield 25, 37, 0, .null, [], [(6, 2)])), (37, (.iconst 1, 38, 0, .int (1), [], [])), (38, (.ireturn, 39, 0, .null, [], []))]
noncomputable abbrev jX6_draw : List (Nat × sf_J (Int32 × sf_S)) := [(22, sf_jV sf_layC [6] 3 gX6_fail)]
noncomputable def dX6_draw (q : Nat) (x1 : Int32) (σ : sf_S) : Option (Int32 × sf_S) :=
  if x1 ≤ ((500 : Int32) - (σ q 2)) then
    let s1 := sf_up σ q 2 ((σ q 2) + x1)
    some ((1 : Int32), s1)
  else
    let s2 := sf_up σ q 2 (500 : Int32)
    (dX6_fail q (3 : Int32) (0 : Int32) s2).bind fun u3 =>
    some ((0 : Int32), u3)
noncomputable abbrev gX6_draw (av : List Value) (σ : sf_S) : Option (Int32 × sf_S) := match av with
  | [.ref q, .int x1] => (match sf_rv [19, 51] q with | true => dX6_draw q x1 σ | false => none)
  | _ => none
set_option maxRecDepth 100000 in
set_option maxHeartbeats 4000000 in
theorem rX6_draw {Wt : Nat → sf_L → List Value → sf_S → Prop} {Post : (Int32 × sf_S) → Prop} (hs : sf_Snd Wt sf_layC sf_hZ jX6_draw tX6_draw Post) (hm : sf_mono Wt) : ∀ av σ u, gX6_draw av σ = some u → Post u → (∀ ad, (lg_sl (av.map (sf_v ad))).length ≤ 2) ∧ Wt 0 (sf_ent 0 av) [] σ := by
  intro av σ u h hp
  unfold gX6_draw at h
  split at h
  · rename_i q x1
    split at h
    · rename_i hq
      have hq : q = 19 ∨ q = 51 := by simpa using sf_rv_mem hq
      refine ⟨fun ad => Nat.le_of_ble_eq_true rfl, ?_⟩
      rcases hq with rfl | rfl
      · exact sf_run_ok hs sf_sm_nil 28 0 _ _ σ u h hp
      · exact sf_run_ok hs sf_sm_nil 28 0 _ _ σ u h hp
    · cases h
  · cases h
theorem kX6_draw (l : Launch) : sf_C l sf_layC yX6_draw cX6_draw 2 (some .boolean) (sf_rm 2 122) (fun av σ => (gX6_draw av σ).map sf_vI) :=
  sf_met (tab := tX6_draw) (J := jX6_draw) (fl := sf_fl6) (cl := sf_cl6) (by decide +kernel) ⟨rfl, rfl⟩ sf_RH_Z (by decide +kernel) sf_fl6_ok sf_cl6_ok
    (sf_JO_cons (sf_je_V (n := 3) (cs := [6]) (tv := sf_vV) (kX6_fail l) mwX6_fail (by decide +kernel : decode cX6_draw 22 = .ok (.invokevirtual 43, 3)) wt_767 wt_653 wt_30 (by decide +kernel) (by decide) (by decide) (List.forall_mem_cons.mpr ⟨⟨_, _, rfl⟩, fun _ h => absurd h List.not_mem_nil⟩) (sf_RM_of (by omega) (by omega))) (sf_JO_nil))
    (fun Wt Post hs hm => rX6_draw hs hm)
-- ===== StreamFuser$Run.failed()Z =====
abbrev tX6_failed : List (Nat × sf_E) := [(0, (.aload_n 0, 1, 0, .null, [], [])), (1, (.getfield 34, 4, 0, .null, [], [(6, 5)])), (4, (.ifCond .eq 7, 7, 11, .null, [], [])), (7, (.iconst 1, 8, 0, .int (1), [], [])), (8, (.goto 4, 11, 12, .null, [], [])), (11, (.iconst 0, 12, 0, .int (0), [], [])), (12, (.ireturn, 13, 0, .null, [], []))]
noncomputable abbrev jX6_failed : List (Nat × sf_J (Int32 × sf_S)) := []
noncomputable def dX6_failed (q : Nat) (σ : sf_S) : Option (Int32 × sf_S) :=
  if (σ q 5) = 0 then
    some ((0 : Int32), σ)
  else
    some ((1 : Int32), σ)
noncomputable abbrev gX6_failed (av : List Value) (σ : sf_S) : Option (Int32 × sf_S) := match av with
  | [.ref q] => (match sf_rv [19, 51] q with | true => dX6_failed q σ | false => none)
  | _ => none
set_option maxRecDepth 100000 in
set_option maxHeartbeats 4000000 in
theorem rX6_failed {Wt : Nat → sf_L → List Value → sf_S → Prop} {Post : (Int32 × sf_S) → Prop} (hs : sf_Snd Wt sf_layC sf_hZ jX6_failed tX6_failed Post) (hm : sf_mono Wt) : ∀ av σ u, gX6_failed av σ = some u → Post u → (∀ ad, (lg_sl (av.map (sf_v ad))).length ≤ 1) ∧ Wt 0 (sf_ent 0 av) [] σ := by
  intro av σ u h hp
  unfold gX6_failed at h
  split at h
  · rename_i q
    split at h
    · rename_i hq
      have hq : q = 19 ∨ q = 51 := by simpa using sf_rv_mem hq
      refine ⟨fun ad => Nat.le_of_ble_eq_true rfl, ?_⟩
      rcases hq with rfl | rfl
      · exact sf_run_ok hs sf_sm_nil 12 0 _ _ σ u h hp
      · exact sf_run_ok hs sf_sm_nil 12 0 _ _ σ u h hp
    · cases h
  · cases h
theorem kX6_failed (l : Launch) : sf_C l sf_layC yX6_failed cX6_failed 1 (some .boolean) (sf_rm 1 100) (fun av σ => (gX6_failed av σ).map sf_vI) :=
  sf_met (tab := tX6_failed) (J := jX6_failed) (fl := sf_fl6) (cl := sf_cl6) (by decide +kernel) ⟨rfl, rfl⟩ sf_RH_Z (by decide +kernel) sf_fl6_ok sf_cl6_ok
    (sf_JO_nil)
    (fun Wt Post hs hm => rX6_failed hs hm)
-- ===== StreamFuser$Run.note(II)V =====
abbrev tX6_note : List (Nat × sf_E) := [(0, (.aload_n 0, 1, 0, .null, [], [])), (1, (.getfield 40, 4, 0, .null, [], [(6, 9)])), (4, (.bipush 40, 6, 0, .int (40), [], [])), (6, (.if_icmp .ge 23, 9, 29, .null, [], [])), (9, (.aload_n 0, 10, 0, .null, [], [])), (10, (.getfield 15, 13, 0, .null, [], [(6, 7)])), (13, (.aload_n 0, 14, 0, .null, [], [])), (14, (.getfield 40, 17, 0, .null, [], [(6, 9)])), (17, (.iload_n 1, 18, 0, .null, [], [])), (18, (.iastore, 19, 0, .null, [], [])), (19, (.aload_n 0, 20, 0, .null, [], [])), (20, (.getfield 18, 23, 0, .null, [], [(6, 8)])), (23, (.aload_n 0, 24, 0, .null, [], [])), (24, (.getfield 40, 27, 0, .null, [], [(6, 9)])), (27, (.iload_n 2, 28, 0, .null, [], [])), (28, (.iastore, 29, 0, .null, [], [])), (29, (.aload_n 0, 30, 0, .null, [], [])), (30, (.dup, 31, 0, .null, [], [])), (31, (.getfield 40, 34, 0, .null, [], [(6, 9)])), (34, (.iconst 1, 35, 0, .int (1), [], [])), (35, (.iadd, 36, 0, .null, [], [])), (36, (.putfield 40, 39, 0, .null, [], [(6, 9)])), (39, (.return_, 40, 0, .null, [], []))]
noncomputable abbrev jX6_note : List (Nat × sf_J sf_S) := []
noncomputable def dX6_note (q : Nat) (x1 : Int32) (x2 : Int32) (σ : sf_S) : Option sf_S :=
  if (40 : Int32) ≤ (σ q 9) then
    let s1 := sf_up σ q 9 ((σ q 9) + (1 : Int32))
    some s1
  else
    let v2 := (σ q 9)
    if sf_in v2 40 then
      let s3 := sf_up σ (q + 2) v2.toNatClampNeg x1
      let v4 := (s3 q 9)
      if sf_in v4 40 then
        let s5 := sf_up s3 (q + 3) v4.toNatClampNeg x2
        let s6 := sf_up s5 q 9 ((s5 q 9) + (1 : Int32))
        some s6
      else
        none
    else
      none
noncomputable abbrev gX6_note (av : List Value) (σ : sf_S) : Option sf_S := match av with
  | [.ref q, .int x1, .int x2] => (match sf_rv [19, 51] q with | true => dX6_note q x1 x2 σ | false => none)
  | _ => none
set_option maxRecDepth 100000 in
set_option maxHeartbeats 4000000 in
theorem rX6_note {Wt : Nat → sf_L → List Value → sf_S → Prop} {Post : sf_S → Prop} (hs : sf_Snd Wt sf_layC sf_hV jX6_note tX6_note Post) (hm : sf_mono Wt) : ∀ av σ u, gX6_note av σ = some u → Post u → (∀ ad, (lg_sl (av.map (sf_v ad))).length ≤ 3) ∧ Wt 0 (sf_ent 0 av) [] σ := by
  intro av σ u h hp
  unfold gX6_note at h
  split at h
  · rename_i q x1 x2
    split at h
    · rename_i hq
      have hq : q = 19 ∨ q = 51 := by simpa using sf_rv_mem hq
      refine ⟨fun ad => Nat.le_of_ble_eq_true rfl, ?_⟩
      rcases hq with rfl | rfl
      · exact sf_run_ok hs sf_sm_nil 28 0 _ _ σ u h hp
      · exact sf_run_ok hs sf_sm_nil 28 0 _ _ σ u h hp
    · cases h
  · cases h
theorem kX6_note (l : Launch) : sf_C l sf_layC yX6_note cX6_note 3 none (sf_rm 1 100) (fun av σ => (gX6_note av σ).map sf_vV) :=
  sf_met (tab := tX6_note) (J := jX6_note) (fl := sf_fl6) (cl := sf_cl6) (by decide +kernel) ⟨rfl, rfl⟩ sf_RH_V (by decide +kernel) sf_fl6_ok sf_cl6_ok
    (sf_JO_nil)
    (fun Wt Post hs hm => rX6_note hs hm)
-- ===== StreamFuser$Run.kept()I =====
abbrev tX6_kept : List (Nat × sf_E) := [(0, (.aload_n 0, 1, 0, .null, [], [])), (1, (.getfield 40, 4, 0, .null, [], [(6, 9)])), (4, (.bipush 40, 6, 0, .int (40), [], [])), (6, (.invokestatic 47, 9, 0, .null, [], [])), (9, (.ireturn, 10, 0, .null, [], []))]
noncomputable abbrev jX6_kept : List (Nat × sf_J (Int32 × sf_S)) := [(6, sf_jmin)]
noncomputable def dX6_kept (q : Nat) (σ : sf_S) : Option (Int32 × sf_S) :=
  let v1 := (σ q 9)
  some ((if (40 : Int32) < v1 then (40 : Int32) else v1), σ)
noncomputable abbrev gX6_kept (av : List Value) (σ : sf_S) : Option (Int32 × sf_S) := match av with
  | [.ref q] => (match sf_rv [19, 51] q with | true => dX6_kept q σ | false => none)
  | _ => none
set_option maxRecDepth 100000 in
set_option maxHeartbeats 4000000 in
theorem rX6_kept {Wt : Nat → sf_L → List Value → sf_S → Prop} {Post : (Int32 × sf_S) → Prop} (hs : sf_Snd Wt sf_layC sf_hI jX6_kept tX6_kept Post) (hm : sf_mono Wt) : ∀ av σ u, gX6_kept av σ = some u → Post u → (∀ ad, (lg_sl (av.map (sf_v ad))).length ≤ 1) ∧ Wt 0 (sf_ent 0 av) [] σ := by
  intro av σ u h hp
  unfold gX6_kept at h
  split at h
  · rename_i q
    split at h
    · rename_i hq
      have hq : q = 19 ∨ q = 51 := by simpa using sf_rv_mem hq
      refine ⟨fun ad => Nat.le_of_ble_eq_true rfl, ?_⟩
      rcases hq with rfl | rfl
      · exact sf_run_ok hs sf_sm_nil 10 0 _ _ σ u h hp
      · exact sf_run_ok hs sf_sm_nil 10 0 _ _ σ u h hp
    · cases h
  · cases h
theorem kX6_kept (l : Launch) : sf_C l sf_layC yX6_kept cX6_kept 1 (some .int) (sf_rm 1 100) (fun av σ => (gX6_kept av σ).map sf_vI) :=
  sf_met (tab := tX6_kept) (J := jX6_kept) (fl := sf_fl6) (cl := sf_cl6) (by decide +kernel) ⟨rfl, rfl⟩ sf_RH_I (by decide +kernel) sf_fl6_ok sf_cl6_ok
    (sf_JO_cons (sf_je_min (by decide +kernel : decode cX6_kept 6 = .ok (.invokestatic 47, 3)) wt_1021 wt_559 wt_89 wt_560 (sf_RB_of (by omega) (by omega))) (sf_JO_nil))
    (fun Wt Post hs hm => rX6_kept hs hm)
