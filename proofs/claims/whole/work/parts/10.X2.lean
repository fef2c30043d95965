/-! test -/
-- ===== StreamFuser$Plan.has(I)Z =====
def tX2_has : List (Nat × sf_E) := [(0, (.iload_n 1, 1, 0, .null, [], [])), (1, (.ifCond .lt 15, 4, 16, .null, [], [])), (4, (.iload_n 1, 5, 0, .null, [], [])), (5, (.aload_n 0, 6, 0, .null, [], [])), (6, (.getfield 44, 9, 0, .null, [], [(2, 4)])), (9, (.if_icmp .ge 7, 12, 16, .null, [], [])), (12, (.iconst 1, 13, 0, .int (1), [], [])), (13, (.goto 4, 16, 17, .null, [], [])), (16, (.iconst 0, 17, 0, .int (0), [], [])), (17, (.ireturn, 18, 0, .null, [], []))]
def jX2_has : List (Nat × sf_J (Int32 × sf_S)) := []
def dX2_has (q : Nat) (x1 : Int32) (σ : sf_S) : Option (Int32 × sf_S) :=
  if x1 < 0 then
    some ((0 : Int32), σ)
  else
    if (σ q 4) ≤ x1 then
      some ((0 : Int32), σ)
    else
      some ((1 : Int32), σ)
def gX2_has (av : List Value) (σ : sf_S) : Option (Int32 × sf_S) := match av with
  | [.ref q, .int x1] => (match sf_rv [1, 36] q with | true => dX2_has q x1 σ | false => none)
  | _ => none
set_option maxRecDepth 100000 in
set_option maxHeartbeats 4000000 in
theorem rX2_has {Wt : Nat → sf_L → List Value → sf_S → Prop} {Post : (Int32 × sf_S) → Prop} (hs : sf_Snd Wt sf_layC sf_hZ jX2_has tX2_has Post) (hm : sf_mono Wt) : ∀ av σ u, gX2_has av σ = some u → Post u → (∀ ad, (lg_sl (av.map (sf_v ad))).length ≤ 2) ∧ Wt 0 (sf_ent 0 av) [] σ := by
  intro av σ u h hp
  unfold gX2_has at h
  split at h
  · rename_i q x1
    split at h
    · rename_i hq
      have hq : q = 1 ∨ q = 36 := by simpa using sf_rv_mem hq
      refine ⟨fun ad => Nat.le_of_ble_eq_true rfl, ?_⟩
      rcases hq with rfl | rfl
      · exact sf_run_ok hs sf_sm_nil 15 0 _ _ σ u h hp
      · exact sf_run_ok hs sf_sm_nil 15 0 _ _ σ u h hp
    · cases h
  · cases h
theorem kX2_has (l : Launch) : sf_C l sf_layC yX2_has cX2_has 2 (some .boolean) (sf_rm 1 100) (fun av σ => (gX2_has av σ).map sf_vI) :=
  sf_met (tab := tX2_has) (J := jX2_has) (fl := sf_fl2) (cl := sf_cl2) (by decide +kernel) ⟨rfl, rfl⟩ sf_RH_Z (by decide +kernel) sf_fl2_ok sf_cl2_ok
    (sf_JO_nil)
    (fun Wt Post hs hm => rX2_has hs hm)
-- ===== StreamFuser$Plan.moveNode(II)V =====
def tX2_moveNode : List (Nat × sf_E) := [(0, (.aload_n 0, 1, 0, .null, [], [])), (1, (.getfield 9, 4, 0, .null, [], [(2, 0)])), (4, (.iload_n 2, 5, 0, .null, [], [])), (5, (.aload_n 0, 6, 0, .null, [], [])), (6, (.getfield 9, 9, 0, .null, [], [(2, 0)])), (9, (.iload_n 1, 10, 0, .null, [], [])), (10, (.iaload, 11, 0, .null, [], [])), (11, (.iastore, 12, 0, .null, [], [])), (12, (.aload_n 0, 13, 0, .null, [], [])), (13, (.getfield 15, 16, 0, .null, [], [(2, 1)])), (16, (.iload_n 2, 17, 0, .null, [], [])), (17, (.aload_n 0, 18, 0, .null, [], [])), (18, (.getfield 15, 21, 0, .null, [], [(2, 1)])), (21, (.iload_n 1, 22, 0, .null, [], [])), (22, (.iaload, 23, 0, .null, [], [])), (23, (.iastore, 24, 0, .null, [], [])), (24, (.aload_n 0, 25, 0, .null, [], [])), (25, (.getfield 18, 28, 0, .null, [], [(2, 2)])), (28, (.iload_n 2, 29, 0, .null, [], [])), (29, (.aload_n 0, 30, 0, .null, [], [])), (30, (.getfield 18, 33, 0, .null, [], [(2, 2)])), (33, (.iload_n 1, 34, 0, .null, [], [])), (34, (.iaload, 35, 0, .null, [], [])), (35, (.iastore, 36, 0, .null, [], [])), (36, (.aload_n 0, 37, 0, .null, [], [])), (37, (.getfield 21, 40, 0, .null, [], [(2, 3)])), (40, (.iload_n 2, 41, 0, .null, [], [])), (41, (.aload_n 0, 42, 0, .null, [], [])), (42, (.getfield 21, 45, 0, .null, [], [(2, 3)])), (45, (.iload_n 1, 46, 0, .null, [], [])), (46, (.iaload, 47, 0, .null, [], [])), (47, (.iastore, 48, 0, .null, [], [])), (48, (.return_, 49, 0, .null, [], []))]
def jX2_moveNode : List (Nat × sf_J sf_S) := []
def dX2_moveNode (q : Nat) (x1 : Int32) (x2 : Int32) (σ : sf_S) : Option sf_S :=
  if sf_in x1 40 then
    if sf_in x2 40 then
      let s1 := sf_up σ (q + 1) x2.toNatClampNeg (σ (q + 1) x1.toNatClampNeg)
      if sf_in x1 40 then
        if sf_in x2 40 then
          let s2 := sf_up s1 (q + 2) x2.toNatClampNeg (s1 (q + 2) x1.toNatClampNeg)
          if sf_in x1 40 then
            if sf_in x2 40 then
              let s3 := sf_up s2 (q + 3) x2.toNatClampNeg (s2 (q + 3) x1.toNatClampNeg)
              if sf_in x1 40 then
                if sf_in x2 40 then
                  let s4 := sf_up s3 (q + 4) x2.toNatClampNeg (s3 (q + 4) x1.toNatClampNeg)
                  some s4
                else
                  none
              else
                none
            else
              none
          else
            none
        else
          none
      else
        none
    else
      none
  else
    none
def gX2_moveNode (av : List Value) (σ : sf_S) : Option sf_S := match av with
  | [.ref q, .int x1, .int x2] => (match sf_rv [1, 36] q with | true => dX2_moveNode q x1 x2 σ | false => none)
  | _ => none
set_option maxRecDepth 100000 in
set_option maxHeartbeats 4000000 in
theorem rX2_moveNode {Wt : Nat → sf_L → List Value → sf_S → Prop} {Post : sf_S → Prop} (hs : sf_Snd Wt sf_layC sf_hV jX2_moveNode tX2_moveNode Post) (hm : sf_mono Wt) : ∀ av σ u, gX2_moveNode av σ = some u → Post u → (∀ ad, (lg_sl (av.map (sf_v ad))).length ≤ 3) ∧ Wt 0 (sf_ent 0 av) [] σ := by
  intro av σ u h hp
  unfold gX2_moveNode at h
  split at h
  · rename_i q x1 x2
    split at h
    · rename_i hq
      have hq : q = 1 ∨ q = 36 := by simpa using sf_rv_mem hq
      refine ⟨fun ad => Nat.le_of_ble_eq_true rfl, ?_⟩
      rcases hq with rfl | rfl
      · exact sf_run_ok hs sf_sm_nil 38 0 _ _ σ u h hp
      · exact sf_run_ok hs sf_sm_nil 38 0 _ _ σ u h hp
    · cases h
  · cases h
theorem kX2_moveNode (l : Launch) : sf_C l sf_layC yX2_moveNode cX2_moveNode 3 none (sf_rm 1 100) (fun av σ => (gX2_moveNode av σ).map sf_vV) :=
  sf_met (tab := tX2_moveNode) (J := jX2_moveNode) (fl := sf_fl2) (cl := sf_cl2) (by decide +kernel) ⟨rfl, rfl⟩ sf_RH_V (by decide +kernel) sf_fl2_ok sf_cl2_ok
    (sf_JO_nil)
    (fun Wt Post hs hm => rX2_moveNode hs hm)
-- ===== StreamFuser$Plan.swapWithNext(I)V =====
def tX2_swapWithNext : List (Nat × sf_E) := [(0, (.aload_n 0, 1, 0, .null, [], [])), (1, (.iload_n 1, 2, 0, .null, [], [])), (2, (.invokevirtual 47, 5, 0, .null, [], [])), (5, (.ifCond .eq 13, 8, 18, .null, [], [])), (8, (.aload_n 0, 9, 0, .null, [], [])), (9, (.iload_n 1, 10, 0, .null, [], [])), (10, (.iconst 1, 11, 0, .int (1), [], [])), (11, (.iadd, 12, 0, .null, [], [])), (12, (.invokevirtual 47, 15, 0, .null, [], [])), (15, (.ifCond .ne 4, 18, 19, .null, [], [])), (18, (.return_, 19, 0, .null, [], [])), (19, (.aload_n 0, 20, 0, .null, [], [])), (20, (.getfield 9, 23, 0, .null, [], [(2, 0)])), (23, (.iload_n 1, 24, 0, .null, [], [])), (24, (.iaload, 25, 0, .null, [], [])), (25, (.istore_n 2, 26, 0, .null, [], [])), (26, (.aload_n 0, 27, 0, .null, [], [])), (27, (.getfield 15, 30, 0, .null, [], [(2, 1)])), (30, (.iload_n 1, 31, 0, .null, [], [])), (31, (.iaload, 32, 0, .null, [], [])), (32, (.istore_n 3, 33, 0, .null, [], [])), (33, (.aload_n 0, 34, 0, .null, [], [])), (34, (.getfield 18, 37, 0, .null, [], [(2, 2)])), (37, (.iload_n 1, 38, 0, .null, [], [])), (38, (.iaload, 39, 0, .null, [], [])), (39, (.istore 4, 41, 0, .null, [], [])), (41, (.aload_n 0, 42, 0, .null, [], [])), (42, (.getfield 21, 45, 0, .null, [], [(2, 3)])), (45, (.iload_n 1, 46, 0, .null, [], [])), (46, (.iaload, 47, 0, .null, [], [])), (47, (.istore 5, 49, 0, .null, [], [])), (49, (.aload_n 0, 50, 0, .null, [], [])), (50, (.iload_n 1, 51, 0, .null, [], [])), (51, (.iconst 1, 52, 0, .int (1), [], [])), (52, (.iadd, 53, 0, .null, [], [])), (53, (.iload_n 1, 54, 0, .null, [], [])), (54, (.invokevirtual 65, 57, 0, .null, [], [])), (57, (.aload_n 0, 58, 0, .null, [], [])), (58, (.getfield 9, 61, 0, .null, [], [(2, 0)])), (61, (.iload_n 1, 62, 0, .null, [], [])), (62, (.iconst 1, 63, 0, .int (1), [], [])), (63, (.iadd, 64, 0, .null, [], [])), (64, (.iload_n 2, 65, 0, .null, [], [])), (65, (.iastore, 66, 0, .null, [], [])), (66, (.aload_n 0, 67, 0, .null, [], [])), (67, (.getfield 15, 70, 0, .null, [], [(2, 1)])), (70, (.iload_n 1, 71, 0, .null, [], [])), (71, (.iconst 1, 72, 0, .int (1), [], [])), (72, (.iadd, 73, 0, .null, [], [])), (73, (.iload_n 3, 74, 0, .null, [], [])), (74, (.iastore, 75, 0, .null, [], [])), (75, (.aload_n 0, 76, 0, .null, [], [])), (76, (.getfield 18, 79, 0, .null, [], [(2, 2)])), (79, (.iload_n 1, 80, 0, .null, [], [])), (80, (.iconst 1, 81, 0, .int (1), [], [])), (81, (.iadd, 82, 0, .null, [], [])), (82, (.iload 4, 84, 0, .null, [], [])), (84, (.iastore, 85, 0, .null, [], [])), (85, (.aload_n 0, 86, 0, .null, [], [])), (86, (.getfield 21, 89, 0, .null, [], [(2, 3)])), (89, (.iload_n 1, 90, 0, .null, [], [])), (90, (.iconst 1, 91, 0, .int (1), [], [])), (91, (.iadd, 92, 0, .null, [], [])), (92, (.iload 5, 94, 0, .null, [], [])), (94, (.iastore, 95, 0, .null, [], [])), (95, (.return_, 96, 0, .null, [], []))]
def jX2_swapWithNext : List (Nat × sf_J sf_S) := [(2, sf_jI sf_layC [2] 2 gX2_has), (12, sf_jI sf_layC [2] 2 gX2_has), (54, sf_jV sf_layC [2] 3 gX2_moveNode)]
def dX2_swapWithNext (q : Nat) (x1 : Int32) (σ : sf_S) : Option sf_S :=
  (dX2_has q x1 σ).bind fun u1 =>
  if u1.1 = 0 then
    some u1.2
  else
    (dX2_has q (x1 + (1 : Int32)) u1.2).bind fun u2 =>
    if ¬ u2.1 = 0 then
      if sf_in x1 40 then
        let v3 := (u2.2 (q + 1) x1.toNatClampNeg)
        if sf_in x1 40 then
          let v4 := (u2.2 (q + 2) x1.toNatClampNeg)
          if sf_in x1 40 then
            let v5 := (u2.2 (q + 3) x1.toNatClampNeg)
            if sf_in x1 40 then
              let v6 := (u2.2 (q + 4) x1.toNatClampNeg)
              (dX2_moveNode q (x1 + (1 : Int32)) x1 u2.2).bind fun u7 =>
              if sf_in (x1 + (1 : Int32)) 40 then
                let s8 := sf_up u7 (q + 1) ((x1 + (1 : Int32))).toNatClampNeg v3
                if sf_in (x1 + (1 : Int32)) 40 then
                  let s9 := sf_up s8 (q + 2) ((x1 + (1 : Int32))).toNatClampNeg v4
                  if sf_in (x1 + (1 : Int32)) 40 then
                    let s10 := sf_up s9 (q + 3) ((x1 + (1 : Int32))).toNatClampNeg v5
                    if sf_in (x1 + (1 : Int32)) 40 then
                      let s11 := sf_up s10 (q + 4) ((x1 + (1 : Int32))).toNatClampNeg v6
                      some s11
                    else
                      none
                  else
                    none
                else
                  none
              else
                none
            else
              none
          else
            none
        else
          none
      else
        none
    else
      some u2.2
def gX2_swapWithNext (av : List Value) (σ : sf_S) : Option sf_S := match av with
  | [.ref q, .int x1] => (match sf_rv [1, 36] q with | true => dX2_swapWithNext q x1 σ | false => none)
  | _ => none
set_option maxRecDepth 100000 in
set_option maxHeartbeats 4000000 in
theorem rX2_swapWithNext {Wt : Nat → sf_L → List Value → sf_S → Prop} {Post : sf_S → Prop} (hs : sf_Snd Wt sf_layC sf_hV jX2_swapWithNext tX2_swapWithNext Post) (hm : sf_mono Wt) : ∀ av σ u, gX2_swapWithNext av σ = some u → Post u → (∀ ad, (lg_sl (av.map (sf_v ad))).length ≤ 6) ∧ Wt 0 (sf_ent 0 av) [] σ := by
  intro av σ u h hp
  unfold gX2_swapWithNext at h
  split at h
  · rename_i q x1
    split at h
    · rename_i hq
      have hq : q = 1 ∨ q = 36 := by simpa using sf_rv_mem hq
      refine ⟨fun ad => Nat.le_of_ble_eq_true rfl, ?_⟩
      rcases hq with rfl | rfl
      · exact sf_run_ok hs sf_sm_nil 71 0 _ _ σ u h hp
      · exact sf_run_ok hs sf_sm_nil 71 0 _ _ σ u h hp
    · cases h
  · cases h
theorem kX2_swapWithNext (l : Launch) : sf_C l sf_layC yX2_swapWithNext cX2_swapWithNext 6 none (sf_rm 2 122) (fun av σ => (gX2_swapWithNext av σ).map sf_vV) :=
  sf_met (tab := tX2_swapWithNext) (J := jX2_swapWithNext) (fl := sf_fl2) (cl := sf_cl2) (by decide +kernel) ⟨rfl, rfl⟩ sf_RH_V (by decide +kernel) sf_fl2_ok sf_cl2_ok
    (sf_JO_cons (sf_je_V (kX2_has l) mwX2_has (by decide +kernel : decode cX2_swapWithNext 2 = .ok (.invokevirtual 47, 3)) wt_690 wt_661 wt_18 (by decide +kernel) (by decide) (by decide) (List.forall_mem_cons.mpr ⟨⟨_, _, rfl⟩, fun _ h => absurd h List.not_mem_nil⟩) (sf_RM_of (by omega) (by omega))) (sf_JO_cons (sf_je_V (kX2_has l) mwX2_has (by decide +kernel : decode cX2_swapWithNext 12 = .ok (.invokevirtual 47, 3)) wt_690 wt_661 wt_18 (by decide +kernel) (by decide) (by decide) (List.forall_mem_cons.mpr ⟨⟨_, _, rfl⟩, fun _ h => absurd h List.not_mem_nil⟩) (sf_RM_of (by omega) (by omega))) (sf_JO_cons (sf_je_V (kX2_moveNode l) mwX2_moveNode (by decide +kernel : decode cX2_swapWithNext 54 = .ok (.invokevirtual 65, 3)) wt_725 wt_727 wt_31 (by decide +kernel) (by decide) (by decide) (List.forall_mem_cons.mpr ⟨⟨_, _, rfl⟩, fun _ h => absurd h List.not_mem_nil⟩) (sf_RM_of (by omega) (by omega))) (sf_JO_nil))))
    (fun Wt Post hs hm => rX2_swapWithNext hs hm)
