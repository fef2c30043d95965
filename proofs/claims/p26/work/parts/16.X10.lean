/-! ===== 16.X10 ===== -/
-- ===== java/lang/Math.floorMod(II)I =====
abbrev tJ9_floorMod_7cf53 : List (Nat × sf_E) := [(0, (.iload_n 0, 1, 0, .null, [], [])), (1, (.iload_n 1, 2, 0, .null, [], [])), (2, (.irem, 3, 0, .null, [], [])), (3, (.istore_n 2, 4, 0, .null, [], [])), (4, (.iload_n 0, 5, 0, .null, [], [])), (5, (.iload_n 1, 6, 0, .null, [], [])), (6, (.ixor, 7, 0, .null, [], [])), (7, (.ifCond .ge 11, 10, 18, .null, [], [])), (10, (.iload_n 2, 11, 0, .null, [], [])), (11, (.ifCond .eq 7, 14, 18, .null, [], [])), (14, (.iload_n 2, 15, 0, .null, [], [])), (15, (.iload_n 1, 16, 0, .null, [], [])), (16, (.iadd, 17, 0, .null, [], [])), (17, (.ireturn, 18, 0, .null, [], [])), (18, (.iload_n 2, 19, 0, .null, [], [])), (19, (.ireturn, 20, 0, .null, [], []))]
noncomputable abbrev jJ9_floorMod_7cf53 : List (Nat × sf_J (Int32 × sf_S)) := []
noncomputable def dJ9_floorMod_7cf53 (x0 : Int32) (x1 : Int32) (σ : sf_S) : Option (Int32 × sf_S) :=
  if x1 = 0 then
    none
  else
    let v1 := (x0 - x0 / x1 * x1)
    if 0 ≤ (x0 ^^^ x1) then
      some (v1, σ)
    else
      if v1 = 0 then
        some (v1, σ)
      else
        some ((v1 + x1), σ)
noncomputable abbrev gJ9_floorMod_7cf53 (av : List Value) (σ : sf_S) : Option (Int32 × sf_S) := match av with
  | [.int x0, .int x1] => dJ9_floorMod_7cf53 x0 x1 σ
  | _ => none
set_option maxRecDepth 100000 in
set_option maxHeartbeats 4000000 in
theorem rJ9_floorMod_7cf53 {Wt : Nat → sf_L → List Value → sf_S → Prop} {Post : (Int32 × sf_S) → Prop} (hs : sf_Snd Wt sf_layC sf_hI jJ9_floorMod_7cf53 tJ9_floorMod_7cf53 Post) (hm : sf_mono Wt) : ∀ av σ u, gJ9_floorMod_7cf53 av σ = some u → Post u → (∀ ad, (lg_sl (av.map (sf_v ad))).length ≤ 3) ∧ Wt 0 (sf_ent 0 av) [] σ := by
  intro av σ u h hp
  unfold gJ9_floorMod_7cf53 at h
  split at h
  · rename_i x0 x1
    refine ⟨fun ad => Nat.le_of_ble_eq_true rfl, ?_⟩
    exact sf_run_ok hs sf_sm_nil 21 0 _ _ σ u h hp
  · cases h
theorem kJ9_floorMod_7cf53 (l : Launch) : sf_C l sf_layC yJ9_floorMod_7cf53 cJ9_floorMod_7cf53 3 (some .int) (sf_rm 1 100) (fun av σ => (gJ9_floorMod_7cf53 av σ).map sf_vI) :=
  sf_metF (tab := tJ9_floorMod_7cf53) (J := jJ9_floorMod_7cf53) (fl := []) (cl := []) (by decide +kernel) ⟨rfl, rfl⟩ sf_RH_I (by decide +kernel) (fun _ _ _ _ _ h => absurd h List.not_mem_nil) (fun _ _ _ _ h => absurd h List.not_mem_nil)
    (sf_JO_nil)
    (fun Wt Post hs hm => rJ9_floorMod_7cf53 hs hm)
-- ===== StreamFuser$Way.openedFor(I)I =====
abbrev tX10_openedFor : List (Nat × sf_E) := [(0, (.iload_n 1, 1, 0, .null, [], [])), (1, (.ifCond .lt 26, 4, 27, .null, [], [])), (4, (.iload_n 1, 5, 0, .null, [], [])), (5, (.aload_n 0, 6, 0, .null, [], [])), (6, (.getfield 15, 9, 0, .null, [], [(0, 2), (1, 0), (8, 2)])), (9, (.getfield 27, 12, 0, .null, [], [(2, 4)])), (12, (.if_icmp .ge 15, 15, 27, .null, [], [])), (15, (.aload_n 0, 16, 0, .null, [], [])), (16, (.getfield 15, 19, 0, .null, [], [(0, 2), (1, 0), (8, 2)])), (19, (.getfield 33, 22, 0, .null, [], [(2, 8)])), (22, (.iload_n 1, 23, 0, .null, [], [])), (23, (.iaload, 24, 0, .null, [], [])), (24, (.goto 4, 27, 28, .null, [], [])), (27, (.iconst (-1), 28, 0, .int (-1), [], [])), (28, (.istore_n 2, 29, 0, .null, [], [])), (29, (.iload_n 2, 30, 0, .null, [], [])), (30, (.ifCond .lt 23, 33, 53, .null, [], [])), (33, (.iload_n 2, 34, 0, .null, [], [])), (34, (.aload_n 0, 35, 0, .null, [], [])), (35, (.getfield 15, 38, 0, .null, [], [(0, 2), (1, 0), (8, 2)])), (38, (.getfield 27, 41, 0, .null, [], [(2, 4)])), (41, (.if_icmp .ge 12, 44, 53, .null, [], [])), (44, (.aload_n 0, 45, 0, .null, [], [])), (45, (.getfield 9, 48, 0, .null, [], [(0, 5), (1, 3), (8, 5)])), (48, (.iload_n 2, 49, 0, .null, [], [])), (49, (.iaload, 50, 0, .null, [], [])), (50, (.goto 4, 53, 54, .null, [], [])), (53, (.iconst 0, 54, 0, .int (0), [], [])), (54, (.ireturn, 55, 0, .null, [], []))]
noncomputable abbrev jX10_openedFor : List (Nat × sf_J (Int32 × sf_S)) := []
abbrev wX10_openedFor_28 {ρ : Type} (q : Nat) (k : Int32 → sf_S → Option ρ) : sf_M ρ := fun L st σ => sf_lda L 0 fun a0 => sf_eq a0 q (sf_i1 st fun y0 st => sf_nil st (k y0 σ))
theorem wX10_openedFor_28_ok {ρ : Type} {Wt : Nat → sf_L → List Value → sf_S → Prop} {Post : ρ → Prop} (hm : sf_mono Wt) {q : Nat} {k : Int32 → sf_S → Option ρ} (h : ∀ (y0 : Int32) (σ : sf_S) (u : ρ), k y0 σ = some u → Post u → Wt 28 [(0, some (.ref q))] [.int y0] σ) : sf_CK Wt Post 28 (wX10_openedFor_28 q k) := by
  intro L st σ u hf hp
  unfold wX10_openedFor_28 at hf
  have hf0 := hf
  obtain ⟨a0, e0, hf1⟩ := sf_lda_inv hf0
  obtain ⟨rfl, hf2⟩ := sf_eq_inv hf1
  obtain ⟨y0, st, rfl, hf3⟩ := sf_i1_inv hf2
  obtain ⟨rfl, hz⟩ := sf_nil_inv hf3
  exact hm _ [(0, some (.ref _))] _ _ _ (sf_le_ok (And.intro e0 trivial)) (h _ _ _ hz hp)
noncomputable def dX10_openedFor_28 (q : Nat) (y0 : Int32) (σ : sf_S) : Option (Int32 × sf_S) :=
  if y0 < 0 then
    some ((0 : Int32), σ)
  else
    if (σ (sf_pl q) 4) ≤ y0 then
      some ((0 : Int32), σ)
    else
      if sf_in y0 40 then
        some ((σ (sf_op q) y0.toNatClampNeg), σ)
      else
        none
set_option maxRecDepth 100000 in
set_option maxHeartbeats 4000000 in
theorem rX10_openedFor_28 {Wt : Nat → sf_L → List Value → sf_S → Prop} {Post : (Int32 × sf_S) → Prop} (hs : sf_Snd Wt sf_layC sf_hI jX10_openedFor tX10_openedFor Post) (hm : sf_mono Wt) {q : Nat} (hq : q = 23 ∨ q = 55 ∨ q = 27 ∨ q = 32) : sf_CK Wt Post 28 (wX10_openedFor_28 q (dX10_openedFor_28 q)) := by
  refine wX10_openedFor_28_ok hm ?_
  intro y0 σ u h hp
  rcases hq with rfl | rfl | rfl | rfl
  · exact sf_run_ok hs sf_sm_nil 34 28 _ _ σ u h hp
  · exact sf_run_ok hs sf_sm_nil 34 28 _ _ σ u h hp
  · exact sf_run_ok hs sf_sm_nil 34 28 _ _ σ u h hp
  · exact sf_run_ok hs sf_sm_nil 34 28 _ _ σ u h hp
noncomputable def dX10_openedFor (q : Nat) (x1 : Int32) (σ : sf_S) : Option (Int32 × sf_S) :=
  if x1 < 0 then
    dX10_openedFor_28 q (-1 : Int32) σ
  else
    if (σ (sf_pl q) 4) ≤ x1 then
      dX10_openedFor_28 q (-1 : Int32) σ
    else
      if sf_in x1 40 then
        dX10_openedFor_28 q (σ ((sf_pl q) + 8) x1.toNatClampNeg) σ
      else
        none
noncomputable abbrev gX10_openedFor (av : List Value) (σ : sf_S) : Option (Int32 × sf_S) := match av with
  | [.ref q, .int x1] => (match sf_rv [23, 55, 27, 32] q with | true => dX10_openedFor q x1 σ | false => none)
  | _ => none
set_option maxRecDepth 100000 in
set_option maxHeartbeats 4000000 in
theorem rX10_openedFor {Wt : Nat → sf_L → List Value → sf_S → Prop} {Post : (Int32 × sf_S) → Prop} (hs : sf_Snd Wt sf_layC sf_hI jX10_openedFor tX10_openedFor Post) (hm : sf_mono Wt) : ∀ av σ u, gX10_openedFor av σ = some u → Post u → (∀ ad, (lg_sl (av.map (sf_v ad))).length ≤ 3) ∧ Wt 0 (sf_ent 0 av) [] σ := by
  intro av σ u h hp
  unfold gX10_openedFor at h
  split at h
  · rename_i q x1
    split at h
    · rename_i hq
      have hq : q = 23 ∨ q = 55 ∨ q = 27 ∨ q = 32 := by simpa using sf_rv_mem hq
      refine ⟨fun ad => Nat.le_of_ble_eq_true rfl, ?_⟩
      rcases hq with rfl | rfl | rfl | rfl
      · exact sf_run_ok hs (sf_sm_cons (rX10_openedFor_28 hs hm (Or.inl rfl)) sf_sm_nil) 34 0 _ _ σ u h hp
      · exact sf_run_ok hs (sf_sm_cons (rX10_openedFor_28 hs hm (Or.inr (Or.inl rfl))) sf_sm_nil) 34 0 _ _ σ u h hp
      · exact sf_run_ok hs (sf_sm_cons (rX10_openedFor_28 hs hm (Or.inr (Or.inr (Or.inl rfl)))) sf_sm_nil) 34 0 _ _ σ u h hp
      · exact sf_run_ok hs (sf_sm_cons (rX10_openedFor_28 hs hm (Or.inr (Or.inr (Or.inr rfl)))) sf_sm_nil) 34 0 _ _ σ u h hp
    · cases h
  · cases h
theorem kX10_openedFor (l : Launch) : sf_C l sf_layC yX10_openedFor cX10_openedFor 3 (some .int) (sf_rm 1 100) (fun av σ => (gX10_openedFor av σ).map sf_vI) :=
  sf_met (tab := tX10_openedFor) (J := jX10_openedFor) (fl := sf_fl10) (cl := sf_cl10) (by decide +kernel) ⟨rfl, rfl⟩ sf_RH_I (by decide +kernel) sf_fl10_ok sf_cl10_ok
    (sf_JO_nil)
    (fun Wt Post hs hm => rX10_openedFor hs hm)
-- ===== StreamFuser$Way.isReady(I)Z =====
abbrev tX10_isReady : List (Nat × sf_E) := [(0, (.aload_n 0, 1, 0, .null, [], [])), (1, (.getfield 15, 4, 0, .null, [], [(0, 2), (1, 0), (8, 2)])), (4, (.iload_n 1, 5, 0, .null, [], [])), (5, (.invokevirtual 36, 8, 0, .null, [], [])), (8, (.bipush 115, 10, 0, .int (115), [], [])), (10, (.if_icmp .ne 41, 13, 51, .null, [], [])), (13, (.aload_n 0, 14, 0, .null, [], [])), (14, (.getfield 23, 17, 0, .null, [], [(0, 4), (1, 2), (8, 4)])), (17, (.aload_n 0, 18, 0, .null, [], [])), (18, (.getfield 15, 21, 0, .null, [], [(0, 2), (1, 0), (8, 2)])), (21, (.getfield 40, 24, 0, .null, [], [(2, 1)])), (24, (.iload_n 1, 25, 0, .null, [], [])), (25, (.iaload, 26, 0, .null, [], [])), (26, (.invokevirtual 43, 29, 0, .null, [], [])), (29, (.ifCond .eq 22, 32, 51, .null, [], [])), (32, (.aload_n 0, 33, 0, .null, [], [])), (33, (.getfield 19, 36, 0, .null, [], [(0, 3), (1, 1), (8, 3)])), (36, (.iconst 2, 37, 0, .int (2), [], [])), (37, (.aload_n 0, 38, 0, .null, [], [])), (38, (.getfield 15, 41, 0, .null, [], [(0, 2), (1, 0), (8, 2)])), (41, (.getfield 49, 44, 0, .null, [], [(2, 7)])), (44, (.iload_n 1, 45, 0, .null, [], [])), (45, (.iaload, 46, 0, .null, [], [])), (46, (.invokevirtual 52, 49, 0, .null, [], [])), (49, (.iconst 0, 50, 0, .int (0), [], [])), (50, (.ireturn, 51, 0, .null, [], [])), (51, (.iconst 1, 52, 0, .int (1), [], [])), (52, (.ireturn, 53, 0, .null, [], []))]
noncomputable abbrev jX10_isReady : List (Nat × sf_J (Int32 × sf_S)) := [(5, sf_jI sf_layC [2] 2 gX2_letterAt), (26, sf_jI sf_layC [7] 2 gX7_isLost), (46, sf_jV sf_layC [6] 3 gX6_fail)]
noncomputable def dX10_isReady (q : Nat) (x1 : Int32) (σ : sf_S) : Option (Int32 × sf_S) :=
  (dX2_letterAt (sf_pl q) x1 σ).bind fun u1 =>
  if ¬ u1.1 = (115 : Int32) then
    some ((1 : Int32), u1.2)
  else
    if sf_in x1 40 then
      (dX7_isLost (u1.2 ((sf_pl q) + 2) x1.toNatClampNeg) u1.2).bind fun u2 =>
      if u2.1 = 0 then
        some ((1 : Int32), u2.2)
      else
        if sf_in x1 40 then
          (dX6_fail (sf_rn q) (2 : Int32) (u2.2 ((sf_pl q) + 7) x1.toNatClampNeg) u2.2).bind fun u3 =>
          some ((0 : Int32), u3)
        else
          none
    else
      none
noncomputable abbrev gX10_isReady (av : List Value) (σ : sf_S) : Option (Int32 × sf_S) := match av with
  | [.ref q, .int x1] => (match sf_rv [23, 55, 27, 32] q with | true => dX10_isReady q x1 σ | false => none)
  | _ => none
set_option maxRecDepth 100000 in
set_option maxHeartbeats 4000000 in
theorem rX10_isReady {Wt : Nat → sf_L → List Value → sf_S → Prop} {Post : (Int32 × sf_S) → Prop} (hs : sf_Snd Wt sf_layC sf_hZ jX10_isReady tX10_isReady Post) (hm : sf_mono Wt) : ∀ av σ u, gX10_isReady av σ = some u → Post u → (∀ ad, (lg_sl (av.map (sf_v ad))).length ≤ 2) ∧ Wt 0 (sf_ent 0 av) [] σ := by
  intro av σ u h hp
  unfold gX10_isReady at h
  split at h
  · rename_i q x1
    split at h
    · rename_i hq
      have hq : q = 23 ∨ q = 55 ∨ q = 27 ∨ q = 32 := by simpa using sf_rv_mem hq
      refine ⟨fun ad => Nat.le_of_ble_eq_true rfl, ?_⟩
      rcases hq with rfl | rfl | rfl | rfl
      · exact sf_run_ok hs sf_sm_nil 33 0 _ _ σ u h hp
      · exact sf_run_ok hs sf_sm_nil 33 0 _ _ σ u h hp
      · exact sf_run_ok hs sf_sm_nil 33 0 _ _ σ u h hp
      · exact sf_run_ok hs sf_sm_nil 33 0 _ _ σ u h hp
    · cases h
  · cases h
theorem kX10_isReady (l : Launch) : sf_C l sf_layC yX10_isReady cX10_isReady 2 (some .boolean) (sf_rm 2 122) (fun av σ => (gX10_isReady av σ).map sf_vI) :=
  sf_met (tab := tX10_isReady) (J := jX10_isReady) (fl := sf_fl10) (cl := sf_cl10) (by decide +kernel) ⟨rfl, rfl⟩ sf_RH_Z (by decide +kernel) sf_fl10_ok sf_cl10_ok
    (sf_JO_cons (sf_je_N (n := 2) (cs := [2]) (tv := sf_vI) "StreamFuser" (kX2_letterAt l) mwX2_letterAt (by decide +kernel : decode cX10_isReady 5 = .ok (.invokevirtual 36, 3)) wt_736 wt_506 wt_6 (by decide +kernel) (by decide) (by decide) (List.forall_mem_cons.mpr ⟨⟨_, _, rfl⟩, fun _ h => absurd h List.not_mem_nil⟩) (sf_RM_of (by omega) (by omega))) (sf_JO_cons (sf_je_N (n := 2) (cs := [7]) (tv := sf_vI) "StreamFuser" (kX7_isLost l) mwX7_isLost (by decide +kernel : decode cX10_isReady 26 = .ok (.invokevirtual 43, 3)) wt_737 wt_739 wt_40 (by decide +kernel) (by decide) (by decide) (List.forall_mem_cons.mpr ⟨⟨_, _, rfl⟩, fun _ h => absurd h List.not_mem_nil⟩) (sf_RM_of (by omega) (by omega))) (sf_JO_cons (sf_je_N (n := 3) (cs := [6]) (tv := sf_vV) "StreamFuser" (kX6_fail l) mwX6_fail (by decide +kernel : decode cX10_isReady 46 = .ok (.invokevirtual 52, 3)) wt_651 wt_653 wt_30 (by decide +kernel) (by decide) (by decide) (List.forall_mem_cons.mpr ⟨⟨_, _, rfl⟩, fun _ h => absurd h List.not_mem_nil⟩) (sf_RM_of (by omega) (by omega))) (sf_JO_nil))))
    (fun Wt Post hs hm => rX10_isReady hs hm)
-- ===== StreamFuser$Way.supply(I)J =====
abbrev tX10_supply : List (Nat × sf_E) := [(0, (.aload_n 0, 1, 0, .null, [], [])), (1, (.getfield 15, 4, 0, .null, [], [(0, 2), (1, 0), (8, 2)])), (4, (.iload_n 1, 5, 0, .null, [], [])), (5, (.invokevirtual 58, 8, 0, .null, [], [])), (8, (.ifCond .ne 5, 11, 13, .null, [], [])), (11, (.lconst 0, 12, 0, .long 0, [], [])), (12, (.lreturn, 13, 0, .null, [], [])), (13, (.aload_n 0, 14, 0, .null, [], [])), (14, (.getfield 15, 17, 0, .null, [], [(0, 2), (1, 0), (8, 2)])), (17, (.getfield 61, 20, 0, .null, [], [(2, 0)])), (20, (.iload_n 1, 21, 0, .null, [], [])), (21, (.iaload, 22, 0, .null, [], [])), (22, (.tableswitch 151 105 118 #[96, 151, 151, 151, 151, 151, 151, 151, 151, 70, 100, 151, 138, 149], 92, 173, .null, [((105), 118), ((106), 173), ((107), 173), ((108), 173), ((109), 173), ((110), 173), ((111), 173), ((112), 173), ((113), 173), ((114), 92), ((115), 122), ((116), 173), ((117), 160), ((118), 171)], [])), (92, (.lconst 0, 93, 0, .long 0, [], [])), (93, (.aload_n 0, 94, 0, .null, [], [])), (94, (.getfield 15, 97, 0, .null, [], [(0, 2), (1, 0), (8, 2)])), (97, (.getfield 64, 100, 0, .null, [], [(2, 3)])), (100, (.iload_n 1, 101, 0, .null, [], [])), (101, (.iaload, 102, 0, .null, [], [])), (102, (.i2l, 103, 0, .null, [], [])), (103, (.aload_n 0, 104, 0, .null, [], [])), (104, (.getfield 15, 107, 0, .null, [], [(0, 2), (1, 0), (8, 2)])), (107, (.getfield 67, 110, 0, .null, [], [(2, 2)])), (110, (.iload_n 1, 111, 0, .null, [], [])), (111, (.iaload, 112, 0, .null, [], [])), (112, (.i2l, 113, 0, .null, [], [])), (113, (.lsub, 114, 0, .null, [], [])), (114, (.invokestatic 70, 117, 0, .null, [], [])), (117, (.lreturn, 118, 0, .null, [], [])), (118, (.ldc2_w 78, 121, 0, .long (9223372036854775807), [], [])), (121, (.lreturn, 122, 0, .null, [], [])), (122, (.aload_n 0, 123, 0, .null, [], [])), (123, (.getfield 15, 126, 0, .null, [], [(0, 2), (1, 0), (8, 2)])), (126, (.getfield 40, 129, 0, .null, [], [(2, 1)])), (129, (.iload_n 1, 130, 0, .null, [], [])), (130, (.iaload, 131, 0, .null, [], [])), (131, (.invokestatic 80, 134, 0, .null, [], [])), (134, (.ifCond .eq 24, 137, 158, .null, [], [])), (137, (.aload_n 0, 138, 0, .null, [], [])), (138, (.getfield 23, 141, 0, .null, [], [(0, 4), (1, 2), (8, 4)])), (141, (.getfield 83, 144, 0, .null, [], [(7, 1)])), (144, (.aload_n 0, 145, 0, .null, [], [])), (145, (.getfield 15, 148, 0, .null, [], [(0, 2), (1, 0), (8, 2)])), (148, (.getfield 40, 151, 0, .null, [], [(2, 1)])), (151, (.iload_n 1, 152, 0, .null, [], [])), (152, (.iaload, 153, 0, .null, [], [])), (153, (.iaload, 154, 0, .null, [], [])), (154, (.i2l, 155, 0, .null, [], [])), (155, (.goto 4, 158, 159, .null, [], [])), (158, (.lconst 0, 159, 0, .long 0, [], [])), (159, (.lreturn, 160, 0, .null, [], [])), (160, (.iconst 0, 161, 0, .int (0), [], [])), (161, (.aload_n 0, 162, 0, .null, [], [])), (162, (.iload_n 1, 163, 0, .null, [], [])), (163, (.invokevirtual 86, 166, 0, .null, [], [])), (166, (.invokestatic 89, 169, 0, .null, [], [])), (169, (.i2l, 170, 0, .null, [], [])), (170, (.lreturn, 171, 0, .null, [], [])), (171, (.lconst 1, 172, 0, .long 1, [], [])), (172, (.lreturn, 173, 0, .null, [], [])), (173, (.lconst 0, 174, 0, .long 0, [], [])), (174, (.lreturn, 175, 0, .null, [], []))]
noncomputable abbrev jX10_supply : List (Nat × sf_J (Int64 × sf_S)) := [(5, sf_jI sf_layC [2] 2 gX2_has), (114, sf_jmaxL), (131, sf_jI sf_layC [] 1 gX11_isSheet), (163, sf_jI sf_layC [0,1,8] 2 gX10_openedFor), (166, sf_jmax)]
noncomputable def dX10_supply (q : Nat) (x1 : Int32) (σ : sf_S) : Option (Int64 × sf_S) :=
  (dX2_has (sf_pl q) x1 σ).bind fun u1 =>
  if ¬ u1.1 = 0 then
    if sf_in x1 40 then
      let v2 := (u1.2 ((sf_pl q) + 1) x1.toNatClampNeg)
      if v2 = (105 : Int32) then
        some ((9223372036854775807 : Int64), u1.2)
      else
      if v2 = (106 : Int32) then
        some ((0 : Int64), u1.2)
      else
      if v2 = (107 : Int32) then
        some ((0 : Int64), u1.2)
      else
      if v2 = (108 : Int32) then
        some ((0 : Int64), u1.2)
      else
      if v2 = (109 : Int32) then
        some ((0 : Int64), u1.2)
      else
      if v2 = (110 : Int32) then
        some ((0 : Int64), u1.2)
      else
      if v2 = (111 : Int32) then
        some ((0 : Int64), u1.2)
      else
      if v2 = (112 : Int32) then
        some ((0 : Int64), u1.2)
      else
      if v2 = (113 : Int32) then
        some ((0 : Int64), u1.2)
      else
      if v2 = (114 : Int32) then
        if sf_in x1 40 then
          if sf_in x1 40 then
            let v3 := (((u1.2 ((sf_pl q) + 4) x1.toNatClampNeg)).toInt64 - ((u1.2 ((sf_pl q) + 3) x1.toNatClampNeg)).toInt64)
            some ((if v3 < (0 : Int64) then (0 : Int64) else v3), u1.2)
          else
            none
        else
          none
      else
      if v2 = (115 : Int32) then
        if sf_in x1 40 then
          (dX11_isSheet (u1.2 ((sf_pl q) + 2) x1.toNatClampNeg) u1.2).bind fun u4 =>
          if u4.1 = 0 then
            some ((0 : Int64), u4.2)
          else
            if sf_in x1 40 then
              let v5 := (u4.2 ((sf_pl q) + 2) x1.toNatClampNeg)
              if sf_in v5 4 then
                some (((u4.2 17 v5.toNatClampNeg)).toInt64, u4.2)
              else
                none
            else
              none
        else
          none
      else
      if v2 = (116 : Int32) then
        some ((0 : Int64), u1.2)
      else
      if v2 = (117 : Int32) then
        (dX10_openedFor q x1 u1.2).bind fun u6 =>
        some (((if (0 : Int32) < u6.1 then u6.1 else (0 : Int32))).toInt64, u6.2)
      else
      if v2 = (118 : Int32) then
        some ((1 : Int64), u1.2)
      else
        some ((0 : Int64), u1.2)
    else
      none
  else
    some ((0 : Int64), u1.2)
noncomputable abbrev gX10_supply (av : List Value) (σ : sf_S) : Option (Int64 × sf_S) := match av with
  | [.ref q, .int x1] => (match sf_rv [23, 55, 27, 32] q with | true => dX10_supply q x1 σ | false => none)
  | _ => none
set_option maxRecDepth 100000 in
set_option maxHeartbeats 4000000 in
theorem rX10_supply {Wt : Nat → sf_L → List Value → sf_S → Prop} {Post : (Int64 × sf_S) → Prop} (hs : sf_Snd Wt sf_layC sf_hL jX10_supply tX10_supply Post) (hm : sf_mono Wt) : ∀ av σ u, gX10_supply av σ = some u → Post u → (∀ ad, (lg_sl (av.map (sf_v ad))).length ≤ 2) ∧ Wt 0 (sf_ent 0 av) [] σ := by
  intro av σ u h hp
  unfold gX10_supply at h
  split at h
  · rename_i q x1
    split at h
    · rename_i hq
      have hq : q = 23 ∨ q = 55 ∨ q = 27 ∨ q = 32 := by simpa using sf_rv_mem hq
      refine ⟨fun ad => Nat.le_of_ble_eq_true rfl, ?_⟩
      rcases hq with rfl | rfl | rfl | rfl
      · exact sf_run_ok hs sf_sm_nil 67 0 _ _ σ u h hp
      · exact sf_run_ok hs sf_sm_nil 67 0 _ _ σ u h hp
      · exact sf_run_ok hs sf_sm_nil 67 0 _ _ σ u h hp
      · exact sf_run_ok hs sf_sm_nil 67 0 _ _ σ u h hp
    · cases h
  · cases h
theorem kX10_supply (l : Launch) : sf_C l sf_layC yX10_supply cX10_supply 2 (some .long) (sf_rm 2 122) (fun av σ => (gX10_supply av σ).map sf_vL) :=
  sf_met (tab := tX10_supply) (J := jX10_supply) (fl := sf_fl10) (cl := sf_cl10) (by decide +kernel) ⟨rfl, rfl⟩ sf_RH_L (by decide +kernel) sf_fl10_ok sf_cl10_ok
    (sf_JO_cons (sf_je_N (n := 2) (cs := [2]) (tv := sf_vI) "StreamFuser" (kX2_has l) mwX2_has (by decide +kernel : decode cX10_supply 5 = .ok (.invokevirtual 58, 3)) wt_646 wt_470 wt_0 (by decide +kernel) (by decide) (by decide) (List.forall_mem_cons.mpr ⟨⟨_, _, rfl⟩, fun _ h => absurd h List.not_mem_nil⟩) (sf_RM_of (by omega) (by omega))) (sf_JO_cons (sf_je_maxL (by decide +kernel : decode cX10_supply 114 = .ok (.invokestatic 70, 3)) wt_748 wt_749 wt_89 wt_750 (sf_RB_of (by omega) (by omega))) (sf_JO_cons (sf_je_SN (n := 1) (tv := sf_vI) "StreamFuser" (kX11_isSheet l) mwX11_isSheet (by decide +kernel : decode cX10_supply 131 = .ok (.invokestatic 80, 3)) wt_752 wt_753 (by decide +kernel) (sf_RM_of (by omega) (by omega))) (sf_JO_cons (sf_je_U (n := 2) (cs := [0, 1, 8]) (tv := sf_vI) (kX10_openedFor l) mwX10_openedFor (by decide +kernel : decode cX10_supply 163 = .ok (.invokevirtual 86, 3)) wt_755 wt_756 wt_757 rfl (by decide +kernel) (by decide) (by decide) (List.forall_mem_cons.mpr ⟨⟨_, _, _, rfl, wt_758⟩, List.forall_mem_cons.mpr ⟨⟨_, _, _, rfl, wt_759⟩, List.forall_mem_cons.mpr ⟨⟨_, _, _, rfl, wt_760⟩, fun _ h => absurd h List.not_mem_nil⟩⟩⟩) (sf_RM_of (by omega) (by omega))) (sf_JO_cons (sf_je_max (by decide +kernel : decode cX10_supply 166 = .ok (.invokestatic 89, 3)) wt_762 wt_547 wt_89 wt_548 (sf_RB_of (by omega) (by omega))) (sf_JO_nil))))))
    (fun Wt Post hs hm => rX10_supply hs hm)
-- ===== StreamFuser$Way.supplied(II)I =====
abbrev tX10_supplied : List (Nat × sf_E) := [(0, (.aload_n 0, 1, 0, .null, [], [])), (1, (.getfield 15, 4, 0, .null, [], [(0, 2), (1, 0), (8, 2)])), (4, (.iload_n 1, 5, 0, .null, [], [])), (5, (.invokevirtual 58, 8, 0, .null, [], [])), (8, (.ifCond .ne 5, 11, 13, .null, [], [])), (11, (.iconst 0, 12, 0, .int (0), [], [])), (12, (.ireturn, 13, 0, .null, [], [])), (13, (.aload_n 0, 14, 0, .null, [], [])), (14, (.getfield 15, 17, 0, .null, [], [(0, 2), (1, 0), (8, 2)])), (17, (.getfield 61, 20, 0, .null, [], [(2, 0)])), (20, (.iload_n 1, 21, 0, .null, [], [])), (21, (.iaload, 22, 0, .null, [], [])), (22, (.lookupswitch 100 #[(105, 54), (114, 42), (115, 76), (118, 94)], 64, 122, .null, [((105), 76), ((114), 64), ((115), 98), ((118), 116)], [])), (64, (.aload_n 0, 65, 0, .null, [], [])), (65, (.getfield 15, 68, 0, .null, [], [(0, 2), (1, 0), (8, 2)])), (68, (.getfield 67, 71, 0, .null, [], [(2, 2)])), (71, (.iload_n 1, 72, 0, .null, [], [])), (72, (.iaload, 73, 0, .null, [], [])), (73, (.iload_n 2, 74, 0, .null, [], [])), (74, (.iadd, 75, 0, .null, [], [])), (75, (.ireturn, 76, 0, .null, [], [])), (76, (.aload_n 0, 77, 0, .null, [], [])), (77, (.getfield 15, 80, 0, .null, [], [(0, 2), (1, 0), (8, 2)])), (80, (.getfield 67, 83, 0, .null, [], [(2, 2)])), (83, (.iload_n 1, 84, 0, .null, [], [])), (84, (.iaload, 85, 0, .null, [], [])), (85, (.iload_n 2, 86, 0, .null, [], [])), (86, (.aload_n 0, 87, 0, .null, [], [])), (87, (.getfield 15, 90, 0, .null, [], [(0, 2), (1, 0), (8, 2)])), (90, (.getfield 64, 93, 0, .null, [], [(2, 3)])), (93, (.iload_n 1, 94, 0, .null, [], [])), (94, (.iaload, 95, 0, .null, [], [])), (95, (.imul, 96, 0, .null, [], [])), (96, (.iadd, 97, 0, .null, [], [])), (97, (.ireturn, 98, 0, .null, [], [])), (98, (.aload_n 0, 99, 0, .null, [], [])), (99, (.getfield 23, 102, 0, .null, [], [(0, 4), (1, 2), (8, 4)])), (102, (.aload_n 0, 103, 0, .null, [], [])), (103, (.getfield 15, 106, 0, .null, [], [(0, 2), (1, 0), (8, 2)])), (106, (.getfield 40, 109, 0, .null, [], [(2, 1)])), (109, (.iload_n 1, 110, 0, .null, [], [])), (110, (.iaload, 111, 0, .null, [], [])), (111, (.iload_n 2, 112, 0, .null, [], [])), (112, (.invokevirtual 92, 115, 0, .null, [], [])), (115, (.ireturn, 116, 0, .null, [], [])), (116, (.aload_n 0, 117, 0, .null, [], [])), (117, (.iload_n 1, 118, 0, .null, [], [])), (118, (.invokevirtual 86, 121, 0, .null, [], [])), (121, (.ireturn, 122, 0, .null, [], [])), (122, (.iload_n 2, 123, 0, .null, [], [])), (123, (.ireturn, 124, 0, .null, [], []))]
noncomputable abbrev jX10_supplied : List (Nat × sf_J (Int32 × sf_S)) := [(5, sf_jI sf_layC [2] 2 gX2_has), (112, sf_jI sf_layC [7] 3 gX7_at), (118, sf_jI sf_layC [0,1,8] 2 gX10_openedFor)]
noncomputable def dX10_supplied (q : Nat) (x1 : Int32) (x2 : Int32) (σ : sf_S) : Option (Int32 × sf_S) :=
  (dX2_has (sf_pl q) x1 σ).bind fun u1 =>
  if ¬ u1.1 = 0 then
    if sf_in x1 40 then
      let v2 := (u1.2 ((sf_pl q) + 1) x1.toNatClampNeg)
      if v2 = (105 : Int32) then
        if sf_in x1 40 then
          if sf_in x1 40 then
            some (((u1.2 ((sf_pl q) + 3) x1.toNatClampNeg) + (x2 * (u1.2 ((sf_pl q) + 4) x1.toNatClampNeg))), u1.2)
          else
            none
        else
          none
      else
      if v2 = (114 : Int32) then
        if sf_in x1 40 then
          some (((u1.2 ((sf_pl q) + 3) x1.toNatClampNeg) + x2), u1.2)
        else
          none
      else
      if v2 = (115 : Int32) then
        if sf_in x1 40 then
          (dX7_at (u1.2 ((sf_pl q) + 2) x1.toNatClampNeg) x2 u1.2).bind fun u3 =>
          some (u3.1, u3.2)
        else
          none
      else
      if v2 = (118 : Int32) then
        (dX10_openedFor q x1 u1.2).bind fun u4 =>
        some (u4.1, u4.2)
      else
        some (x2, u1.2)
    else
      none
  else
    some ((0 : Int32), u1.2)
noncomputable abbrev gX10_supplied (av : List Value) (σ : sf_S) : Option (Int32 × sf_S) := match av with
  | [.ref q, .int x1, .int x2] => (match sf_rv [23, 55, 27, 32] q with | true => dX10_supplied q x1 x2 σ | false => none)
  | _ => none
set_option maxRecDepth 100000 in
set_option maxHeartbeats 4000000 in
theorem rX10_supplied {Wt : Nat → sf_L → List Value → sf_S → Prop} {Post : (Int32 × sf_S) → Prop} (hs : sf_Snd Wt sf_layC sf_hI jX10_supplied tX10_supplied Post) (hm : sf_mono Wt) : ∀ av σ u, gX10_supplied av σ = some u → Post u → (∀ ad, (lg_sl (av.map (sf_v ad))).length ≤ 3) ∧ Wt 0 (sf_ent 0 av) [] σ := by
  intro av σ u h hp
  unfold gX10_supplied at h
  split at h
  · rename_i q x1 x2
    split at h
    · rename_i hq
      have hq : q = 23 ∨ q = 55 ∨ q = 27 ∨ q = 32 := by simpa using sf_rv_mem hq
      refine ⟨fun ad => Nat.le_of_ble_eq_true rfl, ?_⟩
      rcases hq with rfl | rfl | rfl | rfl
      · exact sf_run_ok hs sf_sm_nil 56 0 _ _ σ u h hp
      · exact sf_run_ok hs sf_sm_nil 56 0 _ _ σ u h hp
      · exact sf_run_ok hs sf_sm_nil 56 0 _ _ σ u h hp
      · exact sf_run_ok hs sf_sm_nil 56 0 _ _ σ u h hp
    · cases h
  · cases h
theorem kX10_supplied (l : Launch) : sf_C l sf_layC yX10_supplied cX10_supplied 3 (some .int) (sf_rm 2 122) (fun av σ => (gX10_supplied av σ).map sf_vI) :=
  sf_met (tab := tX10_supplied) (J := jX10_supplied) (fl := sf_fl10) (cl := sf_cl10) (by decide +kernel) ⟨rfl, rfl⟩ sf_RH_I (by decide +kernel) sf_fl10_ok sf_cl10_ok
    (sf_JO_cons (sf_je_N (n := 2) (cs := [2]) (tv := sf_vI) "StreamFuser" (kX2_has l) mwX2_has (by decide +kernel : decode cX10_supplied 5 = .ok (.invokevirtual 58, 3)) wt_646 wt_470 wt_0 (by decide +kernel) (by decide) (by decide) (List.forall_mem_cons.mpr ⟨⟨_, _, rfl⟩, fun _ h => absurd h List.not_mem_nil⟩) (sf_RM_of (by omega) (by omega))) (sf_JO_cons (sf_je_N (n := 3) (cs := [7]) (tv := sf_vI) "StreamFuser" (kX7_at l) mwX7_at (by decide +kernel : decode cX10_supplied 112 = .ok (.invokevirtual 92, 3)) wt_775 wt_777 wt_42 (by decide +kernel) (by decide) (by decide) (List.forall_mem_cons.mpr ⟨⟨_, _, rfl⟩, fun _ h => absurd h List.not_mem_nil⟩) (sf_RM_of (by omega) (by omega))) (sf_JO_cons (sf_je_U (n := 2) (cs := [0, 1, 8]) (tv := sf_vI) (kX10_openedFor l) mwX10_openedFor (by decide +kernel : decode cX10_supplied 118 = .ok (.invokevirtual 86, 3)) wt_755 wt_756 wt_757 rfl (by decide +kernel) (by decide) (by decide) (List.forall_mem_cons.mpr ⟨⟨_, _, _, rfl, wt_758⟩, List.forall_mem_cons.mpr ⟨⟨_, _, _, rfl, wt_759⟩, List.forall_mem_cons.mpr ⟨⟨_, _, _, rfl, wt_760⟩, fun _ h => absurd h List.not_mem_nil⟩⟩⟩) (sf_RM_of (by omega) (by omega))) (sf_JO_nil))))
    (fun Wt Post hs hm => rX10_supplied hs hm)
-- ===== StreamFuser$Way.divide(III)Z =====
abbrev tX10_divide : List (Nat × sf_E) := [(0, (.iload_n 3, 1, 0, .null, [], [])), (1, (.ifCond .ne 22, 4, 23, .null, [], [])), (4, (.aload_n 0, 5, 0, .null, [], [])), (5, (.getfield 19, 8, 0, .null, [], [(0, 3), (1, 1), (8, 3)])), (8, (.iconst 1, 9, 0, .int (1), [], [])), (9, (.aload_n 0, 10, 0, .null, [], [])), (10, (.getfield 15, 13, 0, .null, [], [(0, 2), (1, 0), (8, 2)])), (13, (.getfield 49, 16, 0, .null, [], [(2, 7)])), (16, (.iload_n 1, 17, 0, .null, [], [])), (17, (.iaload, 18, 0, .null, [], [])), (18, (.invokevirtual 52, 21, 0, .null, [], [])), (21, (.iconst 0, 22, 0, .int (0), [], [])), (22, (.ireturn, 23, 0, .null, [], [])), (23, (.aload_n 0, 24, 0, .null, [], [])), (24, (.iload_n 2, 25, 0, .null, [], [])), (25, (.iload_n 3, 26, 0, .null, [], [])), (26, (.idiv, 27, 0, .null, [], [])), (27, (.putfield 95, 30, 0, .null, [], [(0, 6), (1, 4), (8, 6)])), (30, (.iconst 1, 31, 0, .int (1), [], [])), (31, (.ireturn, 32, 0, .null, [], []))]
noncomputable abbrev jX10_divide : List (Nat × sf_J (Int32 × sf_S)) := [(18, sf_jV sf_layC [6] 3 gX6_fail)]
noncomputable def dX10_divide (q : Nat) (x1 : Int32) (x2 : Int32) (x3 : Int32) (σ : sf_S) : Option (Int32 × sf_S) :=
  if ¬ x3 = 0 then
    if x3 = 0 then
      none
    else
      let s1 := sf_up σ q (sf_vl q) (x2 / x3)
      some ((1 : Int32), s1)
  else
    if sf_in x1 40 then
      (dX6_fail (sf_rn q) (1 : Int32) (σ ((sf_pl q) + 7) x1.toNatClampNeg) σ).bind fun u2 =>
      some ((0 : Int32), u2)
    else
      none
noncomputable abbrev gX10_divide (av : List Value) (σ : sf_S) : Option (Int32 × sf_S) := match av with
  | [.ref q, .int x1, .int x2, .int x3] => (match sf_rv [23, 55, 27, 32] q with | true => dX10_divide q x1 x2 x3 σ | false => none)
  | _ => none
set_option maxRecDepth 100000 in
set_option maxHeartbeats 4000000 in
theorem rX10_divide {Wt : Nat → sf_L → List Value → sf_S → Prop} {Post : (Int32 × sf_S) → Prop} (hs : sf_Snd Wt sf_layC sf_hZ jX10_divide tX10_divide Post) (hm : sf_mono Wt) : ∀ av σ u, gX10_divide av σ = some u → Post u → (∀ ad, (lg_sl (av.map (sf_v ad))).length ≤ 4) ∧ Wt 0 (sf_ent 0 av) [] σ := by
  intro av σ u h hp
  unfold gX10_divide at h
  split at h
  · rename_i q x1 x2 x3
    split at h
    · rename_i hq
      have hq : q = 23 ∨ q = 55 ∨ q = 27 ∨ q = 32 := by simpa using sf_rv_mem hq
      refine ⟨fun ad => Nat.le_of_ble_eq_true rfl, ?_⟩
      rcases hq with rfl | rfl | rfl | rfl
      · exact sf_run_ok hs sf_sm_nil 25 0 _ _ σ u h hp
      · exact sf_run_ok hs sf_sm_nil 25 0 _ _ σ u h hp
      · exact sf_run_ok hs sf_sm_nil 25 0 _ _ σ u h hp
      · exact sf_run_ok hs sf_sm_nil 25 0 _ _ σ u h hp
    · cases h
  · cases h
theorem kX10_divide (l : Launch) : sf_C l sf_layC yX10_divide cX10_divide 4 (some .boolean) (sf_rm 2 122) (fun av σ => (gX10_divide av σ).map sf_vI) :=
  sf_met (tab := tX10_divide) (J := jX10_divide) (fl := sf_fl10) (cl := sf_cl10) (by decide +kernel) ⟨rfl, rfl⟩ sf_RH_Z (by decide +kernel) sf_fl10_ok sf_cl10_ok
    (sf_JO_cons (sf_je_N (n := 3) (cs := [6]) (tv := sf_vV) "StreamFuser" (kX6_fail l) mwX6_fail (by decide +kernel : decode cX10_divide 18 = .ok (.invokevirtual 52, 3)) wt_651 wt_653 wt_30 (by decide +kernel) (by decide) (by decide) (List.forall_mem_cons.mpr ⟨⟨_, _, rfl⟩, fun _ h => absurd h List.not_mem_nil⟩) (sf_RM_of (by omega) (by omega))) (sf_JO_nil))
    (fun Wt Post hs hm => rX10_divide hs hm)
-- ===== StreamFuser$Way.modulo(II)I =====
abbrev tX10_modulo : List (Nat × sf_E) := [(0, (.iload_n 1, 1, 0, .null, [], [])), (1, (.ifCond .ne 7, 4, 8, .null, [], [])), (4, (.iconst 0, 5, 0, .int (0), [], [])), (5, (.goto 8, 8, 13, .null, [], [])), (8, (.iload_n 0, 9, 0, .null, [], [])), (9, (.iload_n 1, 10, 0, .null, [], [])), (10, (.invokestatic 108, 13, 0, .null, [], [])), (13, (.ireturn, 14, 0, .null, [], []))]
noncomputable abbrev jX10_modulo : List (Nat × sf_J (Int32 × sf_S)) := [(10, sf_jI sf_layC [] 2 gJ9_floorMod_7cf53)]
noncomputable def dX10_modulo (x0 : Int32) (x1 : Int32) (σ : sf_S) : Option (Int32 × sf_S) :=
  if ¬ x1 = 0 then
    (dJ9_floorMod_7cf53 x0 x1 σ).bind fun u1 =>
    some (u1.1, u1.2)
  else
    some ((0 : Int32), σ)
noncomputable abbrev gX10_modulo (av : List Value) (σ : sf_S) : Option (Int32 × sf_S) := match av with
  | [.int x0, .int x1] => dX10_modulo x0 x1 σ
  | _ => none
set_option maxRecDepth 100000 in
set_option maxHeartbeats 4000000 in
theorem rX10_modulo {Wt : Nat → sf_L → List Value → sf_S → Prop} {Post : (Int32 × sf_S) → Prop} (hs : sf_Snd Wt sf_layC sf_hI jX10_modulo tX10_modulo Post) (hm : sf_mono Wt) : ∀ av σ u, gX10_modulo av σ = some u → Post u → (∀ ad, (lg_sl (av.map (sf_v ad))).length ≤ 2) ∧ Wt 0 (sf_ent 0 av) [] σ := by
  intro av σ u h hp
  unfold gX10_modulo at h
  split at h
  · rename_i x0 x1
    refine ⟨fun ad => Nat.le_of_ble_eq_true rfl, ?_⟩
    exact sf_run_ok hs sf_sm_nil 13 0 _ _ σ u h hp
  · cases h
theorem kX10_modulo (l : Launch) : sf_C l sf_layC yX10_modulo cX10_modulo 2 (some .int) (sf_rm 2 122) (fun av σ => (gX10_modulo av σ).map sf_vI) :=
  sf_met (tab := tX10_modulo) (J := jX10_modulo) (fl := sf_fl10) (cl := sf_cl10) (by decide +kernel) ⟨rfl, rfl⟩ sf_RH_I (by decide +kernel) sf_fl10_ok sf_cl10_ok
    (sf_JO_cons (sf_je_S (n := 2) (tv := sf_vI) (kJ9_floorMod_7cf53 l) mwJ9_floorMod_7cf53 (by decide +kernel : decode cX10_modulo 10 = .ok (.invokestatic 108, 3)) wt_658 wt_659 (by decide +kernel) (sf_RM_of (by omega) (by omega))) (sf_JO_nil))
    (fun Wt Post hs hm => rX10_modulo hs hm)
-- ===== StreamFuser$Way.change(II)Z =====
abbrev tX10_change : List (Nat × sf_E) := [(0, (.aload_n 0, 1, 0, .null, [], [])), (1, (.getfield 15, 4, 0, .null, [], [(0, 2), (1, 0), (8, 2)])), (4, (.iload_n 1, 5, 0, .null, [], [])), (5, (.invokevirtual 58, 8, 0, .null, [], [])), (8, (.ifCond .ne 5, 11, 13, .null, [], [])), (11, (.iconst 0, 12, 0, .int (0), [], [])), (12, (.ireturn, 13, 0, .null, [], [])), (13, (.aload_n 0, 14, 0, .null, [], [])), (14, (.getfield 15, 17, 0, .null, [], [(0, 2), (1, 0), (8, 2)])), (17, (.getfield 67, 20, 0, .null, [], [(2, 2)])), (20, (.iload_n 1, 21, 0, .null, [], [])), (21, (.iaload, 22, 0, .null, [], [])), (22, (.istore_n 3, 23, 0, .null, [], [])), (23, (.aload_n 0, 24, 0, .null, [], [])), (24, (.iload_n 2, 25, 0, .null, [], [])), (25, (.putfield 95, 28, 0, .null, [], [(0, 6), (1, 4), (8, 6)])), (28, (.aload_n 0, 29, 0, .null, [], [])), (29, (.getfield 15, 32, 0, .null, [], [(0, 2), (1, 0), (8, 2)])), (32, (.getfield 61, 35, 0, .null, [], [(2, 0)])), (35, (.iload_n 1, 36, 0, .null, [], [])), (36, (.iaload, 37, 0, .null, [], [])), (37, (.lookupswitch 80 #[(37, 69), (42, 52), (43, 43), (47, 61)], 80, 117, .null, [((37), 106), ((42), 89), ((43), 80), ((47), 98)], [])), (80, (.aload_n 0, 81, 0, .null, [], [])), (81, (.iload_n 2, 82, 0, .null, [], [])), (82, (.iload_n 3, 83, 0, .null, [], [])), (83, (.iadd, 84, 0, .null, [], [])), (84, (.putfield 95, 87, 0, .null, [], [(0, 6), (1, 4), (8, 6)])), (87, (.iconst 1, 88, 0, .int (1), [], [])), (88, (.ireturn, 89, 0, .null, [], [])), (89, (.aload_n 0, 90, 0, .null, [], [])), (90, (.iload_n 2, 91, 0, .null, [], [])), (91, (.iload_n 3, 92, 0, .null, [], [])), (92, (.imul, 93, 0, .null, [], [])), (93, (.putfield 95, 96, 0, .null, [], [(0, 6), (1, 4), (8, 6)])), (96, (.iconst 1, 97, 0, .int (1), [], [])), (97, (.ireturn, 98, 0, .null, [], [])), (98, (.aload_n 0, 99, 0, .null, [], [])), (99, (.iload_n 1, 100, 0, .null, [], [])), (100, (.iload_n 3, 101, 0, .null, [], [])), (101, (.iload_n 2, 102, 0, .null, [], [])), (102, (.invokevirtual 98, 105, 0, .null, [], [])), (105, (.ireturn, 106, 0, .null, [], [])), (106, (.aload_n 0, 107, 0, .null, [], [])), (107, (.iload_n 2, 108, 0, .null, [], [])), (108, (.iload_n 3, 109, 0, .null, [], [])), (109, (.invokestatic 102, 112, 0, .null, [], [])), (112, (.putfield 95, 115, 0, .null, [], [(0, 6), (1, 4), (8, 6)])), (115, (.iconst 1, 116, 0, .int (1), [], [])), (116, (.ireturn, 117, 0, .null, [], [])), (117, (.aload_n 0, 118, 0, .null, [], [])), (118, (.getfield 19, 121, 0, .null, [], [(0, 3), (1, 1), (8, 3)])), (121, (.aload_n 0, 122, 0, .null, [], [])), (122, (.getfield 15, 125, 0, .null, [], [(0, 2), (1, 0), (8, 2)])), (125, (.getfield 40, 128, 0, .null, [], [(2, 1)])), (128, (.iload_n 1, 129, 0, .null, [], [])), (129, (.iaload, 130, 0, .null, [], [])), (130, (.iload_n 2, 131, 0, .null, [], [])), (131, (.invokevirtual 105, 134, 0, .null, [], [])), (134, (.iconst 1, 135, 0, .int (1), [], [])), (135, (.ireturn, 136, 0, .null, [], []))]
noncomputable abbrev jX10_change : List (Nat × sf_J (Int32 × sf_S)) := [(5, sf_jI sf_layC [2] 2 gX2_has), (102, sf_jI sf_layC [0,1,8] 4 gX10_divide), (109, sf_jI sf_layC [] 2 gX10_modulo), (131, sf_jV sf_layC [6] 3 gX6_note)]
noncomputable def dX10_change (q : Nat) (x1 : Int32) (x2 : Int32) (σ : sf_S) : Option (Int32 × sf_S) :=
  (dX2_has (sf_pl q) x1 σ).bind fun u1 =>
  if ¬ u1.1 = 0 then
    if sf_in x1 40 then
      let v2 := (u1.2 ((sf_pl q) + 3) x1.toNatClampNeg)
      let s3 := sf_up u1.2 q (sf_vl q) x2
      if sf_in x1 40 then
        let v4 := (s3 ((sf_pl q) + 1) x1.toNatClampNeg)
        if v4 = (37 : Int32) then
          (dX10_modulo x2 v2 s3).bind fun u5 =>
          let s6 := sf_up u5.2 q (sf_vl q) u5.1
          some ((1 : Int32), s6)
        else
        if v4 = (42 : Int32) then
          let s7 := sf_up s3 q (sf_vl q) (x2 * v2)
          some ((1 : Int32), s7)
        else
        if v4 = (43 : Int32) then
          let s8 := sf_up s3 q (sf_vl q) (x2 + v2)
          some ((1 : Int32), s8)
        else
        if v4 = (47 : Int32) then
          (dX10_divide q x1 v2 x2 s3).bind fun u9 =>
          if sf_01 u9.1 then some (u9.1, u9.2) else none
        else
          if sf_in x1 40 then
            (dX6_note (sf_rn q) (s3 ((sf_pl q) + 2) x1.toNatClampNeg) x2 s3).bind fun u10 =>
            some ((1 : Int32), u10)
          else
            none
      else
        none
    else
      none
  else
    some ((0 : Int32), u1.2)
noncomputable abbrev gX10_change (av : List Value) (σ : sf_S) : Option (Int32 × sf_S) := match av with
  | [.ref q, .int x1, .int x2] => (match sf_rv [23, 55, 27, 32] q with | true => dX10_change q x1 x2 σ | false => none)
  | _ => none
set_option maxRecDepth 100000 in
set_option maxHeartbeats 4000000 in
theorem rX10_change {Wt : Nat → sf_L → List Value → sf_S → Prop} {Post : (Int32 × sf_S) → Prop} (hs : sf_Snd Wt sf_layC sf_hZ jX10_change tX10_change Post) (hm : sf_mono Wt) : ∀ av σ u, gX10_change av σ = some u → Post u → (∀ ad, (lg_sl (av.map (sf_v ad))).length ≤ 4) ∧ Wt 0 (sf_ent 0 av) [] σ := by
  intro av σ u h hp
  unfold gX10_change at h
  split at h
  · rename_i q x1 x2
    split at h
    · rename_i hq
      have hq : q = 23 ∨ q = 55 ∨ q = 27 ∨ q = 32 := by simpa using sf_rv_mem hq
      refine ⟨fun ad => Nat.le_of_ble_eq_true rfl, ?_⟩
      rcases hq with rfl | rfl | rfl | rfl
      · exact sf_run_ok hs sf_sm_nil 65 0 _ _ σ u h hp
      · exact sf_run_ok hs sf_sm_nil 65 0 _ _ σ u h hp
      · exact sf_run_ok hs sf_sm_nil 65 0 _ _ σ u h hp
      · exact sf_run_ok hs sf_sm_nil 65 0 _ _ σ u h hp
    · cases h
  · cases h
theorem kX10_change (l : Launch) : sf_C l sf_layC yX10_change cX10_change 4 (some .boolean) (sf_rm 3 145) (fun av σ => (gX10_change av σ).map sf_vI) :=
  sf_met (tab := tX10_change) (J := jX10_change) (fl := sf_fl10) (cl := sf_cl10) (by decide +kernel) ⟨rfl, rfl⟩ sf_RH_Z (by decide +kernel) sf_fl10_ok sf_cl10_ok
    (sf_JO_cons (sf_je_N (n := 2) (cs := [2]) (tv := sf_vI) "StreamFuser" (kX2_has l) mwX2_has (by decide +kernel : decode cX10_change 5 = .ok (.invokevirtual 58, 3)) wt_646 wt_470 wt_0 (by decide +kernel) (by decide) (by decide) (List.forall_mem_cons.mpr ⟨⟨_, _, rfl⟩, fun _ h => absurd h List.not_mem_nil⟩) (sf_RM_of (by omega) (by omega))) (sf_JO_cons (sf_je_U (n := 4) (cs := [0, 1, 8]) (tv := sf_vI) (kX10_divide l) mwX10_divide (by decide +kernel : decode cX10_change 102 = .ok (.invokevirtual 98, 3)) wt_647 wt_649 wt_1062 rfl (by decide +kernel) (by decide) (by decide) (List.forall_mem_cons.mpr ⟨⟨_, _, _, rfl, sf_M_of 0 rfl rfl⟩, List.forall_mem_cons.mpr ⟨⟨_, _, _, rfl, sf_M_of 1 rfl rfl⟩, List.forall_mem_cons.mpr ⟨⟨_, _, _, rfl, sf_M_of 2 rfl rfl⟩, fun _ h => absurd h List.not_mem_nil⟩⟩⟩) (sf_RM_of (by omega) (by omega))) (sf_JO_cons (sf_je_S (n := 2) (tv := sf_vI) (kX10_modulo l) mwX10_modulo (by decide +kernel : decode cX10_change 109 = .ok (.invokestatic 102, 3)) wt_655 wt_656 (by decide +kernel) (sf_RM_of (by omega) (by omega))) (sf_JO_cons (sf_je_N (n := 3) (cs := [6]) (tv := sf_vV) "StreamFuser" (kX6_note l) mwX6_note (by decide +kernel : decode cX10_change 131 = .ok (.invokevirtual 105, 3)) wt_661 wt_663 wt_31 (by decide +kernel) (by decide) (by decide) (List.forall_mem_cons.mpr ⟨⟨_, _, rfl⟩, fun _ h => absurd h List.not_mem_nil⟩) (sf_RM_of (by omega) (by omega))) (sf_JO_nil)))))
    (fun Wt Post hs hm => rX10_change hs hm)
-- ===== StreamFuser$Way.passes(II)Z =====
abbrev tX10_passes : List (Nat × sf_E) := [(0, (.aload_n 0, 1, 0, .null, [], [])), (1, (.getfield 15, 4, 0, .null, [], [(0, 2), (1, 0), (8, 2)])), (4, (.iload_n 1, 5, 0, .null, [], [])), (5, (.invokevirtual 58, 8, 0, .null, [], [])), (8, (.ifCond .ne 5, 11, 13, .null, [], [])), (11, (.iconst 0, 12, 0, .int (0), [], [])), (12, (.ireturn, 13, 0, .null, [], [])), (13, (.aload_n 0, 14, 0, .null, [], [])), (14, (.getfield 15, 17, 0, .null, [], [(0, 2), (1, 0), (8, 2)])), (17, (.getfield 67, 20, 0, .null, [], [(2, 2)])), (20, (.iload_n 1, 21, 0, .null, [], [])), (21, (.iaload, 22, 0, .null, [], [])), (22, (.istore_n 3, 23, 0, .null, [], [])), (23, (.aload_n 0, 24, 0, .null, [], [])), (24, (.getfield 15, 27, 0, .null, [], [(0, 2), (1, 0), (8, 2)])), (27, (.getfield 61, 30, 0, .null, [], [(2, 0)])), (30, (.iload_n 1, 31, 0, .null, [], [])), (31, (.iaload, 32, 0, .null, [], [])), (32, (.bipush 107, 34, 0, .int (107), [], [])), (34, (.if_icmp .ne 17, 37, 51, .null, [], [])), (37, (.iload_n 2, 38, 0, .null, [], [])), (38, (.iload_n 3, 39, 0, .null, [], [])), (39, (.invokestatic 102, 42, 0, .null, [], [])), (42, (.ifCond .ne 7, 45, 49, .null, [], [])), (45, (.iconst 1, 46, 0, .int (1), [], [])), (46, (.goto 4, 49, 50, .null, [], [])), (49, (.iconst 0, 50, 0, .int (0), [], [])), (50, (.ireturn, 51, 0, .null, [], [])), (51, (.aload_n 0, 52, 0, .null, [], [])), (52, (.getfield 15, 55, 0, .null, [], [(0, 2), (1, 0), (8, 2)])), (55, (.getfield 40, 58, 0, .null, [], [(2, 1)])), (58, (.iload_n 1, 59, 0, .null, [], [])), (59, (.iaload, 60, 0, .null, [], [])), (60, (.bipush 60, 62, 0, .int (60), [], [])), (62, (.if_icmp .ne 14, 65, 76, .null, [], [])), (65, (.iload_n 2, 66, 0, .null, [], [])), (66, (.iload_n 3, 67, 0, .null, [], [])), (67, (.if_icmp .ge 7, 70, 74, .null, [], [])), (70, (.iconst 1, 71, 0, .int (1), [], [])), (71, (.goto 4, 74, 75, .null, [], [])), (74, (.iconst 0, 75, 0, .int (0), [], [])), (75, (.ireturn, 76, 0, .null, [], [])), (76, (.aload_n 0, 77, 0, .null, [], [])), (77, (.getfield 15, 80, 0, .null, [], [(0, 2), (1, 0), (8, 2)])), (80, (.getfield 40, 83, 0, .null, [], [(2, 1)])), (83, (.iload_n 1, 84, 0, .null, [], [])), (84, (.iaload, 85, 0, .null, [], [])), (85, (.bipush 62, 87, 0, .int (62), [], [])), (87, (.if_icmp .ne 16, 90, 103, .null, [], [])), (90, (.iload_n 2, 91, 0, .null, [], [])), (91, (.iload_n 3, 92, 0, .null, [], [])), (92, (.if_icmp .le 7, 95, 99, .null, [], [])), (95, (.iconst 1, 96, 0, .int (1), [], [])), (96, (.goto 17, 99, 113, .null, [], [])), (99, (.iconst 0, 100, 0, .int (0), [], [])), (100, (.goto 13, 103, 113, .null, [], [])), (103, (.iload_n 2, 104, 0, .null, [], [])), (104, (.iload_n 3, 105, 0, .null, [], [])), (105, (.if_icmp .ne 7, 108, 112, .null, [], [])), (108, (.iconst 1, 109, 0, .int (1), [], [])), (109, (.goto 4, 112, 113, .null, [], [])), (112, (.iconst 0, 113, 0, .int (0), [], [])), (113, (.ireturn, 114, 0, .null, [], []))]
noncomputable abbrev jX10_passes : List (Nat × sf_J (Int32 × sf_S)) := [(5, sf_jI sf_layC [2] 2 gX2_has), (39, sf_jI sf_layC [] 2 gX10_modulo)]
noncomputable def dX10_passes (q : Nat) (x1 : Int32) (x2 : Int32) (σ : sf_S) : Option (Int32 × sf_S) :=
  (dX2_has (sf_pl q) x1 σ).bind fun u1 =>
  if ¬ u1.1 = 0 then
    if sf_in x1 40 then
      let v2 := (u1.2 ((sf_pl q) + 3) x1.toNatClampNeg)
      if sf_in x1 40 then
        if ¬ (u1.2 ((sf_pl q) + 1) x1.toNatClampNeg) = (107 : Int32) then
          if sf_in x1 40 then
            if ¬ (u1.2 ((sf_pl q) + 2) x1.toNatClampNeg) = (60 : Int32) then
              if sf_in x1 40 then
                if ¬ (u1.2 ((sf_pl q) + 2) x1.toNatClampNeg) = (62 : Int32) then
                  if ¬ x2 = v2 then
                    some ((0 : Int32), u1.2)
                  else
                    some ((1 : Int32), u1.2)
                else
                  if x2 ≤ v2 then
                    some ((0 : Int32), u1.2)
                  else
                    some ((1 : Int32), u1.2)
              else
                none
            else
              if v2 ≤ x2 then
                some ((0 : Int32), u1.2)
              else
                some ((1 : Int32), u1.2)
          else
            none
        else
          (dX10_modulo x2 v2 u1.2).bind fun u3 =>
          if ¬ u3.1 = 0 then
            some ((0 : Int32), u3.2)
          else
            some ((1 : Int32), u3.2)
      else
        none
    else
      none
  else
    some ((0 : Int32), u1.2)
noncomputable abbrev gX10_passes (av : List Value) (σ : sf_S) : Option (Int32 × sf_S) := match av with
  | [.ref q, .int x1, .int x2] => (match sf_rv [23, 55, 27, 32] q with | true => dX10_passes q x1 x2 σ | false => none)
  | _ => none
set_option maxRecDepth 100000 in
set_option maxHeartbeats 4000000 in
theorem rX10_passes {Wt : Nat → sf_L → List Value → sf_S → Prop} {Post : (Int32 × sf_S) → Prop} (hs : sf_Snd Wt sf_layC sf_hZ jX10_passes tX10_passes Post) (hm : sf_mono Wt) : ∀ av σ u, gX10_passes av σ = some u → Post u → (∀ ad, (lg_sl (av.map (sf_v ad))).length ≤ 4) ∧ Wt 0 (sf_ent 0 av) [] σ := by
  intro av σ u h hp
  unfold gX10_passes at h
  split at h
  · rename_i q x1 x2
    split at h
    · rename_i hq
      have hq : q = 23 ∨ q = 55 ∨ q = 27 ∨ q = 32 := by simpa using sf_rv_mem hq
      refine ⟨fun ad => Nat.le_of_ble_eq_true rfl, ?_⟩
      rcases hq with rfl | rfl | rfl | rfl
      · exact sf_run_ok hs sf_sm_nil 68 0 _ _ σ u h hp
      · exact sf_run_ok hs sf_sm_nil 68 0 _ _ σ u h hp
      · exact sf_run_ok hs sf_sm_nil 68 0 _ _ σ u h hp
      · exact sf_run_ok hs sf_sm_nil 68 0 _ _ σ u h hp
    · cases h
  · cases h
theorem kX10_passes (l : Launch) : sf_C l sf_layC yX10_passes cX10_passes 4 (some .boolean) (sf_rm 3 143) (fun av σ => (gX10_passes av σ).map sf_vI) :=
  sf_met (tab := tX10_passes) (J := jX10_passes) (fl := sf_fl10) (cl := sf_cl10) (by decide +kernel) ⟨rfl, rfl⟩ sf_RH_Z (by decide +kernel) sf_fl10_ok sf_cl10_ok
    (sf_JO_cons (sf_je_N (n := 2) (cs := [2]) (tv := sf_vI) "StreamFuser" (kX2_has l) mwX2_has (by decide +kernel : decode cX10_passes 5 = .ok (.invokevirtual 58, 3)) wt_646 wt_470 wt_0 (by decide +kernel) (by decide) (by decide) (List.forall_mem_cons.mpr ⟨⟨_, _, rfl⟩, fun _ h => absurd h List.not_mem_nil⟩) (sf_RM_of (by omega) (by omega))) (sf_JO_cons (sf_je_S (n := 2) (tv := sf_vI) (kX10_modulo l) mwX10_modulo (by decide +kernel : decode cX10_passes 39 = .ok (.invokestatic 102, 3)) wt_655 wt_656 (by decide +kernel) (sf_RM_of (by omega) (by omega))) (sf_JO_nil)))
    (fun Wt Post hs hm => rX10_passes hs hm)
-- ===== StreamFuser$Way.join(III)I =====
abbrev tX10_join : List (Nat × sf_E) := [(0, (.aload_n 0, 1, 0, .null, [], [])), (1, (.getfield 15, 4, 0, .null, [], [(0, 2), (1, 0), (8, 2)])), (4, (.iload_n 1, 5, 0, .null, [], [])), (5, (.invokevirtual 58, 8, 0, .null, [], [])), (8, (.ifCond .ne 5, 11, 13, .null, [], [])), (11, (.iconst 0, 12, 0, .int (0), [], [])), (12, (.ireturn, 13, 0, .null, [], [])), (13, (.aload_n 0, 14, 0, .null, [], [])), (14, (.getfield 15, 17, 0, .null, [], [(0, 2), (1, 0), (8, 2)])), (17, (.getfield 40, 20, 0, .null, [], [(2, 1)])), (20, (.iload_n 1, 21, 0, .null, [], [])), (21, (.iaload, 22, 0, .null, [], [])), (22, (.bipush 43, 24, 0, .int (43), [], [])), (24, (.if_icmp .ne 7, 27, 31, .null, [], [])), (27, (.iload_n 2, 28, 0, .null, [], [])), (28, (.iload_n 3, 29, 0, .null, [], [])), (29, (.iadd, 30, 0, .null, [], [])), (30, (.ireturn, 31, 0, .null, [], [])), (31, (.aload_n 0, 32, 0, .null, [], [])), (32, (.getfield 15, 35, 0, .null, [], [(0, 2), (1, 0), (8, 2)])), (35, (.getfield 40, 38, 0, .null, [], [(2, 1)])), (38, (.iload_n 1, 39, 0, .null, [], [])), (39, (.iaload, 40, 0, .null, [], [])), (40, (.bipush 42, 42, 0, .int (42), [], [])), (42, (.if_icmp .ne 9, 45, 51, .null, [], [])), (45, (.iload_n 2, 46, 0, .null, [], [])), (46, (.iload_n 3, 47, 0, .null, [], [])), (47, (.imul, 48, 0, .null, [], [])), (48, (.goto 8, 51, 56, .null, [], [])), (51, (.iload_n 2, 52, 0, .null, [], [])), (52, (.iload_n 3, 53, 0, .null, [], [])), (53, (.invokestatic 111, 56, 0, .null, [], [])), (56, (.ireturn, 57, 0, .null, [], []))]
noncomputable abbrev jX10_join : List (Nat × sf_J (Int32 × sf_S)) := [(5, sf_jI sf_layC [2] 2 gX2_has), (53, sf_jmin)]
noncomputable def dX10_join (q : Nat) (x1 : Int32) (x2 : Int32) (x3 : Int32) (σ : sf_S) : Option (Int32 × sf_S) :=
  (dX2_has (sf_pl q) x1 σ).bind fun u1 =>
  if ¬ u1.1 = 0 then
    if sf_in x1 40 then
      if ¬ (u1.2 ((sf_pl q) + 2) x1.toNatClampNeg) = (43 : Int32) then
        if sf_in x1 40 then
          if ¬ (u1.2 ((sf_pl q) + 2) x1.toNatClampNeg) = (42 : Int32) then
            some ((if x3 < x2 then x3 else x2), u1.2)
          else
            some ((x2 * x3), u1.2)
        else
          none
      else
        some ((x2 + x3), u1.2)
    else
      none
  else
    some ((0 : Int32), u1.2)
noncomputable abbrev gX10_join (av : List Value) (σ : sf_S) : Option (Int32 × sf_S) := match av with
  | [.ref q, .int x1, .int x2, .int x3] => (match sf_rv [23, 55, 27, 32] q with | true => dX10_join q x1 x2 x3 σ | false => none)
  | _ => none
set_option maxRecDepth 100000 in
set_option maxHeartbeats 4000000 in
theorem rX10_join {Wt : Nat → sf_L → List Value → sf_S → Prop} {Post : (Int32 × sf_S) → Prop} (hs : sf_Snd Wt sf_layC sf_hI jX10_join tX10_join Post) (hm : sf_mono Wt) : ∀ av σ u, gX10_join av σ = some u → Post u → (∀ ad, (lg_sl (av.map (sf_v ad))).length ≤ 4) ∧ Wt 0 (sf_ent 0 av) [] σ := by
  intro av σ u h hp
  unfold gX10_join at h
  split at h
  · rename_i q x1 x2 x3
    split at h
    · rename_i hq
      have hq : q = 23 ∨ q = 55 ∨ q = 27 ∨ q = 32 := by simpa using sf_rv_mem hq
      refine ⟨fun ad => Nat.le_of_ble_eq_true rfl, ?_⟩
      rcases hq with rfl | rfl | rfl | rfl
      · exact sf_run_ok hs sf_sm_nil 38 0 _ _ σ u h hp
      · exact sf_run_ok hs sf_sm_nil 38 0 _ _ σ u h hp
      · exact sf_run_ok hs sf_sm_nil 38 0 _ _ σ u h hp
      · exact sf_run_ok hs sf_sm_nil 38 0 _ _ σ u h hp
    · cases h
  · cases h
theorem kX10_join (l : Launch) : sf_C l sf_layC yX10_join cX10_join 4 (some .int) (sf_rm 2 121) (fun av σ => (gX10_join av σ).map sf_vI) :=
  sf_met (tab := tX10_join) (J := jX10_join) (fl := sf_fl10) (cl := sf_cl10) (by decide +kernel) ⟨rfl, rfl⟩ sf_RH_I (by decide +kernel) sf_fl10_ok sf_cl10_ok
    (sf_JO_cons (sf_je_N (n := 2) (cs := [2]) (tv := sf_vI) "StreamFuser" (kX2_has l) mwX2_has (by decide +kernel : decode cX10_join 5 = .ok (.invokevirtual 58, 3)) wt_646 wt_470 wt_0 (by decide +kernel) (by decide) (by decide) (List.forall_mem_cons.mpr ⟨⟨_, _, rfl⟩, fun _ h => absurd h List.not_mem_nil⟩) (sf_RM_of (by omega) (by omega))) (sf_JO_cons (sf_je_min (by decide +kernel : decode cX10_join 53 = .ok (.invokestatic 111, 3)) wt_708 wt_559 wt_89 wt_560 (sf_RB_of (by omega) (by omega))) (sf_JO_nil)))
    (fun Wt Post hs hm => rX10_join hs hm)
